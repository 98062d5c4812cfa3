theorem fX0_init_0 : a_fetch 0 0 = some (.aload 0, 1) := by decide +kernel
theorem fX0_init_1 : a_fetch 0 1 = some (.monitorenter, 4) := by decide +kernel
theorem fX0_init_4 : a_fetch 0 4 = some (.aload 0, 5) := by decide +kernel
theorem fX0_init_5 : a_fetch 0 5 = some (.new 7, 8) := by decide +kernel
theorem fX0_init_8 : a_fetch 0 8 = some (.dup, 9) := by decide +kernel
theorem fX0_init_9 : a_fetch 0 9 = some (.iconst 100, 11) := by decide +kernel
theorem fX0_init_11 : a_fetch 0 11 = some (.invokespecial 94, 14) := by decide +kernel
theorem fX0_init_14 : a_fetch 0 14 = some (.multianewarray 0 0, 17) := by decide +kernel
theorem fX0_init_17 : a_fetch 0 17 = some (.aload 0, 18) := by decide +kernel
theorem fX0_init_18 : a_fetch 0 18 = some (.new 7, 21) := by decide +kernel
theorem fX0_init_21 : a_fetch 0 21 = some (.dup, 22) := by decide +kernel
theorem fX0_init_22 : a_fetch 0 22 = some (.iconst 1024, 25) := by decide +kernel
theorem fX0_init_25 : a_fetch 0 25 = some (.invokespecial 94, 28) := by decide +kernel
theorem fX0_init_28 : a_fetch 0 28 = some (.multianewarray 0 1, 31) := by decide +kernel
theorem fX0_init_31 : a_fetch 0 31 = some (.aload 0, 32) := by decide +kernel
theorem fX0_init_32 : a_fetch 0 32 = some (.new 7, 35) := by decide +kernel
theorem fX0_init_35 : a_fetch 0 35 = some (.dup, 36) := by decide +kernel
theorem fX0_init_36 : a_fetch 0 36 = some (.iconst 10, 38) := by decide +kernel
theorem fX0_init_38 : a_fetch 0 38 = some (.invokespecial 94, 41) := by decide +kernel
theorem fX0_init_41 : a_fetch 0 41 = some (.multianewarray 0 2, 44) := by decide +kernel
theorem fX0_init_44 : a_fetch 0 44 = some (.return_, 45) := by decide +kernel
theorem fX0_begin_0 : a_fetch 1 0 = some (.aload 0, 1) := by decide +kernel
theorem fX0_begin_1 : a_fetch 1 1 = some (.iload 1, 2) := by decide +kernel
theorem fX0_begin_2 : a_fetch 1 2 = some (.multianewarray 0 3, 5) := by decide +kernel
theorem fX0_begin_5 : a_fetch 1 5 = some (.aload 0, 6) := by decide +kernel
theorem fX0_begin_6 : a_fetch 1 6 = some (.invokeinterface 0 0, 9) := by decide +kernel
theorem fX0_begin_9 : a_fetch 1 9 = some (.iconst 100, 11) := by decide +kernel
theorem fX0_begin_11 : a_fetch 1 11 = some (.iconst 1000, 14) := by decide +kernel
theorem fX0_begin_14 : a_fetch 1 14 = some (.invokevirtual 101, 17) := by decide +kernel
theorem fX0_begin_17 : a_fetch 1 17 = some (.aload 0, 18) := by decide +kernel
theorem fX0_begin_18 : a_fetch 1 18 = some (.invokeinterface 0 1, 21) := by decide +kernel
theorem fX0_begin_21 : a_fetch 1 21 = some (.iconst 1024, 24) := by decide +kernel
theorem fX0_begin_24 : a_fetch 1 24 = some (.iconst 1000, 27) := by decide +kernel
theorem fX0_begin_27 : a_fetch 1 27 = some (.invokevirtual 101, 30) := by decide +kernel
theorem fX0_begin_30 : a_fetch 1 30 = some (.aload 0, 31) := by decide +kernel
theorem fX0_begin_31 : a_fetch 1 31 = some (.invokeinterface 0 2, 34) := by decide +kernel
theorem fX0_begin_34 : a_fetch 1 34 = some (.iconst 0, 35) := by decide +kernel
theorem fX0_begin_35 : a_fetch 1 35 = some (.invokevirtual 100, 38) := by decide +kernel
theorem fX0_begin_38 : a_fetch 1 38 = some (.return_, 39) := by decide +kernel
theorem fX0_setCost_0 : a_fetch 2 0 = some (.aload 0, 1) := by decide +kernel
theorem fX0_setCost_1 : a_fetch 2 1 = some (.invokeinterface 0 0, 4) := by decide +kernel
theorem fX0_setCost_4 : a_fetch 2 4 = some (.iload 1, 5) := by decide +kernel
theorem fX0_setCost_5 : a_fetch 2 5 = some (.iconst 10, 7) := by decide +kernel
theorem fX0_setCost_7 : a_fetch 2 7 = some (.imul, 8) := by decide +kernel
theorem fX0_setCost_8 : a_fetch 2 8 = some (.iload 2, 9) := by decide +kernel
theorem fX0_setCost_9 : a_fetch 2 9 = some (.iadd, 10) := by decide +kernel
theorem fX0_setCost_10 : a_fetch 2 10 = some (.iload 3, 11) := by decide +kernel
theorem fX0_setCost_11 : a_fetch 2 11 = some (.invokevirtual 97, 14) := by decide +kernel
theorem fX0_setCost_14 : a_fetch 2 14 = some (.return_, 15) := by decide +kernel
theorem fX0_work_0 : a_fetch 3 0 = some (.iconst 1, 1) := by decide +kernel
theorem fX0_work_1 : a_fetch 3 1 = some (.aload 0, 2) := by decide +kernel
theorem fX0_work_2 : a_fetch 3 2 = some (.invokeinterface 0 3, 5) := by decide +kernel
theorem fX0_work_5 : a_fetch 3 5 = some (.ishl, 6) := by decide +kernel
theorem fX0_work_6 : a_fetch 3 6 = some (.iconst 1, 7) := by decide +kernel
theorem fX0_work_7 : a_fetch 3 7 = some (.isub, 8) := by decide +kernel
theorem fX0_work_8 : a_fetch 3 8 = some (.istore 1, 9) := by decide +kernel
theorem fX0_work_9 : a_fetch 3 9 = some (.aload 0, 10) := by decide +kernel
theorem fX0_work_10 : a_fetch 3 10 = some (.invokeinterface 0 1, 13) := by decide +kernel
theorem fX0_work_13 : a_fetch 3 13 = some (.iload 1, 14) := by decide +kernel
theorem fX0_work_14 : a_fetch 3 14 = some (.iconst 0, 15) := by decide +kernel
theorem fX0_work_15 : a_fetch 3 15 = some (.invokevirtual 97, 18) := by decide +kernel
theorem fX0_work_18 : a_fetch 3 18 = some (.iload 1, 19) := by decide +kernel
theorem fX0_work_19 : a_fetch 3 19 = some (.iconst 1, 20) := by decide +kernel
theorem fX0_work_20 : a_fetch 3 20 = some (.isub, 21) := by decide +kernel
theorem fX0_work_21 : a_fetch 3 21 = some (.istore 2, 22) := by decide +kernel
theorem fX0_work_22 : a_fetch 3 22 = some (.iload 2, 23) := by decide +kernel
theorem fX0_work_23 : a_fetch 3 23 = some (.ifCond .lt 57, 26) := by decide +kernel
theorem fX0_work_26 : a_fetch 3 26 = some (.iload 2, 27) := by decide +kernel
theorem fX0_work_27 : a_fetch 3 27 = some (.invokestatic 295, 30) := by decide +kernel
theorem fX0_work_30 : a_fetch 3 30 = some (.istore 3, 31) := by decide +kernel
theorem fX0_work_31 : a_fetch 3 31 = some (.aload 0, 32) := by decide +kernel
theorem fX0_work_32 : a_fetch 3 32 = some (.invokeinterface 0 1, 35) := by decide +kernel
theorem fX0_work_35 : a_fetch 3 35 = some (.iload 2, 36) := by decide +kernel
theorem fX0_work_36 : a_fetch 3 36 = some (.aload 0, 37) := by decide +kernel
theorem fX0_work_37 : a_fetch 3 37 = some (.iload 2, 38) := by decide +kernel
theorem fX0_work_38 : a_fetch 3 38 = some (.iload 3, 39) := by decide +kernel
theorem fX0_work_39 : a_fetch 3 39 = some (.aload 0, 40) := by decide +kernel
theorem fX0_work_40 : a_fetch 3 40 = some (.iload 2, 41) := by decide +kernel
theorem fX0_work_41 : a_fetch 3 41 = some (.iload 3, 42) := by decide +kernel
theorem fX0_work_42 : a_fetch 3 42 = some (.invokevirtual 6, 45) := by decide +kernel
theorem fX0_work_45 : a_fetch 3 45 = some (.invokevirtual 7, 48) := by decide +kernel
theorem fX0_work_48 : a_fetch 3 48 = some (.invokevirtual 97, 51) := by decide +kernel
theorem fX0_work_51 : a_fetch 3 51 = some (.iinc 2 (-1), 54) := by decide +kernel
theorem fX0_work_54 : a_fetch 3 54 = some (.goto 22, 57) := by decide +kernel
theorem fX0_work_57 : a_fetch 3 57 = some (.iconst 0, 58) := by decide +kernel
theorem fX0_work_58 : a_fetch 3 58 = some (.istore 2, 59) := by decide +kernel
theorem fX0_work_59 : a_fetch 3 59 = some (.iconst 0, 60) := by decide +kernel
theorem fX0_work_60 : a_fetch 3 60 = some (.istore 3, 61) := by decide +kernel
theorem fX0_work_61 : a_fetch 3 61 = some (.iload 3, 62) := by decide +kernel
theorem fX0_work_62 : a_fetch 3 62 = some (.aload 0, 63) := by decide +kernel
theorem fX0_work_63 : a_fetch 3 63 = some (.invokeinterface 0 3, 66) := by decide +kernel
theorem fX0_work_66 : a_fetch 3 66 = some (.if_icmp .ge 99, 69) := by decide +kernel
theorem fX0_work_69 : a_fetch 3 69 = some (.aload 0, 70) := by decide +kernel
theorem fX0_work_70 : a_fetch 3 70 = some (.iload 2, 71) := by decide +kernel
theorem fX0_work_71 : a_fetch 3 71 = some (.iload 3, 72) := by decide +kernel
theorem fX0_work_72 : a_fetch 3 72 = some (.invokevirtual 6, 75) := by decide +kernel
theorem fX0_work_75 : a_fetch 3 75 = some (.istore 4, 77) := by decide +kernel
theorem fX0_work_77 : a_fetch 3 77 = some (.aload 0, 78) := by decide +kernel
theorem fX0_work_78 : a_fetch 3 78 = some (.invokeinterface 0 2, 81) := by decide +kernel
theorem fX0_work_81 : a_fetch 3 81 = some (.iload 4, 83) := by decide +kernel
theorem fX0_work_83 : a_fetch 3 83 = some (.invokevirtual 98, 86) := by decide +kernel
theorem fX0_work_86 : a_fetch 3 86 = some (.iload 2, 87) := by decide +kernel
theorem fX0_work_87 : a_fetch 3 87 = some (.iconst 1, 88) := by decide +kernel
theorem fX0_work_88 : a_fetch 3 88 = some (.iload 4, 90) := by decide +kernel
theorem fX0_work_90 : a_fetch 3 90 = some (.ishl, 91) := by decide +kernel
theorem fX0_work_91 : a_fetch 3 91 = some (.ior, 92) := by decide +kernel
theorem fX0_work_92 : a_fetch 3 92 = some (.istore 2, 93) := by decide +kernel
theorem fX0_work_93 : a_fetch 3 93 = some (.iinc 3 1, 96) := by decide +kernel
theorem fX0_work_96 : a_fetch 3 96 = some (.goto 61, 99) := by decide +kernel
theorem fX0_work_99 : a_fetch 3 99 = some (.return_, 100) := by decide +kernel
theorem fX0_cost_0 : a_fetch 4 0 = some (.aload 0, 1) := by decide +kernel
theorem fX0_cost_1 : a_fetch 4 1 = some (.invokeinterface 0 1, 4) := by decide +kernel
theorem fX0_cost_4 : a_fetch 4 4 = some (.iconst 0, 5) := by decide +kernel
theorem fX0_cost_5 : a_fetch 4 5 = some (.invokevirtual 96, 8) := by decide +kernel
theorem fX0_cost_8 : a_fetch 4 8 = some (.ireturn, 9) := by decide +kernel
theorem fX0_whoLives_0 : a_fetch 5 0 = some (.aload 0, 1) := by decide +kernel
theorem fX0_whoLives_1 : a_fetch 5 1 = some (.invokeinterface 0 2, 4) := by decide +kernel
theorem fX0_whoLives_4 : a_fetch 5 4 = some (.iload 1, 5) := by decide +kernel
theorem fX0_whoLives_5 : a_fetch 5 5 = some (.invokevirtual 96, 8) := by decide +kernel
theorem fX0_whoLives_8 : a_fetch 5 8 = some (.ireturn, 9) := by decide +kernel
theorem fX0_cheapest_0 : a_fetch 6 0 = some (.iconst (-1), 1) := by decide +kernel
theorem fX0_cheapest_1 : a_fetch 6 1 = some (.istore 3, 2) := by decide +kernel
theorem fX0_cheapest_2 : a_fetch 6 2 = some (.iconst (-1), 3) := by decide +kernel
theorem fX0_cheapest_3 : a_fetch 6 3 = some (.istore 4, 5) := by decide +kernel
theorem fX0_cheapest_5 : a_fetch 6 5 = some (.iconst 0, 6) := by decide +kernel
theorem fX0_cheapest_6 : a_fetch 6 6 = some (.istore 5, 8) := by decide +kernel
theorem fX0_cheapest_8 : a_fetch 6 8 = some (.iload 5, 10) := by decide +kernel
theorem fX0_cheapest_10 : a_fetch 6 10 = some (.aload 0, 11) := by decide +kernel
theorem fX0_cheapest_11 : a_fetch 6 11 = some (.invokeinterface 0 3, 14) := by decide +kernel
theorem fX0_cheapest_14 : a_fetch 6 14 = some (.if_icmp .ge 61, 17) := by decide +kernel
theorem fX0_cheapest_17 : a_fetch 6 17 = some (.aload 0, 18) := by decide +kernel
theorem fX0_cheapest_18 : a_fetch 6 18 = some (.iload 1, 19) := by decide +kernel
theorem fX0_cheapest_19 : a_fetch 6 19 = some (.iload 2, 20) := by decide +kernel
theorem fX0_cheapest_20 : a_fetch 6 20 = some (.iload 5, 22) := by decide +kernel
theorem fX0_cheapest_22 : a_fetch 6 22 = some (.invokevirtual 7, 25) := by decide +kernel
theorem fX0_cheapest_25 : a_fetch 6 25 = some (.istore 6, 27) := by decide +kernel
theorem fX0_cheapest_27 : a_fetch 6 27 = some (.iload 1, 28) := by decide +kernel
theorem fX0_cheapest_28 : a_fetch 6 28 = some (.iload 5, 30) := by decide +kernel
theorem fX0_cheapest_30 : a_fetch 6 30 = some (.ishr, 31) := by decide +kernel
theorem fX0_cheapest_31 : a_fetch 6 31 = some (.iconst 1, 32) := by decide +kernel
theorem fX0_cheapest_32 : a_fetch 6 32 = some (.iand, 33) := by decide +kernel
theorem fX0_cheapest_33 : a_fetch 6 33 = some (.ifCond .ne 55, 36) := by decide +kernel
theorem fX0_cheapest_36 : a_fetch 6 36 = some (.iload 3, 37) := by decide +kernel
theorem fX0_cheapest_37 : a_fetch 6 37 = some (.iconst (-1), 38) := by decide +kernel
theorem fX0_cheapest_38 : a_fetch 6 38 = some (.if_icmp .eq 48, 41) := by decide +kernel
theorem fX0_cheapest_41 : a_fetch 6 41 = some (.iload 6, 43) := by decide +kernel
theorem fX0_cheapest_43 : a_fetch 6 43 = some (.iload 4, 45) := by decide +kernel
theorem fX0_cheapest_45 : a_fetch 6 45 = some (.if_icmp .ge 55, 48) := by decide +kernel
theorem fX0_cheapest_48 : a_fetch 6 48 = some (.iload 5, 50) := by decide +kernel
theorem fX0_cheapest_50 : a_fetch 6 50 = some (.istore 3, 51) := by decide +kernel
theorem fX0_cheapest_51 : a_fetch 6 51 = some (.iload 6, 53) := by decide +kernel
theorem fX0_cheapest_53 : a_fetch 6 53 = some (.istore 4, 55) := by decide +kernel
theorem fX0_cheapest_55 : a_fetch 6 55 = some (.iinc 5 1, 58) := by decide +kernel
theorem fX0_cheapest_58 : a_fetch 6 58 = some (.goto 8, 61) := by decide +kernel
theorem fX0_cheapest_61 : a_fetch 6 61 = some (.iload 3, 62) := by decide +kernel
theorem fX0_cheapest_62 : a_fetch 6 62 = some (.ireturn, 63) := by decide +kernel
theorem fX0_costBy_0 : a_fetch 7 0 = some (.aload 0, 1) := by decide +kernel
theorem fX0_costBy_1 : a_fetch 7 1 = some (.invokeinterface 0 0, 4) := by decide +kernel
theorem fX0_costBy_4 : a_fetch 7 4 = some (.iload 2, 5) := by decide +kernel
theorem fX0_costBy_5 : a_fetch 7 5 = some (.iconst 10, 7) := by decide +kernel
theorem fX0_costBy_7 : a_fetch 7 7 = some (.imul, 8) := by decide +kernel
theorem fX0_costBy_8 : a_fetch 7 8 = some (.iload 3, 9) := by decide +kernel
theorem fX0_costBy_9 : a_fetch 7 9 = some (.iadd, 10) := by decide +kernel
theorem fX0_costBy_10 : a_fetch 7 10 = some (.invokevirtual 96, 13) := by decide +kernel
theorem fX0_costBy_13 : a_fetch 7 13 = some (.aload 0, 14) := by decide +kernel
theorem fX0_costBy_14 : a_fetch 7 14 = some (.invokeinterface 0 1, 17) := by decide +kernel
theorem fX0_costBy_17 : a_fetch 7 17 = some (.iload 1, 18) := by decide +kernel
theorem fX0_costBy_18 : a_fetch 7 18 = some (.iconst 1, 19) := by decide +kernel
theorem fX0_costBy_19 : a_fetch 7 19 = some (.iload 3, 20) := by decide +kernel
theorem fX0_costBy_20 : a_fetch 7 20 = some (.ishl, 21) := by decide +kernel
theorem fX0_costBy_21 : a_fetch 7 21 = some (.ior, 22) := by decide +kernel
theorem fX0_costBy_22 : a_fetch 7 22 = some (.invokevirtual 96, 25) := by decide +kernel
theorem fX0_costBy_25 : a_fetch 7 25 = some (.iadd, 26) := by decide +kernel
theorem fX0_costBy_26 : a_fetch 7 26 = some (.ireturn, 27) := by decide +kernel
theorem fX1_init_0 : a_fetch 8 0 = some (.aload 0, 1) := by decide +kernel
theorem fX1_init_1 : a_fetch 8 1 = some (.monitorenter, 4) := by decide +kernel
theorem fX1_init_4 : a_fetch 8 4 = some (.aload 0, 5) := by decide +kernel
theorem fX1_init_5 : a_fetch 8 5 = some (.new 7, 8) := by decide +kernel
theorem fX1_init_8 : a_fetch 8 8 = some (.dup, 9) := by decide +kernel
theorem fX1_init_9 : a_fetch 8 9 = some (.iconst 10, 11) := by decide +kernel
theorem fX1_init_11 : a_fetch 8 11 = some (.invokespecial 94, 14) := by decide +kernel
theorem fX1_init_14 : a_fetch 8 14 = some (.multianewarray 1 0, 17) := by decide +kernel
theorem fX1_init_17 : a_fetch 8 17 = some (.aload 0, 18) := by decide +kernel
theorem fX1_init_18 : a_fetch 8 18 = some (.new 7, 21) := by decide +kernel
theorem fX1_init_21 : a_fetch 8 21 = some (.dup, 22) := by decide +kernel
theorem fX1_init_22 : a_fetch 8 22 = some (.iconst 10, 24) := by decide +kernel
theorem fX1_init_24 : a_fetch 8 24 = some (.invokespecial 94, 27) := by decide +kernel
theorem fX1_init_27 : a_fetch 8 27 = some (.multianewarray 1 1, 30) := by decide +kernel
theorem fX1_init_30 : a_fetch 8 30 = some (.aload 0, 31) := by decide +kernel
theorem fX1_init_31 : a_fetch 8 31 = some (.new 7, 34) := by decide +kernel
theorem fX1_init_34 : a_fetch 8 34 = some (.dup, 35) := by decide +kernel
theorem fX1_init_35 : a_fetch 8 35 = some (.iconst 10, 37) := by decide +kernel
theorem fX1_init_37 : a_fetch 8 37 = some (.invokespecial 94, 40) := by decide +kernel
theorem fX1_init_40 : a_fetch 8 40 = some (.multianewarray 1 2, 43) := by decide +kernel
theorem fX1_init_43 : a_fetch 8 43 = some (.aload 0, 44) := by decide +kernel
theorem fX1_init_44 : a_fetch 8 44 = some (.new 7, 47) := by decide +kernel
theorem fX1_init_47 : a_fetch 8 47 = some (.dup, 48) := by decide +kernel
theorem fX1_init_48 : a_fetch 8 48 = some (.iconst 10, 50) := by decide +kernel
theorem fX1_init_50 : a_fetch 8 50 = some (.invokespecial 94, 53) := by decide +kernel
theorem fX1_init_53 : a_fetch 8 53 = some (.multianewarray 1 3, 56) := by decide +kernel
theorem fX1_init_56 : a_fetch 8 56 = some (.aload 0, 57) := by decide +kernel
theorem fX1_init_57 : a_fetch 8 57 = some (.new 7, 60) := by decide +kernel
theorem fX1_init_60 : a_fetch 8 60 = some (.dup, 61) := by decide +kernel
theorem fX1_init_61 : a_fetch 8 61 = some (.iconst 100, 63) := by decide +kernel
theorem fX1_init_63 : a_fetch 8 63 = some (.invokespecial 94, 66) := by decide +kernel
theorem fX1_init_66 : a_fetch 8 66 = some (.multianewarray 1 4, 69) := by decide +kernel
theorem fX1_init_69 : a_fetch 8 69 = some (.aload 0, 70) := by decide +kernel
theorem fX1_init_70 : a_fetch 8 70 = some (.new 7, 73) := by decide +kernel
theorem fX1_init_73 : a_fetch 8 73 = some (.dup, 74) := by decide +kernel
theorem fX1_init_74 : a_fetch 8 74 = some (.iconst 8, 76) := by decide +kernel
theorem fX1_init_76 : a_fetch 8 76 = some (.invokespecial 94, 79) := by decide +kernel
theorem fX1_init_79 : a_fetch 8 79 = some (.multianewarray 1 5, 82) := by decide +kernel
theorem fX1_init_82 : a_fetch 8 82 = some (.aload 0, 83) := by decide +kernel
theorem fX1_init_83 : a_fetch 8 83 = some (.new 7, 86) := by decide +kernel
theorem fX1_init_86 : a_fetch 8 86 = some (.dup, 87) := by decide +kernel
theorem fX1_init_87 : a_fetch 8 87 = some (.iconst 8, 89) := by decide +kernel
theorem fX1_init_89 : a_fetch 8 89 = some (.invokespecial 94, 92) := by decide +kernel
theorem fX1_init_92 : a_fetch 8 92 = some (.multianewarray 1 6, 95) := by decide +kernel
theorem fX1_init_95 : a_fetch 8 95 = some (.aload 0, 96) := by decide +kernel
theorem fX1_init_96 : a_fetch 8 96 = some (.new 7, 99) := by decide +kernel
theorem fX1_init_99 : a_fetch 8 99 = some (.dup, 100) := by decide +kernel
theorem fX1_init_100 : a_fetch 8 100 = some (.iconst 24, 102) := by decide +kernel
theorem fX1_init_102 : a_fetch 8 102 = some (.invokespecial 94, 105) := by decide +kernel
theorem fX1_init_105 : a_fetch 8 105 = some (.multianewarray 1 7, 108) := by decide +kernel
theorem fX1_init_108 : a_fetch 8 108 = some (.aload 0, 109) := by decide +kernel
theorem fX1_init_109 : a_fetch 8 109 = some (.new 7, 112) := by decide +kernel
theorem fX1_init_112 : a_fetch 8 112 = some (.dup, 113) := by decide +kernel
theorem fX1_init_113 : a_fetch 8 113 = some (.iconst 24, 115) := by decide +kernel
theorem fX1_init_115 : a_fetch 8 115 = some (.invokespecial 94, 118) := by decide +kernel
theorem fX1_init_118 : a_fetch 8 118 = some (.multianewarray 1 8, 121) := by decide +kernel
theorem fX1_init_121 : a_fetch 8 121 = some (.aload 0, 122) := by decide +kernel
theorem fX1_init_122 : a_fetch 8 122 = some (.new 7, 125) := by decide +kernel
theorem fX1_init_125 : a_fetch 8 125 = some (.dup, 126) := by decide +kernel
theorem fX1_init_126 : a_fetch 8 126 = some (.iconst 24, 128) := by decide +kernel
theorem fX1_init_128 : a_fetch 8 128 = some (.invokespecial 94, 131) := by decide +kernel
theorem fX1_init_131 : a_fetch 8 131 = some (.multianewarray 1 9, 134) := by decide +kernel
theorem fX1_init_134 : a_fetch 8 134 = some (.aload 0, 135) := by decide +kernel
theorem fX1_init_135 : a_fetch 8 135 = some (.new 3, 138) := by decide +kernel
theorem fX1_init_138 : a_fetch 8 138 = some (.dup, 139) := by decide +kernel
theorem fX1_init_139 : a_fetch 8 139 = some (.invokespecial 33, 142) := by decide +kernel
theorem fX1_init_142 : a_fetch 8 142 = some (.multianewarray 1 10, 145) := by decide +kernel
theorem fX1_init_145 : a_fetch 8 145 = some (.aload 0, 146) := by decide +kernel
theorem fX1_init_146 : a_fetch 8 146 = some (.new 3, 149) := by decide +kernel
theorem fX1_init_149 : a_fetch 8 149 = some (.dup, 150) := by decide +kernel
theorem fX1_init_150 : a_fetch 8 150 = some (.invokespecial 33, 153) := by decide +kernel
theorem fX1_init_153 : a_fetch 8 153 = some (.multianewarray 1 11, 156) := by decide +kernel
theorem fX1_init_156 : a_fetch 8 156 = some (.aload 0, 157) := by decide +kernel
theorem fX1_init_157 : a_fetch 8 157 = some (.new 3, 160) := by decide +kernel
theorem fX1_init_160 : a_fetch 8 160 = some (.dup, 161) := by decide +kernel
theorem fX1_init_161 : a_fetch 8 161 = some (.invokespecial 33, 164) := by decide +kernel
theorem fX1_init_164 : a_fetch 8 164 = some (.multianewarray 1 12, 167) := by decide +kernel
theorem fX1_init_167 : a_fetch 8 167 = some (.aload 0, 168) := by decide +kernel
theorem fX1_init_168 : a_fetch 8 168 = some (.new 3, 171) := by decide +kernel
theorem fX1_init_171 : a_fetch 8 171 = some (.dup, 172) := by decide +kernel
theorem fX1_init_172 : a_fetch 8 172 = some (.invokespecial 33, 175) := by decide +kernel
theorem fX1_init_175 : a_fetch 8 175 = some (.multianewarray 1 13, 178) := by decide +kernel
theorem fX1_init_178 : a_fetch 8 178 = some (.return_, 179) := by decide +kernel
theorem fX1_clear_0 : a_fetch 9 0 = some (.aload 0, 1) := by decide +kernel
theorem fX1_clear_1 : a_fetch 9 1 = some (.invokeinterface 1 0, 4) := by decide +kernel
theorem fX1_clear_4 : a_fetch 9 4 = some (.iconst 0, 5) := by decide +kernel
theorem fX1_clear_5 : a_fetch 9 5 = some (.invokevirtual 100, 8) := by decide +kernel
theorem fX1_clear_8 : a_fetch 9 8 = some (.aload 0, 9) := by decide +kernel
theorem fX1_clear_9 : a_fetch 9 9 = some (.invokeinterface 1 1, 12) := by decide +kernel
theorem fX1_clear_12 : a_fetch 9 12 = some (.iconst 0, 13) := by decide +kernel
theorem fX1_clear_13 : a_fetch 9 13 = some (.invokevirtual 100, 16) := by decide +kernel
theorem fX1_clear_16 : a_fetch 9 16 = some (.aload 0, 17) := by decide +kernel
theorem fX1_clear_17 : a_fetch 9 17 = some (.invokeinterface 1 2, 20) := by decide +kernel
theorem fX1_clear_20 : a_fetch 9 20 = some (.iconst 0, 21) := by decide +kernel
theorem fX1_clear_21 : a_fetch 9 21 = some (.invokevirtual 100, 24) := by decide +kernel
theorem fX1_clear_24 : a_fetch 9 24 = some (.aload 0, 25) := by decide +kernel
theorem fX1_clear_25 : a_fetch 9 25 = some (.invokeinterface 1 3, 28) := by decide +kernel
theorem fX1_clear_28 : a_fetch 9 28 = some (.iconst 0, 29) := by decide +kernel
theorem fX1_clear_29 : a_fetch 9 29 = some (.invokevirtual 100, 32) := by decide +kernel
theorem fX1_clear_32 : a_fetch 9 32 = some (.aload 0, 33) := by decide +kernel
theorem fX1_clear_33 : a_fetch 9 33 = some (.invokeinterface 1 4, 36) := by decide +kernel
theorem fX1_clear_36 : a_fetch 9 36 = some (.iconst 100, 38) := by decide +kernel
theorem fX1_clear_38 : a_fetch 9 38 = some (.iconst 0, 39) := by decide +kernel
theorem fX1_clear_39 : a_fetch 9 39 = some (.invokevirtual 101, 42) := by decide +kernel
theorem fX1_clear_42 : a_fetch 9 42 = some (.aload 0, 43) := by decide +kernel
theorem fX1_clear_43 : a_fetch 9 43 = some (.invokeinterface 1 5, 46) := by decide +kernel
theorem fX1_clear_46 : a_fetch 9 46 = some (.iconst 0, 47) := by decide +kernel
theorem fX1_clear_47 : a_fetch 9 47 = some (.invokevirtual 100, 50) := by decide +kernel
theorem fX1_clear_50 : a_fetch 9 50 = some (.aload 0, 51) := by decide +kernel
theorem fX1_clear_51 : a_fetch 9 51 = some (.invokeinterface 1 6, 54) := by decide +kernel
theorem fX1_clear_54 : a_fetch 9 54 = some (.iconst 0, 55) := by decide +kernel
theorem fX1_clear_55 : a_fetch 9 55 = some (.invokevirtual 100, 58) := by decide +kernel
theorem fX1_clear_58 : a_fetch 9 58 = some (.aload 0, 59) := by decide +kernel
theorem fX1_clear_59 : a_fetch 9 59 = some (.invokeinterface 1 7, 62) := by decide +kernel
theorem fX1_clear_62 : a_fetch 9 62 = some (.iconst 0, 63) := by decide +kernel
theorem fX1_clear_63 : a_fetch 9 63 = some (.invokevirtual 100, 66) := by decide +kernel
theorem fX1_clear_66 : a_fetch 9 66 = some (.aload 0, 67) := by decide +kernel
theorem fX1_clear_67 : a_fetch 9 67 = some (.invokeinterface 1 8, 70) := by decide +kernel
theorem fX1_clear_70 : a_fetch 9 70 = some (.iconst 0, 71) := by decide +kernel
theorem fX1_clear_71 : a_fetch 9 71 = some (.invokevirtual 100, 74) := by decide +kernel
theorem fX1_clear_74 : a_fetch 9 74 = some (.aload 0, 75) := by decide +kernel
theorem fX1_clear_75 : a_fetch 9 75 = some (.invokeinterface 1 9, 78) := by decide +kernel
theorem fX1_clear_78 : a_fetch 9 78 = some (.iconst 0, 79) := by decide +kernel
theorem fX1_clear_79 : a_fetch 9 79 = some (.invokevirtual 100, 82) := by decide +kernel
theorem fX1_clear_82 : a_fetch 9 82 = some (.aload 0, 83) := by decide +kernel
theorem fX1_clear_83 : a_fetch 9 83 = some (.invokeinterface 1 10, 86) := by decide +kernel
theorem fX1_clear_86 : a_fetch 9 86 = some (.invokevirtual 35, 89) := by decide +kernel
theorem fX1_clear_89 : a_fetch 9 89 = some (.aload 0, 90) := by decide +kernel
theorem fX1_clear_90 : a_fetch 9 90 = some (.invokeinterface 1 11, 93) := by decide +kernel
theorem fX1_clear_93 : a_fetch 9 93 = some (.invokevirtual 35, 96) := by decide +kernel
theorem fX1_clear_96 : a_fetch 9 96 = some (.aload 0, 97) := by decide +kernel
theorem fX1_clear_97 : a_fetch 9 97 = some (.invokeinterface 1 12, 100) := by decide +kernel
theorem fX1_clear_100 : a_fetch 9 100 = some (.invokevirtual 35, 103) := by decide +kernel
theorem fX1_clear_103 : a_fetch 9 103 = some (.aload 0, 104) := by decide +kernel
theorem fX1_clear_104 : a_fetch 9 104 = some (.invokeinterface 1 13, 107) := by decide +kernel
theorem fX1_clear_107 : a_fetch 9 107 = some (.invokevirtual 35, 110) := by decide +kernel
theorem fX1_clear_110 : a_fetch 9 110 = some (.aload 0, 111) := by decide +kernel
theorem fX1_clear_111 : a_fetch 9 111 = some (.iconst 0, 112) := by decide +kernel
theorem fX1_clear_112 : a_fetch 9 112 = some (.multianewarray 1 14, 115) := by decide +kernel
theorem fX1_clear_115 : a_fetch 9 115 = some (.return_, 116) := by decide +kernel
theorem fX1_hasName_0 : a_fetch 10 0 = some (.aload 0, 1) := by decide +kernel
theorem fX1_hasName_1 : a_fetch 10 1 = some (.invokeinterface 1 0, 4) := by decide +kernel
theorem fX1_hasName_4 : a_fetch 10 4 = some (.iload 1, 5) := by decide +kernel
theorem fX1_hasName_5 : a_fetch 10 5 = some (.invokevirtual 103, 8) := by decide +kernel
theorem fX1_hasName_8 : a_fetch 10 8 = some (.iconst (-1), 9) := by decide +kernel
theorem fX1_hasName_9 : a_fetch 10 9 = some (.if_icmp .ne 24, 12) := by decide +kernel
theorem fX1_hasName_12 : a_fetch 10 12 = some (.aload 0, 13) := by decide +kernel
theorem fX1_hasName_13 : a_fetch 10 13 = some (.invokeinterface 1 5, 16) := by decide +kernel
theorem fX1_hasName_16 : a_fetch 10 16 = some (.iload 1, 17) := by decide +kernel
theorem fX1_hasName_17 : a_fetch 10 17 = some (.invokevirtual 103, 20) := by decide +kernel
theorem fX1_hasName_20 : a_fetch 10 20 = some (.iconst (-1), 21) := by decide +kernel
theorem fX1_hasName_21 : a_fetch 10 21 = some (.if_icmp .eq 28, 24) := by decide +kernel
theorem fX1_hasName_24 : a_fetch 10 24 = some (.iconst 1, 25) := by decide +kernel
theorem fX1_hasName_25 : a_fetch 10 25 = some (.goto 29, 28) := by decide +kernel
theorem fX1_hasName_28 : a_fetch 10 28 = some (.iconst 0, 29) := by decide +kernel
theorem fX1_hasName_29 : a_fetch 10 29 = some (.ireturn, 30) := by decide +kernel
theorem fX1_addPerson_0 : a_fetch 11 0 = some (.aload 0, 1) := by decide +kernel
theorem fX1_addPerson_1 : a_fetch 11 1 = some (.invokeinterface 1 0, 4) := by decide +kernel
theorem fX1_addPerson_4 : a_fetch 11 4 = some (.invokevirtual 95, 7) := by decide +kernel
theorem fX1_addPerson_7 : a_fetch 11 7 = some (.istore 3, 8) := by decide +kernel
theorem fX1_addPerson_8 : a_fetch 11 8 = some (.aload 0, 9) := by decide +kernel
theorem fX1_addPerson_9 : a_fetch 11 9 = some (.invokeinterface 1 0, 12) := by decide +kernel
theorem fX1_addPerson_12 : a_fetch 11 12 = some (.iload 1, 13) := by decide +kernel
theorem fX1_addPerson_13 : a_fetch 11 13 = some (.invokevirtual 98, 16) := by decide +kernel
theorem fX1_addPerson_16 : a_fetch 11 16 = some (.aload 0, 17) := by decide +kernel
theorem fX1_addPerson_17 : a_fetch 11 17 = some (.invokeinterface 1 1, 20) := by decide +kernel
theorem fX1_addPerson_20 : a_fetch 11 20 = some (.iload 2, 21) := by decide +kernel
theorem fX1_addPerson_21 : a_fetch 11 21 = some (.invokevirtual 98, 24) := by decide +kernel
theorem fX1_addPerson_24 : a_fetch 11 24 = some (.aload 0, 25) := by decide +kernel
theorem fX1_addPerson_25 : a_fetch 11 25 = some (.invokeinterface 1 2, 28) := by decide +kernel
theorem fX1_addPerson_28 : a_fetch 11 28 = some (.iconst (-1), 29) := by decide +kernel
theorem fX1_addPerson_29 : a_fetch 11 29 = some (.invokevirtual 98, 32) := by decide +kernel
theorem fX1_addPerson_32 : a_fetch 11 32 = some (.aload 0, 33) := by decide +kernel
theorem fX1_addPerson_33 : a_fetch 11 33 = some (.invokeinterface 1 3, 36) := by decide +kernel
theorem fX1_addPerson_36 : a_fetch 11 36 = some (.iconst (-1), 37) := by decide +kernel
theorem fX1_addPerson_37 : a_fetch 11 37 = some (.invokevirtual 98, 40) := by decide +kernel
theorem fX1_addPerson_40 : a_fetch 11 40 = some (.aload 0, 41) := by decide +kernel
theorem fX1_addPerson_41 : a_fetch 11 41 = some (.invokeinterface 1 4, 44) := by decide +kernel
theorem fX1_addPerson_44 : a_fetch 11 44 = some (.iload 3, 45) := by decide +kernel
theorem fX1_addPerson_45 : a_fetch 11 45 = some (.iconst 10, 47) := by decide +kernel
theorem fX1_addPerson_47 : a_fetch 11 47 = some (.imul, 48) := by decide +kernel
theorem fX1_addPerson_48 : a_fetch 11 48 = some (.iload 3, 49) := by decide +kernel
theorem fX1_addPerson_49 : a_fetch 11 49 = some (.iadd, 50) := by decide +kernel
theorem fX1_addPerson_50 : a_fetch 11 50 = some (.iconst 99, 52) := by decide +kernel
theorem fX1_addPerson_52 : a_fetch 11 52 = some (.invokevirtual 97, 55) := by decide +kernel
theorem fX1_addPerson_55 : a_fetch 11 55 = some (.return_, 56) := by decide +kernel
theorem fX1_addTask_0 : a_fetch 12 0 = some (.aload 0, 1) := by decide +kernel
theorem fX1_addTask_1 : a_fetch 12 1 = some (.invokeinterface 1 5, 4) := by decide +kernel
theorem fX1_addTask_4 : a_fetch 12 4 = some (.iload 1, 5) := by decide +kernel
theorem fX1_addTask_5 : a_fetch 12 5 = some (.invokevirtual 98, 8) := by decide +kernel
theorem fX1_addTask_8 : a_fetch 12 8 = some (.aload 0, 9) := by decide +kernel
theorem fX1_addTask_9 : a_fetch 12 9 = some (.invokeinterface 1 6, 12) := by decide +kernel
theorem fX1_addTask_12 : a_fetch 12 12 = some (.iload 2, 13) := by decide +kernel
theorem fX1_addTask_13 : a_fetch 12 13 = some (.invokevirtual 98, 16) := by decide +kernel
theorem fX1_addTask_16 : a_fetch 12 16 = some (.return_, 17) := by decide +kernel
theorem fX1_hasDuty_0 : a_fetch 13 0 = some (.iconst 0, 1) := by decide +kernel
theorem fX1_hasDuty_1 : a_fetch 13 1 = some (.istore 4, 3) := by decide +kernel
theorem fX1_hasDuty_3 : a_fetch 13 3 = some (.iload 4, 5) := by decide +kernel
theorem fX1_hasDuty_5 : a_fetch 13 5 = some (.aload 0, 6) := by decide +kernel
theorem fX1_hasDuty_6 : a_fetch 13 6 = some (.invokeinterface 1 7, 9) := by decide +kernel
theorem fX1_hasDuty_9 : a_fetch 13 9 = some (.invokevirtual 95, 12) := by decide +kernel
theorem fX1_hasDuty_12 : a_fetch 13 12 = some (.if_icmp .ge 74, 15) := by decide +kernel
theorem fX1_hasDuty_15 : a_fetch 13 15 = some (.aload 0, 16) := by decide +kernel
theorem fX1_hasDuty_16 : a_fetch 13 16 = some (.invokeinterface 1 7, 19) := by decide +kernel
theorem fX1_hasDuty_19 : a_fetch 13 19 = some (.iload 4, 21) := by decide +kernel
theorem fX1_hasDuty_21 : a_fetch 13 21 = some (.invokevirtual 96, 24) := by decide +kernel
theorem fX1_hasDuty_24 : a_fetch 13 24 = some (.iload 1, 25) := by decide +kernel
theorem fX1_hasDuty_25 : a_fetch 13 25 = some (.if_icmp .ne 45, 28) := by decide +kernel
theorem fX1_hasDuty_28 : a_fetch 13 28 = some (.aload 0, 29) := by decide +kernel
theorem fX1_hasDuty_29 : a_fetch 13 29 = some (.invokeinterface 1 8, 32) := by decide +kernel
theorem fX1_hasDuty_32 : a_fetch 13 32 = some (.iload 4, 34) := by decide +kernel
theorem fX1_hasDuty_34 : a_fetch 13 34 = some (.invokevirtual 96, 37) := by decide +kernel
theorem fX1_hasDuty_37 : a_fetch 13 37 = some (.iload 2, 38) := by decide +kernel
theorem fX1_hasDuty_38 : a_fetch 13 38 = some (.if_icmp .ne 45, 41) := by decide +kernel
theorem fX1_hasDuty_41 : a_fetch 13 41 = some (.iconst 1, 42) := by decide +kernel
theorem fX1_hasDuty_42 : a_fetch 13 42 = some (.goto 46, 45) := by decide +kernel
theorem fX1_hasDuty_45 : a_fetch 13 45 = some (.iconst 0, 46) := by decide +kernel
theorem fX1_hasDuty_46 : a_fetch 13 46 = some (.istore 5, 48) := by decide +kernel
theorem fX1_hasDuty_48 : a_fetch 13 48 = some (.iload 5, 50) := by decide +kernel
theorem fX1_hasDuty_50 : a_fetch 13 50 = some (.ifCond .eq 68, 53) := by decide +kernel
theorem fX1_hasDuty_53 : a_fetch 13 53 = some (.aload 0, 54) := by decide +kernel
theorem fX1_hasDuty_54 : a_fetch 13 54 = some (.invokeinterface 1 9, 57) := by decide +kernel
theorem fX1_hasDuty_57 : a_fetch 13 57 = some (.iload 4, 59) := by decide +kernel
theorem fX1_hasDuty_59 : a_fetch 13 59 = some (.invokevirtual 96, 62) := by decide +kernel
theorem fX1_hasDuty_62 : a_fetch 13 62 = some (.iload 3, 63) := by decide +kernel
theorem fX1_hasDuty_63 : a_fetch 13 63 = some (.if_icmp .ne 68, 66) := by decide +kernel
theorem fX1_hasDuty_66 : a_fetch 13 66 = some (.iconst 1, 67) := by decide +kernel
theorem fX1_hasDuty_67 : a_fetch 13 67 = some (.ireturn, 68) := by decide +kernel
theorem fX1_hasDuty_68 : a_fetch 13 68 = some (.iinc 4 1, 71) := by decide +kernel
theorem fX1_hasDuty_71 : a_fetch 13 71 = some (.goto 3, 74) := by decide +kernel
theorem fX1_hasDuty_74 : a_fetch 13 74 = some (.iconst 0, 75) := by decide +kernel
theorem fX1_hasDuty_75 : a_fetch 13 75 = some (.ireturn, 76) := by decide +kernel
theorem fX1_addDuty_0 : a_fetch 14 0 = some (.iconst 0, 1) := by decide +kernel
theorem fX1_addDuty_1 : a_fetch 14 1 = some (.istore 4, 3) := by decide +kernel
theorem fX1_addDuty_3 : a_fetch 14 3 = some (.iconst 0, 4) := by decide +kernel
theorem fX1_addDuty_4 : a_fetch 14 4 = some (.istore 5, 6) := by decide +kernel
theorem fX1_addDuty_6 : a_fetch 14 6 = some (.iload 5, 8) := by decide +kernel
theorem fX1_addDuty_8 : a_fetch 14 8 = some (.aload 0, 9) := by decide +kernel
theorem fX1_addDuty_9 : a_fetch 14 9 = some (.invokeinterface 1 7, 12) := by decide +kernel
theorem fX1_addDuty_12 : a_fetch 14 12 = some (.invokevirtual 95, 15) := by decide +kernel
theorem fX1_addDuty_15 : a_fetch 14 15 = some (.if_icmp .ge 43, 18) := by decide +kernel
theorem fX1_addDuty_18 : a_fetch 14 18 = some (.aload 0, 19) := by decide +kernel
theorem fX1_addDuty_19 : a_fetch 14 19 = some (.invokeinterface 1 7, 22) := by decide +kernel
theorem fX1_addDuty_22 : a_fetch 14 22 = some (.iload 5, 24) := by decide +kernel
theorem fX1_addDuty_24 : a_fetch 14 24 = some (.invokevirtual 96, 27) := by decide +kernel
theorem fX1_addDuty_27 : a_fetch 14 27 = some (.iload 1, 28) := by decide +kernel
theorem fX1_addDuty_28 : a_fetch 14 28 = some (.if_icmp .gt 37, 31) := by decide +kernel
theorem fX1_addDuty_31 : a_fetch 14 31 = some (.iload 5, 33) := by decide +kernel
theorem fX1_addDuty_33 : a_fetch 14 33 = some (.iconst 1, 34) := by decide +kernel
theorem fX1_addDuty_34 : a_fetch 14 34 = some (.iadd, 35) := by decide +kernel
theorem fX1_addDuty_35 : a_fetch 14 35 = some (.istore 4, 37) := by decide +kernel
theorem fX1_addDuty_37 : a_fetch 14 37 = some (.iinc 5 1, 40) := by decide +kernel
theorem fX1_addDuty_40 : a_fetch 14 40 = some (.goto 6, 43) := by decide +kernel
theorem fX1_addDuty_43 : a_fetch 14 43 = some (.aload 0, 44) := by decide +kernel
theorem fX1_addDuty_44 : a_fetch 14 44 = some (.invokeinterface 1 7, 47) := by decide +kernel
theorem fX1_addDuty_47 : a_fetch 14 47 = some (.iload 4, 49) := by decide +kernel
theorem fX1_addDuty_49 : a_fetch 14 49 = some (.iload 1, 50) := by decide +kernel
theorem fX1_addDuty_50 : a_fetch 14 50 = some (.invokevirtual 99, 53) := by decide +kernel
theorem fX1_addDuty_53 : a_fetch 14 53 = some (.aload 0, 54) := by decide +kernel
theorem fX1_addDuty_54 : a_fetch 14 54 = some (.invokeinterface 1 8, 57) := by decide +kernel
theorem fX1_addDuty_57 : a_fetch 14 57 = some (.iload 4, 59) := by decide +kernel
theorem fX1_addDuty_59 : a_fetch 14 59 = some (.iload 2, 60) := by decide +kernel
theorem fX1_addDuty_60 : a_fetch 14 60 = some (.invokevirtual 99, 63) := by decide +kernel
theorem fX1_addDuty_63 : a_fetch 14 63 = some (.aload 0, 64) := by decide +kernel
theorem fX1_addDuty_64 : a_fetch 14 64 = some (.invokeinterface 1 9, 67) := by decide +kernel
theorem fX1_addDuty_67 : a_fetch 14 67 = some (.iload 4, 69) := by decide +kernel
theorem fX1_addDuty_69 : a_fetch 14 69 = some (.iload 3, 70) := by decide +kernel
theorem fX1_addDuty_70 : a_fetch 14 70 = some (.invokevirtual 99, 73) := by decide +kernel
theorem fX1_addDuty_73 : a_fetch 14 73 = some (.return_, 74) := by decide +kernel
theorem fX1_sameWard_0 : a_fetch 15 0 = some (.aload 0, 1) := by decide +kernel
theorem fX1_sameWard_1 : a_fetch 15 1 = some (.invokeinterface 1 1, 4) := by decide +kernel
theorem fX1_sameWard_4 : a_fetch 15 4 = some (.iload 1, 5) := by decide +kernel
theorem fX1_sameWard_5 : a_fetch 15 5 = some (.invokevirtual 96, 8) := by decide +kernel
theorem fX1_sameWard_8 : a_fetch 15 8 = some (.aload 0, 9) := by decide +kernel
theorem fX1_sameWard_9 : a_fetch 15 9 = some (.invokeinterface 1 1, 12) := by decide +kernel
theorem fX1_sameWard_12 : a_fetch 15 12 = some (.iload 2, 13) := by decide +kernel
theorem fX1_sameWard_13 : a_fetch 15 13 = some (.invokevirtual 96, 16) := by decide +kernel
theorem fX1_sameWard_16 : a_fetch 15 16 = some (.if_icmp .ne 23, 19) := by decide +kernel
theorem fX1_sameWard_19 : a_fetch 15 19 = some (.iconst 1, 20) := by decide +kernel
theorem fX1_sameWard_20 : a_fetch 15 20 = some (.goto 24, 23) := by decide +kernel
theorem fX1_sameWard_23 : a_fetch 15 23 = some (.iconst 0, 24) := by decide +kernel
theorem fX1_sameWard_24 : a_fetch 15 24 = some (.ireturn, 25) := by decide +kernel
theorem fX2_init_0 : a_fetch 16 0 = some (.aload 0, 1) := by decide +kernel
theorem fX2_init_1 : a_fetch 16 1 = some (.monitorenter, 4) := by decide +kernel
theorem fX2_init_4 : a_fetch 16 4 = some (.aload 0, 5) := by decide +kernel
theorem fX2_init_5 : a_fetch 16 5 = some (.new 7, 8) := by decide +kernel
theorem fX2_init_8 : a_fetch 16 8 = some (.dup, 9) := by decide +kernel
theorem fX2_init_9 : a_fetch 16 9 = some (.iconst 43, 11) := by decide +kernel
theorem fX2_init_11 : a_fetch 16 11 = some (.invokespecial 94, 14) := by decide +kernel
theorem fX2_init_14 : a_fetch 16 14 = some (.multianewarray 2 0, 17) := by decide +kernel
theorem fX2_init_17 : a_fetch 16 17 = some (.aload 0, 18) := by decide +kernel
theorem fX2_init_18 : a_fetch 16 18 = some (.new 7, 21) := by decide +kernel
theorem fX2_init_21 : a_fetch 16 21 = some (.dup, 22) := by decide +kernel
theorem fX2_init_22 : a_fetch 16 22 = some (.iconst 10, 24) := by decide +kernel
theorem fX2_init_24 : a_fetch 16 24 = some (.invokespecial 94, 27) := by decide +kernel
theorem fX2_init_27 : a_fetch 16 27 = some (.multianewarray 2 1, 30) := by decide +kernel
theorem fX2_init_30 : a_fetch 16 30 = some (.aload 0, 31) := by decide +kernel
theorem fX2_init_31 : a_fetch 16 31 = some (.iconst (-1), 32) := by decide +kernel
theorem fX2_init_32 : a_fetch 16 32 = some (.multianewarray 2 2, 35) := by decide +kernel
theorem fX2_init_35 : a_fetch 16 35 = some (.aload 0, 36) := by decide +kernel
theorem fX2_init_36 : a_fetch 16 36 = some (.new 7, 39) := by decide +kernel
theorem fX2_init_39 : a_fetch 16 39 = some (.dup, 40) := by decide +kernel
theorem fX2_init_40 : a_fetch 16 40 = some (.iconst 2, 41) := by decide +kernel
theorem fX2_init_41 : a_fetch 16 41 = some (.invokespecial 94, 44) := by decide +kernel
theorem fX2_init_44 : a_fetch 16 44 = some (.multianewarray 2 3, 47) := by decide +kernel
theorem fX2_init_47 : a_fetch 16 47 = some (.aload 0, 48) := by decide +kernel
theorem fX2_init_48 : a_fetch 16 48 = some (.new 7, 51) := by decide +kernel
theorem fX2_init_51 : a_fetch 16 51 = some (.dup, 52) := by decide +kernel
theorem fX2_init_52 : a_fetch 16 52 = some (.iconst 3, 53) := by decide +kernel
theorem fX2_init_53 : a_fetch 16 53 = some (.invokespecial 94, 56) := by decide +kernel
theorem fX2_init_56 : a_fetch 16 56 = some (.multianewarray 2 4, 59) := by decide +kernel
theorem fX2_init_59 : a_fetch 16 59 = some (.aload 0, 60) := by decide +kernel
theorem fX2_init_60 : a_fetch 16 60 = some (.new 7, 63) := by decide +kernel
theorem fX2_init_63 : a_fetch 16 63 = some (.dup, 64) := by decide +kernel
theorem fX2_init_64 : a_fetch 16 64 = some (.iconst 10, 66) := by decide +kernel
theorem fX2_init_66 : a_fetch 16 66 = some (.invokespecial 94, 69) := by decide +kernel
theorem fX2_init_69 : a_fetch 16 69 = some (.multianewarray 2 5, 72) := by decide +kernel
theorem fX2_init_72 : a_fetch 16 72 = some (.aload 0, 73) := by decide +kernel
theorem fX2_init_73 : a_fetch 16 73 = some (.invokeinterface 2 0, 76) := by decide +kernel
theorem fX2_init_76 : a_fetch 16 76 = some (.iconst 43, 78) := by decide +kernel
theorem fX2_init_78 : a_fetch 16 78 = some (.iconst 0, 79) := by decide +kernel
theorem fX2_init_79 : a_fetch 16 79 = some (.invokevirtual 101, 82) := by decide +kernel
theorem fX2_init_82 : a_fetch 16 82 = some (.return_, 83) := by decide +kernel
theorem fX2_forgetFailures_0 : a_fetch 17 0 = some (.aload 0, 1) := by decide +kernel
theorem fX2_forgetFailures_1 : a_fetch 17 1 = some (.invokeinterface 2 3, 4) := by decide +kernel
theorem fX2_forgetFailures_4 : a_fetch 17 4 = some (.iconst 2, 5) := by decide +kernel
theorem fX2_forgetFailures_5 : a_fetch 17 5 = some (.iconst 0, 6) := by decide +kernel
theorem fX2_forgetFailures_6 : a_fetch 17 6 = some (.invokevirtual 101, 9) := by decide +kernel
theorem fX2_forgetFailures_9 : a_fetch 17 9 = some (.aload 0, 10) := by decide +kernel
theorem fX2_forgetFailures_10 : a_fetch 17 10 = some (.invokeinterface 2 4, 13) := by decide +kernel
theorem fX2_forgetFailures_13 : a_fetch 17 13 = some (.iconst 0, 14) := by decide +kernel
theorem fX2_forgetFailures_14 : a_fetch 17 14 = some (.invokevirtual 100, 17) := by decide +kernel
theorem fX2_forgetFailures_17 : a_fetch 17 17 = some (.aload 0, 18) := by decide +kernel
theorem fX2_forgetFailures_18 : a_fetch 17 18 = some (.invokeinterface 2 5, 21) := by decide +kernel
theorem fX2_forgetFailures_21 : a_fetch 17 21 = some (.iconst 10, 23) := by decide +kernel
theorem fX2_forgetFailures_23 : a_fetch 17 23 = some (.iconst 0, 24) := by decide +kernel
theorem fX2_forgetFailures_24 : a_fetch 17 24 = some (.invokevirtual 101, 27) := by decide +kernel
theorem fX2_forgetFailures_27 : a_fetch 17 27 = some (.return_, 28) := by decide +kernel
theorem fX2_sendAway_0 : a_fetch 18 0 = some (.aload 0, 1) := by decide +kernel
theorem fX2_sendAway_1 : a_fetch 18 1 = some (.invokeinterface 2 1, 4) := by decide +kernel
theorem fX2_sendAway_4 : a_fetch 18 4 = some (.iconst 0, 5) := by decide +kernel
theorem fX2_sendAway_5 : a_fetch 18 5 = some (.invokevirtual 100, 8) := by decide +kernel
theorem fX2_sendAway_8 : a_fetch 18 8 = some (.aload 0, 9) := by decide +kernel
theorem fX2_sendAway_9 : a_fetch 18 9 = some (.aload 2, 10) := by decide +kernel
theorem fX2_sendAway_10 : a_fetch 18 10 = some (.invokeinterface 4 1, 13) := by decide +kernel
theorem fX2_sendAway_13 : a_fetch 18 13 = some (.iload 3, 14) := by decide +kernel
theorem fX2_sendAway_14 : a_fetch 18 14 = some (.invokevirtual 96, 17) := by decide +kernel
theorem fX2_sendAway_17 : a_fetch 18 17 = some (.multianewarray 2 2, 20) := by decide +kernel
theorem fX2_sendAway_20 : a_fetch 18 20 = some (.aload 2, 21) := by decide +kernel
theorem fX2_sendAway_21 : a_fetch 18 21 = some (.invokeinterface 4 1, 24) := by decide +kernel
theorem fX2_sendAway_24 : a_fetch 18 24 = some (.iload 3, 25) := by decide +kernel
theorem fX2_sendAway_25 : a_fetch 18 25 = some (.iconst (-1), 26) := by decide +kernel
theorem fX2_sendAway_26 : a_fetch 18 26 = some (.invokevirtual 97, 29) := by decide +kernel
theorem fX2_sendAway_29 : a_fetch 18 29 = some (.iconst 0, 30) := by decide +kernel
theorem fX2_sendAway_30 : a_fetch 18 30 = some (.istore 4, 32) := by decide +kernel
theorem fX2_sendAway_32 : a_fetch 18 32 = some (.iload 4, 34) := by decide +kernel
theorem fX2_sendAway_34 : a_fetch 18 34 = some (.iconst 10, 36) := by decide +kernel
theorem fX2_sendAway_36 : a_fetch 18 36 = some (.if_icmp .ge 107, 39) := by decide +kernel
theorem fX2_sendAway_39 : a_fetch 18 39 = some (.aload 1, 40) := by decide +kernel
theorem fX2_sendAway_40 : a_fetch 18 40 = some (.invokeinterface 1 3, 43) := by decide +kernel
theorem fX2_sendAway_43 : a_fetch 18 43 = some (.aload 0, 44) := by decide +kernel
theorem fX2_sendAway_44 : a_fetch 18 44 = some (.invokeinterface 2 2, 47) := by decide +kernel
theorem fX2_sendAway_47 : a_fetch 18 47 = some (.invokevirtual 96, 50) := by decide +kernel
theorem fX2_sendAway_50 : a_fetch 18 50 = some (.istore 5, 52) := by decide +kernel
theorem fX2_sendAway_52 : a_fetch 18 52 = some (.iload 5, 54) := by decide +kernel
theorem fX2_sendAway_54 : a_fetch 18 54 = some (.iconst (-1), 55) := by decide +kernel
theorem fX2_sendAway_55 : a_fetch 18 55 = some (.if_icmp .eq 72, 58) := by decide +kernel
theorem fX2_sendAway_58 : a_fetch 18 58 = some (.aload 2, 59) := by decide +kernel
theorem fX2_sendAway_59 : a_fetch 18 59 = some (.invokeinterface 4 1, 62) := by decide +kernel
theorem fX2_sendAway_62 : a_fetch 18 62 = some (.iload 5, 64) := by decide +kernel
theorem fX2_sendAway_64 : a_fetch 18 64 = some (.invokevirtual 96, 67) := by decide +kernel
theorem fX2_sendAway_67 : a_fetch 18 67 = some (.iload 5, 69) := by decide +kernel
theorem fX2_sendAway_69 : a_fetch 18 69 = some (.if_icmp .eq 73, 72) := by decide +kernel
theorem fX2_sendAway_72 : a_fetch 18 72 = some (.return_, 73) := by decide +kernel
theorem fX2_sendAway_73 : a_fetch 18 73 = some (.aload 2, 74) := by decide +kernel
theorem fX2_sendAway_74 : a_fetch 18 74 = some (.invokeinterface 4 1, 77) := by decide +kernel
theorem fX2_sendAway_77 : a_fetch 18 77 = some (.iload 5, 79) := by decide +kernel
theorem fX2_sendAway_79 : a_fetch 18 79 = some (.aload 0, 80) := by decide +kernel
theorem fX2_sendAway_80 : a_fetch 18 80 = some (.invokeinterface 2 2, 83) := by decide +kernel
theorem fX2_sendAway_83 : a_fetch 18 83 = some (.invokevirtual 97, 86) := by decide +kernel
theorem fX2_sendAway_86 : a_fetch 18 86 = some (.aload 0, 87) := by decide +kernel
theorem fX2_sendAway_87 : a_fetch 18 87 = some (.invokeinterface 2 1, 90) := by decide +kernel
theorem fX2_sendAway_90 : a_fetch 18 90 = some (.iload 5, 92) := by decide +kernel
theorem fX2_sendAway_92 : a_fetch 18 92 = some (.invokevirtual 98, 95) := by decide +kernel
theorem fX2_sendAway_95 : a_fetch 18 95 = some (.aload 0, 96) := by decide +kernel
theorem fX2_sendAway_96 : a_fetch 18 96 = some (.iload 5, 98) := by decide +kernel
theorem fX2_sendAway_98 : a_fetch 18 98 = some (.multianewarray 2 2, 101) := by decide +kernel
theorem fX2_sendAway_101 : a_fetch 18 101 = some (.iinc 4 1, 104) := by decide +kernel
theorem fX2_sendAway_104 : a_fetch 18 104 = some (.goto 32, 107) := by decide +kernel
theorem fX2_sendAway_107 : a_fetch 18 107 = some (.return_, 108) := by decide +kernel
theorem fX2_comes_0 : a_fetch 19 0 = some (.aload 2, 1) := by decide +kernel
theorem fX2_comes_1 : a_fetch 19 1 = some (.dup, 2) := by decide +kernel
theorem fX2_comes_2 : a_fetch 19 2 = some (.invokeinterface 4 0, 5) := by decide +kernel
theorem fX2_comes_5 : a_fetch 19 5 = some (.iconst 1, 6) := by decide +kernel
theorem fX2_comes_6 : a_fetch 19 6 = some (.iadd, 7) := by decide +kernel
theorem fX2_comes_7 : a_fetch 19 7 = some (.multianewarray 4 0, 10) := by decide +kernel
theorem fX2_comes_10 : a_fetch 19 10 = some (.aload 2, 11) := by decide +kernel
theorem fX2_comes_11 : a_fetch 19 11 = some (.invokeinterface 4 0, 14) := by decide +kernel
theorem fX2_comes_14 : a_fetch 19 14 = some (.iconst 24, 16) := by decide +kernel
theorem fX2_comes_16 : a_fetch 19 16 = some (.irem, 17) := by decide +kernel
theorem fX2_comes_17 : a_fetch 19 17 = some (.istore 3, 18) := by decide +kernel
theorem fX2_comes_18 : a_fetch 19 18 = some (.aload 0, 19) := by decide +kernel
theorem fX2_comes_19 : a_fetch 19 19 = some (.iload 3, 20) := by decide +kernel
theorem fX2_comes_20 : a_fetch 19 20 = some (.aload 2, 21) := by decide +kernel
theorem fX2_comes_21 : a_fetch 19 21 = some (.invokeinterface 4 0, 24) := by decide +kernel
theorem fX2_comes_24 : a_fetch 19 24 = some (.iconst 24, 26) := by decide +kernel
theorem fX2_comes_26 : a_fetch 19 26 = some (.idiv, 27) := by decide +kernel
theorem fX2_comes_27 : a_fetch 19 27 = some (.invokevirtual 30, 30) := by decide +kernel
theorem fX2_comes_30 : a_fetch 19 30 = some (.aload 0, 31) := by decide +kernel
theorem fX2_comes_31 : a_fetch 19 31 = some (.invokeinterface 2 5, 34) := by decide +kernel
theorem fX2_comes_34 : a_fetch 19 34 = some (.iconst 10, 36) := by decide +kernel
theorem fX2_comes_36 : a_fetch 19 36 = some (.iconst 0, 37) := by decide +kernel
theorem fX2_comes_37 : a_fetch 19 37 = some (.invokevirtual 101, 40) := by decide +kernel
theorem fX2_comes_40 : a_fetch 19 40 = some (.iload 3, 41) := by decide +kernel
theorem fX2_comes_41 : a_fetch 19 41 = some (.ifCond .ne 50, 44) := by decide +kernel
theorem fX2_comes_44 : a_fetch 19 44 = some (.aload 0, 45) := by decide +kernel
theorem fX2_comes_45 : a_fetch 19 45 = some (.aload 1, 46) := by decide +kernel
theorem fX2_comes_46 : a_fetch 19 46 = some (.aload 2, 47) := by decide +kernel
theorem fX2_comes_47 : a_fetch 19 47 = some (.invokevirtual 20, 50) := by decide +kernel
theorem fX2_comes_50 : a_fetch 19 50 = some (.iconst 0, 51) := by decide +kernel
theorem fX2_comes_51 : a_fetch 19 51 = some (.istore 4, 53) := by decide +kernel
theorem fX2_comes_53 : a_fetch 19 53 = some (.iconst 0, 54) := by decide +kernel
theorem fX2_comes_54 : a_fetch 19 54 = some (.istore 5, 56) := by decide +kernel
theorem fX2_comes_56 : a_fetch 19 56 = some (.iload 5, 58) := by decide +kernel
theorem fX2_comes_58 : a_fetch 19 58 = some (.aload 1, 59) := by decide +kernel
theorem fX2_comes_59 : a_fetch 19 59 = some (.invokeinterface 1 9, 62) := by decide +kernel
theorem fX2_comes_62 : a_fetch 19 62 = some (.invokevirtual 95, 65) := by decide +kernel
theorem fX2_comes_65 : a_fetch 19 65 = some (.if_icmp .ge 127, 68) := by decide +kernel
theorem fX2_comes_68 : a_fetch 19 68 = some (.aload 1, 69) := by decide +kernel
theorem fX2_comes_69 : a_fetch 19 69 = some (.invokeinterface 1 9, 72) := by decide +kernel
theorem fX2_comes_72 : a_fetch 19 72 = some (.iload 5, 74) := by decide +kernel
theorem fX2_comes_74 : a_fetch 19 74 = some (.invokevirtual 96, 77) := by decide +kernel
theorem fX2_comes_77 : a_fetch 19 77 = some (.iload 3, 78) := by decide +kernel
theorem fX2_comes_78 : a_fetch 19 78 = some (.if_icmp .ne 121, 81) := by decide +kernel
theorem fX2_comes_81 : a_fetch 19 81 = some (.iload 4, 83) := by decide +kernel
theorem fX2_comes_83 : a_fetch 19 83 = some (.iconst 1, 84) := by decide +kernel
theorem fX2_comes_84 : a_fetch 19 84 = some (.aload 1, 85) := by decide +kernel
theorem fX2_comes_85 : a_fetch 19 85 = some (.invokeinterface 1 7, 88) := by decide +kernel
theorem fX2_comes_88 : a_fetch 19 88 = some (.iload 5, 90) := by decide +kernel
theorem fX2_comes_90 : a_fetch 19 90 = some (.invokevirtual 96, 93) := by decide +kernel
theorem fX2_comes_93 : a_fetch 19 93 = some (.ishl, 94) := by decide +kernel
theorem fX2_comes_94 : a_fetch 19 94 = some (.ior, 95) := by decide +kernel
theorem fX2_comes_95 : a_fetch 19 95 = some (.istore 4, 97) := by decide +kernel
theorem fX2_comes_97 : a_fetch 19 97 = some (.aload 0, 98) := by decide +kernel
theorem fX2_comes_98 : a_fetch 19 98 = some (.aload 1, 99) := by decide +kernel
theorem fX2_comes_99 : a_fetch 19 99 = some (.aload 2, 100) := by decide +kernel
theorem fX2_comes_100 : a_fetch 19 100 = some (.aload 1, 101) := by decide +kernel
theorem fX2_comes_101 : a_fetch 19 101 = some (.invokeinterface 1 7, 104) := by decide +kernel
theorem fX2_comes_104 : a_fetch 19 104 = some (.iload 5, 106) := by decide +kernel
theorem fX2_comes_106 : a_fetch 19 106 = some (.invokevirtual 96, 109) := by decide +kernel
theorem fX2_comes_109 : a_fetch 19 109 = some (.aload 1, 110) := by decide +kernel
theorem fX2_comes_110 : a_fetch 19 110 = some (.invokeinterface 1 8, 113) := by decide +kernel
theorem fX2_comes_113 : a_fetch 19 113 = some (.iload 5, 115) := by decide +kernel
theorem fX2_comes_115 : a_fetch 19 115 = some (.invokevirtual 96, 118) := by decide +kernel
theorem fX2_comes_118 : a_fetch 19 118 = some (.invokevirtual 21, 121) := by decide +kernel
theorem fX2_comes_121 : a_fetch 19 121 = some (.iinc 5 1, 124) := by decide +kernel
theorem fX2_comes_124 : a_fetch 19 124 = some (.goto 56, 127) := by decide +kernel
theorem fX2_comes_127 : a_fetch 19 127 = some (.aload 1, 128) := by decide +kernel
theorem fX2_comes_128 : a_fetch 19 128 = some (.invokeinterface 1 10, 131) := by decide +kernel
theorem fX2_comes_131 : a_fetch 19 131 = some (.invokevirtual 34, 134) := by decide +kernel
theorem fX2_comes_134 : a_fetch 19 134 = some (.ifCond .eq 145, 137) := by decide +kernel
theorem fX2_comes_137 : a_fetch 19 137 = some (.aload 0, 138) := by decide +kernel
theorem fX2_comes_138 : a_fetch 19 138 = some (.aload 1, 139) := by decide +kernel
theorem fX2_comes_139 : a_fetch 19 139 = some (.aload 2, 140) := by decide +kernel
theorem fX2_comes_140 : a_fetch 19 140 = some (.iload 4, 142) := by decide +kernel
theorem fX2_comes_142 : a_fetch 19 142 = some (.invokevirtual 24, 145) := by decide +kernel
theorem fX2_comes_145 : a_fetch 19 145 = some (.return_, 146) := by decide +kernel
theorem fX2_passNight_0 : a_fetch 20 0 = some (.aload 1, 1) := by decide +kernel
theorem fX2_passNight_1 : a_fetch 20 1 = some (.invokeinterface 1 0, 4) := by decide +kernel
theorem fX2_passNight_4 : a_fetch 20 4 = some (.invokevirtual 95, 7) := by decide +kernel
theorem fX2_passNight_7 : a_fetch 20 7 = some (.istore 3, 8) := by decide +kernel
theorem fX2_passNight_8 : a_fetch 20 8 = some (.aload 2, 9) := by decide +kernel
theorem fX2_passNight_9 : a_fetch 20 9 = some (.iload 3, 10) := by decide +kernel
theorem fX2_passNight_10 : a_fetch 20 10 = some (.invokevirtual 43, 13) := by decide +kernel
theorem fX2_passNight_13 : a_fetch 20 13 = some (.aload 1, 14) := by decide +kernel
theorem fX2_passNight_14 : a_fetch 20 14 = some (.invokeinterface 1 11, 17) := by decide +kernel
theorem fX2_passNight_17 : a_fetch 20 17 = some (.invokevirtual 34, 20) := by decide +kernel
theorem fX2_passNight_20 : a_fetch 20 20 = some (.ifCond .ne 24, 23) := by decide +kernel
theorem fX2_passNight_23 : a_fetch 20 23 = some (.return_, 24) := by decide +kernel
theorem fX2_passNight_24 : a_fetch 20 24 = some (.iconst 0, 25) := by decide +kernel
theorem fX2_passNight_25 : a_fetch 20 25 = some (.istore 4, 27) := by decide +kernel
theorem fX2_passNight_27 : a_fetch 20 27 = some (.iload 4, 29) := by decide +kernel
theorem fX2_passNight_29 : a_fetch 20 29 = some (.iload 3, 30) := by decide +kernel
theorem fX2_passNight_30 : a_fetch 20 30 = some (.if_icmp .ge 97, 33) := by decide +kernel
theorem fX2_passNight_33 : a_fetch 20 33 = some (.iconst 0, 34) := by decide +kernel
theorem fX2_passNight_34 : a_fetch 20 34 = some (.istore 5, 36) := by decide +kernel
theorem fX2_passNight_36 : a_fetch 20 36 = some (.iload 5, 38) := by decide +kernel
theorem fX2_passNight_38 : a_fetch 20 38 = some (.iload 3, 39) := by decide +kernel
theorem fX2_passNight_39 : a_fetch 20 39 = some (.if_icmp .ge 91, 42) := by decide +kernel
theorem fX2_passNight_42 : a_fetch 20 42 = some (.iload 5, 44) := by decide +kernel
theorem fX2_passNight_44 : a_fetch 20 44 = some (.iload 4, 46) := by decide +kernel
theorem fX2_passNight_46 : a_fetch 20 46 = some (.if_icmp .eq 85, 49) := by decide +kernel
theorem fX2_passNight_49 : a_fetch 20 49 = some (.aload 0, 50) := by decide +kernel
theorem fX2_passNight_50 : a_fetch 20 50 = some (.aload 1, 51) := by decide +kernel
theorem fX2_passNight_51 : a_fetch 20 51 = some (.iload 4, 53) := by decide +kernel
theorem fX2_passNight_53 : a_fetch 20 53 = some (.iload 5, 55) := by decide +kernel
theorem fX2_passNight_55 : a_fetch 20 55 = some (.aload 2, 56) := by decide +kernel
theorem fX2_passNight_56 : a_fetch 20 56 = some (.iload 4, 58) := by decide +kernel
theorem fX2_passNight_58 : a_fetch 20 58 = some (.iload 5, 60) := by decide +kernel
theorem fX2_passNight_60 : a_fetch 20 60 = some (.invokevirtual 45, 63) := by decide +kernel
theorem fX2_passNight_63 : a_fetch 20 63 = some (.invokevirtual 31, 66) := by decide +kernel
theorem fX2_passNight_66 : a_fetch 20 66 = some (.aload 2, 67) := by decide +kernel
theorem fX2_passNight_67 : a_fetch 20 67 = some (.iload 4, 69) := by decide +kernel
theorem fX2_passNight_69 : a_fetch 20 69 = some (.iload 5, 71) := by decide +kernel
theorem fX2_passNight_71 : a_fetch 20 71 = some (.aload 1, 72) := by decide +kernel
theorem fX2_passNight_72 : a_fetch 20 72 = some (.invokeinterface 1 11, 75) := by decide +kernel
theorem fX2_passNight_75 : a_fetch 20 75 = some (.aload 0, 76) := by decide +kernel
theorem fX2_passNight_76 : a_fetch 20 76 = some (.invokeinterface 2 0, 79) := by decide +kernel
theorem fX2_passNight_79 : a_fetch 20 79 = some (.invokevirtual 37, 82) := by decide +kernel
theorem fX2_passNight_82 : a_fetch 20 82 = some (.invokevirtual 46, 85) := by decide +kernel
theorem fX2_passNight_85 : a_fetch 20 85 = some (.iinc 5 1, 88) := by decide +kernel
theorem fX2_passNight_88 : a_fetch 20 88 = some (.goto 36, 91) := by decide +kernel
theorem fX2_passNight_91 : a_fetch 20 91 = some (.iinc 4 1, 94) := by decide +kernel
theorem fX2_passNight_94 : a_fetch 20 94 = some (.goto 27, 97) := by decide +kernel
theorem fX2_passNight_97 : a_fetch 20 97 = some (.return_, 98) := by decide +kernel
theorem fX2_meetDuty_0 : a_fetch 21 0 = some (.aload 2, 1) := by decide +kernel
theorem fX2_meetDuty_1 : a_fetch 21 1 = some (.invokeinterface 4 1, 4) := by decide +kernel
theorem fX2_meetDuty_4 : a_fetch 21 4 = some (.iload 3, 5) := by decide +kernel
theorem fX2_meetDuty_5 : a_fetch 21 5 = some (.invokevirtual 103, 8) := by decide +kernel
theorem fX2_meetDuty_8 : a_fetch 21 8 = some (.istore 5, 10) := by decide +kernel
theorem fX2_meetDuty_10 : a_fetch 21 10 = some (.iload 5, 12) := by decide +kernel
theorem fX2_meetDuty_12 : a_fetch 21 12 = some (.iconst (-1), 13) := by decide +kernel
theorem fX2_meetDuty_13 : a_fetch 21 13 = some (.if_icmp .ne 27, 16) := by decide +kernel
theorem fX2_meetDuty_16 : a_fetch 21 16 = some (.aload 0, 17) := by decide +kernel
theorem fX2_meetDuty_17 : a_fetch 21 17 = some (.aload 2, 18) := by decide +kernel
theorem fX2_meetDuty_18 : a_fetch 21 18 = some (.iconst 0, 19) := by decide +kernel
theorem fX2_meetDuty_19 : a_fetch 21 19 = some (.iload 3, 20) := by decide +kernel
theorem fX2_meetDuty_20 : a_fetch 21 20 = some (.iconst (-1), 21) := by decide +kernel
theorem fX2_meetDuty_21 : a_fetch 21 21 = some (.invokevirtual 22, 24) := by decide +kernel
theorem fX2_meetDuty_24 : a_fetch 21 24 = some (.goto 104, 27) := by decide +kernel
theorem fX2_meetDuty_27 : a_fetch 21 27 = some (.aload 0, 28) := by decide +kernel
theorem fX2_meetDuty_28 : a_fetch 21 28 = some (.aload 1, 29) := by decide +kernel
theorem fX2_meetDuty_29 : a_fetch 21 29 = some (.iload 5, 31) := by decide +kernel
theorem fX2_meetDuty_31 : a_fetch 21 31 = some (.iload 3, 32) := by decide +kernel
theorem fX2_meetDuty_32 : a_fetch 21 32 = some (.iload 4, 34) := by decide +kernel
theorem fX2_meetDuty_34 : a_fetch 21 34 = some (.aload 2, 35) := by decide +kernel
theorem fX2_meetDuty_35 : a_fetch 21 35 = some (.iload 5, 37) := by decide +kernel
theorem fX2_meetDuty_37 : a_fetch 21 37 = some (.iload 3, 38) := by decide +kernel
theorem fX2_meetDuty_38 : a_fetch 21 38 = some (.invokevirtual 45, 41) := by decide +kernel
theorem fX2_meetDuty_41 : a_fetch 21 41 = some (.invokevirtual 29, 44) := by decide +kernel
theorem fX2_meetDuty_44 : a_fetch 21 44 = some (.ifCond .ne 79, 47) := by decide +kernel
theorem fX2_meetDuty_47 : a_fetch 21 47 = some (.aload 0, 48) := by decide +kernel
theorem fX2_meetDuty_48 : a_fetch 21 48 = some (.invokeinterface 2 5, 51) := by decide +kernel
theorem fX2_meetDuty_51 : a_fetch 21 51 = some (.iload 5, 53) := by decide +kernel
theorem fX2_meetDuty_53 : a_fetch 21 53 = some (.aload 0, 54) := by decide +kernel
theorem fX2_meetDuty_54 : a_fetch 21 54 = some (.invokeinterface 2 5, 57) := by decide +kernel
theorem fX2_meetDuty_57 : a_fetch 21 57 = some (.iload 5, 59) := by decide +kernel
theorem fX2_meetDuty_59 : a_fetch 21 59 = some (.invokevirtual 96, 62) := by decide +kernel
theorem fX2_meetDuty_62 : a_fetch 21 62 = some (.iconst 1, 63) := by decide +kernel
theorem fX2_meetDuty_63 : a_fetch 21 63 = some (.iadd, 64) := by decide +kernel
theorem fX2_meetDuty_64 : a_fetch 21 64 = some (.invokevirtual 97, 67) := by decide +kernel
theorem fX2_meetDuty_67 : a_fetch 21 67 = some (.aload 0, 68) := by decide +kernel
theorem fX2_meetDuty_68 : a_fetch 21 68 = some (.aload 2, 69) := by decide +kernel
theorem fX2_meetDuty_69 : a_fetch 21 69 = some (.iconst 1, 70) := by decide +kernel
theorem fX2_meetDuty_70 : a_fetch 21 70 = some (.iload 3, 71) := by decide +kernel
theorem fX2_meetDuty_71 : a_fetch 21 71 = some (.iload 5, 73) := by decide +kernel
theorem fX2_meetDuty_73 : a_fetch 21 73 = some (.invokevirtual 22, 76) := by decide +kernel
theorem fX2_meetDuty_76 : a_fetch 21 76 = some (.goto 104, 79) := by decide +kernel
theorem fX2_meetDuty_79 : a_fetch 21 79 = some (.iload 5, 81) := by decide +kernel
theorem fX2_meetDuty_81 : a_fetch 21 81 = some (.iload 3, 82) := by decide +kernel
theorem fX2_meetDuty_82 : a_fetch 21 82 = some (.if_icmp .eq 104, 85) := by decide +kernel
theorem fX2_meetDuty_85 : a_fetch 21 85 = some (.aload 1, 86) := by decide +kernel
theorem fX2_meetDuty_86 : a_fetch 21 86 = some (.invokeinterface 1 13, 89) := by decide +kernel
theorem fX2_meetDuty_89 : a_fetch 21 89 = some (.invokevirtual 34, 92) := by decide +kernel
theorem fX2_meetDuty_92 : a_fetch 21 92 = some (.ifCond .eq 104, 95) := by decide +kernel
theorem fX2_meetDuty_95 : a_fetch 21 95 = some (.aload 0, 96) := by decide +kernel
theorem fX2_meetDuty_96 : a_fetch 21 96 = some (.aload 1, 97) := by decide +kernel
theorem fX2_meetDuty_97 : a_fetch 21 97 = some (.aload 2, 98) := by decide +kernel
theorem fX2_meetDuty_98 : a_fetch 21 98 = some (.iload 3, 99) := by decide +kernel
theorem fX2_meetDuty_99 : a_fetch 21 99 = some (.iload 5, 101) := by decide +kernel
theorem fX2_meetDuty_101 : a_fetch 21 101 = some (.invokevirtual 23, 104) := by decide +kernel
theorem fX2_meetDuty_104 : a_fetch 21 104 = some (.return_, 105) := by decide +kernel
theorem fX2_fail_0 : a_fetch 22 0 = some (.aload 1, 1) := by decide +kernel
theorem fX2_fail_1 : a_fetch 22 1 = some (.iload 2, 2) := by decide +kernel
theorem fX2_fail_2 : a_fetch 22 2 = some (.iload 3, 3) := by decide +kernel
theorem fX2_fail_3 : a_fetch 22 3 = some (.iload 4, 5) := by decide +kernel
theorem fX2_fail_5 : a_fetch 22 5 = some (.invokevirtual 47, 8) := by decide +kernel
theorem fX2_fail_8 : a_fetch 22 8 = some (.aload 0, 9) := by decide +kernel
theorem fX2_fail_9 : a_fetch 22 9 = some (.invokeinterface 2 3, 12) := by decide +kernel
theorem fX2_fail_12 : a_fetch 22 12 = some (.iload 2, 13) := by decide +kernel
theorem fX2_fail_13 : a_fetch 22 13 = some (.aload 0, 14) := by decide +kernel
theorem fX2_fail_14 : a_fetch 22 14 = some (.invokeinterface 2 3, 17) := by decide +kernel
theorem fX2_fail_17 : a_fetch 22 17 = some (.iload 2, 18) := by decide +kernel
theorem fX2_fail_18 : a_fetch 22 18 = some (.invokevirtual 96, 21) := by decide +kernel
theorem fX2_fail_21 : a_fetch 22 21 = some (.iconst 1, 22) := by decide +kernel
theorem fX2_fail_22 : a_fetch 22 22 = some (.iadd, 23) := by decide +kernel
theorem fX2_fail_23 : a_fetch 22 23 = some (.invokevirtual 97, 26) := by decide +kernel
theorem fX2_fail_26 : a_fetch 22 26 = some (.aload 0, 27) := by decide +kernel
theorem fX2_fail_27 : a_fetch 22 27 = some (.invokeinterface 2 4, 30) := by decide +kernel
theorem fX2_fail_30 : a_fetch 22 30 = some (.invokevirtual 95, 33) := by decide +kernel
theorem fX2_fail_33 : a_fetch 22 33 = some (.ifCond .ne 63, 36) := by decide +kernel
theorem fX2_fail_36 : a_fetch 22 36 = some (.aload 0, 37) := by decide +kernel
theorem fX2_fail_37 : a_fetch 22 37 = some (.invokeinterface 2 4, 40) := by decide +kernel
theorem fX2_fail_40 : a_fetch 22 40 = some (.aload 1, 41) := by decide +kernel
theorem fX2_fail_41 : a_fetch 22 41 = some (.invokeinterface 4 0, 44) := by decide +kernel
theorem fX2_fail_44 : a_fetch 22 44 = some (.invokevirtual 98, 47) := by decide +kernel
theorem fX2_fail_47 : a_fetch 22 47 = some (.aload 0, 48) := by decide +kernel
theorem fX2_fail_48 : a_fetch 22 48 = some (.invokeinterface 2 4, 51) := by decide +kernel
theorem fX2_fail_51 : a_fetch 22 51 = some (.iload 2, 52) := by decide +kernel
theorem fX2_fail_52 : a_fetch 22 52 = some (.invokevirtual 98, 55) := by decide +kernel
theorem fX2_fail_55 : a_fetch 22 55 = some (.aload 0, 56) := by decide +kernel
theorem fX2_fail_56 : a_fetch 22 56 = some (.invokeinterface 2 4, 59) := by decide +kernel
theorem fX2_fail_59 : a_fetch 22 59 = some (.iload 3, 60) := by decide +kernel
theorem fX2_fail_60 : a_fetch 22 60 = some (.invokevirtual 98, 63) := by decide +kernel
theorem fX2_fail_63 : a_fetch 22 63 = some (.return_, 64) := by decide +kernel
theorem fX2_noticeAll_0 : a_fetch 23 0 = some (.iconst 0, 1) := by decide +kernel
theorem fX2_noticeAll_1 : a_fetch 23 1 = some (.istore 5, 3) := by decide +kernel
theorem fX2_noticeAll_3 : a_fetch 23 3 = some (.iload 5, 5) := by decide +kernel
theorem fX2_noticeAll_5 : a_fetch 23 5 = some (.aload 1, 6) := by decide +kernel
theorem fX2_noticeAll_6 : a_fetch 23 6 = some (.invokeinterface 1 0, 9) := by decide +kernel
theorem fX2_noticeAll_9 : a_fetch 23 9 = some (.invokevirtual 95, 12) := by decide +kernel
theorem fX2_noticeAll_12 : a_fetch 23 12 = some (.if_icmp .ge 100, 15) := by decide +kernel
theorem fX2_noticeAll_15 : a_fetch 23 15 = some (.iload 5, 17) := by decide +kernel
theorem fX2_noticeAll_17 : a_fetch 23 17 = some (.iload 4, 19) := by decide +kernel
theorem fX2_noticeAll_19 : a_fetch 23 19 = some (.if_icmp .eq 94, 22) := by decide +kernel
theorem fX2_noticeAll_22 : a_fetch 23 22 = some (.iload 5, 24) := by decide +kernel
theorem fX2_noticeAll_24 : a_fetch 23 24 = some (.iload 3, 25) := by decide +kernel
theorem fX2_noticeAll_25 : a_fetch 23 25 = some (.if_icmp .eq 94, 28) := by decide +kernel
theorem fX2_noticeAll_28 : a_fetch 23 28 = some (.aload 2, 29) := by decide +kernel
theorem fX2_noticeAll_29 : a_fetch 23 29 = some (.invokeinterface 4 1, 32) := by decide +kernel
theorem fX2_noticeAll_32 : a_fetch 23 32 = some (.iload 5, 34) := by decide +kernel
theorem fX2_noticeAll_34 : a_fetch 23 34 = some (.invokevirtual 96, 37) := by decide +kernel
theorem fX2_noticeAll_37 : a_fetch 23 37 = some (.iconst (-1), 38) := by decide +kernel
theorem fX2_noticeAll_38 : a_fetch 23 38 = some (.if_icmp .eq 94, 41) := by decide +kernel
theorem fX2_noticeAll_41 : a_fetch 23 41 = some (.aload 0, 42) := by decide +kernel
theorem fX2_noticeAll_42 : a_fetch 23 42 = some (.aload 1, 43) := by decide +kernel
theorem fX2_noticeAll_43 : a_fetch 23 43 = some (.iload 5, 45) := by decide +kernel
theorem fX2_noticeAll_45 : a_fetch 23 45 = some (.iload 3, 46) := by decide +kernel
theorem fX2_noticeAll_46 : a_fetch 23 46 = some (.aload 2, 47) := by decide +kernel
theorem fX2_noticeAll_47 : a_fetch 23 47 = some (.iload 4, 49) := by decide +kernel
theorem fX2_noticeAll_49 : a_fetch 23 49 = some (.iload 3, 50) := by decide +kernel
theorem fX2_noticeAll_50 : a_fetch 23 50 = some (.invokevirtual 45, 53) := by decide +kernel
theorem fX2_noticeAll_53 : a_fetch 23 53 = some (.invokevirtual 31, 56) := by decide +kernel
theorem fX2_noticeAll_56 : a_fetch 23 56 = some (.aload 0, 57) := by decide +kernel
theorem fX2_noticeAll_57 : a_fetch 23 57 = some (.invokeinterface 2 0, 60) := by decide +kernel
theorem fX2_noticeAll_60 : a_fetch 23 60 = some (.iconst 17, 62) := by decide +kernel
theorem fX2_noticeAll_62 : a_fetch 23 62 = some (.aload 2, 63) := by decide +kernel
theorem fX2_noticeAll_63 : a_fetch 23 63 = some (.iload 5, 65) := by decide +kernel
theorem fX2_noticeAll_65 : a_fetch 23 65 = some (.iload 3, 66) := by decide +kernel
theorem fX2_noticeAll_66 : a_fetch 23 66 = some (.invokevirtual 45, 69) := by decide +kernel
theorem fX2_noticeAll_69 : a_fetch 23 69 = some (.invokevirtual 97, 72) := by decide +kernel
theorem fX2_noticeAll_72 : a_fetch 23 72 = some (.aload 1, 73) := by decide +kernel
theorem fX2_noticeAll_73 : a_fetch 23 73 = some (.invokeinterface 1 13, 76) := by decide +kernel
theorem fX2_noticeAll_76 : a_fetch 23 76 = some (.aload 0, 77) := by decide +kernel
theorem fX2_noticeAll_77 : a_fetch 23 77 = some (.invokeinterface 2 0, 80) := by decide +kernel
theorem fX2_noticeAll_80 : a_fetch 23 80 = some (.invokevirtual 37, 83) := by decide +kernel
theorem fX2_noticeAll_83 : a_fetch 23 83 = some (.ifCond .eq 94, 86) := by decide +kernel
theorem fX2_noticeAll_86 : a_fetch 23 86 = some (.aload 2, 87) := by decide +kernel
theorem fX2_noticeAll_87 : a_fetch 23 87 = some (.iconst 2, 88) := by decide +kernel
theorem fX2_noticeAll_88 : a_fetch 23 88 = some (.iload 3, 89) := by decide +kernel
theorem fX2_noticeAll_89 : a_fetch 23 89 = some (.iload 5, 91) := by decide +kernel
theorem fX2_noticeAll_91 : a_fetch 23 91 = some (.invokevirtual 47, 94) := by decide +kernel
theorem fX2_noticeAll_94 : a_fetch 23 94 = some (.iinc 5 1, 97) := by decide +kernel
theorem fX2_noticeAll_97 : a_fetch 23 97 = some (.goto 3, 100) := by decide +kernel
theorem fX2_noticeAll_100 : a_fetch 23 100 = some (.return_, 101) := by decide +kernel
theorem fX2_watchAll_0 : a_fetch 24 0 = some (.iconst 0, 1) := by decide +kernel
theorem fX2_watchAll_1 : a_fetch 24 1 = some (.istore 4, 3) := by decide +kernel
theorem fX2_watchAll_3 : a_fetch 24 3 = some (.iload 4, 5) := by decide +kernel
theorem fX2_watchAll_5 : a_fetch 24 5 = some (.aload 1, 6) := by decide +kernel
theorem fX2_watchAll_6 : a_fetch 24 6 = some (.invokeinterface 1 0, 9) := by decide +kernel
theorem fX2_watchAll_9 : a_fetch 24 9 = some (.invokevirtual 95, 12) := by decide +kernel
theorem fX2_watchAll_12 : a_fetch 24 12 = some (.if_icmp .ge 97, 15) := by decide +kernel
theorem fX2_watchAll_15 : a_fetch 24 15 = some (.aload 2, 16) := by decide +kernel
theorem fX2_watchAll_16 : a_fetch 24 16 = some (.invokeinterface 4 1, 19) := by decide +kernel
theorem fX2_watchAll_19 : a_fetch 24 19 = some (.iload 4, 21) := by decide +kernel
theorem fX2_watchAll_21 : a_fetch 24 21 = some (.invokevirtual 96, 24) := by decide +kernel
theorem fX2_watchAll_24 : a_fetch 24 24 = some (.istore 5, 26) := by decide +kernel
theorem fX2_watchAll_26 : a_fetch 24 26 = some (.aload 2, 27) := by decide +kernel
theorem fX2_watchAll_27 : a_fetch 24 27 = some (.invokeinterface 4 2, 30) := by decide +kernel
theorem fX2_watchAll_30 : a_fetch 24 30 = some (.iload 4, 32) := by decide +kernel
theorem fX2_watchAll_32 : a_fetch 24 32 = some (.invokevirtual 96, 35) := by decide +kernel
theorem fX2_watchAll_35 : a_fetch 24 35 = some (.istore 6, 37) := by decide +kernel
theorem fX2_watchAll_37 : a_fetch 24 37 = some (.iload 6, 39) := by decide +kernel
theorem fX2_watchAll_39 : a_fetch 24 39 = some (.iconst (-1), 40) := by decide +kernel
theorem fX2_watchAll_40 : a_fetch 24 40 = some (.if_icmp .eq 91, 43) := by decide +kernel
theorem fX2_watchAll_43 : a_fetch 24 43 = some (.iload 5, 45) := by decide +kernel
theorem fX2_watchAll_45 : a_fetch 24 45 = some (.iconst (-1), 46) := by decide +kernel
theorem fX2_watchAll_46 : a_fetch 24 46 = some (.if_icmp .eq 91, 49) := by decide +kernel
theorem fX2_watchAll_49 : a_fetch 24 49 = some (.iload 3, 50) := by decide +kernel
theorem fX2_watchAll_50 : a_fetch 24 50 = some (.iload 5, 52) := by decide +kernel
theorem fX2_watchAll_52 : a_fetch 24 52 = some (.ishr, 53) := by decide +kernel
theorem fX2_watchAll_53 : a_fetch 24 53 = some (.iconst 1, 54) := by decide +kernel
theorem fX2_watchAll_54 : a_fetch 24 54 = some (.iand, 55) := by decide +kernel
theorem fX2_watchAll_55 : a_fetch 24 55 = some (.ifCond .ne 91, 58) := by decide +kernel
theorem fX2_watchAll_58 : a_fetch 24 58 = some (.aload 2, 59) := by decide +kernel
theorem fX2_watchAll_59 : a_fetch 24 59 = some (.iload 4, 61) := by decide +kernel
theorem fX2_watchAll_61 : a_fetch 24 61 = some (.iload 6, 63) := by decide +kernel
theorem fX2_watchAll_63 : a_fetch 24 63 = some (.invokevirtual 45, 66) := by decide +kernel
theorem fX2_watchAll_66 : a_fetch 24 66 = some (.istore 7, 68) := by decide +kernel
theorem fX2_watchAll_68 : a_fetch 24 68 = some (.aload 2, 69) := by decide +kernel
theorem fX2_watchAll_69 : a_fetch 24 69 = some (.iload 4, 71) := by decide +kernel
theorem fX2_watchAll_71 : a_fetch 24 71 = some (.iload 6, 73) := by decide +kernel
theorem fX2_watchAll_73 : a_fetch 24 73 = some (.aload 0, 74) := by decide +kernel
theorem fX2_watchAll_74 : a_fetch 24 74 = some (.aload 1, 75) := by decide +kernel
theorem fX2_watchAll_75 : a_fetch 24 75 = some (.aload 2, 76) := by decide +kernel
theorem fX2_watchAll_76 : a_fetch 24 76 = some (.invokeinterface 4 0, 79) := by decide +kernel
theorem fX2_watchAll_79 : a_fetch 24 79 = some (.iload 4, 81) := by decide +kernel
theorem fX2_watchAll_81 : a_fetch 24 81 = some (.iload 6, 83) := by decide +kernel
theorem fX2_watchAll_83 : a_fetch 24 83 = some (.iload 7, 85) := by decide +kernel
theorem fX2_watchAll_85 : a_fetch 24 85 = some (.invokevirtual 25, 88) := by decide +kernel
theorem fX2_watchAll_88 : a_fetch 24 88 = some (.invokevirtual 46, 91) := by decide +kernel
theorem fX2_watchAll_91 : a_fetch 24 91 = some (.iinc 4 1, 94) := by decide +kernel
theorem fX2_watchAll_94 : a_fetch 24 94 = some (.goto 3, 97) := by decide +kernel
theorem fX2_watchAll_97 : a_fetch 24 97 = some (.return_, 98) := by decide +kernel
theorem fX2_learned_0 : a_fetch 25 0 = some (.aload 1, 1) := by decide +kernel
theorem fX2_learned_1 : a_fetch 25 1 = some (.invokeinterface 1 10, 4) := by decide +kernel
theorem fX2_learned_4 : a_fetch 25 4 = some (.invokevirtual 34, 7) := by decide +kernel
theorem fX2_learned_7 : a_fetch 25 7 = some (.ifCond .ne 13, 10) := by decide +kernel
theorem fX2_learned_10 : a_fetch 25 10 = some (.iload 5, 12) := by decide +kernel
theorem fX2_learned_12 : a_fetch 25 12 = some (.ireturn, 13) := by decide +kernel
theorem fX2_learned_13 : a_fetch 25 13 = some (.aload 0, 14) := by decide +kernel
theorem fX2_learned_14 : a_fetch 25 14 = some (.iload 2, 15) := by decide +kernel
theorem fX2_learned_15 : a_fetch 25 15 = some (.iconst 24, 17) := by decide +kernel
theorem fX2_learned_17 : a_fetch 25 17 = some (.irem, 18) := by decide +kernel
theorem fX2_learned_18 : a_fetch 25 18 = some (.iload 2, 19) := by decide +kernel
theorem fX2_learned_19 : a_fetch 25 19 = some (.iconst 24, 21) := by decide +kernel
theorem fX2_learned_21 : a_fetch 25 21 = some (.idiv, 22) := by decide +kernel
theorem fX2_learned_22 : a_fetch 25 22 = some (.invokevirtual 30, 25) := by decide +kernel
theorem fX2_learned_25 : a_fetch 25 25 = some (.aload 0, 26) := by decide +kernel
theorem fX2_learned_26 : a_fetch 25 26 = some (.aload 1, 27) := by decide +kernel
theorem fX2_learned_27 : a_fetch 25 27 = some (.iload 3, 28) := by decide +kernel
theorem fX2_learned_28 : a_fetch 25 28 = some (.iload 4, 30) := by decide +kernel
theorem fX2_learned_30 : a_fetch 25 30 = some (.iload 5, 32) := by decide +kernel
theorem fX2_learned_32 : a_fetch 25 32 = some (.invokevirtual 31, 35) := by decide +kernel
theorem fX2_learned_35 : a_fetch 25 35 = some (.iconst 0, 36) := by decide +kernel
theorem fX2_learned_36 : a_fetch 25 36 = some (.iconst 99, 38) := by decide +kernel
theorem fX2_learned_38 : a_fetch 25 38 = some (.aload 1, 39) := by decide +kernel
theorem fX2_learned_39 : a_fetch 25 39 = some (.invokeinterface 1 10, 42) := by decide +kernel
theorem fX2_learned_42 : a_fetch 25 42 = some (.aload 0, 43) := by decide +kernel
theorem fX2_learned_43 : a_fetch 25 43 = some (.invokeinterface 2 0, 46) := by decide +kernel
theorem fX2_learned_46 : a_fetch 25 46 = some (.invokevirtual 37, 49) := by decide +kernel
theorem fX2_learned_49 : a_fetch 25 49 = some (.invokestatic 290, 52) := by decide +kernel
theorem fX2_learned_52 : a_fetch 25 52 = some (.invokestatic 289, 55) := by decide +kernel
theorem fX2_learned_55 : a_fetch 25 55 = some (.ireturn, 56) := by decide +kernel
theorem fX2_ableNow_0 : a_fetch 26 0 = some (.aload 0, 1) := by decide +kernel
theorem fX2_ableNow_1 : a_fetch 26 1 = some (.iload 6, 3) := by decide +kernel
theorem fX2_ableNow_3 : a_fetch 26 3 = some (.aload 2, 4) := by decide +kernel
theorem fX2_ableNow_4 : a_fetch 26 4 = some (.invokeinterface 4 0, 7) := by decide +kernel
theorem fX2_ableNow_7 : a_fetch 26 7 = some (.iconst 24, 9) := by decide +kernel
theorem fX2_ableNow_9 : a_fetch 26 9 = some (.idiv, 10) := by decide +kernel
theorem fX2_ableNow_10 : a_fetch 26 10 = some (.invokevirtual 30, 13) := by decide +kernel
theorem fX2_ableNow_13 : a_fetch 26 13 = some (.aload 0, 14) := by decide +kernel
theorem fX2_ableNow_14 : a_fetch 26 14 = some (.aload 1, 15) := by decide +kernel
theorem fX2_ableNow_15 : a_fetch 26 15 = some (.iload 3, 16) := by decide +kernel
theorem fX2_ableNow_16 : a_fetch 26 16 = some (.iload 4, 18) := by decide +kernel
theorem fX2_ableNow_18 : a_fetch 26 18 = some (.iload 5, 20) := by decide +kernel
theorem fX2_ableNow_20 : a_fetch 26 20 = some (.aload 2, 21) := by decide +kernel
theorem fX2_ableNow_21 : a_fetch 26 21 = some (.iload 3, 22) := by decide +kernel
theorem fX2_ableNow_22 : a_fetch 26 22 = some (.iload 4, 24) := by decide +kernel
theorem fX2_ableNow_24 : a_fetch 26 24 = some (.invokevirtual 45, 27) := by decide +kernel
theorem fX2_ableNow_27 : a_fetch 26 27 = some (.invokevirtual 29, 30) := by decide +kernel
theorem fX2_ableNow_30 : a_fetch 26 30 = some (.ireturn, 31) := by decide +kernel
theorem fX2_ableInAll_0 : a_fetch 27 0 = some (.iconst 0, 1) := by decide +kernel
theorem fX2_ableInAll_1 : a_fetch 27 1 = some (.istore 6, 3) := by decide +kernel
theorem fX2_ableInAll_3 : a_fetch 27 3 = some (.iload 6, 5) := by decide +kernel
theorem fX2_ableInAll_5 : a_fetch 27 5 = some (.aload 1, 6) := by decide +kernel
theorem fX2_ableInAll_6 : a_fetch 27 6 = some (.invokeinterface 1 7, 9) := by decide +kernel
theorem fX2_ableInAll_9 : a_fetch 27 9 = some (.invokevirtual 95, 12) := by decide +kernel
theorem fX2_ableInAll_12 : a_fetch 27 12 = some (.if_icmp .ge 76, 15) := by decide +kernel
theorem fX2_ableInAll_15 : a_fetch 27 15 = some (.aload 1, 16) := by decide +kernel
theorem fX2_ableInAll_16 : a_fetch 27 16 = some (.invokeinterface 1 7, 19) := by decide +kernel
theorem fX2_ableInAll_19 : a_fetch 27 19 = some (.iload 6, 21) := by decide +kernel
theorem fX2_ableInAll_21 : a_fetch 27 21 = some (.invokevirtual 96, 24) := by decide +kernel
theorem fX2_ableInAll_24 : a_fetch 27 24 = some (.iload 4, 26) := by decide +kernel
theorem fX2_ableInAll_26 : a_fetch 27 26 = some (.if_icmp .ne 70, 29) := by decide +kernel
theorem fX2_ableInAll_29 : a_fetch 27 29 = some (.aload 0, 30) := by decide +kernel
theorem fX2_ableInAll_30 : a_fetch 27 30 = some (.aload 1, 31) := by decide +kernel
theorem fX2_ableInAll_31 : a_fetch 27 31 = some (.invokeinterface 1 9, 34) := by decide +kernel
theorem fX2_ableInAll_34 : a_fetch 27 34 = some (.iload 6, 36) := by decide +kernel
theorem fX2_ableInAll_36 : a_fetch 27 36 = some (.invokevirtual 96, 39) := by decide +kernel
theorem fX2_ableInAll_39 : a_fetch 27 39 = some (.iload 2, 40) := by decide +kernel
theorem fX2_ableInAll_40 : a_fetch 27 40 = some (.iconst 24, 42) := by decide +kernel
theorem fX2_ableInAll_42 : a_fetch 27 42 = some (.idiv, 43) := by decide +kernel
theorem fX2_ableInAll_43 : a_fetch 27 43 = some (.invokevirtual 30, 46) := by decide +kernel
theorem fX2_ableInAll_46 : a_fetch 27 46 = some (.aload 0, 47) := by decide +kernel
theorem fX2_ableInAll_47 : a_fetch 27 47 = some (.aload 1, 48) := by decide +kernel
theorem fX2_ableInAll_48 : a_fetch 27 48 = some (.iload 3, 49) := by decide +kernel
theorem fX2_ableInAll_49 : a_fetch 27 49 = some (.iload 4, 51) := by decide +kernel
theorem fX2_ableInAll_51 : a_fetch 27 51 = some (.aload 1, 52) := by decide +kernel
theorem fX2_ableInAll_52 : a_fetch 27 52 = some (.invokeinterface 1 8, 55) := by decide +kernel
theorem fX2_ableInAll_55 : a_fetch 27 55 = some (.iload 6, 57) := by decide +kernel
theorem fX2_ableInAll_57 : a_fetch 27 57 = some (.invokevirtual 96, 60) := by decide +kernel
theorem fX2_ableInAll_60 : a_fetch 27 60 = some (.iload 5, 62) := by decide +kernel
theorem fX2_ableInAll_62 : a_fetch 27 62 = some (.invokevirtual 29, 65) := by decide +kernel
theorem fX2_ableInAll_65 : a_fetch 27 65 = some (.ifCond .ne 70, 68) := by decide +kernel
theorem fX2_ableInAll_68 : a_fetch 27 68 = some (.iconst 0, 69) := by decide +kernel
theorem fX2_ableInAll_69 : a_fetch 27 69 = some (.ireturn, 70) := by decide +kernel
theorem fX2_ableInAll_70 : a_fetch 27 70 = some (.iinc 6 1, 73) := by decide +kernel
theorem fX2_ableInAll_73 : a_fetch 27 73 = some (.goto 3, 76) := by decide +kernel
theorem fX2_ableInAll_76 : a_fetch 27 76 = some (.iconst 1, 77) := by decide +kernel
theorem fX2_ableInAll_77 : a_fetch 27 77 = some (.ireturn, 78) := by decide +kernel
theorem fX2_countAble_0 : a_fetch 28 0 = some (.iconst 0, 1) := by decide +kernel
theorem fX2_countAble_1 : a_fetch 28 1 = some (.istore 5, 3) := by decide +kernel
theorem fX2_countAble_3 : a_fetch 28 3 = some (.iconst 0, 4) := by decide +kernel
theorem fX2_countAble_4 : a_fetch 28 4 = some (.istore 6, 6) := by decide +kernel
theorem fX2_countAble_6 : a_fetch 28 6 = some (.iload 6, 8) := by decide +kernel
theorem fX2_countAble_8 : a_fetch 28 8 = some (.aload 1, 9) := by decide +kernel
theorem fX2_countAble_9 : a_fetch 28 9 = some (.invokeinterface 1 7, 12) := by decide +kernel
theorem fX2_countAble_12 : a_fetch 28 12 = some (.invokevirtual 95, 15) := by decide +kernel
theorem fX2_countAble_15 : a_fetch 28 15 = some (.if_icmp .ge 79, 18) := by decide +kernel
theorem fX2_countAble_18 : a_fetch 28 18 = some (.aload 1, 19) := by decide +kernel
theorem fX2_countAble_19 : a_fetch 28 19 = some (.invokeinterface 1 7, 22) := by decide +kernel
theorem fX2_countAble_22 : a_fetch 28 22 = some (.iload 6, 24) := by decide +kernel
theorem fX2_countAble_24 : a_fetch 28 24 = some (.invokevirtual 96, 27) := by decide +kernel
theorem fX2_countAble_27 : a_fetch 28 27 = some (.iload 4, 29) := by decide +kernel
theorem fX2_countAble_29 : a_fetch 28 29 = some (.if_icmp .ne 73, 32) := by decide +kernel
theorem fX2_countAble_32 : a_fetch 28 32 = some (.aload 1, 33) := by decide +kernel
theorem fX2_countAble_33 : a_fetch 28 33 = some (.invokeinterface 1 8, 36) := by decide +kernel
theorem fX2_countAble_36 : a_fetch 28 36 = some (.iload 6, 38) := by decide +kernel
theorem fX2_countAble_38 : a_fetch 28 38 = some (.invokevirtual 96, 41) := by decide +kernel
theorem fX2_countAble_41 : a_fetch 28 41 = some (.istore 7, 43) := by decide +kernel
theorem fX2_countAble_43 : a_fetch 28 43 = some (.aload 1, 44) := by decide +kernel
theorem fX2_countAble_44 : a_fetch 28 44 = some (.invokeinterface 1 9, 47) := by decide +kernel
theorem fX2_countAble_47 : a_fetch 28 47 = some (.iload 6, 49) := by decide +kernel
theorem fX2_countAble_49 : a_fetch 28 49 = some (.invokevirtual 96, 52) := by decide +kernel
theorem fX2_countAble_52 : a_fetch 28 52 = some (.istore 8, 54) := by decide +kernel
theorem fX2_countAble_54 : a_fetch 28 54 = some (.aload 0, 55) := by decide +kernel
theorem fX2_countAble_55 : a_fetch 28 55 = some (.aload 1, 56) := by decide +kernel
theorem fX2_countAble_56 : a_fetch 28 56 = some (.aload 2, 57) := by decide +kernel
theorem fX2_countAble_57 : a_fetch 28 57 = some (.iload 3, 58) := by decide +kernel
theorem fX2_countAble_58 : a_fetch 28 58 = some (.iload 4, 60) := by decide +kernel
theorem fX2_countAble_60 : a_fetch 28 60 = some (.iload 7, 62) := by decide +kernel
theorem fX2_countAble_62 : a_fetch 28 62 = some (.iload 8, 64) := by decide +kernel
theorem fX2_countAble_64 : a_fetch 28 64 = some (.invokevirtual 26, 67) := by decide +kernel
theorem fX2_countAble_67 : a_fetch 28 67 = some (.ifCond .eq 73, 70) := by decide +kernel
theorem fX2_countAble_70 : a_fetch 28 70 = some (.iinc 5 1, 73) := by decide +kernel
theorem fX2_countAble_73 : a_fetch 28 73 = some (.iinc 6 1, 76) := by decide +kernel
theorem fX2_countAble_76 : a_fetch 28 76 = some (.goto 6, 79) := by decide +kernel
theorem fX2_countAble_79 : a_fetch 28 79 = some (.iload 5, 81) := by decide +kernel
theorem fX2_countAble_81 : a_fetch 28 81 = some (.ireturn, 82) := by decide +kernel
theorem fX2_able_0 : a_fetch 29 0 = some (.aload 1, 1) := by decide +kernel
theorem fX2_able_1 : a_fetch 29 1 = some (.invokeinterface 1 12, 4) := by decide +kernel
theorem fX2_able_4 : a_fetch 29 4 = some (.invokevirtual 34, 7) := by decide +kernel
theorem fX2_able_7 : a_fetch 29 7 = some (.ifCond .ne 12, 10) := by decide +kernel
theorem fX2_able_10 : a_fetch 29 10 = some (.iconst 1, 11) := by decide +kernel
theorem fX2_able_11 : a_fetch 29 11 = some (.ireturn, 12) := by decide +kernel
theorem fX2_able_12 : a_fetch 29 12 = some (.aload 0, 13) := by decide +kernel
theorem fX2_able_13 : a_fetch 29 13 = some (.invokeinterface 2 0, 16) := by decide +kernel
theorem fX2_able_16 : a_fetch 29 16 = some (.iconst 14, 18) := by decide +kernel
theorem fX2_able_18 : a_fetch 29 18 = some (.iload 5, 20) := by decide +kernel
theorem fX2_able_20 : a_fetch 29 20 = some (.invokevirtual 97, 23) := by decide +kernel
theorem fX2_able_23 : a_fetch 29 23 = some (.aload 0, 24) := by decide +kernel
theorem fX2_able_24 : a_fetch 29 24 = some (.invokeinterface 2 0, 27) := by decide +kernel
theorem fX2_able_27 : a_fetch 29 27 = some (.iconst 3, 28) := by decide +kernel
theorem fX2_able_28 : a_fetch 29 28 = some (.aload 1, 29) := by decide +kernel
theorem fX2_able_29 : a_fetch 29 29 = some (.invokeinterface 1 6, 32) := by decide +kernel
theorem fX2_able_32 : a_fetch 29 32 = some (.iload 4, 34) := by decide +kernel
theorem fX2_able_34 : a_fetch 29 34 = some (.invokevirtual 96, 37) := by decide +kernel
theorem fX2_able_37 : a_fetch 29 37 = some (.invokevirtual 97, 40) := by decide +kernel
theorem fX2_able_40 : a_fetch 29 40 = some (.aload 0, 41) := by decide +kernel
theorem fX2_able_41 : a_fetch 29 41 = some (.invokeinterface 2 0, 44) := by decide +kernel
theorem fX2_able_44 : a_fetch 29 44 = some (.iconst 16, 46) := by decide +kernel
theorem fX2_able_46 : a_fetch 29 46 = some (.iload 2, 47) := by decide +kernel
theorem fX2_able_47 : a_fetch 29 47 = some (.iload 3, 48) := by decide +kernel
theorem fX2_able_48 : a_fetch 29 48 = some (.if_icmp .ne 55, 51) := by decide +kernel
theorem fX2_able_51 : a_fetch 29 51 = some (.iconst 1, 52) := by decide +kernel
theorem fX2_able_52 : a_fetch 29 52 = some (.goto 56, 55) := by decide +kernel
theorem fX2_able_55 : a_fetch 29 55 = some (.iconst 0, 56) := by decide +kernel
theorem fX2_able_56 : a_fetch 29 56 = some (.invokevirtual 97, 59) := by decide +kernel
theorem fX2_able_59 : a_fetch 29 59 = some (.aload 1, 60) := by decide +kernel
theorem fX2_able_60 : a_fetch 29 60 = some (.invokeinterface 1 12, 63) := by decide +kernel
theorem fX2_able_63 : a_fetch 29 63 = some (.aload 0, 64) := by decide +kernel
theorem fX2_able_64 : a_fetch 29 64 = some (.invokeinterface 2 0, 67) := by decide +kernel
theorem fX2_able_67 : a_fetch 29 67 = some (.invokevirtual 37, 70) := by decide +kernel
theorem fX2_able_70 : a_fetch 29 70 = some (.ifCond .eq 77, 73) := by decide +kernel
theorem fX2_able_73 : a_fetch 29 73 = some (.iconst 1, 74) := by decide +kernel
theorem fX2_able_74 : a_fetch 29 74 = some (.goto 78, 77) := by decide +kernel
theorem fX2_able_77 : a_fetch 29 77 = some (.iconst 0, 78) := by decide +kernel
theorem fX2_able_78 : a_fetch 29 78 = some (.ireturn, 79) := by decide +kernel
theorem fX2_setTime_0 : a_fetch 30 0 = some (.aload 0, 1) := by decide +kernel
theorem fX2_setTime_1 : a_fetch 30 1 = some (.invokeinterface 2 0, 4) := by decide +kernel
theorem fX2_setTime_4 : a_fetch 30 4 = some (.iconst 12, 6) := by decide +kernel
theorem fX2_setTime_6 : a_fetch 30 6 = some (.iload 1, 7) := by decide +kernel
theorem fX2_setTime_7 : a_fetch 30 7 = some (.invokevirtual 97, 10) := by decide +kernel
theorem fX2_setTime_10 : a_fetch 30 10 = some (.aload 0, 11) := by decide +kernel
theorem fX2_setTime_11 : a_fetch 30 11 = some (.invokeinterface 2 0, 14) := by decide +kernel
theorem fX2_setTime_14 : a_fetch 30 14 = some (.iconst 13, 16) := by decide +kernel
theorem fX2_setTime_16 : a_fetch 30 16 = some (.iload 2, 17) := by decide +kernel
theorem fX2_setTime_17 : a_fetch 30 17 = some (.invokevirtual 97, 20) := by decide +kernel
theorem fX2_setTime_20 : a_fetch 30 20 = some (.return_, 21) := by decide +kernel
theorem fX2_setKnower_0 : a_fetch 31 0 = some (.aload 0, 1) := by decide +kernel
theorem fX2_setKnower_1 : a_fetch 31 1 = some (.invokeinterface 2 0, 4) := by decide +kernel
theorem fX2_setKnower_4 : a_fetch 31 4 = some (.iconst 14, 6) := by decide +kernel
theorem fX2_setKnower_6 : a_fetch 31 6 = some (.iload 4, 8) := by decide +kernel
theorem fX2_setKnower_8 : a_fetch 31 8 = some (.invokevirtual 97, 11) := by decide +kernel
theorem fX2_setKnower_11 : a_fetch 31 11 = some (.aload 0, 12) := by decide +kernel
theorem fX2_setKnower_12 : a_fetch 31 12 = some (.invokeinterface 2 0, 15) := by decide +kernel
theorem fX2_setKnower_15 : a_fetch 31 15 = some (.iconst 15, 17) := by decide +kernel
theorem fX2_setKnower_17 : a_fetch 31 17 = some (.aload 1, 18) := by decide +kernel
theorem fX2_setKnower_18 : a_fetch 31 18 = some (.iload 2, 19) := by decide +kernel
theorem fX2_setKnower_19 : a_fetch 31 19 = some (.iload 3, 20) := by decide +kernel
theorem fX2_setKnower_20 : a_fetch 31 20 = some (.invokevirtual 15, 23) := by decide +kernel
theorem fX2_setKnower_23 : a_fetch 31 23 = some (.ifCond .eq 30, 26) := by decide +kernel
theorem fX2_setKnower_26 : a_fetch 31 26 = some (.iconst 1, 27) := by decide +kernel
theorem fX2_setKnower_27 : a_fetch 31 27 = some (.goto 31, 30) := by decide +kernel
theorem fX2_setKnower_30 : a_fetch 31 30 = some (.iconst 0, 31) := by decide +kernel
theorem fX2_setKnower_31 : a_fetch 31 31 = some (.invokevirtual 97, 34) := by decide +kernel
theorem fX2_setKnower_34 : a_fetch 31 34 = some (.return_, 35) := by decide +kernel
theorem fX2_setAskFacts_0 : a_fetch 32 0 = some (.aload 1, 1) := by decide +kernel
theorem fX2_setAskFacts_1 : a_fetch 32 1 = some (.invokeinterface 1 0, 4) := by decide +kernel
theorem fX2_setAskFacts_4 : a_fetch 32 4 = some (.invokevirtual 95, 7) := by decide +kernel
theorem fX2_setAskFacts_7 : a_fetch 32 7 = some (.istore 4, 9) := by decide +kernel
theorem fX2_setAskFacts_9 : a_fetch 32 9 = some (.aload 2, 10) := by decide +kernel
theorem fX2_setAskFacts_10 : a_fetch 32 10 = some (.invokeinterface 4 1, 13) := by decide +kernel
theorem fX2_setAskFacts_13 : a_fetch 32 13 = some (.iload 3, 14) := by decide +kernel
theorem fX2_setAskFacts_14 : a_fetch 32 14 = some (.invokevirtual 96, 17) := by decide +kernel
theorem fX2_setAskFacts_17 : a_fetch 32 17 = some (.istore 5, 19) := by decide +kernel
theorem fX2_setAskFacts_19 : a_fetch 32 19 = some (.aload 0, 20) := by decide +kernel
theorem fX2_setAskFacts_20 : a_fetch 32 20 = some (.aload 2, 21) := by decide +kernel
theorem fX2_setAskFacts_21 : a_fetch 32 21 = some (.invokeinterface 4 0, 24) := by decide +kernel
theorem fX2_setAskFacts_24 : a_fetch 32 24 = some (.iconst 24, 26) := by decide +kernel
theorem fX2_setAskFacts_26 : a_fetch 32 26 = some (.irem, 27) := by decide +kernel
theorem fX2_setAskFacts_27 : a_fetch 32 27 = some (.aload 2, 28) := by decide +kernel
theorem fX2_setAskFacts_28 : a_fetch 32 28 = some (.invokeinterface 4 0, 31) := by decide +kernel
theorem fX2_setAskFacts_31 : a_fetch 32 31 = some (.iconst 24, 33) := by decide +kernel
theorem fX2_setAskFacts_33 : a_fetch 32 33 = some (.idiv, 34) := by decide +kernel
theorem fX2_setAskFacts_34 : a_fetch 32 34 = some (.invokevirtual 30, 37) := by decide +kernel
theorem fX2_setAskFacts_37 : a_fetch 32 37 = some (.aload 0, 38) := by decide +kernel
theorem fX2_setAskFacts_38 : a_fetch 32 38 = some (.invokeinterface 2 0, 41) := by decide +kernel
theorem fX2_setAskFacts_41 : a_fetch 32 41 = some (.iconst 30, 43) := by decide +kernel
theorem fX2_setAskFacts_43 : a_fetch 32 43 = some (.aload 2, 44) := by decide +kernel
theorem fX2_setAskFacts_44 : a_fetch 32 44 = some (.invokeinterface 4 0, 47) := by decide +kernel
theorem fX2_setAskFacts_47 : a_fetch 32 47 = some (.invokevirtual 97, 50) := by decide +kernel
theorem fX2_setAskFacts_50 : a_fetch 32 50 = some (.aload 0, 51) := by decide +kernel
theorem fX2_setAskFacts_51 : a_fetch 32 51 = some (.invokeinterface 2 0, 54) := by decide +kernel
theorem fX2_setAskFacts_54 : a_fetch 32 54 = some (.iconst 31, 56) := by decide +kernel
theorem fX2_setAskFacts_56 : a_fetch 32 56 = some (.iload 5, 58) := by decide +kernel
theorem fX2_setAskFacts_58 : a_fetch 32 58 = some (.iconst (-1), 59) := by decide +kernel
theorem fX2_setAskFacts_59 : a_fetch 32 59 = some (.if_icmp .ne 67, 62) := by decide +kernel
theorem fX2_setAskFacts_62 : a_fetch 32 62 = some (.iconst 99, 64) := by decide +kernel
theorem fX2_setAskFacts_64 : a_fetch 32 64 = some (.goto 69, 67) := by decide +kernel
theorem fX2_setAskFacts_67 : a_fetch 32 67 = some (.iload 5, 69) := by decide +kernel
theorem fX2_setAskFacts_69 : a_fetch 32 69 = some (.invokevirtual 97, 72) := by decide +kernel
theorem fX2_setAskFacts_72 : a_fetch 32 72 = some (.aload 0, 73) := by decide +kernel
theorem fX2_setAskFacts_73 : a_fetch 32 73 = some (.invokeinterface 2 0, 76) := by decide +kernel
theorem fX2_setAskFacts_76 : a_fetch 32 76 = some (.iconst 32, 78) := by decide +kernel
theorem fX2_setAskFacts_78 : a_fetch 32 78 = some (.aload 0, 79) := by decide +kernel
theorem fX2_setAskFacts_79 : a_fetch 32 79 = some (.invokeinterface 2 5, 82) := by decide +kernel
theorem fX2_setAskFacts_82 : a_fetch 32 82 = some (.iload 3, 83) := by decide +kernel
theorem fX2_setAskFacts_83 : a_fetch 32 83 = some (.invokevirtual 96, 86) := by decide +kernel
theorem fX2_setAskFacts_86 : a_fetch 32 86 = some (.invokevirtual 97, 89) := by decide +kernel
theorem fX2_setAskFacts_89 : a_fetch 32 89 = some (.iconst 0, 90) := by decide +kernel
theorem fX2_setAskFacts_90 : a_fetch 32 90 = some (.istore 6, 92) := by decide +kernel
theorem fX2_setAskFacts_92 : a_fetch 32 92 = some (.iload 6, 94) := by decide +kernel
theorem fX2_setAskFacts_94 : a_fetch 32 94 = some (.iconst 10, 96) := by decide +kernel
theorem fX2_setAskFacts_96 : a_fetch 32 96 = some (.if_icmp .ge 135, 99) := by decide +kernel
theorem fX2_setAskFacts_99 : a_fetch 32 99 = some (.aload 0, 100) := by decide +kernel
theorem fX2_setAskFacts_100 : a_fetch 32 100 = some (.invokeinterface 2 0, 103) := by decide +kernel
theorem fX2_setAskFacts_103 : a_fetch 32 103 = some (.iconst 33, 105) := by decide +kernel
theorem fX2_setAskFacts_105 : a_fetch 32 105 = some (.iload 6, 107) := by decide +kernel
theorem fX2_setAskFacts_107 : a_fetch 32 107 = some (.iadd, 108) := by decide +kernel
theorem fX2_setAskFacts_108 : a_fetch 32 108 = some (.iload 6, 110) := by decide +kernel
theorem fX2_setAskFacts_110 : a_fetch 32 110 = some (.iload 4, 112) := by decide +kernel
theorem fX2_setAskFacts_112 : a_fetch 32 112 = some (.if_icmp .ge 125, 115) := by decide +kernel
theorem fX2_setAskFacts_115 : a_fetch 32 115 = some (.aload 2, 116) := by decide +kernel
theorem fX2_setAskFacts_116 : a_fetch 32 116 = some (.iload 3, 117) := by decide +kernel
theorem fX2_setAskFacts_117 : a_fetch 32 117 = some (.iload 6, 119) := by decide +kernel
theorem fX2_setAskFacts_119 : a_fetch 32 119 = some (.invokevirtual 45, 122) := by decide +kernel
theorem fX2_setAskFacts_122 : a_fetch 32 122 = some (.goto 126, 125) := by decide +kernel
theorem fX2_setAskFacts_125 : a_fetch 32 125 = some (.iconst 0, 126) := by decide +kernel
theorem fX2_setAskFacts_126 : a_fetch 32 126 = some (.invokevirtual 97, 129) := by decide +kernel
theorem fX2_setAskFacts_129 : a_fetch 32 129 = some (.iinc 6 1, 132) := by decide +kernel
theorem fX2_setAskFacts_132 : a_fetch 32 132 = some (.goto 92, 135) := by decide +kernel
theorem fX2_setAskFacts_135 : a_fetch 32 135 = some (.return_, 136) := by decide +kernel
theorem fX3_init_0 : a_fetch 33 0 = some (.aload 0, 1) := by decide +kernel
theorem fX3_init_1 : a_fetch 33 1 = some (.monitorenter, 4) := by decide +kernel
theorem fX3_init_4 : a_fetch 33 4 = some (.aload 0, 5) := by decide +kernel
theorem fX3_init_5 : a_fetch 33 5 = some (.new 7, 8) := by decide +kernel
theorem fX3_init_8 : a_fetch 33 8 = some (.dup, 9) := by decide +kernel
theorem fX3_init_9 : a_fetch 33 9 = some (.iconst 1600, 12) := by decide +kernel
theorem fX3_init_12 : a_fetch 33 12 = some (.invokespecial 94, 15) := by decide +kernel
theorem fX3_init_15 : a_fetch 33 15 = some (.multianewarray 3 0, 18) := by decide +kernel
theorem fX3_init_18 : a_fetch 33 18 = some (.aload 0, 19) := by decide +kernel
theorem fX3_init_19 : a_fetch 33 19 = some (.new 7, 22) := by decide +kernel
theorem fX3_init_22 : a_fetch 33 22 = some (.dup, 23) := by decide +kernel
theorem fX3_init_23 : a_fetch 33 23 = some (.iconst 64, 25) := by decide +kernel
theorem fX3_init_25 : a_fetch 33 25 = some (.invokespecial 94, 28) := by decide +kernel
theorem fX3_init_28 : a_fetch 33 28 = some (.multianewarray 3 1, 31) := by decide +kernel
theorem fX3_init_31 : a_fetch 33 31 = some (.aload 0, 32) := by decide +kernel
theorem fX3_init_32 : a_fetch 33 32 = some (.invokeinterface 3 1, 35) := by decide +kernel
theorem fX3_init_35 : a_fetch 33 35 = some (.iconst 64, 37) := by decide +kernel
theorem fX3_init_37 : a_fetch 33 37 = some (.iconst 0, 38) := by decide +kernel
theorem fX3_init_38 : a_fetch 33 38 = some (.invokevirtual 101, 41) := by decide +kernel
theorem fX3_init_41 : a_fetch 33 41 = some (.return_, 42) := by decide +kernel
theorem fX3_isTold_0 : a_fetch 34 0 = some (.aload 0, 1) := by decide +kernel
theorem fX3_isTold_1 : a_fetch 34 1 = some (.invokeinterface 3 0, 4) := by decide +kernel
theorem fX3_isTold_4 : a_fetch 34 4 = some (.invokevirtual 95, 7) := by decide +kernel
theorem fX3_isTold_7 : a_fetch 34 7 = some (.ifCond .eq 14, 10) := by decide +kernel
theorem fX3_isTold_10 : a_fetch 34 10 = some (.iconst 1, 11) := by decide +kernel
theorem fX3_isTold_11 : a_fetch 34 11 = some (.goto 15, 14) := by decide +kernel
theorem fX3_isTold_14 : a_fetch 34 14 = some (.iconst 0, 15) := by decide +kernel
theorem fX3_isTold_15 : a_fetch 34 15 = some (.ireturn, 16) := by decide +kernel
theorem fX3_clear_0 : a_fetch 35 0 = some (.aload 0, 1) := by decide +kernel
theorem fX3_clear_1 : a_fetch 35 1 = some (.invokeinterface 3 0, 4) := by decide +kernel
theorem fX3_clear_4 : a_fetch 35 4 = some (.iconst 0, 5) := by decide +kernel
theorem fX3_clear_5 : a_fetch 35 5 = some (.invokevirtual 100, 8) := by decide +kernel
theorem fX3_clear_8 : a_fetch 35 8 = some (.return_, 9) := by decide +kernel
theorem fX3_write_0 : a_fetch 36 0 = some (.aload 0, 1) := by decide +kernel
theorem fX3_write_1 : a_fetch 36 1 = some (.invokeinterface 3 0, 4) := by decide +kernel
theorem fX3_write_4 : a_fetch 36 4 = some (.iload 2, 5) := by decide +kernel
theorem fX3_write_5 : a_fetch 36 5 = some (.iconst 4, 6) := by decide +kernel
theorem fX3_write_6 : a_fetch 36 6 = some (.ishl, 7) := by decide +kernel
theorem fX3_write_7 : a_fetch 36 7 = some (.iload 1, 8) := by decide +kernel
theorem fX3_write_8 : a_fetch 36 8 = some (.ior, 9) := by decide +kernel
theorem fX3_write_9 : a_fetch 36 9 = some (.invokevirtual 98, 12) := by decide +kernel
theorem fX3_write_12 : a_fetch 36 12 = some (.return_, 13) := by decide +kernel
theorem fX3_value_0 : a_fetch 37 0 = some (.iconst (-1), 1) := by decide +kernel
theorem fX3_value_1 : a_fetch 37 1 = some (.istore 2, 2) := by decide +kernel
theorem fX3_value_2 : a_fetch 37 2 = some (.iconst 0, 3) := by decide +kernel
theorem fX3_value_3 : a_fetch 37 3 = some (.istore 3, 4) := by decide +kernel
theorem fX3_value_4 : a_fetch 37 4 = some (.iload 3, 5) := by decide +kernel
theorem fX3_value_5 : a_fetch 37 5 = some (.aload 0, 6) := by decide +kernel
theorem fX3_value_6 : a_fetch 37 6 = some (.invokeinterface 3 0, 9) := by decide +kernel
theorem fX3_value_9 : a_fetch 37 9 = some (.invokevirtual 95, 12) := by decide +kernel
theorem fX3_value_12 : a_fetch 37 12 = some (.if_icmp .ge 177, 15) := by decide +kernel
theorem fX3_value_15 : a_fetch 37 15 = some (.aload 0, 16) := by decide +kernel
theorem fX3_value_16 : a_fetch 37 16 = some (.invokeinterface 3 0, 19) := by decide +kernel
theorem fX3_value_19 : a_fetch 37 19 = some (.iload 3, 20) := by decide +kernel
theorem fX3_value_20 : a_fetch 37 20 = some (.invokevirtual 96, 23) := by decide +kernel
theorem fX3_value_23 : a_fetch 37 23 = some (.iconst 15, 25) := by decide +kernel
theorem fX3_value_25 : a_fetch 37 25 = some (.iand, 26) := by decide +kernel
theorem fX3_value_26 : a_fetch 37 26 = some (.istore 4, 28) := by decide +kernel
theorem fX3_value_28 : a_fetch 37 28 = some (.aload 0, 29) := by decide +kernel
theorem fX3_value_29 : a_fetch 37 29 = some (.invokeinterface 3 0, 32) := by decide +kernel
theorem fX3_value_32 : a_fetch 37 32 = some (.iload 3, 33) := by decide +kernel
theorem fX3_value_33 : a_fetch 37 33 = some (.invokevirtual 96, 36) := by decide +kernel
theorem fX3_value_36 : a_fetch 37 36 = some (.iconst 4, 37) := by decide +kernel
theorem fX3_value_37 : a_fetch 37 37 = some (.ishr, 38) := by decide +kernel
theorem fX3_value_38 : a_fetch 37 38 = some (.istore 5, 40) := by decide +kernel
theorem fX3_value_40 : a_fetch 37 40 = some (.iload 4, 42) := by decide +kernel
theorem fX3_value_42 : a_fetch 37 42 = some (.ifCond .eq 51, 45) := by decide +kernel
theorem fX3_value_45 : a_fetch 37 45 = some (.iload 4, 47) := by decide +kernel
theorem fX3_value_47 : a_fetch 37 47 = some (.iconst 1, 48) := by decide +kernel
theorem fX3_value_48 : a_fetch 37 48 = some (.if_icmp .ne 81, 51) := by decide +kernel
theorem fX3_value_51 : a_fetch 37 51 = some (.iinc 2 1, 54) := by decide +kernel
theorem fX3_value_54 : a_fetch 37 54 = some (.aload 0, 55) := by decide +kernel
theorem fX3_value_55 : a_fetch 37 55 = some (.invokeinterface 3 1, 58) := by decide +kernel
theorem fX3_value_58 : a_fetch 37 58 = some (.iload 2, 59) := by decide +kernel
theorem fX3_value_59 : a_fetch 37 59 = some (.iload 4, 61) := by decide +kernel
theorem fX3_value_61 : a_fetch 37 61 = some (.ifCond .ne 69, 64) := by decide +kernel
theorem fX3_value_64 : a_fetch 37 64 = some (.iload 5, 66) := by decide +kernel
theorem fX3_value_66 : a_fetch 37 66 = some (.goto 75, 69) := by decide +kernel
theorem fX3_value_69 : a_fetch 37 69 = some (.aload 1, 70) := by decide +kernel
theorem fX3_value_70 : a_fetch 37 70 = some (.iload 5, 72) := by decide +kernel
theorem fX3_value_72 : a_fetch 37 72 = some (.invokevirtual 96, 75) := by decide +kernel
theorem fX3_value_75 : a_fetch 37 75 = some (.invokevirtual 97, 78) := by decide +kernel
theorem fX3_value_78 : a_fetch 37 78 = some (.goto 171, 81) := by decide +kernel
theorem fX3_value_81 : a_fetch 37 81 = some (.iload 4, 83) := by decide +kernel
theorem fX3_value_83 : a_fetch 37 83 = some (.iconst 2, 84) := by decide +kernel
theorem fX3_value_84 : a_fetch 37 84 = some (.if_icmp .ne 110, 87) := by decide +kernel
theorem fX3_value_87 : a_fetch 37 87 = some (.aload 0, 88) := by decide +kernel
theorem fX3_value_88 : a_fetch 37 88 = some (.invokeinterface 3 1, 91) := by decide +kernel
theorem fX3_value_91 : a_fetch 37 91 = some (.iload 2, 92) := by decide +kernel
theorem fX3_value_92 : a_fetch 37 92 = some (.aload 1, 93) := by decide +kernel
theorem fX3_value_93 : a_fetch 37 93 = some (.aload 0, 94) := by decide +kernel
theorem fX3_value_94 : a_fetch 37 94 = some (.invokeinterface 3 1, 97) := by decide +kernel
theorem fX3_value_97 : a_fetch 37 97 = some (.iload 2, 98) := by decide +kernel
theorem fX3_value_98 : a_fetch 37 98 = some (.invokevirtual 96, 101) := by decide +kernel
theorem fX3_value_101 : a_fetch 37 101 = some (.invokestatic 38, 104) := by decide +kernel
theorem fX3_value_104 : a_fetch 37 104 = some (.invokevirtual 97, 107) := by decide +kernel
theorem fX3_value_107 : a_fetch 37 107 = some (.goto 171, 110) := by decide +kernel
theorem fX3_value_110 : a_fetch 37 110 = some (.iload 4, 112) := by decide +kernel
theorem fX3_value_112 : a_fetch 37 112 = some (.iconst 3, 113) := by decide +kernel
theorem fX3_value_113 : a_fetch 37 113 = some (.if_icmp .ne 137, 116) := by decide +kernel
theorem fX3_value_116 : a_fetch 37 116 = some (.aload 0, 117) := by decide +kernel
theorem fX3_value_117 : a_fetch 37 117 = some (.invokeinterface 3 1, 120) := by decide +kernel
theorem fX3_value_120 : a_fetch 37 120 = some (.iload 2, 121) := by decide +kernel
theorem fX3_value_121 : a_fetch 37 121 = some (.iconst 1, 122) := by decide +kernel
theorem fX3_value_122 : a_fetch 37 122 = some (.aload 0, 123) := by decide +kernel
theorem fX3_value_123 : a_fetch 37 123 = some (.invokeinterface 3 1, 126) := by decide +kernel
theorem fX3_value_126 : a_fetch 37 126 = some (.iload 2, 127) := by decide +kernel
theorem fX3_value_127 : a_fetch 37 127 = some (.invokevirtual 96, 130) := by decide +kernel
theorem fX3_value_130 : a_fetch 37 130 = some (.isub, 131) := by decide +kernel
theorem fX3_value_131 : a_fetch 37 131 = some (.invokevirtual 97, 134) := by decide +kernel
theorem fX3_value_134 : a_fetch 37 134 = some (.goto 171, 137) := by decide +kernel
theorem fX3_value_137 : a_fetch 37 137 = some (.iinc 2 (-1), 140) := by decide +kernel
theorem fX3_value_140 : a_fetch 37 140 = some (.aload 0, 141) := by decide +kernel
theorem fX3_value_141 : a_fetch 37 141 = some (.invokeinterface 3 1, 144) := by decide +kernel
theorem fX3_value_144 : a_fetch 37 144 = some (.iload 2, 145) := by decide +kernel
theorem fX3_value_145 : a_fetch 37 145 = some (.iload 4, 147) := by decide +kernel
theorem fX3_value_147 : a_fetch 37 147 = some (.aload 0, 148) := by decide +kernel
theorem fX3_value_148 : a_fetch 37 148 = some (.invokeinterface 3 1, 151) := by decide +kernel
theorem fX3_value_151 : a_fetch 37 151 = some (.iload 2, 152) := by decide +kernel
theorem fX3_value_152 : a_fetch 37 152 = some (.invokevirtual 96, 155) := by decide +kernel
theorem fX3_value_155 : a_fetch 37 155 = some (.aload 0, 156) := by decide +kernel
theorem fX3_value_156 : a_fetch 37 156 = some (.invokeinterface 3 1, 159) := by decide +kernel
theorem fX3_value_159 : a_fetch 37 159 = some (.iload 2, 160) := by decide +kernel
theorem fX3_value_160 : a_fetch 37 160 = some (.iconst 1, 161) := by decide +kernel
theorem fX3_value_161 : a_fetch 37 161 = some (.iadd, 162) := by decide +kernel
theorem fX3_value_162 : a_fetch 37 162 = some (.invokevirtual 96, 165) := by decide +kernel
theorem fX3_value_165 : a_fetch 37 165 = some (.invokestatic 39, 168) := by decide +kernel
theorem fX3_value_168 : a_fetch 37 168 = some (.invokevirtual 97, 171) := by decide +kernel
theorem fX3_value_171 : a_fetch 37 171 = some (.iinc 3 1, 174) := by decide +kernel
theorem fX3_value_174 : a_fetch 37 174 = some (.goto 4, 177) := by decide +kernel
theorem fX3_value_177 : a_fetch 37 177 = some (.aload 0, 178) := by decide +kernel
theorem fX3_value_178 : a_fetch 37 178 = some (.invokeinterface 3 1, 181) := by decide +kernel
theorem fX3_value_181 : a_fetch 37 181 = some (.iload 2, 182) := by decide +kernel
theorem fX3_value_182 : a_fetch 37 182 = some (.invokevirtual 96, 185) := by decide +kernel
theorem fX3_value_185 : a_fetch 37 185 = some (.ireturn, 186) := by decide +kernel
theorem fX3_known_0 : a_fetch 38 0 = some (.iload 1, 1) := by decide +kernel
theorem fX3_known_1 : a_fetch 38 1 = some (.ifCond .lt 21, 4) := by decide +kernel
theorem fX3_known_4 : a_fetch 38 4 = some (.iload 1, 5) := by decide +kernel
theorem fX3_known_5 : a_fetch 38 5 = some (.iconst 10, 7) := by decide +kernel
theorem fX3_known_7 : a_fetch 38 7 = some (.if_icmp .ge 21, 10) := by decide +kernel
theorem fX3_known_10 : a_fetch 38 10 = some (.aload 0, 11) := by decide +kernel
theorem fX3_known_11 : a_fetch 38 11 = some (.iconst 33, 13) := by decide +kernel
theorem fX3_known_13 : a_fetch 38 13 = some (.iload 1, 14) := by decide +kernel
theorem fX3_known_14 : a_fetch 38 14 = some (.iadd, 15) := by decide +kernel
theorem fX3_known_15 : a_fetch 38 15 = some (.invokevirtual 96, 18) := by decide +kernel
theorem fX3_known_18 : a_fetch 38 18 = some (.goto 22, 21) := by decide +kernel
theorem fX3_known_21 : a_fetch 38 21 = some (.iconst 0, 22) := by decide +kernel
theorem fX3_known_22 : a_fetch 38 22 = some (.ireturn, 23) := by decide +kernel
theorem fX3_worked_0 : a_fetch 39 0 = some (.iload 0, 1) := by decide +kernel
theorem fX3_worked_1 : a_fetch 39 1 = some (.tableswitch 154 4 14 #[60, 69, 78, 87, 101, 107, 113, 124, 135, 146, 150], 60) := by decide +kernel
theorem fX3_worked_60 : a_fetch 39 60 = some (.iload 1, 61) := by decide +kernel
theorem fX3_worked_61 : a_fetch 39 61 = some (.i2l, 62) := by decide +kernel
theorem fX3_worked_62 : a_fetch 39 62 = some (.iload 2, 63) := by decide +kernel
theorem fX3_worked_63 : a_fetch 39 63 = some (.i2l, 64) := by decide +kernel
theorem fX3_worked_64 : a_fetch 39 64 = some (.ladd, 65) := by decide +kernel
theorem fX3_worked_65 : a_fetch 39 65 = some (.invokestatic 40, 68) := by decide +kernel
theorem fX3_worked_68 : a_fetch 39 68 = some (.ireturn, 69) := by decide +kernel
theorem fX3_worked_69 : a_fetch 39 69 = some (.iload 1, 70) := by decide +kernel
theorem fX3_worked_70 : a_fetch 39 70 = some (.i2l, 71) := by decide +kernel
theorem fX3_worked_71 : a_fetch 39 71 = some (.iload 2, 72) := by decide +kernel
theorem fX3_worked_72 : a_fetch 39 72 = some (.i2l, 73) := by decide +kernel
theorem fX3_worked_73 : a_fetch 39 73 = some (.lsub, 74) := by decide +kernel
theorem fX3_worked_74 : a_fetch 39 74 = some (.invokestatic 40, 77) := by decide +kernel
theorem fX3_worked_77 : a_fetch 39 77 = some (.ireturn, 78) := by decide +kernel
theorem fX3_worked_78 : a_fetch 39 78 = some (.iload 1, 79) := by decide +kernel
theorem fX3_worked_79 : a_fetch 39 79 = some (.i2l, 80) := by decide +kernel
theorem fX3_worked_80 : a_fetch 39 80 = some (.iload 2, 81) := by decide +kernel
theorem fX3_worked_81 : a_fetch 39 81 = some (.i2l, 82) := by decide +kernel
theorem fX3_worked_82 : a_fetch 39 82 = some (.lmul, 83) := by decide +kernel
theorem fX3_worked_83 : a_fetch 39 83 = some (.invokestatic 40, 86) := by decide +kernel
theorem fX3_worked_86 : a_fetch 39 86 = some (.ireturn, 87) := by decide +kernel
theorem fX3_worked_87 : a_fetch 39 87 = some (.iload 2, 88) := by decide +kernel
theorem fX3_worked_88 : a_fetch 39 88 = some (.ifCond .ne 95, 91) := by decide +kernel
theorem fX3_worked_91 : a_fetch 39 91 = some (.iconst 0, 92) := by decide +kernel
theorem fX3_worked_92 : a_fetch 39 92 = some (.goto 100, 95) := by decide +kernel
theorem fX3_worked_95 : a_fetch 39 95 = some (.iload 1, 96) := by decide +kernel
theorem fX3_worked_96 : a_fetch 39 96 = some (.iload 2, 97) := by decide +kernel
theorem fX3_worked_97 : a_fetch 39 97 = some (.invokestatic 293, 100) := by decide +kernel
theorem fX3_worked_100 : a_fetch 39 100 = some (.ireturn, 101) := by decide +kernel
theorem fX3_worked_101 : a_fetch 39 101 = some (.iload 1, 102) := by decide +kernel
theorem fX3_worked_102 : a_fetch 39 102 = some (.iload 2, 103) := by decide +kernel
theorem fX3_worked_103 : a_fetch 39 103 = some (.invokestatic 290, 106) := by decide +kernel
theorem fX3_worked_106 : a_fetch 39 106 = some (.ireturn, 107) := by decide +kernel
theorem fX3_worked_107 : a_fetch 39 107 = some (.iload 1, 108) := by decide +kernel
theorem fX3_worked_108 : a_fetch 39 108 = some (.iload 2, 109) := by decide +kernel
theorem fX3_worked_109 : a_fetch 39 109 = some (.invokestatic 289, 112) := by decide +kernel
theorem fX3_worked_112 : a_fetch 39 112 = some (.ireturn, 113) := by decide +kernel
theorem fX3_worked_113 : a_fetch 39 113 = some (.iload 1, 114) := by decide +kernel
theorem fX3_worked_114 : a_fetch 39 114 = some (.iload 2, 115) := by decide +kernel
theorem fX3_worked_115 : a_fetch 39 115 = some (.if_icmp .ge 122, 118) := by decide +kernel
theorem fX3_worked_118 : a_fetch 39 118 = some (.iconst 1, 119) := by decide +kernel
theorem fX3_worked_119 : a_fetch 39 119 = some (.goto 123, 122) := by decide +kernel
theorem fX3_worked_122 : a_fetch 39 122 = some (.iconst 0, 123) := by decide +kernel
theorem fX3_worked_123 : a_fetch 39 123 = some (.ireturn, 124) := by decide +kernel
theorem fX3_worked_124 : a_fetch 39 124 = some (.iload 1, 125) := by decide +kernel
theorem fX3_worked_125 : a_fetch 39 125 = some (.iload 2, 126) := by decide +kernel
theorem fX3_worked_126 : a_fetch 39 126 = some (.if_icmp .le 133, 129) := by decide +kernel
theorem fX3_worked_129 : a_fetch 39 129 = some (.iconst 1, 130) := by decide +kernel
theorem fX3_worked_130 : a_fetch 39 130 = some (.goto 134, 133) := by decide +kernel
theorem fX3_worked_133 : a_fetch 39 133 = some (.iconst 0, 134) := by decide +kernel
theorem fX3_worked_134 : a_fetch 39 134 = some (.ireturn, 135) := by decide +kernel
theorem fX3_worked_135 : a_fetch 39 135 = some (.iload 1, 136) := by decide +kernel
theorem fX3_worked_136 : a_fetch 39 136 = some (.iload 2, 137) := by decide +kernel
theorem fX3_worked_137 : a_fetch 39 137 = some (.if_icmp .ne 144, 140) := by decide +kernel
theorem fX3_worked_140 : a_fetch 39 140 = some (.iconst 1, 141) := by decide +kernel
theorem fX3_worked_141 : a_fetch 39 141 = some (.goto 145, 144) := by decide +kernel
theorem fX3_worked_144 : a_fetch 39 144 = some (.iconst 0, 145) := by decide +kernel
theorem fX3_worked_145 : a_fetch 39 145 = some (.ireturn, 146) := by decide +kernel
theorem fX3_worked_146 : a_fetch 39 146 = some (.iload 1, 147) := by decide +kernel
theorem fX3_worked_147 : a_fetch 39 147 = some (.iload 2, 148) := by decide +kernel
theorem fX3_worked_148 : a_fetch 39 148 = some (.iand, 149) := by decide +kernel
theorem fX3_worked_149 : a_fetch 39 149 = some (.ireturn, 150) := by decide +kernel
theorem fX3_worked_150 : a_fetch 39 150 = some (.iload 1, 151) := by decide +kernel
theorem fX3_worked_151 : a_fetch 39 151 = some (.iload 2, 152) := by decide +kernel
theorem fX3_worked_152 : a_fetch 39 152 = some (.ior, 153) := by decide +kernel
theorem fX3_worked_153 : a_fetch 39 153 = some (.ireturn, 154) := by decide +kernel
theorem fX3_worked_154 : a_fetch 39 154 = some (.iconst 0, 155) := by decide +kernel
theorem fX3_worked_155 : a_fetch 39 155 = some (.ireturn, 156) := by decide +kernel
theorem fX3_held_0 : a_fetch 40 0 = some (.jsr_w (-1000000), 3) := by decide +kernel
theorem fX3_held_3 : a_fetch 40 3 = some (.jsr_w 1000000, 6) := by decide +kernel
theorem fX3_held_6 : a_fetch 40 6 = some (.lload 0, 7) := by decide +kernel
theorem fX3_held_7 : a_fetch 40 7 = some (.invokestatic 292, 10) := by decide +kernel
theorem fX3_held_10 : a_fetch 40 10 = some (.invokestatic 291, 13) := by decide +kernel
theorem fX3_held_13 : a_fetch 40 13 = some (.l2i, 14) := by decide +kernel
theorem fX3_held_14 : a_fetch 40 14 = some (.ireturn, 15) := by decide +kernel
theorem fX4_init_0 : a_fetch 41 0 = some (.aload 0, 1) := by decide +kernel
theorem fX4_init_1 : a_fetch 41 1 = some (.monitorenter, 4) := by decide +kernel
theorem fX4_init_4 : a_fetch 41 4 = some (.aload 0, 5) := by decide +kernel
theorem fX4_init_5 : a_fetch 41 5 = some (.new 7, 8) := by decide +kernel
theorem fX4_init_8 : a_fetch 41 8 = some (.dup, 9) := by decide +kernel
theorem fX4_init_9 : a_fetch 41 9 = some (.iconst 10, 11) := by decide +kernel
theorem fX4_init_11 : a_fetch 41 11 = some (.invokespecial 94, 14) := by decide +kernel
theorem fX4_init_14 : a_fetch 41 14 = some (.multianewarray 4 1, 17) := by decide +kernel
theorem fX4_init_17 : a_fetch 41 17 = some (.aload 0, 18) := by decide +kernel
theorem fX4_init_18 : a_fetch 41 18 = some (.new 7, 21) := by decide +kernel
theorem fX4_init_21 : a_fetch 41 21 = some (.dup, 22) := by decide +kernel
theorem fX4_init_22 : a_fetch 41 22 = some (.iconst 10, 24) := by decide +kernel
theorem fX4_init_24 : a_fetch 41 24 = some (.invokespecial 94, 27) := by decide +kernel
theorem fX4_init_27 : a_fetch 41 27 = some (.multianewarray 4 2, 30) := by decide +kernel
theorem fX4_init_30 : a_fetch 41 30 = some (.aload 0, 31) := by decide +kernel
theorem fX4_init_31 : a_fetch 41 31 = some (.new 7, 34) := by decide +kernel
theorem fX4_init_34 : a_fetch 41 34 = some (.dup, 35) := by decide +kernel
theorem fX4_init_35 : a_fetch 41 35 = some (.iconst 100, 37) := by decide +kernel
theorem fX4_init_37 : a_fetch 41 37 = some (.invokespecial 94, 40) := by decide +kernel
theorem fX4_init_40 : a_fetch 41 40 = some (.multianewarray 4 3, 43) := by decide +kernel
theorem fX4_init_43 : a_fetch 41 43 = some (.aload 0, 44) := by decide +kernel
theorem fX4_init_44 : a_fetch 41 44 = some (.new 7, 47) := by decide +kernel
theorem fX4_init_47 : a_fetch 41 47 = some (.dup, 48) := by decide +kernel
theorem fX4_init_48 : a_fetch 41 48 = some (.iconst 160, 51) := by decide +kernel
theorem fX4_init_51 : a_fetch 41 51 = some (.invokespecial 94, 54) := by decide +kernel
theorem fX4_init_54 : a_fetch 41 54 = some (.multianewarray 4 4, 57) := by decide +kernel
theorem fX4_init_57 : a_fetch 41 57 = some (.return_, 58) := by decide +kernel
theorem fX4_begin_0 : a_fetch 42 0 = some (.aload 1, 1) := by decide +kernel
theorem fX4_begin_1 : a_fetch 42 1 = some (.invokeinterface 1 0, 4) := by decide +kernel
theorem fX4_begin_4 : a_fetch 42 4 = some (.invokevirtual 95, 7) := by decide +kernel
theorem fX4_begin_7 : a_fetch 42 7 = some (.istore 2, 8) := by decide +kernel
theorem fX4_begin_8 : a_fetch 42 8 = some (.aload 0, 9) := by decide +kernel
theorem fX4_begin_9 : a_fetch 42 9 = some (.iconst 0, 10) := by decide +kernel
theorem fX4_begin_10 : a_fetch 42 10 = some (.multianewarray 4 0, 13) := by decide +kernel
theorem fX4_begin_13 : a_fetch 42 13 = some (.aload 0, 14) := by decide +kernel
theorem fX4_begin_14 : a_fetch 42 14 = some (.iload 2, 15) := by decide +kernel
theorem fX4_begin_15 : a_fetch 42 15 = some (.invokevirtual 43, 18) := by decide +kernel
theorem fX4_begin_18 : a_fetch 42 18 = some (.aload 0, 19) := by decide +kernel
theorem fX4_begin_19 : a_fetch 42 19 = some (.invokeinterface 4 2, 22) := by decide +kernel
theorem fX4_begin_22 : a_fetch 42 22 = some (.iload 2, 23) := by decide +kernel
theorem fX4_begin_23 : a_fetch 42 23 = some (.iconst (-1), 24) := by decide +kernel
theorem fX4_begin_24 : a_fetch 42 24 = some (.invokevirtual 101, 27) := by decide +kernel
theorem fX4_begin_27 : a_fetch 42 27 = some (.aload 0, 28) := by decide +kernel
theorem fX4_begin_28 : a_fetch 42 28 = some (.invokeinterface 4 3, 31) := by decide +kernel
theorem fX4_begin_31 : a_fetch 42 31 = some (.aload 1, 32) := by decide +kernel
theorem fX4_begin_32 : a_fetch 42 32 = some (.invokeinterface 1 4, 35) := by decide +kernel
theorem fX4_begin_35 : a_fetch 42 35 = some (.invokevirtual 102, 38) := by decide +kernel
theorem fX4_begin_38 : a_fetch 42 38 = some (.aload 0, 39) := by decide +kernel
theorem fX4_begin_39 : a_fetch 42 39 = some (.invokeinterface 4 4, 42) := by decide +kernel
theorem fX4_begin_42 : a_fetch 42 42 = some (.iconst 160, 45) := by decide +kernel
theorem fX4_begin_45 : a_fetch 42 45 = some (.iconst (-1), 46) := by decide +kernel
theorem fX4_begin_46 : a_fetch 42 46 = some (.invokevirtual 101, 49) := by decide +kernel
theorem fX4_begin_49 : a_fetch 42 49 = some (.aload 0, 50) := by decide +kernel
theorem fX4_begin_50 : a_fetch 42 50 = some (.iconst 0, 51) := by decide +kernel
theorem fX4_begin_51 : a_fetch 42 51 = some (.multianewarray 4 5, 54) := by decide +kernel
theorem fX4_begin_54 : a_fetch 42 54 = some (.return_, 55) := by decide +kernel
theorem fX4_goHome_0 : a_fetch 43 0 = some (.aload 0, 1) := by decide +kernel
theorem fX4_goHome_1 : a_fetch 43 1 = some (.invokeinterface 4 1, 4) := by decide +kernel
theorem fX4_goHome_4 : a_fetch 43 4 = some (.iload 1, 5) := by decide +kernel
theorem fX4_goHome_5 : a_fetch 43 5 = some (.iconst 0, 6) := by decide +kernel
theorem fX4_goHome_6 : a_fetch 43 6 = some (.invokevirtual 101, 9) := by decide +kernel
theorem fX4_goHome_9 : a_fetch 43 9 = some (.iconst 0, 10) := by decide +kernel
theorem fX4_goHome_10 : a_fetch 43 10 = some (.istore 2, 11) := by decide +kernel
theorem fX4_goHome_11 : a_fetch 43 11 = some (.iload 2, 12) := by decide +kernel
theorem fX4_goHome_12 : a_fetch 43 12 = some (.iload 1, 13) := by decide +kernel
theorem fX4_goHome_13 : a_fetch 43 13 = some (.if_icmp .ge 31, 16) := by decide +kernel
theorem fX4_goHome_16 : a_fetch 43 16 = some (.aload 0, 17) := by decide +kernel
theorem fX4_goHome_17 : a_fetch 43 17 = some (.invokeinterface 4 1, 20) := by decide +kernel
theorem fX4_goHome_20 : a_fetch 43 20 = some (.iload 2, 21) := by decide +kernel
theorem fX4_goHome_21 : a_fetch 43 21 = some (.iload 2, 22) := by decide +kernel
theorem fX4_goHome_22 : a_fetch 43 22 = some (.invokevirtual 97, 25) := by decide +kernel
theorem fX4_goHome_25 : a_fetch 43 25 = some (.iinc 2 1, 28) := by decide +kernel
theorem fX4_goHome_28 : a_fetch 43 28 = some (.goto 11, 31) := by decide +kernel
theorem fX4_goHome_31 : a_fetch 43 31 = some (.return_, 32) := by decide +kernel
theorem fX4_copy_0 : a_fetch 44 0 = some (.aload 0, 1) := by decide +kernel
theorem fX4_copy_1 : a_fetch 44 1 = some (.aload 1, 2) := by decide +kernel
theorem fX4_copy_2 : a_fetch 44 2 = some (.invokeinterface 4 0, 5) := by decide +kernel
theorem fX4_copy_5 : a_fetch 44 5 = some (.multianewarray 4 0, 8) := by decide +kernel
theorem fX4_copy_8 : a_fetch 44 8 = some (.aload 0, 9) := by decide +kernel
theorem fX4_copy_9 : a_fetch 44 9 = some (.invokeinterface 4 1, 12) := by decide +kernel
theorem fX4_copy_12 : a_fetch 44 12 = some (.aload 1, 13) := by decide +kernel
theorem fX4_copy_13 : a_fetch 44 13 = some (.invokeinterface 4 1, 16) := by decide +kernel
theorem fX4_copy_16 : a_fetch 44 16 = some (.invokevirtual 102, 19) := by decide +kernel
theorem fX4_copy_19 : a_fetch 44 19 = some (.aload 0, 20) := by decide +kernel
theorem fX4_copy_20 : a_fetch 44 20 = some (.invokeinterface 4 2, 23) := by decide +kernel
theorem fX4_copy_23 : a_fetch 44 23 = some (.aload 1, 24) := by decide +kernel
theorem fX4_copy_24 : a_fetch 44 24 = some (.invokeinterface 4 2, 27) := by decide +kernel
theorem fX4_copy_27 : a_fetch 44 27 = some (.invokevirtual 102, 30) := by decide +kernel
theorem fX4_copy_30 : a_fetch 44 30 = some (.aload 0, 31) := by decide +kernel
theorem fX4_copy_31 : a_fetch 44 31 = some (.invokeinterface 4 3, 34) := by decide +kernel
theorem fX4_copy_34 : a_fetch 44 34 = some (.aload 1, 35) := by decide +kernel
theorem fX4_copy_35 : a_fetch 44 35 = some (.invokeinterface 4 3, 38) := by decide +kernel
theorem fX4_copy_38 : a_fetch 44 38 = some (.invokevirtual 102, 41) := by decide +kernel
theorem fX4_copy_41 : a_fetch 44 41 = some (.aload 0, 42) := by decide +kernel
theorem fX4_copy_42 : a_fetch 44 42 = some (.invokeinterface 4 4, 45) := by decide +kernel
theorem fX4_copy_45 : a_fetch 44 45 = some (.aload 1, 46) := by decide +kernel
theorem fX4_copy_46 : a_fetch 44 46 = some (.invokeinterface 4 4, 49) := by decide +kernel
theorem fX4_copy_49 : a_fetch 44 49 = some (.invokevirtual 102, 52) := by decide +kernel
theorem fX4_copy_52 : a_fetch 44 52 = some (.aload 0, 53) := by decide +kernel
theorem fX4_copy_53 : a_fetch 44 53 = some (.aload 1, 54) := by decide +kernel
theorem fX4_copy_54 : a_fetch 44 54 = some (.invokeinterface 4 5, 57) := by decide +kernel
theorem fX4_copy_57 : a_fetch 44 57 = some (.multianewarray 4 5, 60) := by decide +kernel
theorem fX4_copy_60 : a_fetch 44 60 = some (.return_, 61) := by decide +kernel
theorem fX4_pointsOf_0 : a_fetch 45 0 = some (.aload 0, 1) := by decide +kernel
theorem fX4_pointsOf_1 : a_fetch 45 1 = some (.invokeinterface 4 3, 4) := by decide +kernel
theorem fX4_pointsOf_4 : a_fetch 45 4 = some (.iload 1, 5) := by decide +kernel
theorem fX4_pointsOf_5 : a_fetch 45 5 = some (.iconst 10, 7) := by decide +kernel
theorem fX4_pointsOf_7 : a_fetch 45 7 = some (.imul, 8) := by decide +kernel
theorem fX4_pointsOf_8 : a_fetch 45 8 = some (.iload 2, 9) := by decide +kernel
theorem fX4_pointsOf_9 : a_fetch 45 9 = some (.iadd, 10) := by decide +kernel
theorem fX4_pointsOf_10 : a_fetch 45 10 = some (.invokevirtual 96, 13) := by decide +kernel
theorem fX4_pointsOf_13 : a_fetch 45 13 = some (.ireturn, 14) := by decide +kernel
theorem fX4_setPoints_0 : a_fetch 46 0 = some (.aload 0, 1) := by decide +kernel
theorem fX4_setPoints_1 : a_fetch 46 1 = some (.invokeinterface 4 3, 4) := by decide +kernel
theorem fX4_setPoints_4 : a_fetch 46 4 = some (.iload 1, 5) := by decide +kernel
theorem fX4_setPoints_5 : a_fetch 46 5 = some (.iconst 10, 7) := by decide +kernel
theorem fX4_setPoints_7 : a_fetch 46 7 = some (.imul, 8) := by decide +kernel
theorem fX4_setPoints_8 : a_fetch 46 8 = some (.iload 2, 9) := by decide +kernel
theorem fX4_setPoints_9 : a_fetch 46 9 = some (.iadd, 10) := by decide +kernel
theorem fX4_setPoints_10 : a_fetch 46 10 = some (.iconst 0, 11) := by decide +kernel
theorem fX4_setPoints_11 : a_fetch 46 11 = some (.iconst 99, 13) := by decide +kernel
theorem fX4_setPoints_13 : a_fetch 46 13 = some (.iload 3, 14) := by decide +kernel
theorem fX4_setPoints_14 : a_fetch 46 14 = some (.invokestatic 290, 17) := by decide +kernel
theorem fX4_setPoints_17 : a_fetch 46 17 = some (.invokestatic 289, 20) := by decide +kernel
theorem fX4_setPoints_20 : a_fetch 46 20 = some (.invokevirtual 97, 23) := by decide +kernel
theorem fX4_setPoints_23 : a_fetch 46 23 = some (.return_, 24) := by decide +kernel
theorem fX4_keep_0 : a_fetch 47 0 = some (.aload 0, 1) := by decide +kernel
theorem fX4_keep_1 : a_fetch 47 1 = some (.invokeinterface 4 5, 4) := by decide +kernel
theorem fX4_keep_4 : a_fetch 47 4 = some (.iconst 40, 6) := by decide +kernel
theorem fX4_keep_6 : a_fetch 47 6 = some (.irem, 7) := by decide +kernel
theorem fX4_keep_7 : a_fetch 47 7 = some (.iconst 4, 8) := by decide +kernel
theorem fX4_keep_8 : a_fetch 47 8 = some (.imul, 9) := by decide +kernel
theorem fX4_keep_9 : a_fetch 47 9 = some (.istore 4, 11) := by decide +kernel
theorem fX4_keep_11 : a_fetch 47 11 = some (.aload 0, 12) := by decide +kernel
theorem fX4_keep_12 : a_fetch 47 12 = some (.invokeinterface 4 4, 15) := by decide +kernel
theorem fX4_keep_15 : a_fetch 47 15 = some (.iload 4, 17) := by decide +kernel
theorem fX4_keep_17 : a_fetch 47 17 = some (.aload 0, 18) := by decide +kernel
theorem fX4_keep_18 : a_fetch 47 18 = some (.invokeinterface 4 0, 21) := by decide +kernel
theorem fX4_keep_21 : a_fetch 47 21 = some (.invokevirtual 97, 24) := by decide +kernel
theorem fX4_keep_24 : a_fetch 47 24 = some (.aload 0, 25) := by decide +kernel
theorem fX4_keep_25 : a_fetch 47 25 = some (.invokeinterface 4 4, 28) := by decide +kernel
theorem fX4_keep_28 : a_fetch 47 28 = some (.iload 4, 30) := by decide +kernel
theorem fX4_keep_30 : a_fetch 47 30 = some (.iconst 1, 31) := by decide +kernel
theorem fX4_keep_31 : a_fetch 47 31 = some (.iadd, 32) := by decide +kernel
theorem fX4_keep_32 : a_fetch 47 32 = some (.iload 1, 33) := by decide +kernel
theorem fX4_keep_33 : a_fetch 47 33 = some (.invokevirtual 97, 36) := by decide +kernel
theorem fX4_keep_36 : a_fetch 47 36 = some (.aload 0, 37) := by decide +kernel
theorem fX4_keep_37 : a_fetch 47 37 = some (.invokeinterface 4 4, 40) := by decide +kernel
theorem fX4_keep_40 : a_fetch 47 40 = some (.iload 4, 42) := by decide +kernel
theorem fX4_keep_42 : a_fetch 47 42 = some (.iconst 2, 43) := by decide +kernel
theorem fX4_keep_43 : a_fetch 47 43 = some (.iadd, 44) := by decide +kernel
theorem fX4_keep_44 : a_fetch 47 44 = some (.iload 2, 45) := by decide +kernel
theorem fX4_keep_45 : a_fetch 47 45 = some (.invokevirtual 97, 48) := by decide +kernel
theorem fX4_keep_48 : a_fetch 47 48 = some (.aload 0, 49) := by decide +kernel
theorem fX4_keep_49 : a_fetch 47 49 = some (.invokeinterface 4 4, 52) := by decide +kernel
theorem fX4_keep_52 : a_fetch 47 52 = some (.iload 4, 54) := by decide +kernel
theorem fX4_keep_54 : a_fetch 47 54 = some (.iconst 3, 55) := by decide +kernel
theorem fX4_keep_55 : a_fetch 47 55 = some (.iadd, 56) := by decide +kernel
theorem fX4_keep_56 : a_fetch 47 56 = some (.iload 3, 57) := by decide +kernel
theorem fX4_keep_57 : a_fetch 47 57 = some (.invokevirtual 97, 60) := by decide +kernel
theorem fX4_keep_60 : a_fetch 47 60 = some (.aload 0, 61) := by decide +kernel
theorem fX4_keep_61 : a_fetch 47 61 = some (.dup, 62) := by decide +kernel
theorem fX4_keep_62 : a_fetch 47 62 = some (.invokeinterface 4 5, 65) := by decide +kernel
theorem fX4_keep_65 : a_fetch 47 65 = some (.iconst 1, 66) := by decide +kernel
theorem fX4_keep_66 : a_fetch 47 66 = some (.iadd, 67) := by decide +kernel
theorem fX4_keep_67 : a_fetch 47 67 = some (.multianewarray 4 5, 70) := by decide +kernel
theorem fX4_keep_70 : a_fetch 47 70 = some (.return_, 71) := by decide +kernel
theorem fX4_keptCount_0 : a_fetch 48 0 = some (.aload 0, 1) := by decide +kernel
theorem fX4_keptCount_1 : a_fetch 48 1 = some (.invokeinterface 4 5, 4) := by decide +kernel
theorem fX4_keptCount_4 : a_fetch 48 4 = some (.iconst 40, 6) := by decide +kernel
theorem fX4_keptCount_6 : a_fetch 48 6 = some (.invokestatic 290, 9) := by decide +kernel
theorem fX4_keptCount_9 : a_fetch 48 9 = some (.ireturn, 10) := by decide +kernel
theorem fX4_keptPart_0 : a_fetch 49 0 = some (.iload 1, 1) := by decide +kernel
theorem fX4_keptPart_1 : a_fetch 49 1 = some (.ifCond .lt 21, 4) := by decide +kernel
theorem fX4_keptPart_4 : a_fetch 49 4 = some (.iload 1, 5) := by decide +kernel
theorem fX4_keptPart_5 : a_fetch 49 5 = some (.aload 0, 6) := by decide +kernel
theorem fX4_keptPart_6 : a_fetch 49 6 = some (.invokevirtual 48, 9) := by decide +kernel
theorem fX4_keptPart_9 : a_fetch 49 9 = some (.if_icmp .ge 21, 12) := by decide +kernel
theorem fX4_keptPart_12 : a_fetch 49 12 = some (.iload 2, 13) := by decide +kernel
theorem fX4_keptPart_13 : a_fetch 49 13 = some (.ifCond .lt 21, 16) := by decide +kernel
theorem fX4_keptPart_16 : a_fetch 49 16 = some (.iload 2, 17) := by decide +kernel
theorem fX4_keptPart_17 : a_fetch 49 17 = some (.iconst 4, 18) := by decide +kernel
theorem fX4_keptPart_18 : a_fetch 49 18 = some (.if_icmp .lt 23, 21) := by decide +kernel
theorem fX4_keptPart_21 : a_fetch 49 21 = some (.iconst (-1), 22) := by decide +kernel
theorem fX4_keptPart_22 : a_fetch 49 22 = some (.ireturn, 23) := by decide +kernel
theorem fX4_keptPart_23 : a_fetch 49 23 = some (.aload 0, 24) := by decide +kernel
theorem fX4_keptPart_24 : a_fetch 49 24 = some (.invokeinterface 4 5, 27) := by decide +kernel
theorem fX4_keptPart_27 : a_fetch 49 27 = some (.aload 0, 28) := by decide +kernel
theorem fX4_keptPart_28 : a_fetch 49 28 = some (.invokevirtual 48, 31) := by decide +kernel
theorem fX4_keptPart_31 : a_fetch 49 31 = some (.isub, 32) := by decide +kernel
theorem fX4_keptPart_32 : a_fetch 49 32 = some (.istore 3, 33) := by decide +kernel
theorem fX4_keptPart_33 : a_fetch 49 33 = some (.aload 0, 34) := by decide +kernel
theorem fX4_keptPart_34 : a_fetch 49 34 = some (.invokeinterface 4 4, 37) := by decide +kernel
theorem fX4_keptPart_37 : a_fetch 49 37 = some (.iload 3, 38) := by decide +kernel
theorem fX4_keptPart_38 : a_fetch 49 38 = some (.iload 1, 39) := by decide +kernel
theorem fX4_keptPart_39 : a_fetch 49 39 = some (.iadd, 40) := by decide +kernel
theorem fX4_keptPart_40 : a_fetch 49 40 = some (.iconst 40, 42) := by decide +kernel
theorem fX4_keptPart_42 : a_fetch 49 42 = some (.irem, 43) := by decide +kernel
theorem fX4_keptPart_43 : a_fetch 49 43 = some (.iconst 4, 44) := by decide +kernel
theorem fX4_keptPart_44 : a_fetch 49 44 = some (.imul, 45) := by decide +kernel
theorem fX4_keptPart_45 : a_fetch 49 45 = some (.iload 2, 46) := by decide +kernel
theorem fX4_keptPart_46 : a_fetch 49 46 = some (.iadd, 47) := by decide +kernel
theorem fX4_keptPart_47 : a_fetch 49 47 = some (.invokevirtual 96, 50) := by decide +kernel
theorem fX4_keptPart_50 : a_fetch 49 50 = some (.ireturn, 51) := by decide +kernel
theorem fX5_init_0 : a_fetch 50 0 = some (.aload 0, 1) := by decide +kernel
theorem fX5_init_1 : a_fetch 50 1 = some (.monitorenter, 4) := by decide +kernel
theorem fX5_init_4 : a_fetch 50 4 = some (.aload 0, 5) := by decide +kernel
theorem fX5_init_5 : a_fetch 50 5 = some (.iconst 20, 7) := by decide +kernel
theorem fX5_init_7 : a_fetch 50 7 = some (.anewarray 4, 10) := by decide +kernel
theorem fX5_init_10 : a_fetch 50 10 = some (.multianewarray 5 0, 13) := by decide +kernel
theorem fX5_init_13 : a_fetch 50 13 = some (.iconst 0, 14) := by decide +kernel
theorem fX5_init_14 : a_fetch 50 14 = some (.istore 1, 15) := by decide +kernel
theorem fX5_init_15 : a_fetch 50 15 = some (.iload 1, 16) := by decide +kernel
theorem fX5_init_16 : a_fetch 50 16 = some (.aload 0, 17) := by decide +kernel
theorem fX5_init_17 : a_fetch 50 17 = some (.invokeinterface 5 0, 20) := by decide +kernel
theorem fX5_init_20 : a_fetch 50 20 = some (.arraylength, 21) := by decide +kernel
theorem fX5_init_21 : a_fetch 50 21 = some (.if_icmp .ge 43, 24) := by decide +kernel
theorem fX5_init_24 : a_fetch 50 24 = some (.aload 0, 25) := by decide +kernel
theorem fX5_init_25 : a_fetch 50 25 = some (.invokeinterface 5 0, 28) := by decide +kernel
theorem fX5_init_28 : a_fetch 50 28 = some (.iload 1, 29) := by decide +kernel
theorem fX5_init_29 : a_fetch 50 29 = some (.new 4, 32) := by decide +kernel
theorem fX5_init_32 : a_fetch 50 32 = some (.dup, 33) := by decide +kernel
theorem fX5_init_33 : a_fetch 50 33 = some (.invokespecial 41, 36) := by decide +kernel
theorem fX5_init_36 : a_fetch 50 36 = some (.aastore, 37) := by decide +kernel
theorem fX5_init_37 : a_fetch 50 37 = some (.iinc 1 1, 40) := by decide +kernel
theorem fX5_init_40 : a_fetch 50 40 = some (.goto 15, 43) := by decide +kernel
theorem fX5_init_43 : a_fetch 50 43 = some (.return_, 44) := by decide +kernel
theorem fX5_size_0 : a_fetch 51 0 = some (.aload 0, 1) := by decide +kernel
theorem fX5_size_1 : a_fetch 51 1 = some (.invokeinterface 5 1, 4) := by decide +kernel
theorem fX5_size_4 : a_fetch 51 4 = some (.ireturn, 5) := by decide +kernel
theorem fX5_clear_0 : a_fetch 52 0 = some (.aload 0, 1) := by decide +kernel
theorem fX5_clear_1 : a_fetch 52 1 = some (.iconst 0, 2) := by decide +kernel
theorem fX5_clear_2 : a_fetch 52 2 = some (.multianewarray 5 1, 5) := by decide +kernel
theorem fX5_clear_5 : a_fetch 52 5 = some (.return_, 6) := by decide +kernel
theorem fX5_remember_0 : a_fetch 53 0 = some (.aload 0, 1) := by decide +kernel
theorem fX5_remember_1 : a_fetch 53 1 = some (.aload 0, 2) := by decide +kernel
theorem fX5_remember_2 : a_fetch 53 2 = some (.invokeinterface 5 2, 5) := by decide +kernel
theorem fX5_remember_5 : a_fetch 53 5 = some (.invokevirtual 55, 8) := by decide +kernel
theorem fX5_remember_8 : a_fetch 53 8 = some (.astore 2, 9) := by decide +kernel
theorem fX5_remember_9 : a_fetch 53 9 = some (.aload 2, 10) := by decide +kernel
theorem fX5_remember_10 : a_fetch 53 10 = some (.ifnonnull 14, 13) := by decide +kernel
theorem fX5_remember_13 : a_fetch 53 13 = some (.return_, 14) := by decide +kernel
theorem fX5_remember_14 : a_fetch 53 14 = some (.aload 2, 15) := by decide +kernel
theorem fX5_remember_15 : a_fetch 53 15 = some (.aload 1, 16) := by decide +kernel
theorem fX5_remember_16 : a_fetch 53 16 = some (.invokevirtual 44, 19) := by decide +kernel
theorem fX5_remember_19 : a_fetch 53 19 = some (.aload 0, 20) := by decide +kernel
theorem fX5_remember_20 : a_fetch 53 20 = some (.aload 0, 21) := by decide +kernel
theorem fX5_remember_21 : a_fetch 53 21 = some (.invokeinterface 5 2, 24) := by decide +kernel
theorem fX5_remember_24 : a_fetch 53 24 = some (.iconst 1, 25) := by decide +kernel
theorem fX5_remember_25 : a_fetch 53 25 = some (.iadd, 26) := by decide +kernel
theorem fX5_remember_26 : a_fetch 53 26 = some (.iconst 20, 28) := by decide +kernel
theorem fX5_remember_28 : a_fetch 53 28 = some (.irem, 29) := by decide +kernel
theorem fX5_remember_29 : a_fetch 53 29 = some (.multianewarray 5 2, 32) := by decide +kernel
theorem fX5_remember_32 : a_fetch 53 32 = some (.aload 0, 33) := by decide +kernel
theorem fX5_remember_33 : a_fetch 53 33 = some (.aload 0, 34) := by decide +kernel
theorem fX5_remember_34 : a_fetch 53 34 = some (.invokeinterface 5 1, 37) := by decide +kernel
theorem fX5_remember_37 : a_fetch 53 37 = some (.iconst 1, 38) := by decide +kernel
theorem fX5_remember_38 : a_fetch 53 38 = some (.iadd, 39) := by decide +kernel
theorem fX5_remember_39 : a_fetch 53 39 = some (.iconst 20, 41) := by decide +kernel
theorem fX5_remember_41 : a_fetch 53 41 = some (.invokestatic 290, 44) := by decide +kernel
theorem fX5_remember_44 : a_fetch 53 44 = some (.multianewarray 5 1, 47) := by decide +kernel
theorem fX5_remember_47 : a_fetch 53 47 = some (.return_, 48) := by decide +kernel
theorem fX5_recall_0 : a_fetch 54 0 = some (.aload 0, 1) := by decide +kernel
theorem fX5_recall_1 : a_fetch 54 1 = some (.aload 0, 2) := by decide +kernel
theorem fX5_recall_2 : a_fetch 54 2 = some (.invokeinterface 5 2, 5) := by decide +kernel
theorem fX5_recall_5 : a_fetch 54 5 = some (.iconst 1, 6) := by decide +kernel
theorem fX5_recall_6 : a_fetch 54 6 = some (.isub, 7) := by decide +kernel
theorem fX5_recall_7 : a_fetch 54 7 = some (.iconst 20, 9) := by decide +kernel
theorem fX5_recall_9 : a_fetch 54 9 = some (.invokestatic 294, 12) := by decide +kernel
theorem fX5_recall_12 : a_fetch 54 12 = some (.invokevirtual 55, 15) := by decide +kernel
theorem fX5_recall_15 : a_fetch 54 15 = some (.astore 2, 16) := by decide +kernel
theorem fX5_recall_16 : a_fetch 54 16 = some (.aload 0, 17) := by decide +kernel
theorem fX5_recall_17 : a_fetch 54 17 = some (.invokeinterface 5 1, 20) := by decide +kernel
theorem fX5_recall_20 : a_fetch 54 20 = some (.ifCond .eq 27, 23) := by decide +kernel
theorem fX5_recall_23 : a_fetch 54 23 = some (.aload 2, 24) := by decide +kernel
theorem fX5_recall_24 : a_fetch 54 24 = some (.ifnonnull 29, 27) := by decide +kernel
theorem fX5_recall_27 : a_fetch 54 27 = some (.iconst 0, 28) := by decide +kernel
theorem fX5_recall_28 : a_fetch 54 28 = some (.ireturn, 29) := by decide +kernel
theorem fX5_recall_29 : a_fetch 54 29 = some (.aload 1, 30) := by decide +kernel
theorem fX5_recall_30 : a_fetch 54 30 = some (.aload 2, 31) := by decide +kernel
theorem fX5_recall_31 : a_fetch 54 31 = some (.invokevirtual 44, 34) := by decide +kernel
theorem fX5_recall_34 : a_fetch 54 34 = some (.aload 0, 35) := by decide +kernel
theorem fX5_recall_35 : a_fetch 54 35 = some (.aload 0, 36) := by decide +kernel
theorem fX5_recall_36 : a_fetch 54 36 = some (.invokeinterface 5 2, 39) := by decide +kernel
theorem fX5_recall_39 : a_fetch 54 39 = some (.iconst 1, 40) := by decide +kernel
theorem fX5_recall_40 : a_fetch 54 40 = some (.isub, 41) := by decide +kernel
theorem fX5_recall_41 : a_fetch 54 41 = some (.iconst 20, 43) := by decide +kernel
theorem fX5_recall_43 : a_fetch 54 43 = some (.invokestatic 294, 46) := by decide +kernel
theorem fX5_recall_46 : a_fetch 54 46 = some (.multianewarray 5 2, 49) := by decide +kernel
theorem fX5_recall_49 : a_fetch 54 49 = some (.aload 0, 50) := by decide +kernel
theorem fX5_recall_50 : a_fetch 54 50 = some (.dup, 51) := by decide +kernel
theorem fX5_recall_51 : a_fetch 54 51 = some (.invokeinterface 5 1, 54) := by decide +kernel
theorem fX5_recall_54 : a_fetch 54 54 = some (.iconst 1, 55) := by decide +kernel
theorem fX5_recall_55 : a_fetch 54 55 = some (.isub, 56) := by decide +kernel
theorem fX5_recall_56 : a_fetch 54 56 = some (.multianewarray 5 1, 59) := by decide +kernel
theorem fX5_recall_59 : a_fetch 54 59 = some (.iconst 1, 60) := by decide +kernel
theorem fX5_recall_60 : a_fetch 54 60 = some (.ireturn, 61) := by decide +kernel
theorem fX5_slot_0 : a_fetch 55 0 = some (.iload 1, 1) := by decide +kernel
theorem fX5_slot_1 : a_fetch 55 1 = some (.ifCond .lt 22, 4) := by decide +kernel
theorem fX5_slot_4 : a_fetch 55 4 = some (.iload 1, 5) := by decide +kernel
theorem fX5_slot_5 : a_fetch 55 5 = some (.aload 0, 6) := by decide +kernel
theorem fX5_slot_6 : a_fetch 55 6 = some (.invokeinterface 5 0, 9) := by decide +kernel
theorem fX5_slot_9 : a_fetch 55 9 = some (.arraylength, 10) := by decide +kernel
theorem fX5_slot_10 : a_fetch 55 10 = some (.if_icmp .ge 22, 13) := by decide +kernel
theorem fX5_slot_13 : a_fetch 55 13 = some (.aload 0, 14) := by decide +kernel
theorem fX5_slot_14 : a_fetch 55 14 = some (.invokeinterface 5 0, 17) := by decide +kernel
theorem fX5_slot_17 : a_fetch 55 17 = some (.iload 1, 18) := by decide +kernel
theorem fX5_slot_18 : a_fetch 55 18 = some (.aaload, 19) := by decide +kernel
theorem fX5_slot_19 : a_fetch 55 19 = some (.goto 23, 22) := by decide +kernel
theorem fX5_slot_22 : a_fetch 55 22 = some (.aconst_null, 23) := by decide +kernel
theorem fX5_slot_23 : a_fetch 55 23 = some (.areturn, 24) := by decide +kernel
theorem fX6_init_0 : a_fetch 56 0 = some (.aload 0, 1) := by decide +kernel
theorem fX6_init_1 : a_fetch 56 1 = some (.monitorenter, 4) := by decide +kernel
theorem fX6_init_4 : a_fetch 56 4 = some (.aload 0, 5) := by decide +kernel
theorem fX6_init_5 : a_fetch 56 5 = some (.new 7, 8) := by decide +kernel
theorem fX6_init_8 : a_fetch 56 8 = some (.dup, 9) := by decide +kernel
theorem fX6_init_9 : a_fetch 56 9 = some (.iconst 1601, 12) := by decide +kernel
theorem fX6_init_12 : a_fetch 56 12 = some (.invokespecial 94, 15) := by decide +kernel
theorem fX6_init_15 : a_fetch 56 15 = some (.multianewarray 6 0, 18) := by decide +kernel
theorem fX6_init_18 : a_fetch 56 18 = some (.aload 0, 19) := by decide +kernel
theorem fX6_init_19 : a_fetch 56 19 = some (.new 7, 22) := by decide +kernel
theorem fX6_init_22 : a_fetch 56 22 = some (.dup, 23) := by decide +kernel
theorem fX6_init_23 : a_fetch 56 23 = some (.iconst 1601, 26) := by decide +kernel
theorem fX6_init_26 : a_fetch 56 26 = some (.invokespecial 94, 29) := by decide +kernel
theorem fX6_init_29 : a_fetch 56 29 = some (.multianewarray 6 1, 32) := by decide +kernel
theorem fX6_init_32 : a_fetch 56 32 = some (.aload 0, 33) := by decide +kernel
theorem fX6_init_33 : a_fetch 56 33 = some (.new 7, 36) := by decide +kernel
theorem fX6_init_36 : a_fetch 56 36 = some (.dup, 37) := by decide +kernel
theorem fX6_init_37 : a_fetch 56 37 = some (.iconst 1601, 40) := by decide +kernel
theorem fX6_init_40 : a_fetch 56 40 = some (.invokespecial 94, 43) := by decide +kernel
theorem fX6_init_43 : a_fetch 56 43 = some (.multianewarray 6 2, 46) := by decide +kernel
theorem fX6_init_46 : a_fetch 56 46 = some (.aload 0, 47) := by decide +kernel
theorem fX6_init_47 : a_fetch 56 47 = some (.new 7, 50) := by decide +kernel
theorem fX6_init_50 : a_fetch 56 50 = some (.dup, 51) := by decide +kernel
theorem fX6_init_51 : a_fetch 56 51 = some (.iconst 1601, 54) := by decide +kernel
theorem fX6_init_54 : a_fetch 56 54 = some (.invokespecial 94, 57) := by decide +kernel
theorem fX6_init_57 : a_fetch 56 57 = some (.multianewarray 6 3, 60) := by decide +kernel
theorem fX6_init_60 : a_fetch 56 60 = some (.aload 0, 61) := by decide +kernel
theorem fX6_init_61 : a_fetch 56 61 = some (.new 7, 64) := by decide +kernel
theorem fX6_init_64 : a_fetch 56 64 = some (.dup, 65) := by decide +kernel
theorem fX6_init_65 : a_fetch 56 65 = some (.iconst 1601, 68) := by decide +kernel
theorem fX6_init_68 : a_fetch 56 68 = some (.invokespecial 94, 71) := by decide +kernel
theorem fX6_init_71 : a_fetch 56 71 = some (.multianewarray 6 4, 74) := by decide +kernel
theorem fX6_init_74 : a_fetch 56 74 = some (.aload 0, 75) := by decide +kernel
theorem fX6_init_75 : a_fetch 56 75 = some (.new 7, 78) := by decide +kernel
theorem fX6_init_78 : a_fetch 56 78 = some (.dup, 79) := by decide +kernel
theorem fX6_init_79 : a_fetch 56 79 = some (.iconst 33, 81) := by decide +kernel
theorem fX6_init_81 : a_fetch 56 81 = some (.invokespecial 94, 84) := by decide +kernel
theorem fX6_init_84 : a_fetch 56 84 = some (.multianewarray 6 5, 87) := by decide +kernel
theorem fX6_init_87 : a_fetch 56 87 = some (.aload 0, 88) := by decide +kernel
theorem fX6_init_88 : a_fetch 56 88 = some (.new 3, 91) := by decide +kernel
theorem fX6_init_91 : a_fetch 56 91 = some (.dup, 92) := by decide +kernel
theorem fX6_init_92 : a_fetch 56 92 = some (.invokespecial 33, 95) := by decide +kernel
theorem fX6_init_95 : a_fetch 56 95 = some (.multianewarray 6 7, 98) := by decide +kernel
theorem fX6_init_98 : a_fetch 56 98 = some (.aload 0, 99) := by decide +kernel
theorem fX6_init_99 : a_fetch 56 99 = some (.aload 0, 100) := by decide +kernel
theorem fX6_init_100 : a_fetch 56 100 = some (.invokeinterface 6 7, 103) := by decide +kernel
theorem fX6_init_103 : a_fetch 56 103 = some (.multianewarray 6 9, 106) := by decide +kernel
theorem fX6_init_106 : a_fetch 56 106 = some (.aload 0, 107) := by decide +kernel
theorem fX6_init_107 : a_fetch 56 107 = some (.iconst (-1), 108) := by decide +kernel
theorem fX6_init_108 : a_fetch 56 108 = some (.multianewarray 6 12, 111) := by decide +kernel
theorem fX6_init_111 : a_fetch 56 111 = some (.aload 0, 112) := by decide +kernel
theorem fX6_init_112 : a_fetch 56 112 = some (.ret 1, 114) := by decide +kernel
theorem fX6_init_114 : a_fetch 56 114 = some (.invokevirtual 57, 117) := by decide +kernel
theorem fX6_init_117 : a_fetch 56 117 = some (.aload 0, 118) := by decide +kernel
theorem fX6_init_118 : a_fetch 56 118 = some (.ret 2, 120) := by decide +kernel
theorem fX6_init_120 : a_fetch 56 120 = some (.invokevirtual 57, 123) := by decide +kernel
theorem fX6_init_123 : a_fetch 56 123 = some (.return_, 124) := by decide +kernel
theorem fX6_addWords_0 : a_fetch 57 0 = some (.iconst 0, 1) := by decide +kernel
theorem fX6_addWords_1 : a_fetch 57 1 = some (.istore 2, 2) := by decide +kernel
theorem fX6_addWords_2 : a_fetch 57 2 = some (.iconst 0, 3) := by decide +kernel
theorem fX6_addWords_3 : a_fetch 57 3 = some (.istore 3, 4) := by decide +kernel
theorem fX6_addWords_4 : a_fetch 57 4 = some (.iconst 0, 5) := by decide +kernel
theorem fX6_addWords_5 : a_fetch 57 5 = some (.istore 4, 7) := by decide +kernel
theorem fX6_addWords_7 : a_fetch 57 7 = some (.iload 4, 9) := by decide +kernel
theorem fX6_addWords_9 : a_fetch 57 9 = some (.aload 1, 10) := by decide +kernel
theorem fX6_addWords_10 : a_fetch 57 10 = some (.invokevirtual 296, 13) := by decide +kernel
theorem fX6_addWords_13 : a_fetch 57 13 = some (.if_icmp .ge 69, 16) := by decide +kernel
theorem fX6_addWords_16 : a_fetch 57 16 = some (.aload 1, 17) := by decide +kernel
theorem fX6_addWords_17 : a_fetch 57 17 = some (.iload 4, 19) := by decide +kernel
theorem fX6_addWords_19 : a_fetch 57 19 = some (.invokevirtual 297, 22) := by decide +kernel
theorem fX6_addWords_22 : a_fetch 57 22 = some (.iconst 32, 24) := by decide +kernel
theorem fX6_addWords_24 : a_fetch 57 24 = some (.if_icmp .ne 42, 27) := by decide +kernel
theorem fX6_addWords_27 : a_fetch 57 27 = some (.aload 0, 28) := by decide +kernel
theorem fX6_addWords_28 : a_fetch 57 28 = some (.invokeinterface 6 5, 31) := by decide +kernel
theorem fX6_addWords_31 : a_fetch 57 31 = some (.iload 2, 32) := by decide +kernel
theorem fX6_addWords_32 : a_fetch 57 32 = some (.invokevirtual 98, 35) := by decide +kernel
theorem fX6_addWords_35 : a_fetch 57 35 = some (.iconst 0, 36) := by decide +kernel
theorem fX6_addWords_36 : a_fetch 57 36 = some (.istore 2, 37) := by decide +kernel
theorem fX6_addWords_37 : a_fetch 57 37 = some (.iconst 0, 38) := by decide +kernel
theorem fX6_addWords_38 : a_fetch 57 38 = some (.istore 3, 39) := by decide +kernel
theorem fX6_addWords_39 : a_fetch 57 39 = some (.goto 63, 42) := by decide +kernel
theorem fX6_addWords_42 : a_fetch 57 42 = some (.iload 2, 43) := by decide +kernel
theorem fX6_addWords_43 : a_fetch 57 43 = some (.aload 1, 44) := by decide +kernel
theorem fX6_addWords_44 : a_fetch 57 44 = some (.iload 4, 46) := by decide +kernel
theorem fX6_addWords_46 : a_fetch 57 46 = some (.invokevirtual 297, 49) := by decide +kernel
theorem fX6_addWords_49 : a_fetch 57 49 = some (.iconst 97, 51) := by decide +kernel
theorem fX6_addWords_51 : a_fetch 57 51 = some (.isub, 52) := by decide +kernel
theorem fX6_addWords_52 : a_fetch 57 52 = some (.iconst 1, 53) := by decide +kernel
theorem fX6_addWords_53 : a_fetch 57 53 = some (.iadd, 54) := by decide +kernel
theorem fX6_addWords_54 : a_fetch 57 54 = some (.iconst 5, 55) := by decide +kernel
theorem fX6_addWords_55 : a_fetch 57 55 = some (.iload 3, 56) := by decide +kernel
theorem fX6_addWords_56 : a_fetch 57 56 = some (.imul, 57) := by decide +kernel
theorem fX6_addWords_57 : a_fetch 57 57 = some (.ishl, 58) := by decide +kernel
theorem fX6_addWords_58 : a_fetch 57 58 = some (.ior, 59) := by decide +kernel
theorem fX6_addWords_59 : a_fetch 57 59 = some (.istore 2, 60) := by decide +kernel
theorem fX6_addWords_60 : a_fetch 57 60 = some (.iinc 3 1, 63) := by decide +kernel
theorem fX6_addWords_63 : a_fetch 57 63 = some (.iinc 4 1, 66) := by decide +kernel
theorem fX6_addWords_66 : a_fetch 57 66 = some (.goto 7, 69) := by decide +kernel
theorem fX6_addWords_69 : a_fetch 57 69 = some (.return_, 70) := by decide +kernel
theorem fX6_start_0 : a_fetch 58 0 = some (.aload 0, 1) := by decide +kernel
theorem fX6_start_1 : a_fetch 58 1 = some (.invokeinterface 6 0, 4) := by decide +kernel
theorem fX6_start_4 : a_fetch 58 4 = some (.iconst 0, 5) := by decide +kernel
theorem fX6_start_5 : a_fetch 58 5 = some (.invokevirtual 100, 8) := by decide +kernel
theorem fX6_start_8 : a_fetch 58 8 = some (.aload 0, 9) := by decide +kernel
theorem fX6_start_9 : a_fetch 58 9 = some (.invokeinterface 6 1, 12) := by decide +kernel
theorem fX6_start_12 : a_fetch 58 12 = some (.iconst 0, 13) := by decide +kernel
theorem fX6_start_13 : a_fetch 58 13 = some (.invokevirtual 100, 16) := by decide +kernel
theorem fX6_start_16 : a_fetch 58 16 = some (.aload 0, 17) := by decide +kernel
theorem fX6_start_17 : a_fetch 58 17 = some (.invokeinterface 6 2, 20) := by decide +kernel
theorem fX6_start_20 : a_fetch 58 20 = some (.iconst 0, 21) := by decide +kernel
theorem fX6_start_21 : a_fetch 58 21 = some (.invokevirtual 100, 24) := by decide +kernel
theorem fX6_start_24 : a_fetch 58 24 = some (.aload 0, 25) := by decide +kernel
theorem fX6_start_25 : a_fetch 58 25 = some (.invokeinterface 6 3, 28) := by decide +kernel
theorem fX6_start_28 : a_fetch 58 28 = some (.iconst 0, 29) := by decide +kernel
theorem fX6_start_29 : a_fetch 58 29 = some (.invokevirtual 100, 32) := by decide +kernel
theorem fX6_start_32 : a_fetch 58 32 = some (.aload 0, 33) := by decide +kernel
theorem fX6_start_33 : a_fetch 58 33 = some (.invokeinterface 6 4, 36) := by decide +kernel
theorem fX6_start_36 : a_fetch 58 36 = some (.iconst 0, 37) := by decide +kernel
theorem fX6_start_37 : a_fetch 58 37 = some (.invokevirtual 100, 40) := by decide +kernel
theorem fX6_start_40 : a_fetch 58 40 = some (.aload 0, 41) := by decide +kernel
theorem fX6_start_41 : a_fetch 58 41 = some (.iconst 0, 42) := by decide +kernel
theorem fX6_start_42 : a_fetch 58 42 = some (.multianewarray 6 6, 45) := by decide +kernel
theorem fX6_start_45 : a_fetch 58 45 = some (.aload 0, 46) := by decide +kernel
theorem fX6_start_46 : a_fetch 58 46 = some (.iconst 0, 47) := by decide +kernel
theorem fX6_start_47 : a_fetch 58 47 = some (.multianewarray 6 11, 50) := by decide +kernel
theorem fX6_start_50 : a_fetch 58 50 = some (.aload 0, 51) := by decide +kernel
theorem fX6_start_51 : a_fetch 58 51 = some (.iconst (-1), 52) := by decide +kernel
theorem fX6_start_52 : a_fetch 58 52 = some (.multianewarray 6 12, 55) := by decide +kernel
theorem fX6_start_55 : a_fetch 58 55 = some (.iconst 0, 56) := by decide +kernel
theorem fX6_start_56 : a_fetch 58 56 = some (.istore 2, 57) := by decide +kernel
theorem fX6_start_57 : a_fetch 58 57 = some (.iconst 0, 58) := by decide +kernel
theorem fX6_start_58 : a_fetch 58 58 = some (.istore 3, 59) := by decide +kernel
theorem fX6_start_59 : a_fetch 58 59 = some (.iload 3, 60) := by decide +kernel
theorem fX6_start_60 : a_fetch 58 60 = some (.iconst 1600, 63) := by decide +kernel
theorem fX6_start_63 : a_fetch 58 63 = some (.if_icmp .ge 87, 66) := by decide +kernel
theorem fX6_start_66 : a_fetch 58 66 = some (.iload 2, 67) := by decide +kernel
theorem fX6_start_67 : a_fetch 58 67 = some (.aload 1, 68) := by decide +kernel
theorem fX6_start_68 : a_fetch 58 68 = some (.invokevirtual 95, 71) := by decide +kernel
theorem fX6_start_71 : a_fetch 58 71 = some (.if_icmp .ge 87, 74) := by decide +kernel
theorem fX6_start_74 : a_fetch 58 74 = some (.aload 0, 75) := by decide +kernel
theorem fX6_start_75 : a_fetch 58 75 = some (.aload 1, 76) := by decide +kernel
theorem fX6_start_76 : a_fetch 58 76 = some (.iload 2, 77) := by decide +kernel
theorem fX6_start_77 : a_fetch 58 77 = some (.invokevirtual 60, 80) := by decide +kernel
theorem fX6_start_80 : a_fetch 58 80 = some (.istore 2, 81) := by decide +kernel
theorem fX6_start_81 : a_fetch 58 81 = some (.iinc 3 1, 84) := by decide +kernel
theorem fX6_start_84 : a_fetch 58 84 = some (.goto 59, 87) := by decide +kernel
theorem fX6_start_87 : a_fetch 58 87 = some (.aload 0, 88) := by decide +kernel
theorem fX6_start_88 : a_fetch 58 88 = some (.iconst 3, 89) := by decide +kernel
theorem fX6_start_89 : a_fetch 58 89 = some (.aload 1, 90) := by decide +kernel
theorem fX6_start_90 : a_fetch 58 90 = some (.invokevirtual 95, 93) := by decide +kernel
theorem fX6_start_93 : a_fetch 58 93 = some (.iconst 0, 94) := by decide +kernel
theorem fX6_start_94 : a_fetch 58 94 = some (.iconst 0, 95) := by decide +kernel
theorem fX6_start_95 : a_fetch 58 95 = some (.invokevirtual 59, 98) := by decide +kernel
theorem fX6_start_98 : a_fetch 58 98 = some (.return_, 99) := by decide +kernel
theorem fX6_put_0 : a_fetch 59 0 = some (.iload 1, 1) := by decide +kernel
theorem fX6_put_1 : a_fetch 59 1 = some (.ifCond .ne 14, 4) := by decide +kernel
theorem fX6_put_4 : a_fetch 59 4 = some (.iload 3, 5) := by decide +kernel
theorem fX6_put_5 : a_fetch 59 5 = some (.iconst 6, 7) := by decide +kernel
theorem fX6_put_7 : a_fetch 59 7 = some (.if_icmp .gt 14, 10) := by decide +kernel
theorem fX6_put_10 : a_fetch 59 10 = some (.iconst 1, 11) := by decide +kernel
theorem fX6_put_11 : a_fetch 59 11 = some (.goto 15, 14) := by decide +kernel
theorem fX6_put_14 : a_fetch 59 14 = some (.iconst 0, 15) := by decide +kernel
theorem fX6_put_15 : a_fetch 59 15 = some (.istore 5, 17) := by decide +kernel
theorem fX6_put_17 : a_fetch 59 17 = some (.aload 0, 18) := by decide +kernel
theorem fX6_put_18 : a_fetch 59 18 = some (.invokeinterface 6 0, 21) := by decide +kernel
theorem fX6_put_21 : a_fetch 59 21 = some (.iload 1, 22) := by decide +kernel
theorem fX6_put_22 : a_fetch 59 22 = some (.invokevirtual 98, 25) := by decide +kernel
theorem fX6_put_25 : a_fetch 59 25 = some (.aload 0, 26) := by decide +kernel
theorem fX6_put_26 : a_fetch 59 26 = some (.invokeinterface 6 1, 29) := by decide +kernel
theorem fX6_put_29 : a_fetch 59 29 = some (.iload 2, 30) := by decide +kernel
theorem fX6_put_30 : a_fetch 59 30 = some (.invokevirtual 98, 33) := by decide +kernel
theorem fX6_put_33 : a_fetch 59 33 = some (.aload 0, 34) := by decide +kernel
theorem fX6_put_34 : a_fetch 59 34 = some (.invokeinterface 6 2, 37) := by decide +kernel
theorem fX6_put_37 : a_fetch 59 37 = some (.iload 3, 38) := by decide +kernel
theorem fX6_put_38 : a_fetch 59 38 = some (.invokevirtual 98, 41) := by decide +kernel
theorem fX6_put_41 : a_fetch 59 41 = some (.aload 0, 42) := by decide +kernel
theorem fX6_put_42 : a_fetch 59 42 = some (.invokeinterface 6 3, 45) := by decide +kernel
theorem fX6_put_45 : a_fetch 59 45 = some (.iload 4, 47) := by decide +kernel
theorem fX6_put_47 : a_fetch 59 47 = some (.invokevirtual 98, 50) := by decide +kernel
theorem fX6_put_50 : a_fetch 59 50 = some (.aload 0, 51) := by decide +kernel
theorem fX6_put_51 : a_fetch 59 51 = some (.invokeinterface 6 4, 54) := by decide +kernel
theorem fX6_put_54 : a_fetch 59 54 = some (.iload 5, 56) := by decide +kernel
theorem fX6_put_56 : a_fetch 59 56 = some (.ifCond .eq 71, 59) := by decide +kernel
theorem fX6_put_59 : a_fetch 59 59 = some (.aload 0, 60) := by decide +kernel
theorem fX6_put_60 : a_fetch 59 60 = some (.invokeinterface 6 5, 63) := by decide +kernel
theorem fX6_put_63 : a_fetch 59 63 = some (.iload 4, 65) := by decide +kernel
theorem fX6_put_65 : a_fetch 59 65 = some (.invokevirtual 103, 68) := by decide +kernel
theorem fX6_put_68 : a_fetch 59 68 = some (.goto 72, 71) := by decide +kernel
theorem fX6_put_71 : a_fetch 59 71 = some (.iconst (-1), 72) := by decide +kernel
theorem fX6_put_72 : a_fetch 59 72 = some (.invokevirtual 98, 75) := by decide +kernel
theorem fX6_put_75 : a_fetch 59 75 = some (.return_, 76) := by decide +kernel
theorem fX6_scan_0 : a_fetch 60 0 = some (.aload 1, 1) := by decide +kernel
theorem fX6_scan_1 : a_fetch 60 1 = some (.iload 2, 2) := by decide +kernel
theorem fX6_scan_2 : a_fetch 60 2 = some (.invokevirtual 96, 5) := by decide +kernel
theorem fX6_scan_5 : a_fetch 60 5 = some (.istore 3, 6) := by decide +kernel
theorem fX6_scan_6 : a_fetch 60 6 = some (.iload 3, 7) := by decide +kernel
theorem fX6_scan_7 : a_fetch 60 7 = some (.iconst 32, 9) := by decide +kernel
theorem fX6_scan_9 : a_fetch 60 9 = some (.if_icmp .eq 18, 12) := by decide +kernel
theorem fX6_scan_12 : a_fetch 60 12 = some (.iload 3, 13) := by decide +kernel
theorem fX6_scan_13 : a_fetch 60 13 = some (.iconst 10, 15) := by decide +kernel
theorem fX6_scan_15 : a_fetch 60 15 = some (.if_icmp .ne 22, 18) := by decide +kernel
theorem fX6_scan_18 : a_fetch 60 18 = some (.iload 2, 19) := by decide +kernel
theorem fX6_scan_19 : a_fetch 60 19 = some (.iconst 1, 20) := by decide +kernel
theorem fX6_scan_20 : a_fetch 60 20 = some (.iadd, 21) := by decide +kernel
theorem fX6_scan_21 : a_fetch 60 21 = some (.ireturn, 22) := by decide +kernel
theorem fX6_scan_22 : a_fetch 60 22 = some (.iload 3, 23) := by decide +kernel
theorem fX6_scan_23 : a_fetch 60 23 = some (.invokestatic 63, 26) := by decide +kernel
theorem fX6_scan_26 : a_fetch 60 26 = some (.ifCond .eq 36, 29) := by decide +kernel
theorem fX6_scan_29 : a_fetch 60 29 = some (.aload 0, 30) := by decide +kernel
theorem fX6_scan_30 : a_fetch 60 30 = some (.aload 1, 31) := by decide +kernel
theorem fX6_scan_31 : a_fetch 60 31 = some (.iload 2, 32) := by decide +kernel
theorem fX6_scan_32 : a_fetch 60 32 = some (.invokevirtual 61, 35) := by decide +kernel
theorem fX6_scan_35 : a_fetch 60 35 = some (.ireturn, 36) := by decide +kernel
theorem fX6_scan_36 : a_fetch 60 36 = some (.iload 3, 37) := by decide +kernel
theorem fX6_scan_37 : a_fetch 60 37 = some (.invokestatic 64, 40) := by decide +kernel
theorem fX6_scan_40 : a_fetch 60 40 = some (.ifCond .eq 50, 43) := by decide +kernel
theorem fX6_scan_43 : a_fetch 60 43 = some (.aload 0, 44) := by decide +kernel
theorem fX6_scan_44 : a_fetch 60 44 = some (.aload 1, 45) := by decide +kernel
theorem fX6_scan_45 : a_fetch 60 45 = some (.iload 2, 46) := by decide +kernel
theorem fX6_scan_46 : a_fetch 60 46 = some (.invokevirtual 62, 49) := by decide +kernel
theorem fX6_scan_49 : a_fetch 60 49 = some (.ireturn, 50) := by decide +kernel
theorem fX6_scan_50 : a_fetch 60 50 = some (.aload 0, 51) := by decide +kernel
theorem fX6_scan_51 : a_fetch 60 51 = some (.iconst 2, 52) := by decide +kernel
theorem fX6_scan_52 : a_fetch 60 52 = some (.iload 2, 53) := by decide +kernel
theorem fX6_scan_53 : a_fetch 60 53 = some (.iconst 1, 54) := by decide +kernel
theorem fX6_scan_54 : a_fetch 60 54 = some (.iload 3, 55) := by decide +kernel
