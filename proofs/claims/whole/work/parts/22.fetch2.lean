theorem fX9_would_50 : a_fetch 120 50 = some (.invokevirtual 18, 53) := by decide +kernel
theorem fX9_would_53 : a_fetch 120 53 = some (.iconst 23, 55) := by decide +kernel
theorem fX9_would_55 : a_fetch 120 55 = some (.aload 0, 56) := by decide +kernel
theorem fX9_would_56 : a_fetch 120 56 = some (.invokeinterface 9 8, 59) := by decide +kernel
theorem fX9_would_59 : a_fetch 120 59 = some (.invokeinterface 4 0, 62) := by decide +kernel
theorem fX9_would_62 : a_fetch 120 62 = some (.iconst 24, 64) := by decide +kernel
theorem fX9_would_64 : a_fetch 120 64 = some (.irem, 65) := by decide +kernel
theorem fX9_would_65 : a_fetch 120 65 = some (.isub, 66) := by decide +kernel
theorem fX9_would_66 : a_fetch 120 66 = some (.iconst 9999, 69) := by decide +kernel
theorem fX9_would_69 : a_fetch 120 69 = some (.aload 0, 70) := by decide +kernel
theorem fX9_would_70 : a_fetch 120 70 = some (.invokeinterface 9 8, 73) := by decide +kernel
theorem fX9_would_73 : a_fetch 120 73 = some (.invokeinterface 4 0, 76) := by decide +kernel
theorem fX9_would_76 : a_fetch 120 76 = some (.isub, 77) := by decide +kernel
theorem fX9_would_77 : a_fetch 120 77 = some (.invokestatic 290, 80) := by decide +kernel
theorem fX9_would_80 : a_fetch 120 80 = some (.istore 3, 81) := by decide +kernel
theorem fX9_would_81 : a_fetch 120 81 = some (.aload 0, 82) := by decide +kernel
theorem fX9_would_82 : a_fetch 120 82 = some (.aload 0, 83) := by decide +kernel
theorem fX9_would_83 : a_fetch 120 83 = some (.invokeinterface 9 9, 86) := by decide +kernel
theorem fX9_would_86 : a_fetch 120 86 = some (.iload 3, 87) := by decide +kernel
theorem fX9_would_87 : a_fetch 120 87 = some (.invokevirtual 149, 90) := by decide +kernel
theorem fX9_would_90 : a_fetch 120 90 = some (.aload 0, 91) := by decide +kernel
theorem fX9_would_91 : a_fetch 120 91 = some (.invokeinterface 9 5, 94) := by decide +kernel
theorem fX9_would_94 : a_fetch 120 94 = some (.invokeinterface 2 3, 97) := by decide +kernel
theorem fX9_would_97 : a_fetch 120 97 = some (.iload 2, 98) := by decide +kernel
theorem fX9_would_98 : a_fetch 120 98 = some (.invokevirtual 96, 101) := by decide +kernel
theorem fX9_would_101 : a_fetch 120 101 = some (.ireturn, 102) := by decide +kernel
theorem fX9_first_0 : a_fetch 121 0 = some (.iload 1, 1) := by decide +kernel
theorem fX9_first_1 : a_fetch 121 1 = some (.ifCond .lt 9, 4) := by decide +kernel
theorem fX9_first_4 : a_fetch 121 4 = some (.iload 1, 5) := by decide +kernel
theorem fX9_first_5 : a_fetch 121 5 = some (.iconst 2, 6) := by decide +kernel
theorem fX9_first_6 : a_fetch 121 6 = some (.if_icmp .le 11, 9) := by decide +kernel
theorem fX9_first_9 : a_fetch 121 9 = some (.iconst (-1), 10) := by decide +kernel
theorem fX9_first_10 : a_fetch 121 10 = some (.ireturn, 11) := by decide +kernel
theorem fX9_first_11 : a_fetch 121 11 = some (.aload 0, 12) := by decide +kernel
theorem fX9_first_12 : a_fetch 121 12 = some (.invokeinterface 9 9, 15) := by decide +kernel
theorem fX9_first_15 : a_fetch 121 15 = some (.aload 0, 16) := by decide +kernel
theorem fX9_first_16 : a_fetch 121 16 = some (.invokeinterface 9 8, 19) := by decide +kernel
theorem fX9_first_19 : a_fetch 121 19 = some (.invokevirtual 44, 22) := by decide +kernel
theorem fX9_first_22 : a_fetch 121 22 = some (.aload 0, 23) := by decide +kernel
theorem fX9_first_23 : a_fetch 121 23 = some (.invokeinterface 9 5, 26) := by decide +kernel
theorem fX9_first_26 : a_fetch 121 26 = some (.invokevirtual 17, 29) := by decide +kernel
theorem fX9_first_29 : a_fetch 121 29 = some (.iconst 1, 30) := by decide +kernel
theorem fX9_first_30 : a_fetch 121 30 = some (.istore 2, 31) := by decide +kernel
theorem fX9_first_31 : a_fetch 121 31 = some (.iload 2, 32) := by decide +kernel
theorem fX9_first_32 : a_fetch 121 32 = some (.iconst 72, 34) := by decide +kernel
theorem fX9_first_34 : a_fetch 121 34 = some (.if_icmp .gt 96, 37) := by decide +kernel
theorem fX9_first_37 : a_fetch 121 37 = some (.aload 0, 38) := by decide +kernel
theorem fX9_first_38 : a_fetch 121 38 = some (.invokeinterface 9 9, 41) := by decide +kernel
theorem fX9_first_41 : a_fetch 121 41 = some (.invokeinterface 4 0, 44) := by decide +kernel
theorem fX9_first_44 : a_fetch 121 44 = some (.iconst 9999, 47) := by decide +kernel
theorem fX9_first_47 : a_fetch 121 47 = some (.if_icmp .ge 96, 50) := by decide +kernel
theorem fX9_first_50 : a_fetch 121 50 = some (.aload 0, 51) := by decide +kernel
theorem fX9_first_51 : a_fetch 121 51 = some (.invokeinterface 9 5, 54) := by decide +kernel
theorem fX9_first_54 : a_fetch 121 54 = some (.aload 0, 55) := by decide +kernel
theorem fX9_first_55 : a_fetch 121 55 = some (.invokeinterface 9 10, 58) := by decide +kernel
theorem fX9_first_58 : a_fetch 121 58 = some (.aload 0, 59) := by decide +kernel
theorem fX9_first_59 : a_fetch 121 59 = some (.invokeinterface 9 9, 62) := by decide +kernel
theorem fX9_first_62 : a_fetch 121 62 = some (.invokevirtual 19, 65) := by decide +kernel
theorem fX9_first_65 : a_fetch 121 65 = some (.aload 0, 66) := by decide +kernel
theorem fX9_first_66 : a_fetch 121 66 = some (.invokeinterface 9 5, 69) := by decide +kernel
theorem fX9_first_69 : a_fetch 121 69 = some (.invokeinterface 2 4, 72) := by decide +kernel
theorem fX9_first_72 : a_fetch 121 72 = some (.invokevirtual 95, 75) := by decide +kernel
theorem fX9_first_75 : a_fetch 121 75 = some (.ifCond .eq 90, 78) := by decide +kernel
theorem fX9_first_78 : a_fetch 121 78 = some (.aload 0, 79) := by decide +kernel
theorem fX9_first_79 : a_fetch 121 79 = some (.invokeinterface 9 5, 82) := by decide +kernel
theorem fX9_first_82 : a_fetch 121 82 = some (.invokeinterface 2 4, 85) := by decide +kernel
theorem fX9_first_85 : a_fetch 121 85 = some (.iload 1, 86) := by decide +kernel
theorem fX9_first_86 : a_fetch 121 86 = some (.invokevirtual 96, 89) := by decide +kernel
theorem fX9_first_89 : a_fetch 121 89 = some (.ireturn, 90) := by decide +kernel
theorem fX9_first_90 : a_fetch 121 90 = some (.iinc 2 1, 93) := by decide +kernel
theorem fX9_first_93 : a_fetch 121 93 = some (.goto 31, 96) := by decide +kernel
theorem fX9_first_96 : a_fetch 121 96 = some (.iconst (-1), 97) := by decide +kernel
theorem fX9_first_97 : a_fetch 121 97 = some (.ireturn, 98) := by decide +kernel
theorem fX9_best_0 : a_fetch 122 0 = some (.aload 0, 1) := by decide +kernel
theorem fX9_best_1 : a_fetch 122 1 = some (.iload 1, 2) := by decide +kernel
theorem fX9_best_2 : a_fetch 122 2 = some (.invokevirtual 142, 5) := by decide +kernel
theorem fX9_best_5 : a_fetch 122 5 = some (.ifCond .eq 17, 8) := by decide +kernel
theorem fX9_best_8 : a_fetch 122 8 = some (.iload 2, 9) := by decide +kernel
theorem fX9_best_9 : a_fetch 122 9 = some (.ifCond .eq 19, 12) := by decide +kernel
theorem fX9_best_12 : a_fetch 122 12 = some (.iload 2, 13) := by decide +kernel
theorem fX9_best_13 : a_fetch 122 13 = some (.iconst 1, 14) := by decide +kernel
theorem fX9_best_14 : a_fetch 122 14 = some (.if_icmp .eq 19, 17) := by decide +kernel
theorem fX9_best_17 : a_fetch 122 17 = some (.iconst (-1), 18) := by decide +kernel
theorem fX9_best_18 : a_fetch 122 18 = some (.ireturn, 19) := by decide +kernel
theorem fX9_best_19 : a_fetch 122 19 = some (.iconst (-1), 20) := by decide +kernel
theorem fX9_best_20 : a_fetch 122 20 = some (.istore 3, 21) := by decide +kernel
theorem fX9_best_21 : a_fetch 122 21 = some (.iconst (-1), 22) := by decide +kernel
theorem fX9_best_22 : a_fetch 122 22 = some (.istore 4, 24) := by decide +kernel
theorem fX9_best_24 : a_fetch 122 24 = some (.iconst 0, 25) := by decide +kernel
theorem fX9_best_25 : a_fetch 122 25 = some (.istore 5, 27) := by decide +kernel
theorem fX9_best_27 : a_fetch 122 27 = some (.iload 5, 29) := by decide +kernel
theorem fX9_best_29 : a_fetch 122 29 = some (.aload 0, 30) := by decide +kernel
theorem fX9_best_30 : a_fetch 122 30 = some (.invokeinterface 9 10, 33) := by decide +kernel
theorem fX9_best_33 : a_fetch 122 33 = some (.invokeinterface 1 0, 36) := by decide +kernel
theorem fX9_best_36 : a_fetch 122 36 = some (.invokevirtual 95, 39) := by decide +kernel
theorem fX9_best_39 : a_fetch 122 39 = some (.if_icmp .ge 92, 42) := by decide +kernel
theorem fX9_best_42 : a_fetch 122 42 = some (.iload 5, 44) := by decide +kernel
theorem fX9_best_44 : a_fetch 122 44 = some (.iload 1, 45) := by decide +kernel
theorem fX9_best_45 : a_fetch 122 45 = some (.if_icmp .ne 52, 48) := by decide +kernel
theorem fX9_best_48 : a_fetch 122 48 = some (.iconst (-1), 49) := by decide +kernel
theorem fX9_best_49 : a_fetch 122 49 = some (.goto 70, 52) := by decide +kernel
theorem fX9_best_52 : a_fetch 122 52 = some (.aload 0, 53) := by decide +kernel
theorem fX9_best_53 : a_fetch 122 53 = some (.invokeinterface 9 5, 56) := by decide +kernel
theorem fX9_best_56 : a_fetch 122 56 = some (.aload 0, 57) := by decide +kernel
theorem fX9_best_57 : a_fetch 122 57 = some (.invokeinterface 9 10, 60) := by decide +kernel
theorem fX9_best_60 : a_fetch 122 60 = some (.aload 0, 61) := by decide +kernel
theorem fX9_best_61 : a_fetch 122 61 = some (.invokeinterface 9 8, 64) := by decide +kernel
theorem fX9_best_64 : a_fetch 122 64 = some (.iload 5, 66) := by decide +kernel
theorem fX9_best_66 : a_fetch 122 66 = some (.iload 1, 67) := by decide +kernel
theorem fX9_best_67 : a_fetch 122 67 = some (.invokevirtual 28, 70) := by decide +kernel
theorem fX9_best_70 : a_fetch 122 70 = some (.istore 6, 72) := by decide +kernel
theorem fX9_best_72 : a_fetch 122 72 = some (.iload 6, 74) := by decide +kernel
theorem fX9_best_74 : a_fetch 122 74 = some (.iload 4, 76) := by decide +kernel
theorem fX9_best_76 : a_fetch 122 76 = some (.if_icmp .le 86, 79) := by decide +kernel
theorem fX9_best_79 : a_fetch 122 79 = some (.iload 5, 81) := by decide +kernel
theorem fX9_best_81 : a_fetch 122 81 = some (.istore 3, 82) := by decide +kernel
theorem fX9_best_82 : a_fetch 122 82 = some (.iload 6, 84) := by decide +kernel
theorem fX9_best_84 : a_fetch 122 84 = some (.istore 4, 86) := by decide +kernel
theorem fX9_best_86 : a_fetch 122 86 = some (.iinc 5 1, 89) := by decide +kernel
theorem fX9_best_89 : a_fetch 122 89 = some (.goto 27, 92) := by decide +kernel
theorem fX9_best_92 : a_fetch 122 92 = some (.iload 2, 93) := by decide +kernel
theorem fX9_best_93 : a_fetch 122 93 = some (.ifCond .ne 100, 96) := by decide +kernel
theorem fX9_best_96 : a_fetch 122 96 = some (.iload 3, 97) := by decide +kernel
theorem fX9_best_97 : a_fetch 122 97 = some (.goto 102, 100) := by decide +kernel
theorem fX9_best_100 : a_fetch 122 100 = some (.iload 4, 102) := by decide +kernel
theorem fX9_best_102 : a_fetch 122 102 = some (.ireturn, 103) := by decide +kernel
theorem fX9_study_0 : a_fetch 123 0 = some (.aload 0, 1) := by decide +kernel
theorem fX9_study_1 : a_fetch 123 1 = some (.iload 1, 2) := by decide +kernel
theorem fX9_study_2 : a_fetch 123 2 = some (.invokevirtual 142, 5) := by decide +kernel
theorem fX9_study_5 : a_fetch 123 5 = some (.ifCond .eq 21, 8) := by decide +kernel
theorem fX9_study_8 : a_fetch 123 8 = some (.aload 0, 9) := by decide +kernel
theorem fX9_study_9 : a_fetch 123 9 = some (.iload 2, 10) := by decide +kernel
theorem fX9_study_10 : a_fetch 123 10 = some (.invokevirtual 142, 13) := by decide +kernel
theorem fX9_study_13 : a_fetch 123 13 = some (.ifCond .eq 21, 16) := by decide +kernel
theorem fX9_study_16 : a_fetch 123 16 = some (.iload 1, 17) := by decide +kernel
theorem fX9_study_17 : a_fetch 123 17 = some (.iload 2, 18) := by decide +kernel
theorem fX9_study_18 : a_fetch 123 18 = some (.if_icmp .ne 23, 21) := by decide +kernel
theorem fX9_study_21 : a_fetch 123 21 = some (.iconst (-1), 22) := by decide +kernel
theorem fX9_study_22 : a_fetch 123 22 = some (.ireturn, 23) := by decide +kernel
theorem fX9_study_23 : a_fetch 123 23 = some (.aload 0, 24) := by decide +kernel
theorem fX9_study_24 : a_fetch 123 24 = some (.invokeinterface 9 8, 27) := by decide +kernel
theorem fX9_study_27 : a_fetch 123 27 = some (.iload 1, 28) := by decide +kernel
theorem fX9_study_28 : a_fetch 123 28 = some (.iload 2, 29) := by decide +kernel
theorem fX9_study_29 : a_fetch 123 29 = some (.invokevirtual 45, 32) := by decide +kernel
theorem fX9_study_32 : a_fetch 123 32 = some (.istore 3, 33) := by decide +kernel
theorem fX9_study_33 : a_fetch 123 33 = some (.iconst 0, 34) := by decide +kernel
theorem fX9_study_34 : a_fetch 123 34 = some (.istore 4, 36) := by decide +kernel
theorem fX9_study_36 : a_fetch 123 36 = some (.iload 4, 38) := by decide +kernel
theorem fX9_study_38 : a_fetch 123 38 = some (.iconst 99, 40) := by decide +kernel
theorem fX9_study_40 : a_fetch 123 40 = some (.if_icmp .gt 98, 43) := by decide +kernel
theorem fX9_study_43 : a_fetch 123 43 = some (.aload 0, 44) := by decide +kernel
theorem fX9_study_44 : a_fetch 123 44 = some (.invokeinterface 9 5, 47) := by decide +kernel
theorem fX9_study_47 : a_fetch 123 47 = some (.aload 0, 48) := by decide +kernel
theorem fX9_study_48 : a_fetch 123 48 = some (.invokeinterface 9 10, 51) := by decide +kernel
theorem fX9_study_51 : a_fetch 123 51 = some (.aload 0, 52) := by decide +kernel
theorem fX9_study_52 : a_fetch 123 52 = some (.invokeinterface 9 8, 55) := by decide +kernel
theorem fX9_study_55 : a_fetch 123 55 = some (.invokeinterface 4 0, 58) := by decide +kernel
theorem fX9_study_58 : a_fetch 123 58 = some (.iload 1, 59) := by decide +kernel
theorem fX9_study_59 : a_fetch 123 59 = some (.iload 2, 60) := by decide +kernel
theorem fX9_study_60 : a_fetch 123 60 = some (.iload 3, 61) := by decide +kernel
theorem fX9_study_61 : a_fetch 123 61 = some (.invokevirtual 27, 64) := by decide +kernel
theorem fX9_study_64 : a_fetch 123 64 = some (.ifCond .eq 70, 67) := by decide +kernel
theorem fX9_study_67 : a_fetch 123 67 = some (.iload 4, 69) := by decide +kernel
theorem fX9_study_69 : a_fetch 123 69 = some (.ireturn, 70) := by decide +kernel
theorem fX9_study_70 : a_fetch 123 70 = some (.aload 0, 71) := by decide +kernel
theorem fX9_study_71 : a_fetch 123 71 = some (.invokeinterface 9 5, 74) := by decide +kernel
theorem fX9_study_74 : a_fetch 123 74 = some (.aload 0, 75) := by decide +kernel
theorem fX9_study_75 : a_fetch 123 75 = some (.invokeinterface 9 10, 78) := by decide +kernel
theorem fX9_study_78 : a_fetch 123 78 = some (.aload 0, 79) := by decide +kernel
theorem fX9_study_79 : a_fetch 123 79 = some (.invokeinterface 9 8, 82) := by decide +kernel
theorem fX9_study_82 : a_fetch 123 82 = some (.invokeinterface 4 0, 85) := by decide +kernel
theorem fX9_study_85 : a_fetch 123 85 = some (.iload 1, 86) := by decide +kernel
theorem fX9_study_86 : a_fetch 123 86 = some (.iload 2, 87) := by decide +kernel
theorem fX9_study_87 : a_fetch 123 87 = some (.iload 3, 88) := by decide +kernel
theorem fX9_study_88 : a_fetch 123 88 = some (.invokevirtual 25, 91) := by decide +kernel
theorem fX9_study_91 : a_fetch 123 91 = some (.istore 3, 92) := by decide +kernel
theorem fX9_study_92 : a_fetch 123 92 = some (.iinc 4 1, 95) := by decide +kernel
theorem fX9_study_95 : a_fetch 123 95 = some (.goto 36, 98) := by decide +kernel
theorem fX9_study_98 : a_fetch 123 98 = some (.iconst (-1), 99) := by decide +kernel
theorem fX9_study_99 : a_fetch 123 99 = some (.ireturn, 100) := by decide +kernel
theorem fX9_change_0 : a_fetch 124 0 = some (.aload 0, 1) := by decide +kernel
theorem fX9_change_1 : a_fetch 124 1 = some (.invokeinterface 9 10, 4) := by decide +kernel
theorem fX9_change_4 : a_fetch 124 4 = some (.invokeinterface 1 0, 7) := by decide +kernel
theorem fX9_change_7 : a_fetch 124 7 = some (.invokevirtual 95, 10) := by decide +kernel
theorem fX9_change_10 : a_fetch 124 10 = some (.istore 2, 11) := by decide +kernel
theorem fX9_change_11 : a_fetch 124 11 = some (.iload 2, 12) := by decide +kernel
theorem fX9_change_12 : a_fetch 124 12 = some (.iconst 2, 13) := by decide +kernel
theorem fX9_change_13 : a_fetch 124 13 = some (.if_icmp .lt 29, 16) := by decide +kernel
theorem fX9_change_16 : a_fetch 124 16 = some (.iload 1, 17) := by decide +kernel
theorem fX9_change_17 : a_fetch 124 17 = some (.iconst (-1), 18) := by decide +kernel
theorem fX9_change_18 : a_fetch 124 18 = some (.if_icmp .eq 31, 21) := by decide +kernel
theorem fX9_change_21 : a_fetch 124 21 = some (.aload 0, 22) := by decide +kernel
theorem fX9_change_22 : a_fetch 124 22 = some (.iload 1, 23) := by decide +kernel
theorem fX9_change_23 : a_fetch 124 23 = some (.invokevirtual 142, 26) := by decide +kernel
theorem fX9_change_26 : a_fetch 124 26 = some (.ifCond .ne 31, 29) := by decide +kernel
theorem fX9_change_29 : a_fetch 124 29 = some (.iconst (-1), 30) := by decide +kernel
theorem fX9_change_30 : a_fetch 124 30 = some (.ireturn, 31) := by decide +kernel
theorem fX9_change_31 : a_fetch 124 31 = some (.aload 0, 32) := by decide +kernel
theorem fX9_change_32 : a_fetch 124 32 = some (.invokeinterface 9 6, 35) := by decide +kernel
theorem fX9_change_35 : a_fetch 124 35 = some (.iload 2, 36) := by decide +kernel
theorem fX9_change_36 : a_fetch 124 36 = some (.invokevirtual 1, 39) := by decide +kernel
theorem fX9_change_39 : a_fetch 124 39 = some (.iconst 0, 40) := by decide +kernel
theorem fX9_change_40 : a_fetch 124 40 = some (.istore 3, 41) := by decide +kernel
theorem fX9_change_41 : a_fetch 124 41 = some (.iload 3, 42) := by decide +kernel
theorem fX9_change_42 : a_fetch 124 42 = some (.iload 2, 43) := by decide +kernel
theorem fX9_change_43 : a_fetch 124 43 = some (.if_icmp .ge 117, 46) := by decide +kernel
theorem fX9_change_46 : a_fetch 124 46 = some (.aload 0, 47) := by decide +kernel
theorem fX9_change_47 : a_fetch 124 47 = some (.invokeinterface 9 10, 50) := by decide +kernel
theorem fX9_change_50 : a_fetch 124 50 = some (.invokeinterface 1 7, 53) := by decide +kernel
theorem fX9_change_53 : a_fetch 124 53 = some (.iload 3, 54) := by decide +kernel
theorem fX9_change_54 : a_fetch 124 54 = some (.invokevirtual 104, 57) := by decide +kernel
theorem fX9_change_57 : a_fetch 124 57 = some (.istore 4, 59) := by decide +kernel
theorem fX9_change_59 : a_fetch 124 59 = some (.iconst 0, 60) := by decide +kernel
theorem fX9_change_60 : a_fetch 124 60 = some (.istore 5, 62) := by decide +kernel
theorem fX9_change_62 : a_fetch 124 62 = some (.iload 5, 64) := by decide +kernel
theorem fX9_change_64 : a_fetch 124 64 = some (.iload 2, 65) := by decide +kernel
theorem fX9_change_65 : a_fetch 124 65 = some (.if_icmp .ge 111, 68) := by decide +kernel
theorem fX9_change_68 : a_fetch 124 68 = some (.iload 5, 70) := by decide +kernel
theorem fX9_change_70 : a_fetch 124 70 = some (.iload 3, 71) := by decide +kernel
theorem fX9_change_71 : a_fetch 124 71 = some (.if_icmp .eq 105, 74) := by decide +kernel
theorem fX9_change_74 : a_fetch 124 74 = some (.aload 0, 75) := by decide +kernel
theorem fX9_change_75 : a_fetch 124 75 = some (.invokeinterface 9 6, 78) := by decide +kernel
theorem fX9_change_78 : a_fetch 124 78 = some (.iload 3, 79) := by decide +kernel
theorem fX9_change_79 : a_fetch 124 79 = some (.iload 5, 81) := by decide +kernel
theorem fX9_change_81 : a_fetch 124 81 = some (.iload 4, 83) := by decide +kernel
theorem fX9_change_83 : a_fetch 124 83 = some (.aload 0, 84) := by decide +kernel
theorem fX9_change_84 : a_fetch 124 84 = some (.invokeinterface 9 5, 87) := by decide +kernel
theorem fX9_change_87 : a_fetch 124 87 = some (.aload 0, 88) := by decide +kernel
theorem fX9_change_88 : a_fetch 124 88 = some (.invokeinterface 9 10, 91) := by decide +kernel
theorem fX9_change_91 : a_fetch 124 91 = some (.aload 0, 92) := by decide +kernel
theorem fX9_change_92 : a_fetch 124 92 = some (.invokeinterface 9 8, 95) := by decide +kernel
theorem fX9_change_95 : a_fetch 124 95 = some (.iload 5, 97) := by decide +kernel
theorem fX9_change_97 : a_fetch 124 97 = some (.iload 3, 98) := by decide +kernel
theorem fX9_change_98 : a_fetch 124 98 = some (.invokevirtual 28, 101) := by decide +kernel
theorem fX9_change_101 : a_fetch 124 101 = some (.isub, 102) := by decide +kernel
theorem fX9_change_102 : a_fetch 124 102 = some (.invokevirtual 2, 105) := by decide +kernel
theorem fX9_change_105 : a_fetch 124 105 = some (.iinc 5 1, 108) := by decide +kernel
theorem fX9_change_108 : a_fetch 124 108 = some (.goto 62, 111) := by decide +kernel
theorem fX9_change_111 : a_fetch 124 111 = some (.iinc 3 1, 114) := by decide +kernel
theorem fX9_change_114 : a_fetch 124 114 = some (.goto 41, 117) := by decide +kernel
theorem fX9_change_117 : a_fetch 124 117 = some (.aload 0, 118) := by decide +kernel
theorem fX9_change_118 : a_fetch 124 118 = some (.invokeinterface 9 6, 121) := by decide +kernel
theorem fX9_change_121 : a_fetch 124 121 = some (.invokevirtual 3, 124) := by decide +kernel
theorem fX9_change_124 : a_fetch 124 124 = some (.iload 1, 125) := by decide +kernel
theorem fX9_change_125 : a_fetch 124 125 = some (.iconst (-1), 126) := by decide +kernel
theorem fX9_change_126 : a_fetch 124 126 = some (.if_icmp .ne 139, 129) := by decide +kernel
theorem fX9_change_129 : a_fetch 124 129 = some (.aload 0, 130) := by decide +kernel
theorem fX9_change_130 : a_fetch 124 130 = some (.invokeinterface 9 6, 133) := by decide +kernel
theorem fX9_change_133 : a_fetch 124 133 = some (.invokevirtual 4, 136) := by decide +kernel
theorem fX9_change_136 : a_fetch 124 136 = some (.goto 147, 139) := by decide +kernel
theorem fX9_change_139 : a_fetch 124 139 = some (.aload 0, 140) := by decide +kernel
theorem fX9_change_140 : a_fetch 124 140 = some (.invokeinterface 9 6, 143) := by decide +kernel
theorem fX9_change_143 : a_fetch 124 143 = some (.iload 1, 144) := by decide +kernel
theorem fX9_change_144 : a_fetch 124 144 = some (.invokevirtual 5, 147) := by decide +kernel
theorem fX9_change_147 : a_fetch 124 147 = some (.ireturn, 148) := by decide +kernel
theorem fX9_ring_0 : a_fetch 125 0 = some (.aload 0, 1) := by decide +kernel
theorem fX9_ring_1 : a_fetch 125 1 = some (.iload 1, 2) := by decide +kernel
theorem fX9_ring_2 : a_fetch 125 2 = some (.invokevirtual 142, 5) := by decide +kernel
theorem fX9_ring_5 : a_fetch 125 5 = some (.ifCond .ne 10, 8) := by decide +kernel
theorem fX9_ring_8 : a_fetch 125 8 = some (.iconst (-1), 9) := by decide +kernel
theorem fX9_ring_9 : a_fetch 125 9 = some (.ireturn, 10) := by decide +kernel
theorem fX9_ring_10 : a_fetch 125 10 = some (.iload 1, 11) := by decide +kernel
theorem fX9_ring_11 : a_fetch 125 11 = some (.istore 2, 12) := by decide +kernel
theorem fX9_ring_12 : a_fetch 125 12 = some (.iconst 1, 13) := by decide +kernel
theorem fX9_ring_13 : a_fetch 125 13 = some (.istore 3, 14) := by decide +kernel
theorem fX9_ring_14 : a_fetch 125 14 = some (.iload 3, 15) := by decide +kernel
theorem fX9_ring_15 : a_fetch 125 15 = some (.iconst 10, 17) := by decide +kernel
theorem fX9_ring_17 : a_fetch 125 17 = some (.if_icmp .gt 50, 20) := by decide +kernel
theorem fX9_ring_20 : a_fetch 125 20 = some (.iload 2, 21) := by decide +kernel
theorem fX9_ring_21 : a_fetch 125 21 = some (.iconst (-1), 22) := by decide +kernel
theorem fX9_ring_22 : a_fetch 125 22 = some (.if_icmp .eq 50, 25) := by decide +kernel
theorem fX9_ring_25 : a_fetch 125 25 = some (.aload 0, 26) := by decide +kernel
theorem fX9_ring_26 : a_fetch 125 26 = some (.invokeinterface 9 10, 29) := by decide +kernel
theorem fX9_ring_29 : a_fetch 125 29 = some (.invokeinterface 1 2, 32) := by decide +kernel
theorem fX9_ring_32 : a_fetch 125 32 = some (.iload 2, 33) := by decide +kernel
theorem fX9_ring_33 : a_fetch 125 33 = some (.invokevirtual 96, 36) := by decide +kernel
theorem fX9_ring_36 : a_fetch 125 36 = some (.istore 2, 37) := by decide +kernel
theorem fX9_ring_37 : a_fetch 125 37 = some (.iload 2, 38) := by decide +kernel
theorem fX9_ring_38 : a_fetch 125 38 = some (.iload 1, 39) := by decide +kernel
theorem fX9_ring_39 : a_fetch 125 39 = some (.if_icmp .ne 44, 42) := by decide +kernel
theorem fX9_ring_42 : a_fetch 125 42 = some (.iload 3, 43) := by decide +kernel
theorem fX9_ring_43 : a_fetch 125 43 = some (.ireturn, 44) := by decide +kernel
theorem fX9_ring_44 : a_fetch 125 44 = some (.iinc 3 1, 47) := by decide +kernel
theorem fX9_ring_47 : a_fetch 125 47 = some (.goto 14, 50) := by decide +kernel
theorem fX9_ring_50 : a_fetch 125 50 = some (.iconst 0, 51) := by decide +kernel
theorem fX9_ring_51 : a_fetch 125 51 = some (.ireturn, 52) := by decide +kernel
theorem fX9_odds_0 : a_fetch 126 0 = some (.aload 0, 1) := by decide +kernel
theorem fX9_odds_1 : a_fetch 126 1 = some (.iload 1, 2) := by decide +kernel
theorem fX9_odds_2 : a_fetch 126 2 = some (.invokevirtual 142, 5) := by decide +kernel
theorem fX9_odds_5 : a_fetch 126 5 = some (.ifCond .eq 21, 8) := by decide +kernel
theorem fX9_odds_8 : a_fetch 126 8 = some (.aload 0, 9) := by decide +kernel
theorem fX9_odds_9 : a_fetch 126 9 = some (.iload 2, 10) := by decide +kernel
theorem fX9_odds_10 : a_fetch 126 10 = some (.invokevirtual 142, 13) := by decide +kernel
theorem fX9_odds_13 : a_fetch 126 13 = some (.ifCond .eq 21, 16) := by decide +kernel
theorem fX9_odds_16 : a_fetch 126 16 = some (.iload 1, 17) := by decide +kernel
theorem fX9_odds_17 : a_fetch 126 17 = some (.iload 2, 18) := by decide +kernel
theorem fX9_odds_18 : a_fetch 126 18 = some (.if_icmp .ne 23, 21) := by decide +kernel
theorem fX9_odds_21 : a_fetch 126 21 = some (.iconst (-1), 22) := by decide +kernel
theorem fX9_odds_22 : a_fetch 126 22 = some (.ireturn, 23) := by decide +kernel
theorem fX9_odds_23 : a_fetch 126 23 = some (.iload 3, 24) := by decide +kernel
theorem fX9_odds_24 : a_fetch 126 24 = some (.ifCond .lt 32, 27) := by decide +kernel
theorem fX9_odds_27 : a_fetch 126 27 = some (.iload 3, 28) := by decide +kernel
theorem fX9_odds_28 : a_fetch 126 28 = some (.iconst 4, 29) := by decide +kernel
theorem fX9_odds_29 : a_fetch 126 29 = some (.if_icmp .le 34, 32) := by decide +kernel
theorem fX9_odds_32 : a_fetch 126 32 = some (.iconst (-1), 33) := by decide +kernel
theorem fX9_odds_33 : a_fetch 126 33 = some (.ireturn, 34) := by decide +kernel
theorem fX9_odds_34 : a_fetch 126 34 = some (.aload 0, 35) := by decide +kernel
theorem fX9_odds_35 : a_fetch 126 35 = some (.invokeinterface 9 10, 38) := by decide +kernel
theorem fX9_odds_38 : a_fetch 126 38 = some (.invokeinterface 1 0, 41) := by decide +kernel
theorem fX9_odds_41 : a_fetch 126 41 = some (.invokevirtual 95, 44) := by decide +kernel
theorem fX9_odds_44 : a_fetch 126 44 = some (.istore 4, 46) := by decide +kernel
theorem fX9_odds_46 : a_fetch 126 46 = some (.iconst 0, 47) := by decide +kernel
theorem fX9_odds_47 : a_fetch 126 47 = some (.istore 5, 49) := by decide +kernel
theorem fX9_odds_49 : a_fetch 126 49 = some (.iconst 0, 50) := by decide +kernel
theorem fX9_odds_50 : a_fetch 126 50 = some (.istore 6, 52) := by decide +kernel
theorem fX9_odds_52 : a_fetch 126 52 = some (.iload 6, 54) := by decide +kernel
theorem fX9_odds_54 : a_fetch 126 54 = some (.iload 4, 56) := by decide +kernel
theorem fX9_odds_56 : a_fetch 126 56 = some (.if_icmp .ge 109, 59) := by decide +kernel
theorem fX9_odds_59 : a_fetch 126 59 = some (.aload 0, 60) := by decide +kernel
theorem fX9_odds_60 : a_fetch 126 60 = some (.invokeinterface 9 9, 63) := by decide +kernel
theorem fX9_odds_63 : a_fetch 126 63 = some (.iload 4, 65) := by decide +kernel
theorem fX9_odds_65 : a_fetch 126 65 = some (.invokevirtual 43, 68) := by decide +kernel
theorem fX9_odds_68 : a_fetch 126 68 = some (.aload 0, 69) := by decide +kernel
theorem fX9_odds_69 : a_fetch 126 69 = some (.invokeinterface 9 5, 72) := by decide +kernel
theorem fX9_odds_72 : a_fetch 126 72 = some (.aload 0, 73) := by decide +kernel
theorem fX9_odds_73 : a_fetch 126 73 = some (.invokeinterface 9 10, 76) := by decide +kernel
theorem fX9_odds_76 : a_fetch 126 76 = some (.aload 0, 77) := by decide +kernel
theorem fX9_odds_77 : a_fetch 126 77 = some (.invokeinterface 9 9, 80) := by decide +kernel
theorem fX9_odds_80 : a_fetch 126 80 = some (.iload 6, 82) := by decide +kernel
theorem fX9_odds_82 : a_fetch 126 82 = some (.invokevirtual 18, 85) := by decide +kernel
theorem fX9_odds_85 : a_fetch 126 85 = some (.aload 0, 86) := by decide +kernel
theorem fX9_odds_86 : a_fetch 126 86 = some (.invokeinterface 9 9, 89) := by decide +kernel
theorem fX9_odds_89 : a_fetch 126 89 = some (.invokeinterface 4 1, 92) := by decide +kernel
theorem fX9_odds_92 : a_fetch 126 92 = some (.iload 1, 93) := by decide +kernel
theorem fX9_odds_93 : a_fetch 126 93 = some (.invokevirtual 96, 96) := by decide +kernel
theorem fX9_odds_96 : a_fetch 126 96 = some (.iload 2, 97) := by decide +kernel
theorem fX9_odds_97 : a_fetch 126 97 = some (.if_icmp .eq 103, 100) := by decide +kernel
theorem fX9_odds_100 : a_fetch 126 100 = some (.iinc 5 1, 103) := by decide +kernel
theorem fX9_odds_103 : a_fetch 126 103 = some (.iinc 6 1, 106) := by decide +kernel
theorem fX9_odds_106 : a_fetch 126 106 = some (.goto 52, 109) := by decide +kernel
theorem fX9_odds_109 : a_fetch 126 109 = some (.iconst 1, 110) := by decide +kernel
theorem fX9_odds_110 : a_fetch 126 110 = some (.istore 6, 112) := by decide +kernel
theorem fX9_odds_112 : a_fetch 126 112 = some (.iconst 1, 113) := by decide +kernel
theorem fX9_odds_113 : a_fetch 126 113 = some (.istore 7, 115) := by decide +kernel
theorem fX9_odds_115 : a_fetch 126 115 = some (.iconst 0, 116) := by decide +kernel
theorem fX9_odds_116 : a_fetch 126 116 = some (.istore 8, 118) := by decide +kernel
theorem fX9_odds_118 : a_fetch 126 118 = some (.iload 8, 120) := by decide +kernel
theorem fX9_odds_120 : a_fetch 126 120 = some (.iload 3, 121) := by decide +kernel
theorem fX9_odds_121 : a_fetch 126 121 = some (.if_icmp .ge 144, 124) := by decide +kernel
theorem fX9_odds_124 : a_fetch 126 124 = some (.iload 6, 126) := by decide +kernel
theorem fX9_odds_126 : a_fetch 126 126 = some (.iload 4, 128) := by decide +kernel
theorem fX9_odds_128 : a_fetch 126 128 = some (.imul, 129) := by decide +kernel
theorem fX9_odds_129 : a_fetch 126 129 = some (.istore 6, 131) := by decide +kernel
theorem fX9_odds_131 : a_fetch 126 131 = some (.iload 7, 133) := by decide +kernel
theorem fX9_odds_133 : a_fetch 126 133 = some (.iload 5, 135) := by decide +kernel
theorem fX9_odds_135 : a_fetch 126 135 = some (.imul, 136) := by decide +kernel
theorem fX9_odds_136 : a_fetch 126 136 = some (.istore 7, 138) := by decide +kernel
theorem fX9_odds_138 : a_fetch 126 138 = some (.iinc 8 1, 141) := by decide +kernel
theorem fX9_odds_141 : a_fetch 126 141 = some (.goto 118, 144) := by decide +kernel
theorem fX9_odds_144 : a_fetch 126 144 = some (.iload 6, 146) := by decide +kernel
theorem fX9_odds_146 : a_fetch 126 146 = some (.ifCond .le 164, 149) := by decide +kernel
theorem fX9_odds_149 : a_fetch 126 149 = some (.iload 6, 151) := by decide +kernel
theorem fX9_odds_151 : a_fetch 126 151 = some (.iload 7, 153) := by decide +kernel
theorem fX9_odds_153 : a_fetch 126 153 = some (.isub, 154) := by decide +kernel
theorem fX9_odds_154 : a_fetch 126 154 = some (.iconst 1000, 157) := by decide +kernel
theorem fX9_odds_157 : a_fetch 126 157 = some (.imul, 158) := by decide +kernel
theorem fX9_odds_158 : a_fetch 126 158 = some (.iload 6, 160) := by decide +kernel
theorem fX9_odds_160 : a_fetch 126 160 = some (.idiv, 161) := by decide +kernel
theorem fX9_odds_161 : a_fetch 126 161 = some (.goto 165, 164) := by decide +kernel
theorem fX9_odds_164 : a_fetch 126 164 = some (.iconst (-1), 165) := by decide +kernel
theorem fX9_odds_165 : a_fetch 126 165 = some (.ireturn, 166) := by decide +kernel
theorem fX9_go_0 : a_fetch 127 0 = some (.iload 1, 1) := by decide +kernel
theorem fX9_go_1 : a_fetch 127 1 = some (.iconst 1, 2) := by decide +kernel
theorem fX9_go_2 : a_fetch 127 2 = some (.if_icmp .lt 27, 5) := by decide +kernel
theorem fX9_go_5 : a_fetch 127 5 = some (.iload 1, 6) := by decide +kernel
theorem fX9_go_6 : a_fetch 127 6 = some (.iconst 500, 9) := by decide +kernel
theorem fX9_go_9 : a_fetch 127 9 = some (.if_icmp .gt 27, 12) := by decide +kernel
theorem fX9_go_12 : a_fetch 127 12 = some (.iload 1, 13) := by decide +kernel
theorem fX9_go_13 : a_fetch 127 13 = some (.iconst 9999, 16) := by decide +kernel
theorem fX9_go_16 : a_fetch 127 16 = some (.aload 0, 17) := by decide +kernel
theorem fX9_go_17 : a_fetch 127 17 = some (.invokeinterface 9 8, 20) := by decide +kernel
theorem fX9_go_20 : a_fetch 127 20 = some (.invokeinterface 4 0, 23) := by decide +kernel
theorem fX9_go_23 : a_fetch 127 23 = some (.isub, 24) := by decide +kernel
theorem fX9_go_24 : a_fetch 127 24 = some (.if_icmp .le 33, 27) := by decide +kernel
theorem fX9_go_27 : a_fetch 127 27 = some (.aload 0, 28) := by decide +kernel
theorem fX9_go_28 : a_fetch 127 28 = some (.iconst 2, 29) := by decide +kernel
theorem fX9_go_29 : a_fetch 127 29 = some (.invokevirtual 141, 32) := by decide +kernel
theorem fX9_go_32 : a_fetch 127 32 = some (.ireturn, 33) := by decide +kernel
theorem fX9_go_33 : a_fetch 127 33 = some (.aload 0, 34) := by decide +kernel
theorem fX9_go_34 : a_fetch 127 34 = some (.invokeinterface 9 7, 37) := by decide +kernel
theorem fX9_go_37 : a_fetch 127 37 = some (.aload 0, 38) := by decide +kernel
theorem fX9_go_38 : a_fetch 127 38 = some (.invokeinterface 9 8, 41) := by decide +kernel
theorem fX9_go_41 : a_fetch 127 41 = some (.invokevirtual 53, 44) := by decide +kernel
theorem fX9_go_44 : a_fetch 127 44 = some (.aload 0, 45) := by decide +kernel
theorem fX9_go_45 : a_fetch 127 45 = some (.aload 0, 46) := by decide +kernel
theorem fX9_go_46 : a_fetch 127 46 = some (.invokeinterface 9 8, 49) := by decide +kernel
theorem fX9_go_49 : a_fetch 127 49 = some (.iload 1, 50) := by decide +kernel
theorem fX9_go_50 : a_fetch 127 50 = some (.invokevirtual 149, 53) := by decide +kernel
theorem fX9_go_53 : a_fetch 127 53 = some (.aload 0, 54) := by decide +kernel
theorem fX9_go_54 : a_fetch 127 54 = some (.invokeinterface 9 8, 57) := by decide +kernel
theorem fX9_go_57 : a_fetch 127 57 = some (.invokeinterface 4 0, 60) := by decide +kernel
theorem fX9_go_60 : a_fetch 127 60 = some (.ireturn, 61) := by decide +kernel
theorem fX9_call_0 : a_fetch 128 0 = some (.aload 0, 1) := by decide +kernel
theorem fX9_call_1 : a_fetch 128 1 = some (.iload 1, 2) := by decide +kernel
theorem fX9_call_2 : a_fetch 128 2 = some (.invokevirtual 145, 5) := by decide +kernel
theorem fX9_call_5 : a_fetch 128 5 = some (.ifCond .ne 14, 8) := by decide +kernel
theorem fX9_call_8 : a_fetch 128 8 = some (.aload 0, 9) := by decide +kernel
theorem fX9_call_9 : a_fetch 128 9 = some (.iconst 2, 10) := by decide +kernel
theorem fX9_call_10 : a_fetch 128 10 = some (.invokevirtual 141, 13) := by decide +kernel
theorem fX9_call_13 : a_fetch 128 13 = some (.ireturn, 14) := by decide +kernel
theorem fX9_call_14 : a_fetch 128 14 = some (.aload 0, 15) := by decide +kernel
theorem fX9_call_15 : a_fetch 128 15 = some (.invokeinterface 9 7, 18) := by decide +kernel
theorem fX9_call_18 : a_fetch 128 18 = some (.aload 0, 19) := by decide +kernel
theorem fX9_call_19 : a_fetch 128 19 = some (.invokeinterface 9 8, 22) := by decide +kernel
theorem fX9_call_22 : a_fetch 128 22 = some (.invokevirtual 53, 25) := by decide +kernel
theorem fX9_call_25 : a_fetch 128 25 = some (.aload 0, 26) := by decide +kernel
theorem fX9_call_26 : a_fetch 128 26 = some (.invokeinterface 9 5, 29) := by decide +kernel
theorem fX9_call_29 : a_fetch 128 29 = some (.aload 0, 30) := by decide +kernel
theorem fX9_call_30 : a_fetch 128 30 = some (.invokeinterface 9 10, 33) := by decide +kernel
theorem fX9_call_33 : a_fetch 128 33 = some (.aload 0, 34) := by decide +kernel
theorem fX9_call_34 : a_fetch 128 34 = some (.invokeinterface 9 8, 37) := by decide +kernel
theorem fX9_call_37 : a_fetch 128 37 = some (.iload 1, 38) := by decide +kernel
theorem fX9_call_38 : a_fetch 128 38 = some (.invokevirtual 18, 41) := by decide +kernel
theorem fX9_call_41 : a_fetch 128 41 = some (.aload 0, 42) := by decide +kernel
theorem fX9_call_42 : a_fetch 128 42 = some (.invokeinterface 9 5, 45) := by decide +kernel
theorem fX9_call_45 : a_fetch 128 45 = some (.invokeinterface 2 1, 48) := by decide +kernel
theorem fX9_call_48 : a_fetch 128 48 = some (.invokevirtual 95, 51) := by decide +kernel
theorem fX9_call_51 : a_fetch 128 51 = some (.ireturn, 52) := by decide +kernel
theorem fX9_watch_0 : a_fetch 129 0 = some (.aload 0, 1) := by decide +kernel
theorem fX9_watch_1 : a_fetch 129 1 = some (.iload 1, 2) := by decide +kernel
theorem fX9_watch_2 : a_fetch 129 2 = some (.invokevirtual 142, 5) := by decide +kernel
theorem fX9_watch_5 : a_fetch 129 5 = some (.ifCond .eq 30, 8) := by decide +kernel
theorem fX9_watch_8 : a_fetch 129 8 = some (.iload 2, 9) := by decide +kernel
theorem fX9_watch_9 : a_fetch 129 9 = some (.iconst (-1), 10) := by decide +kernel
theorem fX9_watch_10 : a_fetch 129 10 = some (.if_icmp .eq 21, 13) := by decide +kernel
theorem fX9_watch_13 : a_fetch 129 13 = some (.aload 0, 14) := by decide +kernel
theorem fX9_watch_14 : a_fetch 129 14 = some (.iload 2, 15) := by decide +kernel
theorem fX9_watch_15 : a_fetch 129 15 = some (.invokevirtual 142, 18) := by decide +kernel
theorem fX9_watch_18 : a_fetch 129 18 = some (.ifCond .eq 30, 21) := by decide +kernel
theorem fX9_watch_21 : a_fetch 129 21 = some (.iload 2, 22) := by decide +kernel
theorem fX9_watch_22 : a_fetch 129 22 = some (.iload 1, 23) := by decide +kernel
theorem fX9_watch_23 : a_fetch 129 23 = some (.if_icmp .eq 30, 26) := by decide +kernel
theorem fX9_watch_26 : a_fetch 129 26 = some (.iconst 1, 27) := by decide +kernel
theorem fX9_watch_27 : a_fetch 129 27 = some (.goto 31, 30) := by decide +kernel
theorem fX9_watch_30 : a_fetch 129 30 = some (.iconst 0, 31) := by decide +kernel
theorem fX9_watch_31 : a_fetch 129 31 = some (.istore 3, 32) := by decide +kernel
theorem fX9_watch_32 : a_fetch 129 32 = some (.iload 3, 33) := by decide +kernel
theorem fX9_watch_33 : a_fetch 129 33 = some (.ifCond .eq 51, 36) := by decide +kernel
theorem fX9_watch_36 : a_fetch 129 36 = some (.aload 0, 37) := by decide +kernel
theorem fX9_watch_37 : a_fetch 129 37 = some (.invokeinterface 9 8, 40) := by decide +kernel
theorem fX9_watch_40 : a_fetch 129 40 = some (.invokeinterface 4 2, 43) := by decide +kernel
theorem fX9_watch_43 : a_fetch 129 43 = some (.iload 1, 44) := by decide +kernel
theorem fX9_watch_44 : a_fetch 129 44 = some (.invokevirtual 96, 47) := by decide +kernel
theorem fX9_watch_47 : a_fetch 129 47 = some (.iload 2, 48) := by decide +kernel
theorem fX9_watch_48 : a_fetch 129 48 = some (.if_icmp .ne 59, 51) := by decide +kernel
theorem fX9_watch_51 : a_fetch 129 51 = some (.aload 0, 52) := by decide +kernel
theorem fX9_watch_52 : a_fetch 129 52 = some (.iconst 3, 53) := by decide +kernel
theorem fX9_watch_53 : a_fetch 129 53 = some (.invokevirtual 141, 56) := by decide +kernel
theorem fX9_watch_56 : a_fetch 129 56 = some (.pop, 57) := by decide +kernel
theorem fX9_watch_57 : a_fetch 129 57 = some (.iconst 0, 58) := by decide +kernel
theorem fX9_watch_58 : a_fetch 129 58 = some (.ireturn, 59) := by decide +kernel
theorem fX9_watch_59 : a_fetch 129 59 = some (.aload 0, 60) := by decide +kernel
theorem fX9_watch_60 : a_fetch 129 60 = some (.invokeinterface 9 7, 63) := by decide +kernel
theorem fX9_watch_63 : a_fetch 129 63 = some (.aload 0, 64) := by decide +kernel
theorem fX9_watch_64 : a_fetch 129 64 = some (.invokeinterface 9 8, 67) := by decide +kernel
theorem fX9_watch_67 : a_fetch 129 67 = some (.invokevirtual 53, 70) := by decide +kernel
theorem fX9_watch_70 : a_fetch 129 70 = some (.aload 0, 71) := by decide +kernel
theorem fX9_watch_71 : a_fetch 129 71 = some (.invokeinterface 9 8, 74) := by decide +kernel
theorem fX9_watch_74 : a_fetch 129 74 = some (.invokeinterface 4 2, 77) := by decide +kernel
theorem fX9_watch_77 : a_fetch 129 77 = some (.iload 1, 78) := by decide +kernel
theorem fX9_watch_78 : a_fetch 129 78 = some (.iload 2, 79) := by decide +kernel
theorem fX9_watch_79 : a_fetch 129 79 = some (.invokevirtual 97, 82) := by decide +kernel
theorem fX9_watch_82 : a_fetch 129 82 = some (.iconst 1, 83) := by decide +kernel
theorem fX9_watch_83 : a_fetch 129 83 = some (.ireturn, 84) := by decide +kernel
theorem fX9_teach_0 : a_fetch 130 0 = some (.aload 0, 1) := by decide +kernel
theorem fX9_teach_1 : a_fetch 130 1 = some (.iload 1, 2) := by decide +kernel
theorem fX9_teach_2 : a_fetch 130 2 = some (.invokevirtual 142, 5) := by decide +kernel
theorem fX9_teach_5 : a_fetch 130 5 = some (.ifCond .eq 25, 8) := by decide +kernel
theorem fX9_teach_8 : a_fetch 130 8 = some (.aload 0, 9) := by decide +kernel
theorem fX9_teach_9 : a_fetch 130 9 = some (.iload 2, 10) := by decide +kernel
theorem fX9_teach_10 : a_fetch 130 10 = some (.invokevirtual 142, 13) := by decide +kernel
theorem fX9_teach_13 : a_fetch 130 13 = some (.ifCond .eq 25, 16) := by decide +kernel
theorem fX9_teach_16 : a_fetch 130 16 = some (.iload 2, 17) := by decide +kernel
theorem fX9_teach_17 : a_fetch 130 17 = some (.iload 1, 18) := by decide +kernel
theorem fX9_teach_18 : a_fetch 130 18 = some (.if_icmp .eq 25, 21) := by decide +kernel
theorem fX9_teach_21 : a_fetch 130 21 = some (.iconst 1, 22) := by decide +kernel
theorem fX9_teach_22 : a_fetch 130 22 = some (.goto 26, 25) := by decide +kernel
theorem fX9_teach_25 : a_fetch 130 25 = some (.iconst 0, 26) := by decide +kernel
theorem fX9_teach_26 : a_fetch 130 26 = some (.istore 4, 28) := by decide +kernel
theorem fX9_teach_28 : a_fetch 130 28 = some (.iload 4, 30) := by decide +kernel
theorem fX9_teach_30 : a_fetch 130 30 = some (.ifCond .eq 43, 33) := by decide +kernel
theorem fX9_teach_33 : a_fetch 130 33 = some (.iload 3, 34) := by decide +kernel
theorem fX9_teach_34 : a_fetch 130 34 = some (.ifCond .lt 43, 37) := by decide +kernel
theorem fX9_teach_37 : a_fetch 130 37 = some (.iload 3, 38) := by decide +kernel
theorem fX9_teach_38 : a_fetch 130 38 = some (.iconst 99, 40) := by decide +kernel
theorem fX9_teach_40 : a_fetch 130 40 = some (.if_icmp .le 49, 43) := by decide +kernel
theorem fX9_teach_43 : a_fetch 130 43 = some (.aload 0, 44) := by decide +kernel
theorem fX9_teach_44 : a_fetch 130 44 = some (.iconst 3, 45) := by decide +kernel
theorem fX9_teach_45 : a_fetch 130 45 = some (.invokevirtual 141, 48) := by decide +kernel
theorem fX9_teach_48 : a_fetch 130 48 = some (.ireturn, 49) := by decide +kernel
theorem fX9_teach_49 : a_fetch 130 49 = some (.aload 0, 50) := by decide +kernel
theorem fX9_teach_50 : a_fetch 130 50 = some (.invokeinterface 9 8, 53) := by decide +kernel
theorem fX9_teach_53 : a_fetch 130 53 = some (.iload 1, 54) := by decide +kernel
theorem fX9_teach_54 : a_fetch 130 54 = some (.iload 2, 55) := by decide +kernel
theorem fX9_teach_55 : a_fetch 130 55 = some (.invokevirtual 45, 58) := by decide +kernel
theorem fX9_teach_58 : a_fetch 130 58 = some (.istore 5, 60) := by decide +kernel
theorem fX9_teach_60 : a_fetch 130 60 = some (.aload 0, 61) := by decide +kernel
theorem fX9_teach_61 : a_fetch 130 61 = some (.invokeinterface 9 7, 64) := by decide +kernel
theorem fX9_teach_64 : a_fetch 130 64 = some (.aload 0, 65) := by decide +kernel
theorem fX9_teach_65 : a_fetch 130 65 = some (.invokeinterface 9 8, 68) := by decide +kernel
theorem fX9_teach_68 : a_fetch 130 68 = some (.invokevirtual 53, 71) := by decide +kernel
theorem fX9_teach_71 : a_fetch 130 71 = some (.aload 0, 72) := by decide +kernel
theorem fX9_teach_72 : a_fetch 130 72 = some (.invokeinterface 9 8, 75) := by decide +kernel
theorem fX9_teach_75 : a_fetch 130 75 = some (.iload 1, 76) := by decide +kernel
theorem fX9_teach_76 : a_fetch 130 76 = some (.iload 2, 77) := by decide +kernel
theorem fX9_teach_77 : a_fetch 130 77 = some (.iload 3, 78) := by decide +kernel
theorem fX9_teach_78 : a_fetch 130 78 = some (.invokevirtual 46, 81) := by decide +kernel
theorem fX9_teach_81 : a_fetch 130 81 = some (.iload 5, 83) := by decide +kernel
theorem fX9_teach_83 : a_fetch 130 83 = some (.ireturn, 84) := by decide +kernel
theorem fX9_bells_0 : a_fetch 131 0 = some (.iload 1, 1) := by decide +kernel
theorem fX9_bells_1 : a_fetch 131 1 = some (.iconst 1, 2) := by decide +kernel
theorem fX9_bells_2 : a_fetch 131 2 = some (.if_icmp .lt 11, 5) := by decide +kernel
theorem fX9_bells_5 : a_fetch 131 5 = some (.iload 1, 6) := by decide +kernel
theorem fX9_bells_6 : a_fetch 131 6 = some (.iconst 20, 8) := by decide +kernel
theorem fX9_bells_8 : a_fetch 131 8 = some (.if_icmp .le 17, 11) := by decide +kernel
theorem fX9_bells_11 : a_fetch 131 11 = some (.aload 0, 12) := by decide +kernel
theorem fX9_bells_12 : a_fetch 131 12 = some (.iconst 2, 13) := by decide +kernel
theorem fX9_bells_13 : a_fetch 131 13 = some (.invokevirtual 141, 16) := by decide +kernel
theorem fX9_bells_16 : a_fetch 131 16 = some (.ireturn, 17) := by decide +kernel
theorem fX9_bells_17 : a_fetch 131 17 = some (.aload 0, 18) := by decide +kernel
theorem fX9_bells_18 : a_fetch 131 18 = some (.invokeinterface 9 8, 21) := by decide +kernel
theorem fX9_bells_21 : a_fetch 131 21 = some (.invokeinterface 4 0, 24) := by decide +kernel
theorem fX9_bells_24 : a_fetch 131 24 = some (.aload 0, 25) := by decide +kernel
theorem fX9_bells_25 : a_fetch 131 25 = some (.invokevirtual 150, 28) := by decide +kernel
theorem fX9_bells_28 : a_fetch 131 28 = some (.iadd, 29) := by decide +kernel
theorem fX9_bells_29 : a_fetch 131 29 = some (.iload 1, 30) := by decide +kernel
theorem fX9_bells_30 : a_fetch 131 30 = some (.iconst 1, 31) := by decide +kernel
theorem fX9_bells_31 : a_fetch 131 31 = some (.isub, 32) := by decide +kernel
theorem fX9_bells_32 : a_fetch 131 32 = some (.iconst 24, 34) := by decide +kernel
theorem fX9_bells_34 : a_fetch 131 34 = some (.imul, 35) := by decide +kernel
theorem fX9_bells_35 : a_fetch 131 35 = some (.iadd, 36) := by decide +kernel
theorem fX9_bells_36 : a_fetch 131 36 = some (.istore 2, 37) := by decide +kernel
theorem fX9_bells_37 : a_fetch 131 37 = some (.iload 2, 38) := by decide +kernel
theorem fX9_bells_38 : a_fetch 131 38 = some (.iconst 24, 40) := by decide +kernel
theorem fX9_bells_40 : a_fetch 131 40 = some (.iadd, 41) := by decide +kernel
theorem fX9_bells_41 : a_fetch 131 41 = some (.iconst 12, 43) := by decide +kernel
theorem fX9_bells_43 : a_fetch 131 43 = some (.isub, 44) := by decide +kernel
theorem fX9_bells_44 : a_fetch 131 44 = some (.iconst 9999, 47) := by decide +kernel
theorem fX9_bells_47 : a_fetch 131 47 = some (.if_icmp .le 56, 50) := by decide +kernel
theorem fX9_bells_50 : a_fetch 131 50 = some (.aload 0, 51) := by decide +kernel
theorem fX9_bells_51 : a_fetch 131 51 = some (.iconst 2, 52) := by decide +kernel
theorem fX9_bells_52 : a_fetch 131 52 = some (.invokevirtual 141, 55) := by decide +kernel
theorem fX9_bells_55 : a_fetch 131 55 = some (.ireturn, 56) := by decide +kernel
theorem fX9_bells_56 : a_fetch 131 56 = some (.aload 0, 57) := by decide +kernel
theorem fX9_bells_57 : a_fetch 131 57 = some (.invokeinterface 9 7, 60) := by decide +kernel
theorem fX9_bells_60 : a_fetch 131 60 = some (.aload 0, 61) := by decide +kernel
theorem fX9_bells_61 : a_fetch 131 61 = some (.invokeinterface 9 8, 64) := by decide +kernel
theorem fX9_bells_64 : a_fetch 131 64 = some (.invokevirtual 53, 67) := by decide +kernel
theorem fX9_bells_67 : a_fetch 131 67 = some (.iconst 0, 68) := by decide +kernel
theorem fX9_bells_68 : a_fetch 131 68 = some (.istore 3, 69) := by decide +kernel
theorem fX9_bells_69 : a_fetch 131 69 = some (.iload 3, 70) := by decide +kernel
theorem fX9_bells_70 : a_fetch 131 70 = some (.iload 1, 71) := by decide +kernel
theorem fX9_bells_71 : a_fetch 131 71 = some (.if_icmp .ge 106, 74) := by decide +kernel
theorem fX9_bells_74 : a_fetch 131 74 = some (.aload 0, 75) := by decide +kernel
theorem fX9_bells_75 : a_fetch 131 75 = some (.aload 0, 76) := by decide +kernel
theorem fX9_bells_76 : a_fetch 131 76 = some (.invokeinterface 9 8, 79) := by decide +kernel
theorem fX9_bells_79 : a_fetch 131 79 = some (.aload 0, 80) := by decide +kernel
theorem fX9_bells_80 : a_fetch 131 80 = some (.invokevirtual 150, 83) := by decide +kernel
theorem fX9_bells_83 : a_fetch 131 83 = some (.invokevirtual 149, 86) := by decide +kernel
theorem fX9_bells_86 : a_fetch 131 86 = some (.aload 0, 87) := by decide +kernel
theorem fX9_bells_87 : a_fetch 131 87 = some (.invokevirtual 151, 90) := by decide +kernel
theorem fX9_bells_90 : a_fetch 131 90 = some (.aload 0, 91) := by decide +kernel
theorem fX9_bells_91 : a_fetch 131 91 = some (.aload 0, 92) := by decide +kernel
theorem fX9_bells_92 : a_fetch 131 92 = some (.invokeinterface 9 8, 95) := by decide +kernel
theorem fX9_bells_95 : a_fetch 131 95 = some (.iconst 12, 97) := by decide +kernel
theorem fX9_bells_97 : a_fetch 131 97 = some (.invokevirtual 149, 100) := by decide +kernel
theorem fX9_bells_100 : a_fetch 131 100 = some (.iinc 3 1, 103) := by decide +kernel
theorem fX9_bells_103 : a_fetch 131 103 = some (.goto 69, 106) := by decide +kernel
theorem fX9_bells_106 : a_fetch 131 106 = some (.aload 0, 107) := by decide +kernel
theorem fX9_bells_107 : a_fetch 131 107 = some (.invokeinterface 9 8, 110) := by decide +kernel
theorem fX9_bells_110 : a_fetch 131 110 = some (.invokeinterface 4 0, 113) := by decide +kernel
theorem fX9_bells_113 : a_fetch 131 113 = some (.ireturn, 114) := by decide +kernel
theorem fX9_undo_0 : a_fetch 132 0 = some (.aload 0, 1) := by decide +kernel
theorem fX9_undo_1 : a_fetch 132 1 = some (.invokeinterface 9 7, 4) := by decide +kernel
theorem fX9_undo_4 : a_fetch 132 4 = some (.aload 0, 5) := by decide +kernel
theorem fX9_undo_5 : a_fetch 132 5 = some (.invokeinterface 9 8, 8) := by decide +kernel
theorem fX9_undo_8 : a_fetch 132 8 = some (.invokevirtual 54, 11) := by decide +kernel
theorem fX9_undo_11 : a_fetch 132 11 = some (.ifCond .eq 16, 14) := by decide +kernel
theorem fX9_undo_14 : a_fetch 132 14 = some (.iconst 1, 15) := by decide +kernel
theorem fX9_undo_15 : a_fetch 132 15 = some (.ireturn, 16) := by decide +kernel
theorem fX9_undo_16 : a_fetch 132 16 = some (.aload 0, 17) := by decide +kernel
theorem fX9_undo_17 : a_fetch 132 17 = some (.iconst 4, 18) := by decide +kernel
theorem fX9_undo_18 : a_fetch 132 18 = some (.invokevirtual 141, 21) := by decide +kernel
theorem fX9_undo_21 : a_fetch 132 21 = some (.pop, 22) := by decide +kernel
theorem fX9_undo_22 : a_fetch 132 22 = some (.iconst 0, 23) := by decide +kernel
theorem fX9_undo_23 : a_fetch 132 23 = some (.ireturn, 24) := by decide +kernel
theorem fX9_seed_0 : a_fetch 133 0 = some (.iload 1, 1) := by decide +kernel
theorem fX9_seed_1 : a_fetch 133 1 = some (.ifCond .ge 12, 4) := by decide +kernel
theorem fX9_seed_4 : a_fetch 133 4 = some (.aload 0, 5) := by decide +kernel
theorem fX9_seed_5 : a_fetch 133 5 = some (.iconst 5, 6) := by decide +kernel
theorem fX9_seed_6 : a_fetch 133 6 = some (.invokevirtual 141, 9) := by decide +kernel
theorem fX9_seed_9 : a_fetch 133 9 = some (.pop, 10) := by decide +kernel
theorem fX9_seed_10 : a_fetch 133 10 = some (.iconst 0, 11) := by decide +kernel
theorem fX9_seed_11 : a_fetch 133 11 = some (.ireturn, 12) := by decide +kernel
theorem fX9_seed_12 : a_fetch 133 12 = some (.aload 0, 13) := by decide +kernel
theorem fX9_seed_13 : a_fetch 133 13 = some (.iload 1, 14) := by decide +kernel
theorem fX9_seed_14 : a_fetch 133 14 = some (.i2l, 15) := by decide +kernel
theorem fX9_seed_15 : a_fetch 133 15 = some (.multianewarray 9 13, 18) := by decide +kernel
theorem fX9_seed_18 : a_fetch 133 18 = some (.iconst 1, 19) := by decide +kernel
theorem fX9_seed_19 : a_fetch 133 19 = some (.ireturn, 20) := by decide +kernel
theorem fX9_slips_0 : a_fetch 134 0 = some (.aload 0, 1) := by decide +kernel
theorem fX9_slips_1 : a_fetch 134 1 = some (.iload 1, 2) := by decide +kernel
theorem fX9_slips_2 : a_fetch 134 2 = some (.invokevirtual 142, 5) := by decide +kernel
theorem fX9_slips_5 : a_fetch 134 5 = some (.ifCond .eq 19, 8) := by decide +kernel
theorem fX9_slips_8 : a_fetch 134 8 = some (.aload 0, 9) := by decide +kernel
theorem fX9_slips_9 : a_fetch 134 9 = some (.invokevirtual 152, 12) := by decide +kernel
theorem fX9_slips_12 : a_fetch 134 12 = some (.ifCond .eq 19, 15) := by decide +kernel
theorem fX9_slips_15 : a_fetch 134 15 = some (.iconst 1, 16) := by decide +kernel
theorem fX9_slips_16 : a_fetch 134 16 = some (.goto 20, 19) := by decide +kernel
theorem fX9_slips_19 : a_fetch 134 19 = some (.iconst 0, 20) := by decide +kernel
theorem fX9_slips_20 : a_fetch 134 20 = some (.istore 2, 21) := by decide +kernel
theorem fX9_slips_21 : a_fetch 134 21 = some (.iload 2, 22) := by decide +kernel
theorem fX9_slips_22 : a_fetch 134 22 = some (.ifCond .eq 41, 25) := by decide +kernel
theorem fX9_slips_25 : a_fetch 134 25 = some (.aload 0, 26) := by decide +kernel
theorem fX9_slips_26 : a_fetch 134 26 = some (.invokeinterface 9 3, 29) := by decide +kernel
theorem fX9_slips_29 : a_fetch 134 29 = some (.aload 0, 30) := by decide +kernel
theorem fX9_slips_30 : a_fetch 134 30 = some (.invokeinterface 9 0, 33) := by decide +kernel
theorem fX9_slips_33 : a_fetch 134 33 = some (.invokevirtual 102, 36) := by decide +kernel
theorem fX9_slips_36 : a_fetch 134 36 = some (.aload 0, 37) := by decide +kernel
theorem fX9_slips_37 : a_fetch 134 37 = some (.iload 1, 38) := by decide +kernel
theorem fX9_slips_38 : a_fetch 134 38 = some (.multianewarray 9 12, 41) := by decide +kernel
theorem fX9_slips_41 : a_fetch 134 41 = some (.aload 0, 42) := by decide +kernel
theorem fX9_slips_42 : a_fetch 134 42 = some (.invokeinterface 9 0, 45) := by decide +kernel
theorem fX9_slips_45 : a_fetch 134 45 = some (.iconst 0, 46) := by decide +kernel
theorem fX9_slips_46 : a_fetch 134 46 = some (.invokevirtual 100, 49) := by decide +kernel
theorem fX9_slips_49 : a_fetch 134 49 = some (.iload 2, 50) := by decide +kernel
theorem fX9_slips_50 : a_fetch 134 50 = some (.ifCond .eq 65, 53) := by decide +kernel
theorem fX9_slips_53 : a_fetch 134 53 = some (.aload 0, 54) := by decide +kernel
theorem fX9_slips_54 : a_fetch 134 54 = some (.invokeinterface 9 3, 57) := by decide +kernel
theorem fX9_slips_57 : a_fetch 134 57 = some (.invokevirtual 95, 60) := by decide +kernel
theorem fX9_slips_60 : a_fetch 134 60 = some (.iconst 3, 61) := by decide +kernel
theorem fX9_slips_61 : a_fetch 134 61 = some (.idiv, 62) := by decide +kernel
theorem fX9_slips_62 : a_fetch 134 62 = some (.goto 70, 65) := by decide +kernel
theorem fX9_slips_65 : a_fetch 134 65 = some (.aload 0, 66) := by decide +kernel
theorem fX9_slips_66 : a_fetch 134 66 = some (.iconst 1, 67) := by decide +kernel
theorem fX9_slips_67 : a_fetch 134 67 = some (.invokevirtual 141, 70) := by decide +kernel
theorem fX9_slips_70 : a_fetch 134 70 = some (.ireturn, 71) := by decide +kernel
theorem fX9_who_0 : a_fetch 135 0 = some (.aload 0, 1) := by decide +kernel
theorem fX9_who_1 : a_fetch 135 1 = some (.invokeinterface 9 3, 4) := by decide +kernel
theorem fX9_who_4 : a_fetch 135 4 = some (.invokevirtual 95, 7) := by decide +kernel
theorem fX9_who_7 : a_fetch 135 7 = some (.ifCond .ne 12, 10) := by decide +kernel
theorem fX9_who_10 : a_fetch 135 10 = some (.iconst (-1), 11) := by decide +kernel
theorem fX9_who_11 : a_fetch 135 11 = some (.ireturn, 12) := by decide +kernel
theorem fX9_who_12 : a_fetch 135 12 = some (.iconst 0, 13) := by decide +kernel
theorem fX9_who_13 : a_fetch 135 13 = some (.istore 1, 14) := by decide +kernel
theorem fX9_who_14 : a_fetch 135 14 = some (.iconst 0, 15) := by decide +kernel
theorem fX9_who_15 : a_fetch 135 15 = some (.istore 2, 16) := by decide +kernel
theorem fX9_who_16 : a_fetch 135 16 = some (.iload 2, 17) := by decide +kernel
theorem fX9_who_17 : a_fetch 135 17 = some (.aload 0, 18) := by decide +kernel
theorem fX9_who_18 : a_fetch 135 18 = some (.invokeinterface 9 10, 21) := by decide +kernel
theorem fX9_who_21 : a_fetch 135 21 = some (.invokeinterface 1 0, 24) := by decide +kernel
theorem fX9_who_24 : a_fetch 135 24 = some (.invokevirtual 95, 27) := by decide +kernel
theorem fX9_who_27 : a_fetch 135 27 = some (.if_icmp .ge 50, 30) := by decide +kernel
theorem fX9_who_30 : a_fetch 135 30 = some (.aload 0, 31) := by decide +kernel
theorem fX9_who_31 : a_fetch 135 31 = some (.iload 2, 32) := by decide +kernel
theorem fX9_who_32 : a_fetch 135 32 = some (.invokevirtual 153, 35) := by decide +kernel
theorem fX9_who_35 : a_fetch 135 35 = some (.ifCond .eq 44, 38) := by decide +kernel
theorem fX9_who_38 : a_fetch 135 38 = some (.iload 1, 39) := by decide +kernel
theorem fX9_who_39 : a_fetch 135 39 = some (.iconst 1, 40) := by decide +kernel
theorem fX9_who_40 : a_fetch 135 40 = some (.iload 2, 41) := by decide +kernel
theorem fX9_who_41 : a_fetch 135 41 = some (.ishl, 42) := by decide +kernel
theorem fX9_who_42 : a_fetch 135 42 = some (.ior, 43) := by decide +kernel
theorem fX9_who_43 : a_fetch 135 43 = some (.istore 1, 44) := by decide +kernel
theorem fX9_who_44 : a_fetch 135 44 = some (.iinc 2 1, 47) := by decide +kernel
theorem fX9_who_47 : a_fetch 135 47 = some (.goto 16, 50) := by decide +kernel
theorem fX9_who_50 : a_fetch 135 50 = some (.iload 1, 51) := by decide +kernel
theorem fX9_who_51 : a_fetch 135 51 = some (.ireturn, 52) := by decide +kernel
theorem fX9_ask_0 : a_fetch 136 0 = some (.aload 0, 1) := by decide +kernel
theorem fX9_ask_1 : a_fetch 136 1 = some (.iload 1, 2) := by decide +kernel
theorem fX9_ask_2 : a_fetch 136 2 = some (.invokevirtual 142, 5) := by decide +kernel
theorem fX9_ask_5 : a_fetch 136 5 = some (.istore 2, 6) := by decide +kernel
theorem fX9_ask_6 : a_fetch 136 6 = some (.iload 2, 7) := by decide +kernel
theorem fX9_ask_7 : a_fetch 136 7 = some (.ifCond .eq 21, 10) := by decide +kernel
theorem fX9_ask_10 : a_fetch 136 10 = some (.aload 0, 11) := by decide +kernel
theorem fX9_ask_11 : a_fetch 136 11 = some (.invokeinterface 9 4, 14) := by decide +kernel
theorem fX9_ask_14 : a_fetch 136 14 = some (.aload 0, 15) := by decide +kernel
theorem fX9_ask_15 : a_fetch 136 15 = some (.invokeinterface 9 0, 18) := by decide +kernel
theorem fX9_ask_18 : a_fetch 136 18 = some (.invokevirtual 58, 21) := by decide +kernel
theorem fX9_ask_21 : a_fetch 136 21 = some (.aload 0, 22) := by decide +kernel
theorem fX9_ask_22 : a_fetch 136 22 = some (.invokeinterface 9 0, 25) := by decide +kernel
theorem fX9_ask_25 : a_fetch 136 25 = some (.iconst 0, 26) := by decide +kernel
theorem fX9_ask_26 : a_fetch 136 26 = some (.invokevirtual 100, 29) := by decide +kernel
theorem fX9_ask_29 : a_fetch 136 29 = some (.iload 2, 30) := by decide +kernel
theorem fX9_ask_30 : a_fetch 136 30 = some (.ifCond .ne 37, 33) := by decide +kernel
theorem fX9_ask_33 : a_fetch 136 33 = some (.jsr_w (-1000000000000000), 36) := by decide +kernel
theorem fX9_ask_36 : a_fetch 136 36 = some (.lreturn, 37) := by decide +kernel
theorem fX9_ask_37 : a_fetch 136 37 = some (.aload 0, 38) := by decide +kernel
theorem fX9_ask_38 : a_fetch 136 38 = some (.invokeinterface 9 4, 41) := by decide +kernel
theorem fX9_ask_41 : a_fetch 136 41 = some (.invokevirtual 85, 44) := by decide +kernel
theorem fX9_ask_44 : a_fetch 136 44 = some (.aload 0, 45) := by decide +kernel
theorem fX9_ask_45 : a_fetch 136 45 = some (.invokeinterface 9 4, 48) := by decide +kernel
theorem fX9_ask_48 : a_fetch 136 48 = some (.invokeinterface 6 11, 51) := by decide +kernel
theorem fX9_ask_51 : a_fetch 136 51 = some (.ifCond .eq 60, 54) := by decide +kernel
theorem fX9_ask_54 : a_fetch 136 54 = some (.jsr_w (-1000000000000000), 57) := by decide +kernel
theorem fX9_ask_57 : a_fetch 136 57 = some (.goto 65, 60) := by decide +kernel
theorem fX9_ask_60 : a_fetch 136 60 = some (.aload 0, 61) := by decide +kernel
theorem fX9_ask_61 : a_fetch 136 61 = some (.iload 1, 62) := by decide +kernel
theorem fX9_ask_62 : a_fetch 136 62 = some (.invokevirtual 154, 65) := by decide +kernel
theorem fX9_ask_65 : a_fetch 136 65 = some (.lreturn, 66) := by decide +kernel
theorem fX9_image_0 : a_fetch 137 0 = some (.aload 0, 1) := by decide +kernel
theorem fX9_image_1 : a_fetch 137 1 = some (.invokeinterface 9 10, 4) := by decide +kernel
theorem fX9_image_4 : a_fetch 137 4 = some (.invokeinterface 1 0, 7) := by decide +kernel
theorem fX9_image_7 : a_fetch 137 7 = some (.invokevirtual 95, 10) := by decide +kernel
theorem fX9_image_10 : a_fetch 137 10 = some (.istore 1, 11) := by decide +kernel
theorem fX9_image_11 : a_fetch 137 11 = some (.aload 0, 12) := by decide +kernel
theorem fX9_image_12 : a_fetch 137 12 = some (.invokeinterface 9 1, 15) := by decide +kernel
theorem fX9_image_15 : a_fetch 137 15 = some (.iconst 0, 16) := by decide +kernel
theorem fX9_image_16 : a_fetch 137 16 = some (.invokevirtual 100, 19) := by decide +kernel
theorem fX9_image_19 : a_fetch 137 19 = some (.aload 0, 20) := by decide +kernel
theorem fX9_image_20 : a_fetch 137 20 = some (.invokeinterface 9 1, 23) := by decide +kernel
theorem fX9_image_23 : a_fetch 137 23 = some (.aload 0, 24) := by decide +kernel
theorem fX9_image_24 : a_fetch 137 24 = some (.invokeinterface 9 8, 27) := by decide +kernel
theorem fX9_image_27 : a_fetch 137 27 = some (.invokeinterface 4 0, 30) := by decide +kernel
theorem fX9_image_30 : a_fetch 137 30 = some (.iconst 256, 33) := by decide +kernel
theorem fX9_image_33 : a_fetch 137 33 = some (.idiv, 34) := by decide +kernel
theorem fX9_image_34 : a_fetch 137 34 = some (.invokevirtual 98, 37) := by decide +kernel
theorem fX9_image_37 : a_fetch 137 37 = some (.aload 0, 38) := by decide +kernel
theorem fX9_image_38 : a_fetch 137 38 = some (.invokeinterface 9 1, 41) := by decide +kernel
theorem fX9_image_41 : a_fetch 137 41 = some (.aload 0, 42) := by decide +kernel
theorem fX9_image_42 : a_fetch 137 42 = some (.invokeinterface 9 8, 45) := by decide +kernel
theorem fX9_image_45 : a_fetch 137 45 = some (.invokeinterface 4 0, 48) := by decide +kernel
theorem fX9_image_48 : a_fetch 137 48 = some (.iconst 256, 51) := by decide +kernel
theorem fX9_image_51 : a_fetch 137 51 = some (.irem, 52) := by decide +kernel
theorem fX9_image_52 : a_fetch 137 52 = some (.invokevirtual 98, 55) := by decide +kernel
theorem fX9_image_55 : a_fetch 137 55 = some (.iconst 0, 56) := by decide +kernel
theorem fX9_image_56 : a_fetch 137 56 = some (.istore 2, 57) := by decide +kernel
theorem fX9_image_57 : a_fetch 137 57 = some (.iload 2, 58) := by decide +kernel
theorem fX9_image_58 : a_fetch 137 58 = some (.iload 1, 59) := by decide +kernel
theorem fX9_image_59 : a_fetch 137 59 = some (.if_icmp .ge 137, 62) := by decide +kernel
theorem fX9_image_62 : a_fetch 137 62 = some (.aload 0, 63) := by decide +kernel
theorem fX9_image_63 : a_fetch 137 63 = some (.invokeinterface 9 1, 66) := by decide +kernel
theorem fX9_image_66 : a_fetch 137 66 = some (.aload 0, 67) := by decide +kernel
theorem fX9_image_67 : a_fetch 137 67 = some (.invokeinterface 9 8, 70) := by decide +kernel
theorem fX9_image_70 : a_fetch 137 70 = some (.invokeinterface 4 1, 73) := by decide +kernel
theorem fX9_image_73 : a_fetch 137 73 = some (.iload 2, 74) := by decide +kernel
theorem fX9_image_74 : a_fetch 137 74 = some (.invokevirtual 96, 77) := by decide +kernel
theorem fX9_image_77 : a_fetch 137 77 = some (.iconst 1, 78) := by decide +kernel
theorem fX9_image_78 : a_fetch 137 78 = some (.iadd, 79) := by decide +kernel
theorem fX9_image_79 : a_fetch 137 79 = some (.invokevirtual 98, 82) := by decide +kernel
theorem fX9_image_82 : a_fetch 137 82 = some (.aload 0, 83) := by decide +kernel
theorem fX9_image_83 : a_fetch 137 83 = some (.invokeinterface 9 1, 86) := by decide +kernel
theorem fX9_image_86 : a_fetch 137 86 = some (.aload 0, 87) := by decide +kernel
theorem fX9_image_87 : a_fetch 137 87 = some (.invokeinterface 9 8, 90) := by decide +kernel
theorem fX9_image_90 : a_fetch 137 90 = some (.invokeinterface 4 2, 93) := by decide +kernel
theorem fX9_image_93 : a_fetch 137 93 = some (.iload 2, 94) := by decide +kernel
theorem fX9_image_94 : a_fetch 137 94 = some (.invokevirtual 96, 97) := by decide +kernel
theorem fX9_image_97 : a_fetch 137 97 = some (.iconst 1, 98) := by decide +kernel
theorem fX9_image_98 : a_fetch 137 98 = some (.iadd, 99) := by decide +kernel
theorem fX9_image_99 : a_fetch 137 99 = some (.invokevirtual 98, 102) := by decide +kernel
theorem fX9_image_102 : a_fetch 137 102 = some (.iconst 0, 103) := by decide +kernel
theorem fX9_image_103 : a_fetch 137 103 = some (.istore 3, 104) := by decide +kernel
theorem fX9_image_104 : a_fetch 137 104 = some (.iload 3, 105) := by decide +kernel
theorem fX9_image_105 : a_fetch 137 105 = some (.iload 1, 106) := by decide +kernel
theorem fX9_image_106 : a_fetch 137 106 = some (.if_icmp .ge 131, 109) := by decide +kernel
theorem fX9_image_109 : a_fetch 137 109 = some (.aload 0, 110) := by decide +kernel
theorem fX9_image_110 : a_fetch 137 110 = some (.invokeinterface 9 1, 113) := by decide +kernel
theorem fX9_image_113 : a_fetch 137 113 = some (.aload 0, 114) := by decide +kernel
theorem fX9_image_114 : a_fetch 137 114 = some (.invokeinterface 9 8, 117) := by decide +kernel
theorem fX9_image_117 : a_fetch 137 117 = some (.iload 2, 118) := by decide +kernel
theorem fX9_image_118 : a_fetch 137 118 = some (.iload 3, 119) := by decide +kernel
theorem fX9_image_119 : a_fetch 137 119 = some (.invokevirtual 45, 122) := by decide +kernel
theorem fX9_image_122 : a_fetch 137 122 = some (.invokevirtual 98, 125) := by decide +kernel
theorem fX9_image_125 : a_fetch 137 125 = some (.iinc 3 1, 128) := by decide +kernel
theorem fX9_image_128 : a_fetch 137 128 = some (.goto 104, 131) := by decide +kernel
theorem fX9_image_131 : a_fetch 137 131 = some (.iinc 2 1, 134) := by decide +kernel
theorem fX9_image_134 : a_fetch 137 134 = some (.goto 57, 137) := by decide +kernel
theorem fX9_image_137 : a_fetch 137 137 = some (.aload 0, 138) := by decide +kernel
theorem fX9_image_138 : a_fetch 137 138 = some (.invokeinterface 9 1, 141) := by decide +kernel
theorem fX9_image_141 : a_fetch 137 141 = some (.aload 0, 142) := by decide +kernel
theorem fX9_image_142 : a_fetch 137 142 = some (.invokeinterface 9 1, 145) := by decide +kernel
theorem fX9_image_145 : a_fetch 137 145 = some (.aload 0, 146) := by decide +kernel
theorem fX9_image_146 : a_fetch 137 146 = some (.invokeinterface 9 1, 149) := by decide +kernel
theorem fX9_image_149 : a_fetch 137 149 = some (.invokevirtual 95, 152) := by decide +kernel
theorem fX9_image_152 : a_fetch 137 152 = some (.invokestatic 155, 155) := by decide +kernel
theorem fX9_image_155 : a_fetch 137 155 = some (.invokevirtual 98, 158) := by decide +kernel
theorem fX9_image_158 : a_fetch 137 158 = some (.aload 0, 159) := by decide +kernel
theorem fX9_image_159 : a_fetch 137 159 = some (.invokeinterface 9 1, 162) := by decide +kernel
theorem fX9_image_162 : a_fetch 137 162 = some (.invokevirtual 95, 165) := by decide +kernel
theorem fX9_image_165 : a_fetch 137 165 = some (.ireturn, 166) := by decide +kernel
theorem fX9_octet_0 : a_fetch 138 0 = some (.aload 0, 1) := by decide +kernel
theorem fX9_octet_1 : a_fetch 138 1 = some (.invokeinterface 9 1, 4) := by decide +kernel
theorem fX9_octet_4 : a_fetch 138 4 = some (.iload 1, 5) := by decide +kernel
theorem fX9_octet_5 : a_fetch 138 5 = some (.invokevirtual 96, 8) := by decide +kernel
theorem fX9_octet_8 : a_fetch 138 8 = some (.ireturn, 9) := by decide +kernel
theorem fX9_on_0 : a_fetch 139 0 = some (.aload 0, 1) := by decide +kernel
theorem fX9_on_1 : a_fetch 139 1 = some (.invokevirtual 156, 4) := by decide +kernel
theorem fX9_on_4 : a_fetch 139 4 = some (.istore 1, 5) := by decide +kernel
theorem fX9_on_5 : a_fetch 139 5 = some (.iload 1, 6) := by decide +kernel
theorem fX9_on_6 : a_fetch 139 6 = some (.ifCond .eq 13, 9) := by decide +kernel
theorem fX9_on_9 : a_fetch 139 9 = some (.aload 0, 10) := by decide +kernel
theorem fX9_on_10 : a_fetch 139 10 = some (.invokevirtual 157, 13) := by decide +kernel
theorem fX9_on_13 : a_fetch 139 13 = some (.aload 0, 14) := by decide +kernel
theorem fX9_on_14 : a_fetch 139 14 = some (.invokeinterface 9 0, 17) := by decide +kernel
theorem fX9_on_17 : a_fetch 139 17 = some (.iconst 0, 18) := by decide +kernel
theorem fX9_on_18 : a_fetch 139 18 = some (.invokevirtual 100, 21) := by decide +kernel
theorem fX9_on_21 : a_fetch 139 21 = some (.iload 1, 22) := by decide +kernel
theorem fX9_on_22 : a_fetch 139 22 = some (.ifCond .ne 31, 25) := by decide +kernel
theorem fX9_on_25 : a_fetch 139 25 = some (.aload 0, 26) := by decide +kernel
theorem fX9_on_26 : a_fetch 139 26 = some (.iconst 5, 27) := by decide +kernel
theorem fX9_on_27 : a_fetch 139 27 = some (.invokevirtual 141, 30) := by decide +kernel
theorem fX9_on_30 : a_fetch 139 30 = some (.pop, 31) := by decide +kernel
theorem fX9_on_31 : a_fetch 139 31 = some (.iload 1, 32) := by decide +kernel
theorem fX9_on_32 : a_fetch 139 32 = some (.ireturn, 33) := by decide +kernel
theorem fX9_status_0 : a_fetch 140 0 = some (.aload 0, 1) := by decide +kernel
theorem fX9_status_1 : a_fetch 140 1 = some (.invokeinterface 9 2, 4) := by decide +kernel
theorem fX9_status_4 : a_fetch 140 4 = some (.iload 1, 5) := by decide +kernel
theorem fX9_status_5 : a_fetch 140 5 = some (.invokevirtual 96, 8) := by decide +kernel
theorem fX9_status_8 : a_fetch 140 8 = some (.ireturn, 9) := by decide +kernel
theorem fX9_refuse_0 : a_fetch 141 0 = some (.aload 0, 1) := by decide +kernel
theorem fX9_refuse_1 : a_fetch 141 1 = some (.invokeinterface 9 2, 4) := by decide +kernel
theorem fX9_refuse_4 : a_fetch 141 4 = some (.iload 1, 5) := by decide +kernel
theorem fX9_refuse_5 : a_fetch 141 5 = some (.aload 0, 6) := by decide +kernel
theorem fX9_refuse_6 : a_fetch 141 6 = some (.invokeinterface 9 2, 9) := by decide +kernel
theorem fX9_refuse_9 : a_fetch 141 9 = some (.iload 1, 10) := by decide +kernel
theorem fX9_refuse_10 : a_fetch 141 10 = some (.invokevirtual 96, 13) := by decide +kernel
theorem fX9_refuse_13 : a_fetch 141 13 = some (.iconst 1, 14) := by decide +kernel
theorem fX9_refuse_14 : a_fetch 141 14 = some (.iadd, 15) := by decide +kernel
theorem fX9_refuse_15 : a_fetch 141 15 = some (.invokevirtual 97, 18) := by decide +kernel
theorem fX9_refuse_18 : a_fetch 141 18 = some (.iconst (-1), 19) := by decide +kernel
theorem fX9_refuse_19 : a_fetch 141 19 = some (.ireturn, 20) := by decide +kernel
theorem fX9_isPerson_0 : a_fetch 142 0 = some (.iload 1, 1) := by decide +kernel
theorem fX9_isPerson_1 : a_fetch 142 1 = some (.ifCond .lt 22, 4) := by decide +kernel
theorem fX9_isPerson_4 : a_fetch 142 4 = some (.iload 1, 5) := by decide +kernel
theorem fX9_isPerson_5 : a_fetch 142 5 = some (.aload 0, 6) := by decide +kernel
theorem fX9_isPerson_6 : a_fetch 142 6 = some (.invokeinterface 9 10, 9) := by decide +kernel
theorem fX9_isPerson_9 : a_fetch 142 9 = some (.invokeinterface 1 0, 12) := by decide +kernel
theorem fX9_isPerson_12 : a_fetch 142 12 = some (.invokevirtual 95, 15) := by decide +kernel
theorem fX9_isPerson_15 : a_fetch 142 15 = some (.if_icmp .ge 22, 18) := by decide +kernel
theorem fX9_isPerson_18 : a_fetch 142 18 = some (.iconst 1, 19) := by decide +kernel
theorem fX9_isPerson_19 : a_fetch 142 19 = some (.goto 23, 22) := by decide +kernel
theorem fX9_isPerson_22 : a_fetch 142 22 = some (.iconst 0, 23) := by decide +kernel
theorem fX9_isPerson_23 : a_fetch 142 23 = some (.ireturn, 24) := by decide +kernel
theorem fX9_isTask_0 : a_fetch 143 0 = some (.iload 1, 1) := by decide +kernel
theorem fX9_isTask_1 : a_fetch 143 1 = some (.ifCond .lt 22, 4) := by decide +kernel
theorem fX9_isTask_4 : a_fetch 143 4 = some (.iload 1, 5) := by decide +kernel
theorem fX9_isTask_5 : a_fetch 143 5 = some (.aload 0, 6) := by decide +kernel
theorem fX9_isTask_6 : a_fetch 143 6 = some (.invokeinterface 9 10, 9) := by decide +kernel
theorem fX9_isTask_9 : a_fetch 143 9 = some (.invokeinterface 1 5, 12) := by decide +kernel
theorem fX9_isTask_12 : a_fetch 143 12 = some (.invokevirtual 95, 15) := by decide +kernel
theorem fX9_isTask_15 : a_fetch 143 15 = some (.if_icmp .ge 22, 18) := by decide +kernel
theorem fX9_isTask_18 : a_fetch 143 18 = some (.iconst 1, 19) := by decide +kernel
theorem fX9_isTask_19 : a_fetch 143 19 = some (.goto 23, 22) := by decide +kernel
theorem fX9_isTask_22 : a_fetch 143 22 = some (.iconst 0, 23) := by decide +kernel
theorem fX9_isTask_23 : a_fetch 143 23 = some (.ireturn, 24) := by decide +kernel
theorem fX9_isClock_0 : a_fetch 144 0 = some (.iload 1, 1) := by decide +kernel
theorem fX9_isClock_1 : a_fetch 144 1 = some (.ifCond .lt 14, 4) := by decide +kernel
theorem fX9_isClock_4 : a_fetch 144 4 = some (.iload 1, 5) := by decide +kernel
theorem fX9_isClock_5 : a_fetch 144 5 = some (.iconst 24, 7) := by decide +kernel
theorem fX9_isClock_7 : a_fetch 144 7 = some (.if_icmp .ge 14, 10) := by decide +kernel
theorem fX9_isClock_10 : a_fetch 144 10 = some (.iconst 1, 11) := by decide +kernel
theorem fX9_isClock_11 : a_fetch 144 11 = some (.goto 15, 14) := by decide +kernel
theorem fX9_isClock_14 : a_fetch 144 14 = some (.iconst 0, 15) := by decide +kernel
theorem fX9_isClock_15 : a_fetch 144 15 = some (.ireturn, 16) := by decide +kernel
theorem fX9_isHere_0 : a_fetch 145 0 = some (.aload 0, 1) := by decide +kernel
theorem fX9_isHere_1 : a_fetch 145 1 = some (.iload 1, 2) := by decide +kernel
theorem fX9_isHere_2 : a_fetch 145 2 = some (.invokevirtual 142, 5) := by decide +kernel
theorem fX9_isHere_5 : a_fetch 145 5 = some (.ifCond .eq 27, 8) := by decide +kernel
theorem fX9_isHere_8 : a_fetch 145 8 = some (.aload 0, 9) := by decide +kernel
theorem fX9_isHere_9 : a_fetch 145 9 = some (.invokeinterface 9 8, 12) := by decide +kernel
theorem fX9_isHere_12 : a_fetch 145 12 = some (.invokeinterface 4 1, 15) := by decide +kernel
theorem fX9_isHere_15 : a_fetch 145 15 = some (.iload 1, 16) := by decide +kernel
theorem fX9_isHere_16 : a_fetch 145 16 = some (.invokevirtual 96, 19) := by decide +kernel
theorem fX9_isHere_19 : a_fetch 145 19 = some (.iconst (-1), 20) := by decide +kernel
theorem fX9_isHere_20 : a_fetch 145 20 = some (.if_icmp .eq 27, 23) := by decide +kernel
theorem fX9_isHere_23 : a_fetch 145 23 = some (.iconst 1, 24) := by decide +kernel
theorem fX9_isHere_24 : a_fetch 145 24 = some (.goto 28, 27) := by decide +kernel
theorem fX9_isHere_27 : a_fetch 145 27 = some (.iconst 0, 28) := by decide +kernel
theorem fX9_isHere_28 : a_fetch 145 28 = some (.ireturn, 29) := by decide +kernel
theorem fX9_feedNumber_0 : a_fetch 146 0 = some (.iconst 24, 2) := by decide +kernel
theorem fX9_feedNumber_2 : a_fetch 146 2 = some (.istore 2, 3) := by decide +kernel
theorem fX9_feedNumber_3 : a_fetch 146 3 = some (.iload 2, 4) := by decide +kernel
theorem fX9_feedNumber_4 : a_fetch 146 4 = some (.ifCond .lt 27, 7) := by decide +kernel
theorem fX9_feedNumber_7 : a_fetch 146 7 = some (.aload 0, 8) := by decide +kernel
theorem fX9_feedNumber_8 : a_fetch 146 8 = some (.invokeinterface 9 0, 11) := by decide +kernel
theorem fX9_feedNumber_11 : a_fetch 146 11 = some (.iload 1, 12) := by decide +kernel
theorem fX9_feedNumber_12 : a_fetch 146 12 = some (.iload 2, 13) := by decide +kernel
theorem fX9_feedNumber_13 : a_fetch 146 13 = some (.ishr, 14) := by decide +kernel
theorem fX9_feedNumber_14 : a_fetch 146 14 = some (.iconst 255, 17) := by decide +kernel
theorem fX9_feedNumber_17 : a_fetch 146 17 = some (.iand, 18) := by decide +kernel
theorem fX9_feedNumber_18 : a_fetch 146 18 = some (.invokevirtual 98, 21) := by decide +kernel
theorem fX9_feedNumber_21 : a_fetch 146 21 = some (.iinc 2 (-8), 24) := by decide +kernel
theorem fX9_feedNumber_24 : a_fetch 146 24 = some (.goto 3, 27) := by decide +kernel
theorem fX9_feedNumber_27 : a_fetch 146 27 = some (.return_, 28) := by decide +kernel
theorem fX9_countAway_0 : a_fetch 147 0 = some (.aload 0, 1) := by decide +kernel
theorem fX9_countAway_1 : a_fetch 147 1 = some (.invokeinterface 9 8, 4) := by decide +kernel
theorem fX9_countAway_4 : a_fetch 147 4 = some (.invokeinterface 4 1, 7) := by decide +kernel
theorem fX9_countAway_7 : a_fetch 147 7 = some (.iconst (-1), 8) := by decide +kernel
theorem fX9_countAway_8 : a_fetch 147 8 = some (.invokevirtual 104, 11) := by decide +kernel
theorem fX9_countAway_11 : a_fetch 147 11 = some (.ireturn, 12) := by decide +kernel
theorem fX9_countElsewhere_0 : a_fetch 148 0 = some (.iconst 0, 1) := by decide +kernel
theorem fX9_countElsewhere_1 : a_fetch 148 1 = some (.istore 1, 2) := by decide +kernel
theorem fX9_countElsewhere_2 : a_fetch 148 2 = some (.iconst 0, 3) := by decide +kernel
theorem fX9_countElsewhere_3 : a_fetch 148 3 = some (.istore 2, 4) := by decide +kernel
theorem fX9_countElsewhere_4 : a_fetch 148 4 = some (.iload 2, 5) := by decide +kernel
theorem fX9_countElsewhere_5 : a_fetch 148 5 = some (.aload 0, 6) := by decide +kernel
theorem fX9_countElsewhere_6 : a_fetch 148 6 = some (.invokeinterface 9 10, 9) := by decide +kernel
theorem fX9_countElsewhere_9 : a_fetch 148 9 = some (.invokeinterface 1 0, 12) := by decide +kernel
theorem fX9_countElsewhere_12 : a_fetch 148 12 = some (.invokevirtual 95, 15) := by decide +kernel
theorem fX9_countElsewhere_15 : a_fetch 148 15 = some (.if_icmp .ge 49, 18) := by decide +kernel
theorem fX9_countElsewhere_18 : a_fetch 148 18 = some (.aload 0, 19) := by decide +kernel
theorem fX9_countElsewhere_19 : a_fetch 148 19 = some (.invokeinterface 9 8, 22) := by decide +kernel
theorem fX9_countElsewhere_22 : a_fetch 148 22 = some (.invokeinterface 4 1, 25) := by decide +kernel
theorem fX9_countElsewhere_25 : a_fetch 148 25 = some (.iload 2, 26) := by decide +kernel
theorem fX9_countElsewhere_26 : a_fetch 148 26 = some (.invokevirtual 96, 29) := by decide +kernel
theorem fX9_countElsewhere_29 : a_fetch 148 29 = some (.istore 3, 30) := by decide +kernel
theorem fX9_countElsewhere_30 : a_fetch 148 30 = some (.iload 3, 31) := by decide +kernel
theorem fX9_countElsewhere_31 : a_fetch 148 31 = some (.iconst (-1), 32) := by decide +kernel
theorem fX9_countElsewhere_32 : a_fetch 148 32 = some (.if_icmp .eq 43, 35) := by decide +kernel
theorem fX9_countElsewhere_35 : a_fetch 148 35 = some (.iload 3, 36) := by decide +kernel
theorem fX9_countElsewhere_36 : a_fetch 148 36 = some (.iload 2, 37) := by decide +kernel
theorem fX9_countElsewhere_37 : a_fetch 148 37 = some (.if_icmp .eq 43, 40) := by decide +kernel
theorem fX9_countElsewhere_40 : a_fetch 148 40 = some (.iinc 1 1, 43) := by decide +kernel
theorem fX9_countElsewhere_43 : a_fetch 148 43 = some (.iinc 2 1, 46) := by decide +kernel
theorem fX9_countElsewhere_46 : a_fetch 148 46 = some (.goto 4, 49) := by decide +kernel
theorem fX9_countElsewhere_49 : a_fetch 148 49 = some (.iload 1, 50) := by decide +kernel
theorem fX9_countElsewhere_50 : a_fetch 148 50 = some (.ireturn, 51) := by decide +kernel
theorem fX9_bring_0 : a_fetch 149 0 = some (.iconst 0, 1) := by decide +kernel
theorem fX9_bring_1 : a_fetch 149 1 = some (.istore 3, 2) := by decide +kernel
theorem fX9_bring_2 : a_fetch 149 2 = some (.iload 3, 3) := by decide +kernel
theorem fX9_bring_3 : a_fetch 149 3 = some (.iload 2, 4) := by decide +kernel
theorem fX9_bring_4 : a_fetch 149 4 = some (.if_icmp .ge 25, 7) := by decide +kernel
theorem fX9_bring_7 : a_fetch 149 7 = some (.aload 0, 8) := by decide +kernel
theorem fX9_bring_8 : a_fetch 149 8 = some (.invokeinterface 9 5, 11) := by decide +kernel
theorem fX9_bring_11 : a_fetch 149 11 = some (.aload 0, 12) := by decide +kernel
theorem fX9_bring_12 : a_fetch 149 12 = some (.invokeinterface 9 10, 15) := by decide +kernel
theorem fX9_bring_15 : a_fetch 149 15 = some (.aload 1, 16) := by decide +kernel
theorem fX9_bring_16 : a_fetch 149 16 = some (.invokevirtual 19, 19) := by decide +kernel
theorem fX9_bring_19 : a_fetch 149 19 = some (.iinc 3 1, 22) := by decide +kernel
theorem fX9_bring_22 : a_fetch 149 22 = some (.goto 2, 25) := by decide +kernel
theorem fX9_bring_25 : a_fetch 149 25 = some (.return_, 26) := by decide +kernel
theorem fX9_hoursTillNoon_0 : a_fetch 150 0 = some (.iconst 11, 2) := by decide +kernel
theorem fX9_hoursTillNoon_2 : a_fetch 150 2 = some (.aload 0, 3) := by decide +kernel
theorem fX9_hoursTillNoon_3 : a_fetch 150 3 = some (.invokeinterface 9 8, 6) := by decide +kernel
theorem fX9_hoursTillNoon_6 : a_fetch 150 6 = some (.invokeinterface 4 0, 9) := by decide +kernel
theorem fX9_hoursTillNoon_9 : a_fetch 150 9 = some (.isub, 10) := by decide +kernel
theorem fX9_hoursTillNoon_10 : a_fetch 150 10 = some (.iconst 24, 12) := by decide +kernel
theorem fX9_hoursTillNoon_12 : a_fetch 150 12 = some (.invokestatic 294, 15) := by decide +kernel
theorem fX9_hoursTillNoon_15 : a_fetch 150 15 = some (.iconst 1, 16) := by decide +kernel
theorem fX9_hoursTillNoon_16 : a_fetch 150 16 = some (.iadd, 17) := by decide +kernel
theorem fX9_hoursTillNoon_17 : a_fetch 150 17 = some (.ireturn, 18) := by decide +kernel
theorem fX9_ringBell_0 : a_fetch 151 0 = some (.aload 0, 1) := by decide +kernel
theorem fX9_ringBell_1 : a_fetch 151 1 = some (.invokeinterface 9 10, 4) := by decide +kernel
theorem fX9_ringBell_4 : a_fetch 151 4 = some (.invokeinterface 1 0, 7) := by decide +kernel
theorem fX9_ringBell_7 : a_fetch 151 7 = some (.invokevirtual 95, 10) := by decide +kernel
theorem fX9_ringBell_10 : a_fetch 151 10 = some (.istore 1, 11) := by decide +kernel
theorem fX9_ringBell_11 : a_fetch 151 11 = some (.iload 1, 12) := by decide +kernel
theorem fX9_ringBell_12 : a_fetch 151 12 = some (.ifCond .ne 16, 15) := by decide +kernel
theorem fX9_ringBell_15 : a_fetch 151 15 = some (.return_, 16) := by decide +kernel
theorem fX9_ringBell_16 : a_fetch 151 16 = some (.aload 0, 17) := by decide +kernel
theorem fX9_ringBell_17 : a_fetch 151 17 = some (.jsr_w 1103515245, 20) := by decide +kernel
theorem fX9_ringBell_20 : a_fetch 151 20 = some (.aload 0, 21) := by decide +kernel
theorem fX9_ringBell_21 : a_fetch 151 21 = some (.invokeinterface 9 13, 24) := by decide +kernel
theorem fX9_ringBell_24 : a_fetch 151 24 = some (.lmul, 25) := by decide +kernel
theorem fX9_ringBell_25 : a_fetch 151 25 = some (.jsr_w 12345, 28) := by decide +kernel
theorem fX9_ringBell_28 : a_fetch 151 28 = some (.ladd, 29) := by decide +kernel
theorem fX9_ringBell_29 : a_fetch 151 29 = some (.jsr_w 2147483647, 32) := by decide +kernel
theorem fX9_ringBell_32 : a_fetch 151 32 = some (.land, 33) := by decide +kernel
theorem fX9_ringBell_33 : a_fetch 151 33 = some (.multianewarray 9 13, 36) := by decide +kernel
theorem fX9_ringBell_36 : a_fetch 151 36 = some (.aload 0, 37) := by decide +kernel
theorem fX9_ringBell_37 : a_fetch 151 37 = some (.invokeinterface 9 13, 40) := by decide +kernel
theorem fX9_ringBell_40 : a_fetch 151 40 = some (.jsr_w 64, 43) := by decide +kernel
theorem fX9_ringBell_43 : a_fetch 151 43 = some (.ldiv, 44) := by decide +kernel
theorem fX9_ringBell_44 : a_fetch 151 44 = some (.iload 1, 45) := by decide +kernel
theorem fX9_ringBell_45 : a_fetch 151 45 = some (.i2l, 46) := by decide +kernel
theorem fX9_ringBell_46 : a_fetch 151 46 = some (.lrem, 47) := by decide +kernel
theorem fX9_ringBell_47 : a_fetch 151 47 = some (.l2i, 48) := by decide +kernel
theorem fX9_ringBell_48 : a_fetch 151 48 = some (.istore 2, 49) := by decide +kernel
theorem fX9_ringBell_49 : a_fetch 151 49 = some (.aload 0, 50) := by decide +kernel
theorem fX9_ringBell_50 : a_fetch 151 50 = some (.iload 2, 51) := by decide +kernel
theorem fX9_ringBell_51 : a_fetch 151 51 = some (.invokevirtual 145, 54) := by decide +kernel
theorem fX9_ringBell_54 : a_fetch 151 54 = some (.ifCond .eq 73, 57) := by decide +kernel
theorem fX9_ringBell_57 : a_fetch 151 57 = some (.aload 0, 58) := by decide +kernel
theorem fX9_ringBell_58 : a_fetch 151 58 = some (.invokeinterface 9 5, 61) := by decide +kernel
theorem fX9_ringBell_61 : a_fetch 151 61 = some (.aload 0, 62) := by decide +kernel
theorem fX9_ringBell_62 : a_fetch 151 62 = some (.invokeinterface 9 10, 65) := by decide +kernel
theorem fX9_ringBell_65 : a_fetch 151 65 = some (.aload 0, 66) := by decide +kernel
theorem fX9_ringBell_66 : a_fetch 151 66 = some (.invokeinterface 9 8, 69) := by decide +kernel
theorem fX9_ringBell_69 : a_fetch 151 69 = some (.iload 2, 70) := by decide +kernel
theorem fX9_ringBell_70 : a_fetch 151 70 = some (.invokevirtual 18, 73) := by decide +kernel
theorem fX9_ringBell_73 : a_fetch 151 73 = some (.return_, 74) := by decide +kernel
theorem fX9_areSlips_0 : a_fetch 152 0 = some (.aload 0, 1) := by decide +kernel
theorem fX9_areSlips_1 : a_fetch 152 1 = some (.invokeinterface 9 0, 4) := by decide +kernel
theorem fX9_areSlips_4 : a_fetch 152 4 = some (.invokevirtual 95, 7) := by decide +kernel
theorem fX9_areSlips_7 : a_fetch 152 7 = some (.istore 1, 8) := by decide +kernel
theorem fX9_areSlips_8 : a_fetch 152 8 = some (.iload 1, 9) := by decide +kernel
theorem fX9_areSlips_9 : a_fetch 152 9 = some (.ifCond .eq 24, 12) := by decide +kernel
theorem fX9_areSlips_12 : a_fetch 152 12 = some (.iload 1, 13) := by decide +kernel
theorem fX9_areSlips_13 : a_fetch 152 13 = some (.iconst 3, 14) := by decide +kernel
theorem fX9_areSlips_14 : a_fetch 152 14 = some (.irem, 15) := by decide +kernel
theorem fX9_areSlips_15 : a_fetch 152 15 = some (.ifCond .ne 24, 18) := by decide +kernel
theorem fX9_areSlips_18 : a_fetch 152 18 = some (.iload 1, 19) := by decide +kernel
theorem fX9_areSlips_19 : a_fetch 152 19 = some (.iconst 60, 21) := by decide +kernel
theorem fX9_areSlips_21 : a_fetch 152 21 = some (.if_icmp .le 26, 24) := by decide +kernel
theorem fX9_areSlips_24 : a_fetch 152 24 = some (.iconst 0, 25) := by decide +kernel
theorem fX9_areSlips_25 : a_fetch 152 25 = some (.ireturn, 26) := by decide +kernel
theorem fX9_areSlips_26 : a_fetch 152 26 = some (.iconst 0, 27) := by decide +kernel
theorem fX9_areSlips_27 : a_fetch 152 27 = some (.istore 2, 28) := by decide +kernel
theorem fX9_areSlips_28 : a_fetch 152 28 = some (.iload 2, 29) := by decide +kernel
theorem fX9_areSlips_29 : a_fetch 152 29 = some (.iload 1, 30) := by decide +kernel
theorem fX9_areSlips_30 : a_fetch 152 30 = some (.if_icmp .ge 87, 33) := by decide +kernel
theorem fX9_areSlips_33 : a_fetch 152 33 = some (.aload 0, 34) := by decide +kernel
theorem fX9_areSlips_34 : a_fetch 152 34 = some (.aload 0, 35) := by decide +kernel
theorem fX9_areSlips_35 : a_fetch 152 35 = some (.invokeinterface 9 0, 38) := by decide +kernel
theorem fX9_areSlips_38 : a_fetch 152 38 = some (.iload 2, 39) := by decide +kernel
theorem fX9_areSlips_39 : a_fetch 152 39 = some (.invokevirtual 96, 42) := by decide +kernel
theorem fX9_areSlips_42 : a_fetch 152 42 = some (.invokevirtual 144, 45) := by decide +kernel
theorem fX9_areSlips_45 : a_fetch 152 45 = some (.ifCond .eq 79, 48) := by decide +kernel
theorem fX9_areSlips_48 : a_fetch 152 48 = some (.aload 0, 49) := by decide +kernel
theorem fX9_areSlips_49 : a_fetch 152 49 = some (.aload 0, 50) := by decide +kernel
theorem fX9_areSlips_50 : a_fetch 152 50 = some (.invokeinterface 9 0, 53) := by decide +kernel
theorem fX9_areSlips_53 : a_fetch 152 53 = some (.iload 2, 54) := by decide +kernel
theorem fX9_areSlips_54 : a_fetch 152 54 = some (.iconst 1, 55) := by decide +kernel
theorem fX9_areSlips_55 : a_fetch 152 55 = some (.iadd, 56) := by decide +kernel
theorem fX9_areSlips_56 : a_fetch 152 56 = some (.invokevirtual 96, 59) := by decide +kernel
theorem fX9_areSlips_59 : a_fetch 152 59 = some (.invokevirtual 143, 62) := by decide +kernel
theorem fX9_areSlips_62 : a_fetch 152 62 = some (.ifCond .eq 79, 65) := by decide +kernel
theorem fX9_areSlips_65 : a_fetch 152 65 = some (.aload 0, 66) := by decide +kernel
theorem fX9_areSlips_66 : a_fetch 152 66 = some (.invokeinterface 9 0, 69) := by decide +kernel
theorem fX9_areSlips_69 : a_fetch 152 69 = some (.iload 2, 70) := by decide +kernel
theorem fX9_areSlips_70 : a_fetch 152 70 = some (.iconst 2, 71) := by decide +kernel
theorem fX9_areSlips_71 : a_fetch 152 71 = some (.iadd, 72) := by decide +kernel
theorem fX9_areSlips_72 : a_fetch 152 72 = some (.invokevirtual 96, 75) := by decide +kernel
theorem fX9_areSlips_75 : a_fetch 152 75 = some (.iconst 1, 76) := by decide +kernel
theorem fX9_areSlips_76 : a_fetch 152 76 = some (.if_icmp .le 81, 79) := by decide +kernel
theorem fX9_areSlips_79 : a_fetch 152 79 = some (.iconst 0, 80) := by decide +kernel
theorem fX9_areSlips_80 : a_fetch 152 80 = some (.ireturn, 81) := by decide +kernel
theorem fX9_areSlips_81 : a_fetch 152 81 = some (.iinc 2 3, 84) := by decide +kernel
theorem fX9_areSlips_84 : a_fetch 152 84 = some (.goto 28, 87) := by decide +kernel
theorem fX9_areSlips_87 : a_fetch 152 87 = some (.iconst 1, 88) := by decide +kernel
theorem fX9_areSlips_88 : a_fetch 152 88 = some (.ireturn, 89) := by decide +kernel
theorem fX9_fitsSlips_0 : a_fetch 153 0 = some (.iconst 0, 1) := by decide +kernel
theorem fX9_fitsSlips_1 : a_fetch 153 1 = some (.istore 2, 2) := by decide +kernel
theorem fX9_fitsSlips_2 : a_fetch 153 2 = some (.iload 2, 3) := by decide +kernel
theorem fX9_fitsSlips_3 : a_fetch 153 3 = some (.aload 0, 4) := by decide +kernel
theorem fX9_fitsSlips_4 : a_fetch 153 4 = some (.invokeinterface 9 3, 7) := by decide +kernel
theorem fX9_fitsSlips_7 : a_fetch 153 7 = some (.invokevirtual 95, 10) := by decide +kernel
theorem fX9_fitsSlips_10 : a_fetch 153 10 = some (.if_icmp .ge 87, 13) := by decide +kernel
theorem fX9_fitsSlips_13 : a_fetch 153 13 = some (.aload 0, 14) := by decide +kernel
theorem fX9_fitsSlips_14 : a_fetch 153 14 = some (.invokeinterface 9 3, 17) := by decide +kernel
theorem fX9_fitsSlips_17 : a_fetch 153 17 = some (.iload 2, 18) := by decide +kernel
theorem fX9_fitsSlips_18 : a_fetch 153 18 = some (.iconst 1, 19) := by decide +kernel
theorem fX9_fitsSlips_19 : a_fetch 153 19 = some (.iadd, 20) := by decide +kernel
theorem fX9_fitsSlips_20 : a_fetch 153 20 = some (.invokevirtual 96, 23) := by decide +kernel
theorem fX9_fitsSlips_23 : a_fetch 153 23 = some (.istore 3, 24) := by decide +kernel
theorem fX9_fitsSlips_24 : a_fetch 153 24 = some (.aload 0, 25) := by decide +kernel
theorem fX9_fitsSlips_25 : a_fetch 153 25 = some (.invokeinterface 9 5, 28) := by decide +kernel
theorem fX9_fitsSlips_28 : a_fetch 153 28 = some (.aload 0, 29) := by decide +kernel
theorem fX9_fitsSlips_29 : a_fetch 153 29 = some (.invokeinterface 9 10, 32) := by decide +kernel
theorem fX9_fitsSlips_32 : a_fetch 153 32 = some (.aload 0, 33) := by decide +kernel
theorem fX9_fitsSlips_33 : a_fetch 153 33 = some (.invokeinterface 9 8, 36) := by decide +kernel
theorem fX9_fitsSlips_36 : a_fetch 153 36 = some (.iload 1, 37) := by decide +kernel
theorem fX9_fitsSlips_37 : a_fetch 153 37 = some (.aload 0, 38) := by decide +kernel
theorem fX9_fitsSlips_38 : a_fetch 153 38 = some (.invokeinterface 9 12, 41) := by decide +kernel
theorem fX9_fitsSlips_41 : a_fetch 153 41 = some (.iload 3, 42) := by decide +kernel
theorem fX9_fitsSlips_42 : a_fetch 153 42 = some (.aload 0, 43) := by decide +kernel
theorem fX9_fitsSlips_43 : a_fetch 153 43 = some (.invokeinterface 9 3, 46) := by decide +kernel
theorem fX9_fitsSlips_46 : a_fetch 153 46 = some (.iload 2, 47) := by decide +kernel
theorem fX9_fitsSlips_47 : a_fetch 153 47 = some (.invokevirtual 96, 50) := by decide +kernel
theorem fX9_fitsSlips_50 : a_fetch 153 50 = some (.invokevirtual 26, 53) := by decide +kernel
theorem fX9_fitsSlips_53 : a_fetch 153 53 = some (.istore 4, 55) := by decide +kernel
theorem fX9_fitsSlips_55 : a_fetch 153 55 = some (.iload 4, 57) := by decide +kernel
theorem fX9_fitsSlips_57 : a_fetch 153 57 = some (.aload 0, 58) := by decide +kernel
theorem fX9_fitsSlips_58 : a_fetch 153 58 = some (.invokeinterface 9 3, 61) := by decide +kernel
theorem fX9_fitsSlips_61 : a_fetch 153 61 = some (.iload 2, 62) := by decide +kernel
theorem fX9_fitsSlips_62 : a_fetch 153 62 = some (.iconst 2, 63) := by decide +kernel
theorem fX9_fitsSlips_63 : a_fetch 153 63 = some (.iadd, 64) := by decide +kernel
theorem fX9_fitsSlips_64 : a_fetch 153 64 = some (.invokevirtual 96, 67) := by decide +kernel
theorem fX9_fitsSlips_67 : a_fetch 153 67 = some (.iconst 1, 68) := by decide +kernel
theorem fX9_fitsSlips_68 : a_fetch 153 68 = some (.if_icmp .ne 75, 71) := by decide +kernel
theorem fX9_fitsSlips_71 : a_fetch 153 71 = some (.iconst 1, 72) := by decide +kernel
theorem fX9_fitsSlips_72 : a_fetch 153 72 = some (.goto 76, 75) := by decide +kernel
theorem fX9_fitsSlips_75 : a_fetch 153 75 = some (.iconst 0, 76) := by decide +kernel
theorem fX9_fitsSlips_76 : a_fetch 153 76 = some (.if_icmp .eq 81, 79) := by decide +kernel
theorem fX9_fitsSlips_79 : a_fetch 153 79 = some (.iconst 0, 80) := by decide +kernel
theorem fX9_fitsSlips_80 : a_fetch 153 80 = some (.ireturn, 81) := by decide +kernel
theorem fX9_fitsSlips_81 : a_fetch 153 81 = some (.iinc 2 3, 84) := by decide +kernel
theorem fX9_fitsSlips_84 : a_fetch 153 84 = some (.goto 2, 87) := by decide +kernel
theorem fX9_fitsSlips_87 : a_fetch 153 87 = some (.iconst 1, 88) := by decide +kernel
theorem fX9_fitsSlips_88 : a_fetch 153 88 = some (.ireturn, 89) := by decide +kernel
theorem fX9_answer_0 : a_fetch 154 0 = some (.new 8, 3) := by decide +kernel
theorem fX9_answer_3 : a_fetch 154 3 = some (.dup, 4) := by decide +kernel
theorem fX9_answer_4 : a_fetch 154 4 = some (.invokespecial 105, 7) := by decide +kernel
theorem fX9_answer_7 : a_fetch 154 7 = some (.astore 2, 8) := by decide +kernel
theorem fX9_answer_8 : a_fetch 154 8 = some (.aload 0, 9) := by decide +kernel
theorem fX9_answer_9 : a_fetch 154 9 = some (.invokeinterface 9 9, 12) := by decide +kernel
theorem fX9_answer_12 : a_fetch 154 12 = some (.aload 0, 13) := by decide +kernel
theorem fX9_answer_13 : a_fetch 154 13 = some (.invokeinterface 9 8, 16) := by decide +kernel
theorem fX9_answer_16 : a_fetch 154 16 = some (.invokevirtual 44, 19) := by decide +kernel
theorem fX9_answer_19 : a_fetch 154 19 = some (.aload 0, 20) := by decide +kernel
theorem fX9_answer_20 : a_fetch 154 20 = some (.invokeinterface 9 5, 23) := by decide +kernel
theorem fX9_answer_23 : a_fetch 154 23 = some (.invokevirtual 17, 26) := by decide +kernel
theorem fX9_answer_26 : a_fetch 154 26 = some (.iconst 0, 27) := by decide +kernel
theorem fX9_answer_27 : a_fetch 154 27 = some (.istore 3, 28) := by decide +kernel
theorem fX9_answer_28 : a_fetch 154 28 = some (.iload 3, 29) := by decide +kernel
theorem fX9_answer_29 : a_fetch 154 29 = some (.iconst 48, 31) := by decide +kernel
theorem fX9_answer_31 : a_fetch 154 31 = some (.if_icmp .ge 128, 34) := by decide +kernel
theorem fX9_answer_34 : a_fetch 154 34 = some (.aload 0, 35) := by decide +kernel
theorem fX9_answer_35 : a_fetch 154 35 = some (.invokeinterface 9 9, 38) := by decide +kernel
theorem fX9_answer_38 : a_fetch 154 38 = some (.invokeinterface 4 0, 41) := by decide +kernel
theorem fX9_answer_41 : a_fetch 154 41 = some (.iconst 9999, 44) := by decide +kernel
theorem fX9_answer_44 : a_fetch 154 44 = some (.if_icmp .gt 128, 47) := by decide +kernel
theorem fX9_answer_47 : a_fetch 154 47 = some (.aload 0, 48) := by decide +kernel
theorem fX9_answer_48 : a_fetch 154 48 = some (.invokeinterface 9 5, 51) := by decide +kernel
theorem fX9_answer_51 : a_fetch 154 51 = some (.aload 0, 52) := by decide +kernel
theorem fX9_answer_52 : a_fetch 154 52 = some (.invokeinterface 9 10, 55) := by decide +kernel
theorem fX9_answer_55 : a_fetch 154 55 = some (.aload 0, 56) := by decide +kernel
theorem fX9_answer_56 : a_fetch 154 56 = some (.invokeinterface 9 9, 59) := by decide +kernel
theorem fX9_answer_59 : a_fetch 154 59 = some (.iload 1, 60) := by decide +kernel
theorem fX9_answer_60 : a_fetch 154 60 = some (.invokevirtual 32, 63) := by decide +kernel
theorem fX9_answer_63 : a_fetch 154 63 = some (.aload 2, 64) := by decide +kernel
theorem fX9_answer_64 : a_fetch 154 64 = some (.aload 0, 65) := by decide +kernel
theorem fX9_answer_65 : a_fetch 154 65 = some (.invokeinterface 9 9, 68) := by decide +kernel
theorem fX9_answer_68 : a_fetch 154 68 = some (.invokeinterface 4 0, 71) := by decide +kernel
theorem fX9_answer_71 : a_fetch 154 71 = some (.aload 0, 72) := by decide +kernel
theorem fX9_answer_72 : a_fetch 154 72 = some (.invokeinterface 9 4, 75) := by decide +kernel
theorem fX9_answer_75 : a_fetch 154 75 = some (.invokeinterface 6 9, 78) := by decide +kernel
theorem fX9_answer_78 : a_fetch 154 78 = some (.aload 0, 79) := by decide +kernel
theorem fX9_answer_79 : a_fetch 154 79 = some (.invokeinterface 9 5, 82) := by decide +kernel
theorem fX9_answer_82 : a_fetch 154 82 = some (.invokeinterface 2 0, 85) := by decide +kernel
theorem fX9_answer_85 : a_fetch 154 85 = some (.invokevirtual 37, 88) := by decide +kernel
theorem fX9_answer_88 : a_fetch 154 88 = some (.invokevirtual 106, 91) := by decide +kernel
theorem fX9_answer_91 : a_fetch 154 91 = some (.aload 0, 92) := by decide +kernel
theorem fX9_answer_92 : a_fetch 154 92 = some (.invokeinterface 9 9, 95) := by decide +kernel
theorem fX9_answer_95 : a_fetch 154 95 = some (.invokeinterface 4 0, 98) := by decide +kernel
theorem fX9_answer_98 : a_fetch 154 98 = some (.iconst 9999, 101) := by decide +kernel
theorem fX9_answer_101 : a_fetch 154 101 = some (.if_icmp .ne 107, 104) := by decide +kernel
theorem fX9_answer_104 : a_fetch 154 104 = some (.goto 128, 107) := by decide +kernel
theorem fX9_answer_107 : a_fetch 154 107 = some (.aload 0, 108) := by decide +kernel
theorem fX9_answer_108 : a_fetch 154 108 = some (.invokeinterface 9 5, 111) := by decide +kernel
theorem fX9_answer_111 : a_fetch 154 111 = some (.aload 0, 112) := by decide +kernel
theorem fX9_answer_112 : a_fetch 154 112 = some (.invokeinterface 9 10, 115) := by decide +kernel
theorem fX9_answer_115 : a_fetch 154 115 = some (.aload 0, 116) := by decide +kernel
theorem fX9_answer_116 : a_fetch 154 116 = some (.invokeinterface 9 9, 119) := by decide +kernel
theorem fX9_answer_119 : a_fetch 154 119 = some (.invokevirtual 19, 122) := by decide +kernel
theorem fX9_answer_122 : a_fetch 154 122 = some (.iinc 3 1, 125) := by decide +kernel
theorem fX9_answer_125 : a_fetch 154 125 = some (.goto 28, 128) := by decide +kernel
theorem fX9_answer_128 : a_fetch 154 128 = some (.aload 2, 129) := by decide +kernel
theorem fX9_answer_129 : a_fetch 154 129 = some (.aload 0, 130) := by decide +kernel
theorem fX9_answer_130 : a_fetch 154 130 = some (.invokeinterface 9 4, 133) := by decide +kernel
theorem fX9_answer_133 : a_fetch 154 133 = some (.invokeinterface 6 10, 136) := by decide +kernel
theorem fX9_answer_136 : a_fetch 154 136 = some (.invokevirtual 107, 139) := by decide +kernel
theorem fX9_answer_139 : a_fetch 154 139 = some (.lreturn, 140) := by decide +kernel
theorem fX9_checkOf_0 : a_fetch 155 0 = some (.iconst 197, 3) := by decide +kernel
theorem fX9_checkOf_3 : a_fetch 155 3 = some (.istore 2, 4) := by decide +kernel
theorem fX9_checkOf_4 : a_fetch 155 4 = some (.iconst 0, 5) := by decide +kernel
theorem fX9_checkOf_5 : a_fetch 155 5 = some (.istore 3, 6) := by decide +kernel
theorem fX9_checkOf_6 : a_fetch 155 6 = some (.iload 3, 7) := by decide +kernel
theorem fX9_checkOf_7 : a_fetch 155 7 = some (.iload 1, 8) := by decide +kernel
theorem fX9_checkOf_8 : a_fetch 155 8 = some (.if_icmp .ge 31, 11) := by decide +kernel
theorem fX9_checkOf_11 : a_fetch 155 11 = some (.iconst 3, 12) := by decide +kernel
theorem fX9_checkOf_12 : a_fetch 155 12 = some (.iload 2, 13) := by decide +kernel
theorem fX9_checkOf_13 : a_fetch 155 13 = some (.imul, 14) := by decide +kernel
theorem fX9_checkOf_14 : a_fetch 155 14 = some (.aload 0, 15) := by decide +kernel
theorem fX9_checkOf_15 : a_fetch 155 15 = some (.iload 3, 16) := by decide +kernel
theorem fX9_checkOf_16 : a_fetch 155 16 = some (.invokevirtual 96, 19) := by decide +kernel
theorem fX9_checkOf_19 : a_fetch 155 19 = some (.iadd, 20) := by decide +kernel
theorem fX9_checkOf_20 : a_fetch 155 20 = some (.iconst 251, 23) := by decide +kernel
theorem fX9_checkOf_23 : a_fetch 155 23 = some (.irem, 24) := by decide +kernel
theorem fX9_checkOf_24 : a_fetch 155 24 = some (.istore 2, 25) := by decide +kernel
theorem fX9_checkOf_25 : a_fetch 155 25 = some (.iinc 3 1, 28) := by decide +kernel
theorem fX9_checkOf_28 : a_fetch 155 28 = some (.goto 6, 31) := by decide +kernel
theorem fX9_checkOf_31 : a_fetch 155 31 = some (.iload 2, 32) := by decide +kernel
theorem fX9_checkOf_32 : a_fetch 155 32 = some (.ireturn, 33) := by decide +kernel
theorem fX9_isImage_0 : a_fetch 156 0 = some (.aload 0, 1) := by decide +kernel
theorem fX9_isImage_1 : a_fetch 156 1 = some (.invokeinterface 9 10, 4) := by decide +kernel
theorem fX9_isImage_4 : a_fetch 156 4 = some (.invokeinterface 1 0, 7) := by decide +kernel
theorem fX9_isImage_7 : a_fetch 156 7 = some (.invokevirtual 95, 10) := by decide +kernel
theorem fX9_isImage_10 : a_fetch 156 10 = some (.istore 1, 11) := by decide +kernel
theorem fX9_isImage_11 : a_fetch 156 11 = some (.iconst 2, 12) := by decide +kernel
theorem fX9_isImage_12 : a_fetch 156 12 = some (.iload 1, 13) := by decide +kernel
theorem fX9_isImage_13 : a_fetch 156 13 = some (.iconst 2, 14) := by decide +kernel
theorem fX9_isImage_14 : a_fetch 156 14 = some (.iload 1, 15) := by decide +kernel
theorem fX9_isImage_15 : a_fetch 156 15 = some (.iadd, 16) := by decide +kernel
theorem fX9_isImage_16 : a_fetch 156 16 = some (.imul, 17) := by decide +kernel
theorem fX9_isImage_17 : a_fetch 156 17 = some (.iadd, 18) := by decide +kernel
theorem fX9_isImage_18 : a_fetch 156 18 = some (.istore 2, 19) := by decide +kernel
theorem fX9_isImage_19 : a_fetch 156 19 = some (.aload 0, 20) := by decide +kernel
theorem fX9_isImage_20 : a_fetch 156 20 = some (.invokeinterface 9 0, 23) := by decide +kernel
theorem fX9_isImage_23 : a_fetch 156 23 = some (.invokevirtual 95, 26) := by decide +kernel
theorem fX9_isImage_26 : a_fetch 156 26 = some (.iload 2, 27) := by decide +kernel
theorem fX9_isImage_27 : a_fetch 156 27 = some (.iconst 1, 28) := by decide +kernel
theorem fX9_isImage_28 : a_fetch 156 28 = some (.iadd, 29) := by decide +kernel
theorem fX9_isImage_29 : a_fetch 156 29 = some (.if_icmp .ne 51, 32) := by decide +kernel
theorem fX9_isImage_32 : a_fetch 156 32 = some (.aload 0, 33) := by decide +kernel
theorem fX9_isImage_33 : a_fetch 156 33 = some (.invokeinterface 9 0, 36) := by decide +kernel
theorem fX9_isImage_36 : a_fetch 156 36 = some (.iload 2, 37) := by decide +kernel
theorem fX9_isImage_37 : a_fetch 156 37 = some (.invokevirtual 96, 40) := by decide +kernel
theorem fX9_isImage_40 : a_fetch 156 40 = some (.aload 0, 41) := by decide +kernel
theorem fX9_isImage_41 : a_fetch 156 41 = some (.invokeinterface 9 0, 44) := by decide +kernel
theorem fX9_isImage_44 : a_fetch 156 44 = some (.iload 2, 45) := by decide +kernel
theorem fX9_isImage_45 : a_fetch 156 45 = some (.invokestatic 155, 48) := by decide +kernel
theorem fX9_isImage_48 : a_fetch 156 48 = some (.if_icmp .eq 53, 51) := by decide +kernel
theorem fX9_isImage_51 : a_fetch 156 51 = some (.iconst 0, 52) := by decide +kernel
theorem fX9_isImage_52 : a_fetch 156 52 = some (.ireturn, 53) := by decide +kernel
theorem fX9_isImage_53 : a_fetch 156 53 = some (.aload 0, 54) := by decide +kernel
theorem fX9_isImage_54 : a_fetch 156 54 = some (.invokeinterface 9 0, 57) := by decide +kernel
theorem fX9_isImage_57 : a_fetch 156 57 = some (.iconst 0, 58) := by decide +kernel
theorem fX9_isImage_58 : a_fetch 156 58 = some (.invokevirtual 96, 61) := by decide +kernel
theorem fX9_isImage_61 : a_fetch 156 61 = some (.iconst 256, 64) := by decide +kernel
theorem fX9_isImage_64 : a_fetch 156 64 = some (.imul, 65) := by decide +kernel
theorem fX9_isImage_65 : a_fetch 156 65 = some (.aload 0, 66) := by decide +kernel
theorem fX9_isImage_66 : a_fetch 156 66 = some (.invokeinterface 9 0, 69) := by decide +kernel
theorem fX9_isImage_69 : a_fetch 156 69 = some (.iconst 1, 70) := by decide +kernel
theorem fX9_isImage_70 : a_fetch 156 70 = some (.invokevirtual 96, 73) := by decide +kernel
theorem fX9_isImage_73 : a_fetch 156 73 = some (.iadd, 74) := by decide +kernel
theorem fX9_isImage_74 : a_fetch 156 74 = some (.iconst 9999, 77) := by decide +kernel
theorem fX9_isImage_77 : a_fetch 156 77 = some (.if_icmp .le 82, 80) := by decide +kernel
theorem fX9_isImage_80 : a_fetch 156 80 = some (.iconst 0, 81) := by decide +kernel
theorem fX9_isImage_81 : a_fetch 156 81 = some (.ireturn, 82) := by decide +kernel
theorem fX9_isImage_82 : a_fetch 156 82 = some (.iconst 0, 83) := by decide +kernel
theorem fX9_isImage_83 : a_fetch 156 83 = some (.istore 3, 84) := by decide +kernel
theorem fX9_isImage_84 : a_fetch 156 84 = some (.iconst 0, 85) := by decide +kernel
theorem fX9_isImage_85 : a_fetch 156 85 = some (.istore 4, 87) := by decide +kernel
theorem fX9_isImage_87 : a_fetch 156 87 = some (.iload 4, 89) := by decide +kernel
theorem fX9_isImage_89 : a_fetch 156 89 = some (.iload 1, 90) := by decide +kernel
theorem fX9_isImage_90 : a_fetch 156 90 = some (.if_icmp .ge 234, 93) := by decide +kernel
theorem fX9_isImage_93 : a_fetch 156 93 = some (.iconst 2, 94) := by decide +kernel
theorem fX9_isImage_94 : a_fetch 156 94 = some (.iload 4, 96) := by decide +kernel
theorem fX9_isImage_96 : a_fetch 156 96 = some (.iconst 2, 97) := by decide +kernel
theorem fX9_isImage_97 : a_fetch 156 97 = some (.iload 1, 98) := by decide +kernel
theorem fX9_isImage_98 : a_fetch 156 98 = some (.iadd, 99) := by decide +kernel
theorem fX9_isImage_99 : a_fetch 156 99 = some (.imul, 100) := by decide +kernel
theorem fX9_isImage_100 : a_fetch 156 100 = some (.iadd, 101) := by decide +kernel
theorem fX9_isImage_101 : a_fetch 156 101 = some (.istore 5, 103) := by decide +kernel
theorem fX9_isImage_103 : a_fetch 156 103 = some (.aload 0, 104) := by decide +kernel
theorem fX9_isImage_104 : a_fetch 156 104 = some (.invokeinterface 9 0, 107) := by decide +kernel
theorem fX9_isImage_107 : a_fetch 156 107 = some (.iload 5, 109) := by decide +kernel
theorem fX9_isImage_109 : a_fetch 156 109 = some (.invokevirtual 96, 112) := by decide +kernel
theorem fX9_isImage_112 : a_fetch 156 112 = some (.istore 6, 114) := by decide +kernel
theorem fX9_isImage_114 : a_fetch 156 114 = some (.aload 0, 115) := by decide +kernel
theorem fX9_isImage_115 : a_fetch 156 115 = some (.invokeinterface 9 0, 118) := by decide +kernel
theorem fX9_isImage_118 : a_fetch 156 118 = some (.iload 5, 120) := by decide +kernel
theorem fX9_isImage_120 : a_fetch 156 120 = some (.iconst 1, 121) := by decide +kernel
theorem fX9_isImage_121 : a_fetch 156 121 = some (.iadd, 122) := by decide +kernel
theorem fX9_isImage_122 : a_fetch 156 122 = some (.invokevirtual 96, 125) := by decide +kernel
theorem fX9_isImage_125 : a_fetch 156 125 = some (.istore 7, 127) := by decide +kernel
theorem fX9_isImage_127 : a_fetch 156 127 = some (.iload 6, 129) := by decide +kernel
theorem fX9_isImage_129 : a_fetch 156 129 = some (.iload 1, 130) := by decide +kernel
theorem fX9_isImage_130 : a_fetch 156 130 = some (.if_icmp .gt 148, 133) := by decide +kernel
theorem fX9_isImage_133 : a_fetch 156 133 = some (.iload 7, 135) := by decide +kernel
theorem fX9_isImage_135 : a_fetch 156 135 = some (.iload 1, 136) := by decide +kernel
theorem fX9_isImage_136 : a_fetch 156 136 = some (.if_icmp .gt 148, 139) := by decide +kernel
theorem fX9_isImage_139 : a_fetch 156 139 = some (.iload 7, 141) := by decide +kernel
theorem fX9_isImage_141 : a_fetch 156 141 = some (.iload 4, 143) := by decide +kernel
theorem fX9_isImage_143 : a_fetch 156 143 = some (.iconst 1, 144) := by decide +kernel
theorem fX9_isImage_144 : a_fetch 156 144 = some (.iadd, 145) := by decide +kernel
theorem fX9_isImage_145 : a_fetch 156 145 = some (.if_icmp .ne 150, 148) := by decide +kernel
theorem fX9_isImage_148 : a_fetch 156 148 = some (.iconst 0, 149) := by decide +kernel
theorem fX9_isImage_149 : a_fetch 156 149 = some (.ireturn, 150) := by decide +kernel
theorem fX9_isImage_150 : a_fetch 156 150 = some (.iload 6, 152) := by decide +kernel
theorem fX9_isImage_152 : a_fetch 156 152 = some (.ifCond .le 167, 155) := by decide +kernel
theorem fX9_isImage_155 : a_fetch 156 155 = some (.iload 3, 156) := by decide +kernel
theorem fX9_isImage_156 : a_fetch 156 156 = some (.iload 6, 158) := by decide +kernel
theorem fX9_isImage_158 : a_fetch 156 158 = some (.ishr, 159) := by decide +kernel
theorem fX9_isImage_159 : a_fetch 156 159 = some (.iconst 1, 160) := by decide +kernel
theorem fX9_isImage_160 : a_fetch 156 160 = some (.iand, 161) := by decide +kernel
theorem fX9_isImage_161 : a_fetch 156 161 = some (.iconst 1, 162) := by decide +kernel
theorem fX9_isImage_162 : a_fetch 156 162 = some (.if_icmp .ne 167, 165) := by decide +kernel
theorem fX9_isImage_165 : a_fetch 156 165 = some (.iconst 0, 166) := by decide +kernel
theorem fX9_isImage_166 : a_fetch 156 166 = some (.ireturn, 167) := by decide +kernel
theorem fX9_isImage_167 : a_fetch 156 167 = some (.iload 3, 168) := by decide +kernel
theorem fX9_isImage_168 : a_fetch 156 168 = some (.iconst 1, 169) := by decide +kernel
theorem fX9_isImage_169 : a_fetch 156 169 = some (.iload 6, 171) := by decide +kernel
theorem fX9_isImage_171 : a_fetch 156 171 = some (.ishl, 172) := by decide +kernel
theorem fX9_isImage_172 : a_fetch 156 172 = some (.ior, 173) := by decide +kernel
theorem fX9_isImage_173 : a_fetch 156 173 = some (.istore 3, 174) := by decide +kernel
theorem fX9_isImage_174 : a_fetch 156 174 = some (.iconst 0, 175) := by decide +kernel
theorem fX9_isImage_175 : a_fetch 156 175 = some (.istore 8, 177) := by decide +kernel
theorem fX9_isImage_177 : a_fetch 156 177 = some (.iload 8, 179) := by decide +kernel
theorem fX9_isImage_179 : a_fetch 156 179 = some (.iload 1, 180) := by decide +kernel
theorem fX9_isImage_180 : a_fetch 156 180 = some (.if_icmp .ge 228, 183) := by decide +kernel
theorem fX9_isImage_183 : a_fetch 156 183 = some (.aload 0, 184) := by decide +kernel
theorem fX9_isImage_184 : a_fetch 156 184 = some (.invokeinterface 9 0, 187) := by decide +kernel
theorem fX9_isImage_187 : a_fetch 156 187 = some (.iload 5, 189) := by decide +kernel
theorem fX9_isImage_189 : a_fetch 156 189 = some (.iconst 2, 190) := by decide +kernel
theorem fX9_isImage_190 : a_fetch 156 190 = some (.iadd, 191) := by decide +kernel
theorem fX9_isImage_191 : a_fetch 156 191 = some (.iload 8, 193) := by decide +kernel
theorem fX9_isImage_193 : a_fetch 156 193 = some (.iadd, 194) := by decide +kernel
theorem fX9_isImage_194 : a_fetch 156 194 = some (.invokevirtual 96, 197) := by decide +kernel
theorem fX9_isImage_197 : a_fetch 156 197 = some (.istore 9, 199) := by decide +kernel
theorem fX9_isImage_199 : a_fetch 156 199 = some (.iload 9, 201) := by decide +kernel
theorem fX9_isImage_201 : a_fetch 156 201 = some (.iconst 99, 203) := by decide +kernel
theorem fX9_isImage_203 : a_fetch 156 203 = some (.if_icmp .gt 220, 206) := by decide +kernel
theorem fX9_isImage_206 : a_fetch 156 206 = some (.iload 8, 208) := by decide +kernel
theorem fX9_isImage_208 : a_fetch 156 208 = some (.iload 4, 210) := by decide +kernel
theorem fX9_isImage_210 : a_fetch 156 210 = some (.if_icmp .ne 222, 213) := by decide +kernel
theorem fX9_isImage_213 : a_fetch 156 213 = some (.iload 9, 215) := by decide +kernel
theorem fX9_isImage_215 : a_fetch 156 215 = some (.iconst 99, 217) := by decide +kernel
theorem fX9_isImage_217 : a_fetch 156 217 = some (.if_icmp .eq 222, 220) := by decide +kernel
theorem fX9_isImage_220 : a_fetch 156 220 = some (.iconst 0, 221) := by decide +kernel
theorem fX9_isImage_221 : a_fetch 156 221 = some (.ireturn, 222) := by decide +kernel
theorem fX9_isImage_222 : a_fetch 156 222 = some (.iinc 8 1, 225) := by decide +kernel
theorem fX9_isImage_225 : a_fetch 156 225 = some (.goto 177, 228) := by decide +kernel
theorem fX9_isImage_228 : a_fetch 156 228 = some (.iinc 4 1, 231) := by decide +kernel
theorem fX9_isImage_231 : a_fetch 156 231 = some (.goto 87, 234) := by decide +kernel
theorem fX9_isImage_234 : a_fetch 156 234 = some (.iconst 1, 235) := by decide +kernel
theorem fX9_isImage_235 : a_fetch 156 235 = some (.ireturn, 236) := by decide +kernel
theorem fX9_takeImage_0 : a_fetch 157 0 = some (.aload 0, 1) := by decide +kernel
theorem fX9_takeImage_1 : a_fetch 157 1 = some (.invokeinterface 9 10, 4) := by decide +kernel
theorem fX9_takeImage_4 : a_fetch 157 4 = some (.invokeinterface 1 0, 7) := by decide +kernel
theorem fX9_takeImage_7 : a_fetch 157 7 = some (.invokevirtual 95, 10) := by decide +kernel
theorem fX9_takeImage_10 : a_fetch 157 10 = some (.istore 1, 11) := by decide +kernel
theorem fX9_takeImage_11 : a_fetch 157 11 = some (.aload 0, 12) := by decide +kernel
theorem fX9_takeImage_12 : a_fetch 157 12 = some (.invokeinterface 9 8, 15) := by decide +kernel
theorem fX9_takeImage_15 : a_fetch 157 15 = some (.aload 0, 16) := by decide +kernel
theorem fX9_takeImage_16 : a_fetch 157 16 = some (.invokeinterface 9 10, 19) := by decide +kernel
theorem fX9_takeImage_19 : a_fetch 157 19 = some (.invokevirtual 42, 22) := by decide +kernel
theorem fX9_takeImage_22 : a_fetch 157 22 = some (.aload 0, 23) := by decide +kernel
theorem fX9_takeImage_23 : a_fetch 157 23 = some (.invokeinterface 9 7, 26) := by decide +kernel
theorem fX9_takeImage_26 : a_fetch 157 26 = some (.invokevirtual 52, 29) := by decide +kernel
theorem fX9_takeImage_29 : a_fetch 157 29 = some (.aload 0, 30) := by decide +kernel
theorem fX9_takeImage_30 : a_fetch 157 30 = some (.invokeinterface 9 8, 33) := by decide +kernel
theorem fX9_takeImage_33 : a_fetch 157 33 = some (.aload 0, 34) := by decide +kernel
theorem fX9_takeImage_34 : a_fetch 157 34 = some (.invokeinterface 9 0, 37) := by decide +kernel
theorem fX9_takeImage_37 : a_fetch 157 37 = some (.iconst 0, 38) := by decide +kernel
theorem fX9_takeImage_38 : a_fetch 157 38 = some (.invokevirtual 96, 41) := by decide +kernel
theorem fX9_takeImage_41 : a_fetch 157 41 = some (.iconst 256, 44) := by decide +kernel
theorem fX9_takeImage_44 : a_fetch 157 44 = some (.imul, 45) := by decide +kernel
theorem fX9_takeImage_45 : a_fetch 157 45 = some (.aload 0, 46) := by decide +kernel
theorem fX9_takeImage_46 : a_fetch 157 46 = some (.invokeinterface 9 0, 49) := by decide +kernel
theorem fX9_takeImage_49 : a_fetch 157 49 = some (.iconst 1, 50) := by decide +kernel
theorem fX9_takeImage_50 : a_fetch 157 50 = some (.invokevirtual 96, 53) := by decide +kernel
theorem fX9_takeImage_53 : a_fetch 157 53 = some (.iadd, 54) := by decide +kernel
theorem fX9_takeImage_54 : a_fetch 157 54 = some (.multianewarray 4 0, 57) := by decide +kernel
theorem fX9_takeImage_57 : a_fetch 157 57 = some (.iconst 0, 58) := by decide +kernel
theorem fX9_takeImage_58 : a_fetch 157 58 = some (.istore 2, 59) := by decide +kernel
theorem fX9_takeImage_59 : a_fetch 157 59 = some (.iload 2, 60) := by decide +kernel
theorem fX9_takeImage_60 : a_fetch 157 60 = some (.iload 1, 61) := by decide +kernel
theorem fX9_takeImage_61 : a_fetch 157 61 = some (.if_icmp .ge 160, 64) := by decide +kernel
theorem fX9_takeImage_64 : a_fetch 157 64 = some (.iconst 2, 65) := by decide +kernel
theorem fX9_takeImage_65 : a_fetch 157 65 = some (.iload 2, 66) := by decide +kernel
theorem fX9_takeImage_66 : a_fetch 157 66 = some (.iconst 2, 67) := by decide +kernel
theorem fX9_takeImage_67 : a_fetch 157 67 = some (.iload 1, 68) := by decide +kernel
theorem fX9_takeImage_68 : a_fetch 157 68 = some (.iadd, 69) := by decide +kernel
theorem fX9_takeImage_69 : a_fetch 157 69 = some (.imul, 70) := by decide +kernel
theorem fX9_takeImage_70 : a_fetch 157 70 = some (.iadd, 71) := by decide +kernel
theorem fX9_takeImage_71 : a_fetch 157 71 = some (.istore 3, 72) := by decide +kernel
theorem fX9_takeImage_72 : a_fetch 157 72 = some (.aload 0, 73) := by decide +kernel
theorem fX9_takeImage_73 : a_fetch 157 73 = some (.invokeinterface 9 8, 76) := by decide +kernel
theorem fX9_takeImage_76 : a_fetch 157 76 = some (.invokeinterface 4 1, 79) := by decide +kernel
theorem fX9_takeImage_79 : a_fetch 157 79 = some (.iload 2, 80) := by decide +kernel
theorem fX9_takeImage_80 : a_fetch 157 80 = some (.aload 0, 81) := by decide +kernel
theorem fX9_takeImage_81 : a_fetch 157 81 = some (.invokeinterface 9 0, 84) := by decide +kernel
theorem fX9_takeImage_84 : a_fetch 157 84 = some (.iload 3, 85) := by decide +kernel
theorem fX9_takeImage_85 : a_fetch 157 85 = some (.invokevirtual 96, 88) := by decide +kernel
theorem fX9_takeImage_88 : a_fetch 157 88 = some (.iconst 1, 89) := by decide +kernel
theorem fX9_takeImage_89 : a_fetch 157 89 = some (.isub, 90) := by decide +kernel
theorem fX9_takeImage_90 : a_fetch 157 90 = some (.invokevirtual 97, 93) := by decide +kernel
theorem fX9_takeImage_93 : a_fetch 157 93 = some (.aload 0, 94) := by decide +kernel
theorem fX9_takeImage_94 : a_fetch 157 94 = some (.invokeinterface 9 8, 97) := by decide +kernel
theorem fX9_takeImage_97 : a_fetch 157 97 = some (.invokeinterface 4 2, 100) := by decide +kernel
theorem fX9_takeImage_100 : a_fetch 157 100 = some (.iload 2, 101) := by decide +kernel
theorem fX9_takeImage_101 : a_fetch 157 101 = some (.aload 0, 102) := by decide +kernel
theorem fX9_takeImage_102 : a_fetch 157 102 = some (.invokeinterface 9 0, 105) := by decide +kernel
theorem fX9_takeImage_105 : a_fetch 157 105 = some (.iload 3, 106) := by decide +kernel
theorem fX9_takeImage_106 : a_fetch 157 106 = some (.iconst 1, 107) := by decide +kernel
theorem fX9_takeImage_107 : a_fetch 157 107 = some (.iadd, 108) := by decide +kernel
theorem fX9_takeImage_108 : a_fetch 157 108 = some (.invokevirtual 96, 111) := by decide +kernel
theorem fX9_takeImage_111 : a_fetch 157 111 = some (.iconst 1, 112) := by decide +kernel
theorem fX9_takeImage_112 : a_fetch 157 112 = some (.isub, 113) := by decide +kernel
theorem fX9_takeImage_113 : a_fetch 157 113 = some (.invokevirtual 97, 116) := by decide +kernel
theorem fX9_takeImage_116 : a_fetch 157 116 = some (.iconst 0, 117) := by decide +kernel
theorem fX9_takeImage_117 : a_fetch 157 117 = some (.istore 4, 119) := by decide +kernel
theorem fX9_takeImage_119 : a_fetch 157 119 = some (.iload 4, 121) := by decide +kernel
theorem fX9_takeImage_121 : a_fetch 157 121 = some (.iload 1, 122) := by decide +kernel
theorem fX9_takeImage_122 : a_fetch 157 122 = some (.if_icmp .ge 154, 125) := by decide +kernel
theorem fX9_takeImage_125 : a_fetch 157 125 = some (.aload 0, 126) := by decide +kernel
theorem fX9_takeImage_126 : a_fetch 157 126 = some (.invokeinterface 9 8, 129) := by decide +kernel
theorem fX9_takeImage_129 : a_fetch 157 129 = some (.iload 2, 130) := by decide +kernel
theorem fX9_takeImage_130 : a_fetch 157 130 = some (.iload 4, 132) := by decide +kernel
theorem fX9_takeImage_132 : a_fetch 157 132 = some (.aload 0, 133) := by decide +kernel
theorem fX9_takeImage_133 : a_fetch 157 133 = some (.invokeinterface 9 0, 136) := by decide +kernel
theorem fX9_takeImage_136 : a_fetch 157 136 = some (.iload 3, 137) := by decide +kernel
theorem fX9_takeImage_137 : a_fetch 157 137 = some (.iconst 2, 138) := by decide +kernel
theorem fX9_takeImage_138 : a_fetch 157 138 = some (.iadd, 139) := by decide +kernel
theorem fX9_takeImage_139 : a_fetch 157 139 = some (.iload 4, 141) := by decide +kernel
theorem fX9_takeImage_141 : a_fetch 157 141 = some (.iadd, 142) := by decide +kernel
theorem fX9_takeImage_142 : a_fetch 157 142 = some (.invokevirtual 96, 145) := by decide +kernel
theorem fX9_takeImage_145 : a_fetch 157 145 = some (.invokevirtual 46, 148) := by decide +kernel
theorem fX9_takeImage_148 : a_fetch 157 148 = some (.iinc 4 1, 151) := by decide +kernel
theorem fX9_takeImage_151 : a_fetch 157 151 = some (.goto 119, 154) := by decide +kernel
theorem fX9_takeImage_154 : a_fetch 157 154 = some (.iinc 2 1, 157) := by decide +kernel
theorem fX9_takeImage_157 : a_fetch 157 157 = some (.goto 59, 160) := by decide +kernel
theorem fX9_takeImage_160 : a_fetch 157 160 = some (.return_, 161) := by decide +kernel
theorem fX10_init_0 : a_fetch 158 0 = some (.aload 0, 1) := by decide +kernel
theorem fX10_init_1 : a_fetch 158 1 = some (.monitorenter, 4) := by decide +kernel
theorem fX10_init_4 : a_fetch 158 4 = some (.aload 0, 5) := by decide +kernel
theorem fX10_init_5 : a_fetch 158 5 = some (.iconst 1600, 8) := by decide +kernel
theorem fX10_init_8 : a_fetch 158 8 = some (.newarray .int, 10) := by decide +kernel
theorem fX10_init_10 : a_fetch 158 10 = some (.multianewarray 10 0, 13) := by decide +kernel
theorem fX10_init_13 : a_fetch 158 13 = some (.aload 0, 14) := by decide +kernel
theorem fX10_init_14 : a_fetch 158 14 = some (.iconst (-1), 15) := by decide +kernel
theorem fX10_init_15 : a_fetch 158 15 = some (.multianewarray 10 8, 18) := by decide +kernel
theorem fX10_init_18 : a_fetch 158 18 = some (.aload 0, 19) := by decide +kernel
theorem fX10_init_19 : a_fetch 158 19 = some (.iconst 6, 21) := by decide +kernel
theorem fX10_init_21 : a_fetch 158 21 = some (.newarray .int, 23) := by decide +kernel
theorem fX10_init_23 : a_fetch 158 23 = some (.multianewarray 10 9, 26) := by decide +kernel
theorem fX10_init_26 : a_fetch 158 26 = some (.aload 0, 27) := by decide +kernel
theorem fX10_init_27 : a_fetch 158 27 = some (.iconst 6, 29) := by decide +kernel
theorem fX10_init_29 : a_fetch 158 29 = some (.newarray .char, 31) := by decide +kernel
theorem fX10_init_31 : a_fetch 158 31 = some (.dup, 32) := by decide +kernel
theorem fX10_init_32 : a_fetch 158 32 = some (.iconst 0, 33) := by decide +kernel
theorem fX10_init_33 : a_fetch 158 33 = some (.iconst 112, 35) := by decide +kernel
theorem fX10_init_35 : a_fetch 158 35 = some (.castore, 36) := by decide +kernel
theorem fX10_init_36 : a_fetch 158 36 = some (.dup, 37) := by decide +kernel
theorem fX10_init_37 : a_fetch 158 37 = some (.iconst 1, 38) := by decide +kernel
theorem fX10_init_38 : a_fetch 158 38 = some (.iconst 101, 40) := by decide +kernel
theorem fX10_init_40 : a_fetch 158 40 = some (.castore, 41) := by decide +kernel
theorem fX10_init_41 : a_fetch 158 41 = some (.dup, 42) := by decide +kernel
theorem fX10_init_42 : a_fetch 158 42 = some (.iconst 2, 43) := by decide +kernel
theorem fX10_init_43 : a_fetch 158 43 = some (.iconst 114, 45) := by decide +kernel
theorem fX10_init_45 : a_fetch 158 45 = some (.castore, 46) := by decide +kernel
theorem fX10_init_46 : a_fetch 158 46 = some (.dup, 47) := by decide +kernel
theorem fX10_init_47 : a_fetch 158 47 = some (.iconst 3, 48) := by decide +kernel
theorem fX10_init_48 : a_fetch 158 48 = some (.iconst 115, 50) := by decide +kernel
theorem fX10_init_50 : a_fetch 158 50 = some (.castore, 51) := by decide +kernel
theorem fX10_init_51 : a_fetch 158 51 = some (.dup, 52) := by decide +kernel
theorem fX10_init_52 : a_fetch 158 52 = some (.iconst 4, 53) := by decide +kernel
theorem fX10_init_53 : a_fetch 158 53 = some (.iconst 111, 55) := by decide +kernel
theorem fX10_init_55 : a_fetch 158 55 = some (.castore, 56) := by decide +kernel
theorem fX10_init_56 : a_fetch 158 56 = some (.dup, 57) := by decide +kernel
theorem fX10_init_57 : a_fetch 158 57 = some (.iconst 5, 58) := by decide +kernel
theorem fX10_init_58 : a_fetch 158 58 = some (.iconst 110, 60) := by decide +kernel
theorem fX10_init_60 : a_fetch 158 60 = some (.castore, 61) := by decide +kernel
theorem fX10_init_61 : a_fetch 158 61 = some (.multianewarray 10 11, 64) := by decide +kernel
theorem fX10_init_64 : a_fetch 158 64 = some (.aload 0, 65) := by decide +kernel
theorem fX10_init_65 : a_fetch 158 65 = some (.iconst 4, 66) := by decide +kernel
theorem fX10_init_66 : a_fetch 158 66 = some (.newarray .char, 68) := by decide +kernel
theorem fX10_init_68 : a_fetch 158 68 = some (.dup, 69) := by decide +kernel
theorem fX10_init_69 : a_fetch 158 69 = some (.iconst 0, 70) := by decide +kernel
theorem fX10_init_70 : a_fetch 158 70 = some (.iconst 119, 72) := by decide +kernel
theorem fX10_init_72 : a_fetch 158 72 = some (.castore, 73) := by decide +kernel
theorem fX10_init_73 : a_fetch 158 73 = some (.dup, 74) := by decide +kernel
theorem fX10_init_74 : a_fetch 158 74 = some (.iconst 1, 75) := by decide +kernel
theorem fX10_init_75 : a_fetch 158 75 = some (.iconst 97, 77) := by decide +kernel
theorem fX10_init_77 : a_fetch 158 77 = some (.castore, 78) := by decide +kernel
theorem fX10_init_78 : a_fetch 158 78 = some (.dup, 79) := by decide +kernel
theorem fX10_init_79 : a_fetch 158 79 = some (.iconst 2, 80) := by decide +kernel
theorem fX10_init_80 : a_fetch 158 80 = some (.iconst 114, 82) := by decide +kernel
theorem fX10_init_82 : a_fetch 158 82 = some (.castore, 83) := by decide +kernel
theorem fX10_init_83 : a_fetch 158 83 = some (.dup, 84) := by decide +kernel
theorem fX10_init_84 : a_fetch 158 84 = some (.iconst 3, 85) := by decide +kernel
theorem fX10_init_85 : a_fetch 158 85 = some (.iconst 100, 87) := by decide +kernel
theorem fX10_init_87 : a_fetch 158 87 = some (.castore, 88) := by decide +kernel
theorem fX10_init_88 : a_fetch 158 88 = some (.multianewarray 10 12, 91) := by decide +kernel
theorem fX10_init_91 : a_fetch 158 91 = some (.aload 0, 92) := by decide +kernel
theorem fX10_init_92 : a_fetch 158 92 = some (.iconst 4, 93) := by decide +kernel
theorem fX10_init_93 : a_fetch 158 93 = some (.newarray .char, 95) := by decide +kernel
theorem fX10_init_95 : a_fetch 158 95 = some (.dup, 96) := by decide +kernel
theorem fX10_init_96 : a_fetch 158 96 = some (.iconst 0, 97) := by decide +kernel
theorem fX10_init_97 : a_fetch 158 97 = some (.iconst 116, 99) := by decide +kernel
theorem fX10_init_99 : a_fetch 158 99 = some (.castore, 100) := by decide +kernel
theorem fX10_init_100 : a_fetch 158 100 = some (.dup, 101) := by decide +kernel
theorem fX10_init_101 : a_fetch 158 101 = some (.iconst 1, 102) := by decide +kernel
theorem fX10_init_102 : a_fetch 158 102 = some (.iconst 97, 104) := by decide +kernel
theorem fX10_init_104 : a_fetch 158 104 = some (.castore, 105) := by decide +kernel
theorem fX10_init_105 : a_fetch 158 105 = some (.dup, 106) := by decide +kernel
theorem fX10_init_106 : a_fetch 158 106 = some (.iconst 2, 107) := by decide +kernel
theorem fX10_init_107 : a_fetch 158 107 = some (.iconst 115, 109) := by decide +kernel
theorem fX10_init_109 : a_fetch 158 109 = some (.castore, 110) := by decide +kernel
theorem fX10_init_110 : a_fetch 158 110 = some (.dup, 111) := by decide +kernel
theorem fX10_init_111 : a_fetch 158 111 = some (.iconst 3, 112) := by decide +kernel
theorem fX10_init_112 : a_fetch 158 112 = some (.iconst 107, 114) := by decide +kernel
theorem fX10_init_114 : a_fetch 158 114 = some (.castore, 115) := by decide +kernel
theorem fX10_init_115 : a_fetch 158 115 = some (.multianewarray 10 13, 118) := by decide +kernel
theorem fX10_init_118 : a_fetch 158 118 = some (.aload 0, 119) := by decide +kernel
theorem fX10_init_119 : a_fetch 158 119 = some (.iconst 4, 120) := by decide +kernel
theorem fX10_init_120 : a_fetch 158 120 = some (.newarray .char, 122) := by decide +kernel
theorem fX10_init_122 : a_fetch 158 122 = some (.dup, 123) := by decide +kernel
theorem fX10_init_123 : a_fetch 158 123 = some (.iconst 0, 124) := by decide +kernel
theorem fX10_init_124 : a_fetch 158 124 = some (.iconst 104, 126) := by decide +kernel
theorem fX10_init_126 : a_fetch 158 126 = some (.castore, 127) := by decide +kernel
theorem fX10_init_127 : a_fetch 158 127 = some (.dup, 128) := by decide +kernel
theorem fX10_init_128 : a_fetch 158 128 = some (.iconst 1, 129) := by decide +kernel
theorem fX10_init_129 : a_fetch 158 129 = some (.iconst 97, 131) := by decide +kernel
theorem fX10_init_131 : a_fetch 158 131 = some (.castore, 132) := by decide +kernel
theorem fX10_init_132 : a_fetch 158 132 = some (.dup, 133) := by decide +kernel
theorem fX10_init_133 : a_fetch 158 133 = some (.iconst 2, 134) := by decide +kernel
theorem fX10_init_134 : a_fetch 158 134 = some (.iconst 114, 136) := by decide +kernel
theorem fX10_init_136 : a_fetch 158 136 = some (.castore, 137) := by decide +kernel
theorem fX10_init_137 : a_fetch 158 137 = some (.dup, 138) := by decide +kernel
theorem fX10_init_138 : a_fetch 158 138 = some (.iconst 3, 139) := by decide +kernel
theorem fX10_init_139 : a_fetch 158 139 = some (.iconst 100, 141) := by decide +kernel
theorem fX10_init_141 : a_fetch 158 141 = some (.castore, 142) := by decide +kernel
theorem fX10_init_142 : a_fetch 158 142 = some (.multianewarray 10 14, 145) := by decide +kernel
theorem fX10_init_145 : a_fetch 158 145 = some (.aload 0, 146) := by decide +kernel
theorem fX10_init_146 : a_fetch 158 146 = some (.iconst 4, 147) := by decide +kernel
theorem fX10_init_147 : a_fetch 158 147 = some (.newarray .char, 149) := by decide +kernel
theorem fX10_init_149 : a_fetch 158 149 = some (.dup, 150) := by decide +kernel
theorem fX10_init_150 : a_fetch 158 150 = some (.iconst 0, 151) := by decide +kernel
theorem fX10_init_151 : a_fetch 158 151 = some (.iconst 100, 153) := by decide +kernel
theorem fX10_init_153 : a_fetch 158 153 = some (.castore, 154) := by decide +kernel
theorem fX10_init_154 : a_fetch 158 154 = some (.dup, 155) := by decide +kernel
theorem fX10_init_155 : a_fetch 158 155 = some (.iconst 1, 156) := by decide +kernel
theorem fX10_init_156 : a_fetch 158 156 = some (.iconst 111, 158) := by decide +kernel
theorem fX10_init_158 : a_fetch 158 158 = some (.castore, 159) := by decide +kernel
theorem fX10_init_159 : a_fetch 158 159 = some (.dup, 160) := by decide +kernel
theorem fX10_init_160 : a_fetch 158 160 = some (.iconst 2, 161) := by decide +kernel
theorem fX10_init_161 : a_fetch 158 161 = some (.iconst 101, 163) := by decide +kernel
theorem fX10_init_163 : a_fetch 158 163 = some (.castore, 164) := by decide +kernel
theorem fX10_init_164 : a_fetch 158 164 = some (.dup, 165) := by decide +kernel
theorem fX10_init_165 : a_fetch 158 165 = some (.iconst 3, 166) := by decide +kernel
theorem fX10_init_166 : a_fetch 158 166 = some (.iconst 115, 168) := by decide +kernel
theorem fX10_init_168 : a_fetch 158 168 = some (.castore, 169) := by decide +kernel
theorem fX10_init_169 : a_fetch 158 169 = some (.multianewarray 10 15, 172) := by decide +kernel
theorem fX10_init_172 : a_fetch 158 172 = some (.aload 0, 173) := by decide +kernel
theorem fX10_init_173 : a_fetch 158 173 = some (.iconst 2, 174) := by decide +kernel
theorem fX10_init_174 : a_fetch 158 174 = some (.newarray .char, 176) := by decide +kernel
theorem fX10_init_176 : a_fetch 158 176 = some (.dup, 177) := by decide +kernel
theorem fX10_init_177 : a_fetch 158 177 = some (.iconst 0, 178) := by decide +kernel
theorem fX10_init_178 : a_fetch 158 178 = some (.iconst 97, 180) := by decide +kernel
theorem fX10_init_180 : a_fetch 158 180 = some (.castore, 181) := by decide +kernel
theorem fX10_init_181 : a_fetch 158 181 = some (.dup, 182) := by decide +kernel
theorem fX10_init_182 : a_fetch 158 182 = some (.iconst 1, 183) := by decide +kernel
theorem fX10_init_183 : a_fetch 158 183 = some (.iconst 116, 185) := by decide +kernel
theorem fX10_init_185 : a_fetch 158 185 = some (.castore, 186) := by decide +kernel
theorem fX10_init_186 : a_fetch 158 186 = some (.multianewarray 10 16, 189) := by decide +kernel
theorem fX10_init_189 : a_fetch 158 189 = some (.aload 0, 190) := by decide +kernel
theorem fX10_init_190 : a_fetch 158 190 = some (.iconst 6, 192) := by decide +kernel
theorem fX10_init_192 : a_fetch 158 192 = some (.newarray .char, 194) := by decide +kernel
theorem fX10_init_194 : a_fetch 158 194 = some (.dup, 195) := by decide +kernel
theorem fX10_init_195 : a_fetch 158 195 = some (.iconst 0, 196) := by decide +kernel
theorem fX10_init_196 : a_fetch 158 196 = some (.iconst 99, 198) := by decide +kernel
theorem fX10_init_198 : a_fetch 158 198 = some (.castore, 199) := by decide +kernel
theorem fX10_init_199 : a_fetch 158 199 = some (.dup, 200) := by decide +kernel
theorem fX10_init_200 : a_fetch 158 200 = some (.iconst 1, 201) := by decide +kernel
theorem fX10_init_201 : a_fetch 158 201 = some (.iconst 111, 203) := by decide +kernel
theorem fX10_init_203 : a_fetch 158 203 = some (.castore, 204) := by decide +kernel
theorem fX10_init_204 : a_fetch 158 204 = some (.dup, 205) := by decide +kernel
theorem fX10_init_205 : a_fetch 158 205 = some (.iconst 2, 206) := by decide +kernel
theorem fX10_init_206 : a_fetch 158 206 = some (.iconst 118, 208) := by decide +kernel
theorem fX10_init_208 : a_fetch 158 208 = some (.castore, 209) := by decide +kernel
theorem fX10_init_209 : a_fetch 158 209 = some (.dup, 210) := by decide +kernel
theorem fX10_init_210 : a_fetch 158 210 = some (.iconst 3, 211) := by decide +kernel
theorem fX10_init_211 : a_fetch 158 211 = some (.iconst 101, 213) := by decide +kernel
theorem fX10_init_213 : a_fetch 158 213 = some (.castore, 214) := by decide +kernel
theorem fX10_init_214 : a_fetch 158 214 = some (.dup, 215) := by decide +kernel
theorem fX10_init_215 : a_fetch 158 215 = some (.iconst 4, 216) := by decide +kernel
theorem fX10_init_216 : a_fetch 158 216 = some (.iconst 114, 218) := by decide +kernel
theorem fX10_init_218 : a_fetch 158 218 = some (.castore, 219) := by decide +kernel
theorem fX10_init_219 : a_fetch 158 219 = some (.dup, 220) := by decide +kernel
theorem fX10_init_220 : a_fetch 158 220 = some (.iconst 5, 221) := by decide +kernel
theorem fX10_init_221 : a_fetch 158 221 = some (.iconst 115, 223) := by decide +kernel
theorem fX10_init_223 : a_fetch 158 223 = some (.castore, 224) := by decide +kernel
theorem fX10_init_224 : a_fetch 158 224 = some (.multianewarray 10 17, 227) := by decide +kernel
theorem fX10_init_227 : a_fetch 158 227 = some (.aload 0, 228) := by decide +kernel
theorem fX10_init_228 : a_fetch 158 228 = some (.iconst 5, 229) := by decide +kernel
theorem fX10_init_229 : a_fetch 158 229 = some (.newarray .char, 231) := by decide +kernel
theorem fX10_init_231 : a_fetch 158 231 = some (.dup, 232) := by decide +kernel
theorem fX10_init_232 : a_fetch 158 232 = some (.iconst 0, 233) := by decide +kernel
theorem fX10_init_233 : a_fetch 158 233 = some (.iconst 107, 235) := by decide +kernel
theorem fX10_init_235 : a_fetch 158 235 = some (.castore, 236) := by decide +kernel
theorem fX10_init_236 : a_fetch 158 236 = some (.dup, 237) := by decide +kernel
theorem fX10_init_237 : a_fetch 158 237 = some (.iconst 1, 238) := by decide +kernel
theorem fX10_init_238 : a_fetch 158 238 = some (.iconst 110, 240) := by decide +kernel
theorem fX10_init_240 : a_fetch 158 240 = some (.castore, 241) := by decide +kernel
theorem fX10_init_241 : a_fetch 158 241 = some (.dup, 242) := by decide +kernel
theorem fX10_init_242 : a_fetch 158 242 = some (.iconst 2, 243) := by decide +kernel
theorem fX10_init_243 : a_fetch 158 243 = some (.iconst 111, 245) := by decide +kernel
theorem fX10_init_245 : a_fetch 158 245 = some (.castore, 246) := by decide +kernel
theorem fX10_init_246 : a_fetch 158 246 = some (.dup, 247) := by decide +kernel
theorem fX10_init_247 : a_fetch 158 247 = some (.iconst 3, 248) := by decide +kernel
theorem fX10_init_248 : a_fetch 158 248 = some (.iconst 119, 250) := by decide +kernel
theorem fX10_init_250 : a_fetch 158 250 = some (.castore, 251) := by decide +kernel
theorem fX10_init_251 : a_fetch 158 251 = some (.dup, 252) := by decide +kernel
theorem fX10_init_252 : a_fetch 158 252 = some (.iconst 4, 253) := by decide +kernel
theorem fX10_init_253 : a_fetch 158 253 = some (.iconst 115, 255) := by decide +kernel
theorem fX10_init_255 : a_fetch 158 255 = some (.castore, 256) := by decide +kernel
theorem fX10_init_256 : a_fetch 158 256 = some (.multianewarray 10 18, 259) := by decide +kernel
theorem fX10_init_259 : a_fetch 158 259 = some (.aload 0, 260) := by decide +kernel
theorem fX10_init_260 : a_fetch 158 260 = some (.iconst 5, 261) := by decide +kernel
theorem fX10_init_261 : a_fetch 158 261 = some (.newarray .char, 263) := by decide +kernel
theorem fX10_init_263 : a_fetch 158 263 = some (.dup, 264) := by decide +kernel
theorem fX10_init_264 : a_fetch 158 264 = some (.iconst 0, 265) := by decide +kernel
theorem fX10_init_265 : a_fetch 158 265 = some (.iconst 108, 267) := by decide +kernel
theorem fX10_init_267 : a_fetch 158 267 = some (.castore, 268) := by decide +kernel
theorem fX10_init_268 : a_fetch 158 268 = some (.dup, 269) := by decide +kernel
theorem fX10_init_269 : a_fetch 158 269 = some (.iconst 1, 270) := by decide +kernel
theorem fX10_init_270 : a_fetch 158 270 = some (.iconst 101, 272) := by decide +kernel
theorem fX10_init_272 : a_fetch 158 272 = some (.castore, 273) := by decide +kernel
theorem fX10_init_273 : a_fetch 158 273 = some (.dup, 274) := by decide +kernel
theorem fX10_init_274 : a_fetch 158 274 = some (.iconst 2, 275) := by decide +kernel
theorem fX10_init_275 : a_fetch 158 275 = some (.iconst 97, 277) := by decide +kernel
theorem fX10_init_277 : a_fetch 158 277 = some (.castore, 278) := by decide +kernel
theorem fX10_init_278 : a_fetch 158 278 = some (.dup, 279) := by decide +kernel
theorem fX10_init_279 : a_fetch 158 279 = some (.iconst 3, 280) := by decide +kernel
theorem fX10_init_280 : a_fetch 158 280 = some (.iconst 114, 282) := by decide +kernel
theorem fX10_init_282 : a_fetch 158 282 = some (.castore, 283) := by decide +kernel
theorem fX10_init_283 : a_fetch 158 283 = some (.dup, 284) := by decide +kernel
theorem fX10_init_284 : a_fetch 158 284 = some (.iconst 4, 285) := by decide +kernel
theorem fX10_init_285 : a_fetch 158 285 = some (.iconst 110, 287) := by decide +kernel
theorem fX10_init_287 : a_fetch 158 287 = some (.castore, 288) := by decide +kernel
theorem fX10_init_288 : a_fetch 158 288 = some (.multianewarray 10 19, 291) := by decide +kernel
theorem fX10_init_291 : a_fetch 158 291 = some (.aload 0, 292) := by decide +kernel
theorem fX10_init_292 : a_fetch 158 292 = some (.iconst 6, 294) := by decide +kernel
theorem fX10_init_294 : a_fetch 158 294 = some (.newarray .char, 296) := by decide +kernel
theorem fX10_init_296 : a_fetch 158 296 = some (.dup, 297) := by decide +kernel
theorem fX10_init_297 : a_fetch 158 297 = some (.iconst 0, 298) := by decide +kernel
theorem fX10_init_298 : a_fetch 158 298 = some (.iconst 102, 300) := by decide +kernel
theorem fX10_init_300 : a_fetch 158 300 = some (.castore, 301) := by decide +kernel
theorem fX10_init_301 : a_fetch 158 301 = some (.dup, 302) := by decide +kernel
theorem fX10_init_302 : a_fetch 158 302 = some (.iconst 1, 303) := by decide +kernel
theorem fX10_init_303 : a_fetch 158 303 = some (.iconst 111, 305) := by decide +kernel
theorem fX10_init_305 : a_fetch 158 305 = some (.castore, 306) := by decide +kernel
theorem fX10_init_306 : a_fetch 158 306 = some (.dup, 307) := by decide +kernel
theorem fX10_init_307 : a_fetch 158 307 = some (.iconst 2, 308) := by decide +kernel
theorem fX10_init_308 : a_fetch 158 308 = some (.iconst 114, 310) := by decide +kernel
theorem fX10_init_310 : a_fetch 158 310 = some (.castore, 311) := by decide +kernel
theorem fX10_init_311 : a_fetch 158 311 = some (.dup, 312) := by decide +kernel
theorem fX10_init_312 : a_fetch 158 312 = some (.iconst 3, 313) := by decide +kernel
theorem fX10_init_313 : a_fetch 158 313 = some (.iconst 103, 315) := by decide +kernel
theorem fX10_init_315 : a_fetch 158 315 = some (.castore, 316) := by decide +kernel
theorem fX10_init_316 : a_fetch 158 316 = some (.dup, 317) := by decide +kernel
theorem fX10_init_317 : a_fetch 158 317 = some (.iconst 4, 318) := by decide +kernel
theorem fX10_init_318 : a_fetch 158 318 = some (.iconst 101, 320) := by decide +kernel
theorem fX10_init_320 : a_fetch 158 320 = some (.castore, 321) := by decide +kernel
theorem fX10_init_321 : a_fetch 158 321 = some (.dup, 322) := by decide +kernel
theorem fX10_init_322 : a_fetch 158 322 = some (.iconst 5, 323) := by decide +kernel
theorem fX10_init_323 : a_fetch 158 323 = some (.iconst 116, 325) := by decide +kernel
theorem fX10_init_325 : a_fetch 158 325 = some (.castore, 326) := by decide +kernel
theorem fX10_init_326 : a_fetch 158 326 = some (.multianewarray 10 20, 329) := by decide +kernel
theorem fX10_init_329 : a_fetch 158 329 = some (.aload 0, 330) := by decide +kernel
theorem fX10_init_330 : a_fetch 158 330 = some (.iconst 3, 331) := by decide +kernel
theorem fX10_init_331 : a_fetch 158 331 = some (.newarray .char, 333) := by decide +kernel
theorem fX10_init_333 : a_fetch 158 333 = some (.dup, 334) := by decide +kernel
theorem fX10_init_334 : a_fetch 158 334 = some (.iconst 0, 335) := by decide +kernel
theorem fX10_init_335 : a_fetch 158 335 = some (.iconst 99, 337) := by decide +kernel
theorem fX10_init_337 : a_fetch 158 337 = some (.castore, 338) := by decide +kernel
theorem fX10_init_338 : a_fetch 158 338 = some (.dup, 339) := by decide +kernel
theorem fX10_init_339 : a_fetch 158 339 = some (.iconst 1, 340) := by decide +kernel
theorem fX10_init_340 : a_fetch 158 340 = some (.iconst 97, 342) := by decide +kernel
theorem fX10_init_342 : a_fetch 158 342 = some (.castore, 343) := by decide +kernel
theorem fX10_init_343 : a_fetch 158 343 = some (.dup, 344) := by decide +kernel
theorem fX10_init_344 : a_fetch 158 344 = some (.iconst 2, 345) := by decide +kernel
theorem fX10_init_345 : a_fetch 158 345 = some (.iconst 110, 347) := by decide +kernel
theorem fX10_init_347 : a_fetch 158 347 = some (.castore, 348) := by decide +kernel
theorem fX10_init_348 : a_fetch 158 348 = some (.multianewarray 10 21, 351) := by decide +kernel
theorem fX10_init_351 : a_fetch 158 351 = some (.aload 0, 352) := by decide +kernel
theorem fX10_init_352 : a_fetch 158 352 = some (.iconst 6, 354) := by decide +kernel
theorem fX10_init_354 : a_fetch 158 354 = some (.newarray .char, 356) := by decide +kernel
theorem fX10_init_356 : a_fetch 158 356 = some (.dup, 357) := by decide +kernel
theorem fX10_init_357 : a_fetch 158 357 = some (.iconst 0, 358) := by decide +kernel
theorem fX10_init_358 : a_fetch 158 358 = some (.iconst 110, 360) := by decide +kernel
theorem fX10_init_360 : a_fetch 158 360 = some (.castore, 361) := by decide +kernel
theorem fX10_init_361 : a_fetch 158 361 = some (.dup, 362) := by decide +kernel
theorem fX10_init_362 : a_fetch 158 362 = some (.iconst 1, 363) := by decide +kernel
theorem fX10_init_363 : a_fetch 158 363 = some (.iconst 111, 365) := by decide +kernel
theorem fX10_init_365 : a_fetch 158 365 = some (.castore, 366) := by decide +kernel
theorem fX10_init_366 : a_fetch 158 366 = some (.dup, 367) := by decide +kernel
theorem fX10_init_367 : a_fetch 158 367 = some (.iconst 2, 368) := by decide +kernel
theorem fX10_init_368 : a_fetch 158 368 = some (.iconst 116, 370) := by decide +kernel
theorem fX10_init_370 : a_fetch 158 370 = some (.castore, 371) := by decide +kernel
theorem fX10_init_371 : a_fetch 158 371 = some (.dup, 372) := by decide +kernel
theorem fX10_init_372 : a_fetch 158 372 = some (.iconst 3, 373) := by decide +kernel
theorem fX10_init_373 : a_fetch 158 373 = some (.iconst 105, 375) := by decide +kernel
theorem fX10_init_375 : a_fetch 158 375 = some (.castore, 376) := by decide +kernel
theorem fX10_init_376 : a_fetch 158 376 = some (.dup, 377) := by decide +kernel
theorem fX10_init_377 : a_fetch 158 377 = some (.iconst 4, 378) := by decide +kernel
theorem fX10_init_378 : a_fetch 158 378 = some (.iconst 99, 380) := by decide +kernel
theorem fX10_init_380 : a_fetch 158 380 = some (.castore, 381) := by decide +kernel
theorem fX10_init_381 : a_fetch 158 381 = some (.dup, 382) := by decide +kernel
theorem fX10_init_382 : a_fetch 158 382 = some (.iconst 5, 383) := by decide +kernel
theorem fX10_init_383 : a_fetch 158 383 = some (.iconst 101, 385) := by decide +kernel
theorem fX10_init_385 : a_fetch 158 385 = some (.castore, 386) := by decide +kernel
theorem fX10_init_386 : a_fetch 158 386 = some (.multianewarray 10 22, 389) := by decide +kernel
theorem fX10_init_389 : a_fetch 158 389 = some (.aload 0, 390) := by decide +kernel
theorem fX10_init_390 : a_fetch 158 390 = some (.iconst 5, 391) := by decide +kernel
theorem fX10_init_391 : a_fetch 158 391 = some (.newarray .char, 393) := by decide +kernel
theorem fX10_init_393 : a_fetch 158 393 = some (.dup, 394) := by decide +kernel
theorem fX10_init_394 : a_fetch 158 394 = some (.iconst 0, 395) := by decide +kernel
theorem fX10_init_395 : a_fetch 158 395 = some (.iconst 99, 397) := by decide +kernel
theorem fX10_init_397 : a_fetch 158 397 = some (.castore, 398) := by decide +kernel
theorem fX10_init_398 : a_fetch 158 398 = some (.dup, 399) := by decide +kernel
theorem fX10_init_399 : a_fetch 158 399 = some (.iconst 1, 400) := by decide +kernel
theorem fX10_init_400 : a_fetch 158 400 = some (.iconst 108, 402) := by decide +kernel
theorem fX10_init_402 : a_fetch 158 402 = some (.castore, 403) := by decide +kernel
theorem fX10_init_403 : a_fetch 158 403 = some (.dup, 404) := by decide +kernel
theorem fX10_init_404 : a_fetch 158 404 = some (.iconst 2, 405) := by decide +kernel
theorem fX10_init_405 : a_fetch 158 405 = some (.iconst 111, 407) := by decide +kernel
theorem fX10_init_407 : a_fetch 158 407 = some (.castore, 408) := by decide +kernel
theorem fX10_init_408 : a_fetch 158 408 = some (.dup, 409) := by decide +kernel
theorem fX10_init_409 : a_fetch 158 409 = some (.iconst 3, 410) := by decide +kernel
theorem fX10_init_410 : a_fetch 158 410 = some (.iconst 99, 412) := by decide +kernel
theorem fX10_init_412 : a_fetch 158 412 = some (.castore, 413) := by decide +kernel
theorem fX10_init_413 : a_fetch 158 413 = some (.dup, 414) := by decide +kernel
theorem fX10_init_414 : a_fetch 158 414 = some (.iconst 4, 415) := by decide +kernel
theorem fX10_init_415 : a_fetch 158 415 = some (.iconst 107, 417) := by decide +kernel
theorem fX10_init_417 : a_fetch 158 417 = some (.castore, 418) := by decide +kernel
theorem fX10_init_418 : a_fetch 158 418 = some (.multianewarray 10 23, 421) := by decide +kernel
theorem fX10_init_421 : a_fetch 158 421 = some (.aload 0, 422) := by decide +kernel
theorem fX10_init_422 : a_fetch 158 422 = some (.iconst 3, 423) := by decide +kernel
theorem fX10_init_423 : a_fetch 158 423 = some (.newarray .char, 425) := by decide +kernel
theorem fX10_init_425 : a_fetch 158 425 = some (.dup, 426) := by decide +kernel
theorem fX10_init_426 : a_fetch 158 426 = some (.iconst 0, 427) := by decide +kernel
theorem fX10_init_427 : a_fetch 158 427 = some (.iconst 100, 429) := by decide +kernel
theorem fX10_init_429 : a_fetch 158 429 = some (.castore, 430) := by decide +kernel
theorem fX10_init_430 : a_fetch 158 430 = some (.dup, 431) := by decide +kernel
theorem fX10_init_431 : a_fetch 158 431 = some (.iconst 1, 432) := by decide +kernel
theorem fX10_init_432 : a_fetch 158 432 = some (.iconst 97, 434) := by decide +kernel
theorem fX10_init_434 : a_fetch 158 434 = some (.castore, 435) := by decide +kernel
theorem fX10_init_435 : a_fetch 158 435 = some (.dup, 436) := by decide +kernel
theorem fX10_init_436 : a_fetch 158 436 = some (.iconst 2, 437) := by decide +kernel
theorem fX10_init_437 : a_fetch 158 437 = some (.iconst 121, 439) := by decide +kernel
theorem fX10_init_439 : a_fetch 158 439 = some (.castore, 440) := by decide +kernel
theorem fX10_init_440 : a_fetch 158 440 = some (.multianewarray 10 24, 443) := by decide +kernel
theorem fX10_init_443 : a_fetch 158 443 = some (.aload 0, 444) := by decide +kernel
theorem fX10_init_444 : a_fetch 158 444 = some (.iconst 6, 446) := by decide +kernel
theorem fX10_init_446 : a_fetch 158 446 = some (.newarray .char, 448) := by decide +kernel
theorem fX10_init_448 : a_fetch 158 448 = some (.dup, 449) := by decide +kernel
theorem fX10_init_449 : a_fetch 158 449 = some (.iconst 0, 450) := by decide +kernel
theorem fX10_init_450 : a_fetch 158 450 = some (.iconst 112, 452) := by decide +kernel
theorem fX10_init_452 : a_fetch 158 452 = some (.castore, 453) := by decide +kernel
theorem fX10_init_453 : a_fetch 158 453 = some (.dup, 454) := by decide +kernel
theorem fX10_init_454 : a_fetch 158 454 = some (.iconst 1, 455) := by decide +kernel
theorem fX10_init_455 : a_fetch 158 455 = some (.iconst 111, 457) := by decide +kernel
theorem fX10_init_457 : a_fetch 158 457 = some (.castore, 458) := by decide +kernel
theorem fX10_init_458 : a_fetch 158 458 = some (.dup, 459) := by decide +kernel
theorem fX10_init_459 : a_fetch 158 459 = some (.iconst 2, 460) := by decide +kernel
theorem fX10_init_460 : a_fetch 158 460 = some (.iconst 105, 462) := by decide +kernel
theorem fX10_init_462 : a_fetch 158 462 = some (.castore, 463) := by decide +kernel
theorem fX10_init_463 : a_fetch 158 463 = some (.dup, 464) := by decide +kernel
theorem fX10_init_464 : a_fetch 158 464 = some (.iconst 3, 465) := by decide +kernel
theorem fX10_init_465 : a_fetch 158 465 = some (.iconst 110, 467) := by decide +kernel
theorem fX10_init_467 : a_fetch 158 467 = some (.castore, 468) := by decide +kernel
theorem fX10_init_468 : a_fetch 158 468 = some (.dup, 469) := by decide +kernel
theorem fX10_init_469 : a_fetch 158 469 = some (.iconst 4, 470) := by decide +kernel
theorem fX10_init_470 : a_fetch 158 470 = some (.iconst 116, 472) := by decide +kernel
theorem fX10_init_472 : a_fetch 158 472 = some (.castore, 473) := by decide +kernel
theorem fX10_init_473 : a_fetch 158 473 = some (.dup, 474) := by decide +kernel
theorem fX10_init_474 : a_fetch 158 474 = some (.iconst 5, 475) := by decide +kernel
theorem fX10_init_475 : a_fetch 158 475 = some (.iconst 115, 477) := by decide +kernel
theorem fX10_init_477 : a_fetch 158 477 = some (.castore, 478) := by decide +kernel
theorem fX10_init_478 : a_fetch 158 478 = some (.multianewarray 10 25, 481) := by decide +kernel
theorem fX10_init_481 : a_fetch 158 481 = some (.aload 0, 482) := by decide +kernel
theorem fX10_init_482 : a_fetch 158 482 = some (.iconst 4, 483) := by decide +kernel
theorem fX10_init_483 : a_fetch 158 483 = some (.newarray .char, 485) := by decide +kernel
theorem fX10_init_485 : a_fetch 158 485 = some (.dup, 486) := by decide +kernel
theorem fX10_init_486 : a_fetch 158 486 = some (.iconst 0, 487) := by decide +kernel
theorem fX10_init_487 : a_fetch 158 487 = some (.iconst 115, 489) := by decide +kernel
theorem fX10_init_489 : a_fetch 158 489 = some (.castore, 490) := by decide +kernel
theorem fX10_init_490 : a_fetch 158 490 = some (.dup, 491) := by decide +kernel
theorem fX10_init_491 : a_fetch 158 491 = some (.iconst 1, 492) := by decide +kernel
theorem fX10_init_492 : a_fetch 158 492 = some (.iconst 97, 494) := by decide +kernel
theorem fX10_init_494 : a_fetch 158 494 = some (.castore, 495) := by decide +kernel
theorem fX10_init_495 : a_fetch 158 495 = some (.dup, 496) := by decide +kernel
theorem fX10_init_496 : a_fetch 158 496 = some (.iconst 2, 497) := by decide +kernel
theorem fX10_init_497 : a_fetch 158 497 = some (.iconst 109, 499) := by decide +kernel
theorem fX10_init_499 : a_fetch 158 499 = some (.castore, 500) := by decide +kernel
theorem fX10_init_500 : a_fetch 158 500 = some (.dup, 501) := by decide +kernel
theorem fX10_init_501 : a_fetch 158 501 = some (.iconst 3, 502) := by decide +kernel
theorem fX10_init_502 : a_fetch 158 502 = some (.iconst 101, 504) := by decide +kernel
theorem fX10_init_504 : a_fetch 158 504 = some (.castore, 505) := by decide +kernel
theorem fX10_init_505 : a_fetch 158 505 = some (.multianewarray 10 26, 508) := by decide +kernel
theorem fX10_init_508 : a_fetch 158 508 = some (.aload 0, 509) := by decide +kernel
theorem fX10_init_509 : a_fetch 158 509 = some (.iconst 3, 510) := by decide +kernel
theorem fX10_init_510 : a_fetch 158 510 = some (.newarray .char, 512) := by decide +kernel
theorem fX10_init_512 : a_fetch 158 512 = some (.dup, 513) := by decide +kernel
theorem fX10_init_513 : a_fetch 158 513 = some (.iconst 0, 514) := by decide +kernel
theorem fX10_init_514 : a_fetch 158 514 = some (.iconst 111, 516) := by decide +kernel
theorem fX10_init_516 : a_fetch 158 516 = some (.castore, 517) := by decide +kernel
theorem fX10_init_517 : a_fetch 158 517 = some (.dup, 518) := by decide +kernel
theorem fX10_init_518 : a_fetch 158 518 = some (.iconst 1, 519) := by decide +kernel
theorem fX10_init_519 : a_fetch 158 519 = some (.iconst 119, 521) := by decide +kernel
theorem fX10_init_521 : a_fetch 158 521 = some (.castore, 522) := by decide +kernel
theorem fX10_init_522 : a_fetch 158 522 = some (.dup, 523) := by decide +kernel
theorem fX10_init_523 : a_fetch 158 523 = some (.iconst 2, 524) := by decide +kernel
theorem fX10_init_524 : a_fetch 158 524 = some (.iconst 110, 526) := by decide +kernel
theorem fX10_init_526 : a_fetch 158 526 = some (.castore, 527) := by decide +kernel
theorem fX10_init_527 : a_fetch 158 527 = some (.multianewarray 10 27, 530) := by decide +kernel
theorem fX10_init_530 : a_fetch 158 530 = some (.aload 0, 531) := by decide +kernel
theorem fX10_init_531 : a_fetch 158 531 = some (.iconst 6, 533) := by decide +kernel
theorem fX10_init_533 : a_fetch 158 533 = some (.newarray .char, 535) := by decide +kernel
theorem fX10_init_535 : a_fetch 158 535 = some (.dup, 536) := by decide +kernel
theorem fX10_init_536 : a_fetch 158 536 = some (.iconst 0, 537) := by decide +kernel
theorem fX10_init_537 : a_fetch 158 537 = some (.iconst 116, 539) := by decide +kernel
theorem fX10_init_539 : a_fetch 158 539 = some (.castore, 540) := by decide +kernel
theorem fX10_init_540 : a_fetch 158 540 = some (.dup, 541) := by decide +kernel
theorem fX10_init_541 : a_fetch 158 541 = some (.iconst 1, 542) := by decide +kernel
theorem fX10_init_542 : a_fetch 158 542 = some (.iconst 104, 544) := by decide +kernel
theorem fX10_init_544 : a_fetch 158 544 = some (.castore, 545) := by decide +kernel
theorem fX10_init_545 : a_fetch 158 545 = some (.dup, 546) := by decide +kernel
theorem fX10_init_546 : a_fetch 158 546 = some (.iconst 2, 547) := by decide +kernel
theorem fX10_init_547 : a_fetch 158 547 = some (.iconst 101, 549) := by decide +kernel
theorem fX10_init_549 : a_fetch 158 549 = some (.castore, 550) := by decide +kernel
theorem fX10_init_550 : a_fetch 158 550 = some (.dup, 551) := by decide +kernel
theorem fX10_init_551 : a_fetch 158 551 = some (.iconst 3, 552) := by decide +kernel
theorem fX10_init_552 : a_fetch 158 552 = some (.iconst 105, 554) := by decide +kernel
theorem fX10_init_554 : a_fetch 158 554 = some (.castore, 555) := by decide +kernel
theorem fX10_init_555 : a_fetch 158 555 = some (.dup, 556) := by decide +kernel
theorem fX10_init_556 : a_fetch 158 556 = some (.iconst 4, 557) := by decide +kernel
theorem fX10_init_557 : a_fetch 158 557 = some (.iconst 114, 559) := by decide +kernel
theorem fX10_init_559 : a_fetch 158 559 = some (.castore, 560) := by decide +kernel
theorem fX10_init_560 : a_fetch 158 560 = some (.dup, 561) := by decide +kernel
theorem fX10_init_561 : a_fetch 158 561 = some (.iconst 5, 562) := by decide +kernel
theorem fX10_init_562 : a_fetch 158 562 = some (.iconst 115, 564) := by decide +kernel
theorem fX10_init_564 : a_fetch 158 564 = some (.castore, 565) := by decide +kernel
theorem fX10_init_565 : a_fetch 158 565 = some (.multianewarray 10 28, 568) := by decide +kernel
theorem fX10_init_568 : a_fetch 158 568 = some (.aload 0, 569) := by decide +kernel
theorem fX10_init_569 : a_fetch 158 569 = some (.iconst 2, 570) := by decide +kernel
theorem fX10_init_570 : a_fetch 158 570 = some (.newarray .char, 572) := by decide +kernel
theorem fX10_init_572 : a_fetch 158 572 = some (.dup, 573) := by decide +kernel
theorem fX10_init_573 : a_fetch 158 573 = some (.iconst 0, 574) := by decide +kernel
theorem fX10_init_574 : a_fetch 158 574 = some (.iconst 111, 576) := by decide +kernel
theorem fX10_init_576 : a_fetch 158 576 = some (.castore, 577) := by decide +kernel
theorem fX10_init_577 : a_fetch 158 577 = some (.dup, 578) := by decide +kernel
theorem fX10_init_578 : a_fetch 158 578 = some (.iconst 1, 579) := by decide +kernel
theorem fX10_init_579 : a_fetch 158 579 = some (.iconst 114, 581) := by decide +kernel
theorem fX10_init_581 : a_fetch 158 581 = some (.castore, 582) := by decide +kernel
theorem fX10_init_582 : a_fetch 158 582 = some (.multianewarray 10 29, 585) := by decide +kernel
theorem fX10_init_585 : a_fetch 158 585 = some (.aload 0, 586) := by decide +kernel
theorem fX10_init_586 : a_fetch 158 586 = some (.iconst 3, 587) := by decide +kernel
theorem fX10_init_587 : a_fetch 158 587 = some (.newarray .char, 589) := by decide +kernel
theorem fX10_init_589 : a_fetch 158 589 = some (.dup, 590) := by decide +kernel
theorem fX10_init_590 : a_fetch 158 590 = some (.iconst 0, 591) := by decide +kernel
theorem fX10_init_591 : a_fetch 158 591 = some (.iconst 97, 593) := by decide +kernel
theorem fX10_init_593 : a_fetch 158 593 = some (.castore, 594) := by decide +kernel
theorem fX10_init_594 : a_fetch 158 594 = some (.dup, 595) := by decide +kernel
theorem fX10_init_595 : a_fetch 158 595 = some (.iconst 1, 596) := by decide +kernel
theorem fX10_init_596 : a_fetch 158 596 = some (.iconst 110, 598) := by decide +kernel
theorem fX10_init_598 : a_fetch 158 598 = some (.castore, 599) := by decide +kernel
theorem fX10_init_599 : a_fetch 158 599 = some (.dup, 600) := by decide +kernel
theorem fX10_init_600 : a_fetch 158 600 = some (.iconst 2, 601) := by decide +kernel
theorem fX10_init_601 : a_fetch 158 601 = some (.iconst 100, 603) := by decide +kernel
theorem fX10_init_603 : a_fetch 158 603 = some (.castore, 604) := by decide +kernel
theorem fX10_init_604 : a_fetch 158 604 = some (.multianewarray 10 30, 607) := by decide +kernel
theorem fX10_init_607 : a_fetch 158 607 = some (.aload 0, 608) := by decide +kernel
theorem fX10_init_608 : a_fetch 158 608 = some (.iconst 3, 609) := by decide +kernel
theorem fX10_init_609 : a_fetch 158 609 = some (.newarray .char, 611) := by decide +kernel
theorem fX10_init_611 : a_fetch 158 611 = some (.dup, 612) := by decide +kernel
theorem fX10_init_612 : a_fetch 158 612 = some (.iconst 0, 613) := by decide +kernel
theorem fX10_init_613 : a_fetch 158 613 = some (.iconst 110, 615) := by decide +kernel
theorem fX10_init_615 : a_fetch 158 615 = some (.castore, 616) := by decide +kernel
theorem fX10_init_616 : a_fetch 158 616 = some (.dup, 617) := by decide +kernel
theorem fX10_init_617 : a_fetch 158 617 = some (.iconst 1, 618) := by decide +kernel
theorem fX10_init_618 : a_fetch 158 618 = some (.iconst 111, 620) := by decide +kernel
theorem fX10_init_620 : a_fetch 158 620 = some (.castore, 621) := by decide +kernel
theorem fX10_init_621 : a_fetch 158 621 = some (.dup, 622) := by decide +kernel
theorem fX10_init_622 : a_fetch 158 622 = some (.iconst 2, 623) := by decide +kernel
theorem fX10_init_623 : a_fetch 158 623 = some (.iconst 116, 625) := by decide +kernel
theorem fX10_init_625 : a_fetch 158 625 = some (.castore, 626) := by decide +kernel
theorem fX10_init_626 : a_fetch 158 626 = some (.multianewarray 10 31, 629) := by decide +kernel
theorem fX10_init_629 : a_fetch 158 629 = some (.aload 0, 630) := by decide +kernel
theorem fX10_init_630 : a_fetch 158 630 = some (.iconst 3, 631) := by decide +kernel
theorem fX10_init_631 : a_fetch 158 631 = some (.newarray .char, 633) := by decide +kernel
theorem fX10_init_633 : a_fetch 158 633 = some (.dup, 634) := by decide +kernel
theorem fX10_init_634 : a_fetch 158 634 = some (.iconst 0, 635) := by decide +kernel
theorem fX10_init_635 : a_fetch 158 635 = some (.iconst 97, 637) := by decide +kernel
theorem fX10_init_637 : a_fetch 158 637 = some (.castore, 638) := by decide +kernel
theorem fX10_init_638 : a_fetch 158 638 = some (.dup, 639) := by decide +kernel
theorem fX10_init_639 : a_fetch 158 639 = some (.iconst 1, 640) := by decide +kernel
theorem fX10_init_640 : a_fetch 158 640 = some (.iconst 108, 642) := by decide +kernel
theorem fX10_init_642 : a_fetch 158 642 = some (.castore, 643) := by decide +kernel
theorem fX10_init_643 : a_fetch 158 643 = some (.dup, 644) := by decide +kernel
theorem fX10_init_644 : a_fetch 158 644 = some (.iconst 2, 645) := by decide +kernel
theorem fX10_init_645 : a_fetch 158 645 = some (.iconst 108, 647) := by decide +kernel
theorem fX10_init_647 : a_fetch 158 647 = some (.castore, 648) := by decide +kernel
theorem fX10_init_648 : a_fetch 158 648 = some (.multianewarray 10 32, 651) := by decide +kernel
theorem fX10_init_651 : a_fetch 158 651 = some (.aload 0, 652) := by decide +kernel
theorem fX10_init_652 : a_fetch 158 652 = some (.iconst 3, 653) := by decide +kernel
theorem fX10_init_653 : a_fetch 158 653 = some (.newarray .char, 655) := by decide +kernel
theorem fX10_init_655 : a_fetch 158 655 = some (.dup, 656) := by decide +kernel
theorem fX10_init_656 : a_fetch 158 656 = some (.iconst 0, 657) := by decide +kernel
theorem fX10_init_657 : a_fetch 158 657 = some (.iconst 109, 659) := by decide +kernel
theorem fX10_init_659 : a_fetch 158 659 = some (.castore, 660) := by decide +kernel
theorem fX10_init_660 : a_fetch 158 660 = some (.dup, 661) := by decide +kernel
theorem fX10_init_661 : a_fetch 158 661 = some (.iconst 1, 662) := by decide +kernel
theorem fX10_init_662 : a_fetch 158 662 = some (.iconst 105, 664) := by decide +kernel
theorem fX10_init_664 : a_fetch 158 664 = some (.castore, 665) := by decide +kernel
theorem fX10_init_665 : a_fetch 158 665 = some (.dup, 666) := by decide +kernel
theorem fX10_init_666 : a_fetch 158 666 = some (.iconst 2, 667) := by decide +kernel
theorem fX10_init_667 : a_fetch 158 667 = some (.iconst 110, 669) := by decide +kernel
theorem fX10_init_669 : a_fetch 158 669 = some (.castore, 670) := by decide +kernel
theorem fX10_init_670 : a_fetch 158 670 = some (.multianewarray 10 33, 673) := by decide +kernel
theorem fX10_init_673 : a_fetch 158 673 = some (.aload 0, 674) := by decide +kernel
theorem fX10_init_674 : a_fetch 158 674 = some (.iconst 3, 675) := by decide +kernel
theorem fX10_init_675 : a_fetch 158 675 = some (.newarray .char, 677) := by decide +kernel
theorem fX10_init_677 : a_fetch 158 677 = some (.dup, 678) := by decide +kernel
theorem fX10_init_678 : a_fetch 158 678 = some (.iconst 0, 679) := by decide +kernel
theorem fX10_init_679 : a_fetch 158 679 = some (.iconst 109, 681) := by decide +kernel
theorem fX10_init_681 : a_fetch 158 681 = some (.castore, 682) := by decide +kernel
theorem fX10_init_682 : a_fetch 158 682 = some (.dup, 683) := by decide +kernel
theorem fX10_init_683 : a_fetch 158 683 = some (.iconst 1, 684) := by decide +kernel
theorem fX10_init_684 : a_fetch 158 684 = some (.iconst 97, 686) := by decide +kernel
theorem fX10_init_686 : a_fetch 158 686 = some (.castore, 687) := by decide +kernel
theorem fX10_init_687 : a_fetch 158 687 = some (.dup, 688) := by decide +kernel
theorem fX10_init_688 : a_fetch 158 688 = some (.iconst 2, 689) := by decide +kernel
theorem fX10_init_689 : a_fetch 158 689 = some (.iconst 120, 691) := by decide +kernel
theorem fX10_init_691 : a_fetch 158 691 = some (.castore, 692) := by decide +kernel
theorem fX10_init_692 : a_fetch 158 692 = some (.multianewarray 10 34, 695) := by decide +kernel
theorem fX10_init_695 : a_fetch 158 695 = some (.aload 0, 696) := by decide +kernel
