theorem fX6_scan_55 : a_fetch 60 55 = some (.invokevirtual 59, 58) := by decide +kernel
theorem fX6_scan_58 : a_fetch 60 58 = some (.iload 2, 59) := by decide +kernel
theorem fX6_scan_59 : a_fetch 60 59 = some (.iconst 1, 60) := by decide +kernel
theorem fX6_scan_60 : a_fetch 60 60 = some (.iadd, 61) := by decide +kernel
theorem fX6_scan_61 : a_fetch 60 61 = some (.ireturn, 62) := by decide +kernel
theorem fX6_scanWord_0 : a_fetch 61 0 = some (.iconst 0, 1) := by decide +kernel
theorem fX6_scanWord_1 : a_fetch 61 1 = some (.istore 3, 2) := by decide +kernel
theorem fX6_scanWord_2 : a_fetch 61 2 = some (.iload 2, 3) := by decide +kernel
theorem fX6_scanWord_3 : a_fetch 61 3 = some (.istore 4, 5) := by decide +kernel
theorem fX6_scanWord_5 : a_fetch 61 5 = some (.iload 4, 7) := by decide +kernel
theorem fX6_scanWord_7 : a_fetch 61 7 = some (.aload 1, 8) := by decide +kernel
theorem fX6_scanWord_8 : a_fetch 61 8 = some (.invokevirtual 95, 11) := by decide +kernel
theorem fX6_scanWord_11 : a_fetch 61 11 = some (.if_icmp .ge 62, 14) := by decide +kernel
theorem fX6_scanWord_14 : a_fetch 61 14 = some (.aload 1, 15) := by decide +kernel
theorem fX6_scanWord_15 : a_fetch 61 15 = some (.iload 4, 17) := by decide +kernel
theorem fX6_scanWord_17 : a_fetch 61 17 = some (.invokevirtual 96, 20) := by decide +kernel
theorem fX6_scanWord_20 : a_fetch 61 20 = some (.invokestatic 63, 23) := by decide +kernel
theorem fX6_scanWord_23 : a_fetch 61 23 = some (.ifCond .eq 62, 26) := by decide +kernel
theorem fX6_scanWord_26 : a_fetch 61 26 = some (.iload 4, 28) := by decide +kernel
theorem fX6_scanWord_28 : a_fetch 61 28 = some (.iload 2, 29) := by decide +kernel
theorem fX6_scanWord_29 : a_fetch 61 29 = some (.isub, 30) := by decide +kernel
theorem fX6_scanWord_30 : a_fetch 61 30 = some (.iconst 6, 32) := by decide +kernel
theorem fX6_scanWord_32 : a_fetch 61 32 = some (.if_icmp .ge 56, 35) := by decide +kernel
theorem fX6_scanWord_35 : a_fetch 61 35 = some (.iload 3, 36) := by decide +kernel
theorem fX6_scanWord_36 : a_fetch 61 36 = some (.aload 1, 37) := by decide +kernel
theorem fX6_scanWord_37 : a_fetch 61 37 = some (.iload 4, 39) := by decide +kernel
theorem fX6_scanWord_39 : a_fetch 61 39 = some (.invokevirtual 96, 42) := by decide +kernel
theorem fX6_scanWord_42 : a_fetch 61 42 = some (.iconst 97, 44) := by decide +kernel
theorem fX6_scanWord_44 : a_fetch 61 44 = some (.isub, 45) := by decide +kernel
theorem fX6_scanWord_45 : a_fetch 61 45 = some (.iconst 1, 46) := by decide +kernel
theorem fX6_scanWord_46 : a_fetch 61 46 = some (.iadd, 47) := by decide +kernel
theorem fX6_scanWord_47 : a_fetch 61 47 = some (.iconst 5, 48) := by decide +kernel
theorem fX6_scanWord_48 : a_fetch 61 48 = some (.iload 4, 50) := by decide +kernel
theorem fX6_scanWord_50 : a_fetch 61 50 = some (.iload 2, 51) := by decide +kernel
theorem fX6_scanWord_51 : a_fetch 61 51 = some (.isub, 52) := by decide +kernel
theorem fX6_scanWord_52 : a_fetch 61 52 = some (.imul, 53) := by decide +kernel
theorem fX6_scanWord_53 : a_fetch 61 53 = some (.ishl, 54) := by decide +kernel
theorem fX6_scanWord_54 : a_fetch 61 54 = some (.ior, 55) := by decide +kernel
theorem fX6_scanWord_55 : a_fetch 61 55 = some (.istore 3, 56) := by decide +kernel
theorem fX6_scanWord_56 : a_fetch 61 56 = some (.iinc 4 1, 59) := by decide +kernel
theorem fX6_scanWord_59 : a_fetch 61 59 = some (.goto 5, 62) := by decide +kernel
theorem fX6_scanWord_62 : a_fetch 61 62 = some (.aload 0, 63) := by decide +kernel
theorem fX6_scanWord_63 : a_fetch 61 63 = some (.aload 1, 64) := by decide +kernel
theorem fX6_scanWord_64 : a_fetch 61 64 = some (.iload 2, 65) := by decide +kernel
theorem fX6_scanWord_65 : a_fetch 61 65 = some (.iconst 1, 66) := by decide +kernel
theorem fX6_scanWord_66 : a_fetch 61 66 = some (.isub, 67) := by decide +kernel
theorem fX6_scanWord_67 : a_fetch 61 67 = some (.invokevirtual 96, 70) := by decide +kernel
theorem fX6_scanWord_70 : a_fetch 61 70 = some (.invokestatic 64, 73) := by decide +kernel
theorem fX6_scanWord_73 : a_fetch 61 73 = some (.ifCond .eq 80, 76) := by decide +kernel
theorem fX6_scanWord_76 : a_fetch 61 76 = some (.iconst 4, 77) := by decide +kernel
theorem fX6_scanWord_77 : a_fetch 61 77 = some (.goto 81, 80) := by decide +kernel
theorem fX6_scanWord_80 : a_fetch 61 80 = some (.iconst 0, 81) := by decide +kernel
theorem fX6_scanWord_81 : a_fetch 61 81 = some (.iload 2, 82) := by decide +kernel
theorem fX6_scanWord_82 : a_fetch 61 82 = some (.iload 4, 84) := by decide +kernel
theorem fX6_scanWord_84 : a_fetch 61 84 = some (.iload 2, 85) := by decide +kernel
theorem fX6_scanWord_85 : a_fetch 61 85 = some (.isub, 86) := by decide +kernel
theorem fX6_scanWord_86 : a_fetch 61 86 = some (.iload 3, 87) := by decide +kernel
theorem fX6_scanWord_87 : a_fetch 61 87 = some (.invokevirtual 59, 90) := by decide +kernel
theorem fX6_scanWord_90 : a_fetch 61 90 = some (.iload 4, 92) := by decide +kernel
theorem fX6_scanWord_92 : a_fetch 61 92 = some (.ireturn, 93) := by decide +kernel
theorem fX6_scanNumber_0 : a_fetch 62 0 = some (.iconst 0, 1) := by decide +kernel
theorem fX6_scanNumber_1 : a_fetch 62 1 = some (.istore 3, 2) := by decide +kernel
theorem fX6_scanNumber_2 : a_fetch 62 2 = some (.iload 2, 3) := by decide +kernel
theorem fX6_scanNumber_3 : a_fetch 62 3 = some (.istore 4, 5) := by decide +kernel
theorem fX6_scanNumber_5 : a_fetch 62 5 = some (.iload 4, 7) := by decide +kernel
theorem fX6_scanNumber_7 : a_fetch 62 7 = some (.aload 1, 8) := by decide +kernel
theorem fX6_scanNumber_8 : a_fetch 62 8 = some (.invokevirtual 95, 11) := by decide +kernel
theorem fX6_scanNumber_11 : a_fetch 62 11 = some (.if_icmp .ge 55, 14) := by decide +kernel
theorem fX6_scanNumber_14 : a_fetch 62 14 = some (.aload 1, 15) := by decide +kernel
theorem fX6_scanNumber_15 : a_fetch 62 15 = some (.iload 4, 17) := by decide +kernel
theorem fX6_scanNumber_17 : a_fetch 62 17 = some (.invokevirtual 96, 20) := by decide +kernel
theorem fX6_scanNumber_20 : a_fetch 62 20 = some (.invokestatic 64, 23) := by decide +kernel
theorem fX6_scanNumber_23 : a_fetch 62 23 = some (.ifCond .eq 55, 26) := by decide +kernel
theorem fX6_scanNumber_26 : a_fetch 62 26 = some (.iload 4, 28) := by decide +kernel
theorem fX6_scanNumber_28 : a_fetch 62 28 = some (.iload 2, 29) := by decide +kernel
theorem fX6_scanNumber_29 : a_fetch 62 29 = some (.isub, 30) := by decide +kernel
theorem fX6_scanNumber_30 : a_fetch 62 30 = some (.iconst 4, 31) := by decide +kernel
theorem fX6_scanNumber_31 : a_fetch 62 31 = some (.if_icmp .ge 49, 34) := by decide +kernel
theorem fX6_scanNumber_34 : a_fetch 62 34 = some (.iconst 10, 36) := by decide +kernel
theorem fX6_scanNumber_36 : a_fetch 62 36 = some (.iload 3, 37) := by decide +kernel
theorem fX6_scanNumber_37 : a_fetch 62 37 = some (.imul, 38) := by decide +kernel
theorem fX6_scanNumber_38 : a_fetch 62 38 = some (.aload 1, 39) := by decide +kernel
theorem fX6_scanNumber_39 : a_fetch 62 39 = some (.iload 4, 41) := by decide +kernel
theorem fX6_scanNumber_41 : a_fetch 62 41 = some (.invokevirtual 96, 44) := by decide +kernel
theorem fX6_scanNumber_44 : a_fetch 62 44 = some (.iadd, 45) := by decide +kernel
theorem fX6_scanNumber_45 : a_fetch 62 45 = some (.iconst 48, 47) := by decide +kernel
theorem fX6_scanNumber_47 : a_fetch 62 47 = some (.isub, 48) := by decide +kernel
theorem fX6_scanNumber_48 : a_fetch 62 48 = some (.istore 3, 49) := by decide +kernel
theorem fX6_scanNumber_49 : a_fetch 62 49 = some (.iinc 4 1, 52) := by decide +kernel
theorem fX6_scanNumber_52 : a_fetch 62 52 = some (.goto 5, 55) := by decide +kernel
theorem fX6_scanNumber_55 : a_fetch 62 55 = some (.aload 0, 56) := by decide +kernel
theorem fX6_scanNumber_56 : a_fetch 62 56 = some (.aload 1, 57) := by decide +kernel
theorem fX6_scanNumber_57 : a_fetch 62 57 = some (.iload 2, 58) := by decide +kernel
theorem fX6_scanNumber_58 : a_fetch 62 58 = some (.iconst 1, 59) := by decide +kernel
theorem fX6_scanNumber_59 : a_fetch 62 59 = some (.isub, 60) := by decide +kernel
theorem fX6_scanNumber_60 : a_fetch 62 60 = some (.invokevirtual 96, 63) := by decide +kernel
theorem fX6_scanNumber_63 : a_fetch 62 63 = some (.invokestatic 63, 66) := by decide +kernel
theorem fX6_scanNumber_66 : a_fetch 62 66 = some (.ifCond .eq 73, 69) := by decide +kernel
theorem fX6_scanNumber_69 : a_fetch 62 69 = some (.iconst 4, 70) := by decide +kernel
theorem fX6_scanNumber_70 : a_fetch 62 70 = some (.goto 74, 73) := by decide +kernel
theorem fX6_scanNumber_73 : a_fetch 62 73 = some (.iconst 1, 74) := by decide +kernel
theorem fX6_scanNumber_74 : a_fetch 62 74 = some (.iload 2, 75) := by decide +kernel
theorem fX6_scanNumber_75 : a_fetch 62 75 = some (.iload 4, 77) := by decide +kernel
theorem fX6_scanNumber_77 : a_fetch 62 77 = some (.iload 2, 78) := by decide +kernel
theorem fX6_scanNumber_78 : a_fetch 62 78 = some (.isub, 79) := by decide +kernel
theorem fX6_scanNumber_79 : a_fetch 62 79 = some (.iload 3, 80) := by decide +kernel
theorem fX6_scanNumber_80 : a_fetch 62 80 = some (.invokevirtual 59, 83) := by decide +kernel
theorem fX6_scanNumber_83 : a_fetch 62 83 = some (.iload 4, 85) := by decide +kernel
theorem fX6_scanNumber_85 : a_fetch 62 85 = some (.ireturn, 86) := by decide +kernel
theorem fX6_isLetter_0 : a_fetch 63 0 = some (.iload 0, 1) := by decide +kernel
theorem fX6_isLetter_1 : a_fetch 63 1 = some (.iconst 97, 3) := by decide +kernel
theorem fX6_isLetter_3 : a_fetch 63 3 = some (.if_icmp .lt 16, 6) := by decide +kernel
theorem fX6_isLetter_6 : a_fetch 63 6 = some (.iload 0, 7) := by decide +kernel
theorem fX6_isLetter_7 : a_fetch 63 7 = some (.iconst 122, 9) := by decide +kernel
theorem fX6_isLetter_9 : a_fetch 63 9 = some (.if_icmp .gt 16, 12) := by decide +kernel
theorem fX6_isLetter_12 : a_fetch 63 12 = some (.iconst 1, 13) := by decide +kernel
theorem fX6_isLetter_13 : a_fetch 63 13 = some (.goto 17, 16) := by decide +kernel
theorem fX6_isLetter_16 : a_fetch 63 16 = some (.iconst 0, 17) := by decide +kernel
theorem fX6_isLetter_17 : a_fetch 63 17 = some (.ireturn, 18) := by decide +kernel
theorem fX6_isDigit_0 : a_fetch 64 0 = some (.iload 0, 1) := by decide +kernel
theorem fX6_isDigit_1 : a_fetch 64 1 = some (.iconst 48, 3) := by decide +kernel
theorem fX6_isDigit_3 : a_fetch 64 3 = some (.if_icmp .lt 16, 6) := by decide +kernel
theorem fX6_isDigit_6 : a_fetch 64 6 = some (.iload 0, 7) := by decide +kernel
theorem fX6_isDigit_7 : a_fetch 64 7 = some (.iconst 57, 9) := by decide +kernel
theorem fX6_isDigit_9 : a_fetch 64 9 = some (.if_icmp .gt 16, 12) := by decide +kernel
theorem fX6_isDigit_12 : a_fetch 64 12 = some (.iconst 1, 13) := by decide +kernel
theorem fX6_isDigit_13 : a_fetch 64 13 = some (.goto 17, 16) := by decide +kernel
theorem fX6_isDigit_16 : a_fetch 64 16 = some (.iconst 0, 17) := by decide +kernel
theorem fX6_isDigit_17 : a_fetch 64 17 = some (.ireturn, 18) := by decide +kernel
theorem fX6_fine_0 : a_fetch 65 0 = some (.aload 0, 1) := by decide +kernel
theorem fX6_fine_1 : a_fetch 65 1 = some (.invokeinterface 6 11, 4) := by decide +kernel
theorem fX6_fine_4 : a_fetch 65 4 = some (.ifCond .ne 11, 7) := by decide +kernel
theorem fX6_fine_7 : a_fetch 65 7 = some (.iconst 1, 8) := by decide +kernel
theorem fX6_fine_8 : a_fetch 65 8 = some (.goto 12, 11) := by decide +kernel
theorem fX6_fine_11 : a_fetch 65 11 = some (.iconst 0, 12) := by decide +kernel
theorem fX6_fine_12 : a_fetch 65 12 = some (.ireturn, 13) := by decide +kernel
theorem fX6_fail_0 : a_fetch 66 0 = some (.aload 0, 1) := by decide +kernel
theorem fX6_fail_1 : a_fetch 66 1 = some (.invokeinterface 6 11, 4) := by decide +kernel
theorem fX6_fail_4 : a_fetch 66 4 = some (.ifCond .eq 8, 7) := by decide +kernel
theorem fX6_fail_7 : a_fetch 66 7 = some (.return_, 8) := by decide +kernel
theorem fX6_fail_8 : a_fetch 66 8 = some (.aload 0, 9) := by decide +kernel
theorem fX6_fail_9 : a_fetch 66 9 = some (.iload 1, 10) := by decide +kernel
theorem fX6_fail_10 : a_fetch 66 10 = some (.multianewarray 6 11, 13) := by decide +kernel
theorem fX6_fail_13 : a_fetch 66 13 = some (.aload 0, 14) := by decide +kernel
theorem fX6_fail_14 : a_fetch 66 14 = some (.iload 2, 15) := by decide +kernel
theorem fX6_fail_15 : a_fetch 66 15 = some (.multianewarray 6 12, 18) := by decide +kernel
theorem fX6_fail_18 : a_fetch 66 18 = some (.return_, 19) := by decide +kernel
theorem fX6_here_0 : a_fetch 67 0 = some (.aload 0, 1) := by decide +kernel
theorem fX6_here_1 : a_fetch 67 1 = some (.invokeinterface 6 1, 4) := by decide +kernel
theorem fX6_here_4 : a_fetch 67 4 = some (.aload 0, 5) := by decide +kernel
theorem fX6_here_5 : a_fetch 67 5 = some (.invokeinterface 6 6, 8) := by decide +kernel
theorem fX6_here_8 : a_fetch 67 8 = some (.invokevirtual 96, 11) := by decide +kernel
theorem fX6_here_11 : a_fetch 67 11 = some (.ireturn, 12) := by decide +kernel
theorem fX6_word_0 : a_fetch 68 0 = some (.aload 0, 1) := by decide +kernel
theorem fX6_word_1 : a_fetch 68 1 = some (.invokeinterface 6 4, 4) := by decide +kernel
theorem fX6_word_4 : a_fetch 68 4 = some (.aload 0, 5) := by decide +kernel
theorem fX6_word_5 : a_fetch 68 5 = some (.invokeinterface 6 6, 8) := by decide +kernel
theorem fX6_word_8 : a_fetch 68 8 = some (.invokevirtual 96, 11) := by decide +kernel
theorem fX6_word_11 : a_fetch 68 11 = some (.ireturn, 12) := by decide +kernel
theorem fX6_isSign_0 : a_fetch 69 0 = some (.aload 0, 1) := by decide +kernel
theorem fX6_isSign_1 : a_fetch 69 1 = some (.invokevirtual 65, 4) := by decide +kernel
theorem fX6_isSign_4 : a_fetch 69 4 = some (.ifCond .eq 41, 7) := by decide +kernel
theorem fX6_isSign_7 : a_fetch 69 7 = some (.aload 0, 8) := by decide +kernel
theorem fX6_isSign_8 : a_fetch 69 8 = some (.invokeinterface 6 0, 11) := by decide +kernel
theorem fX6_isSign_11 : a_fetch 69 11 = some (.aload 0, 12) := by decide +kernel
theorem fX6_isSign_12 : a_fetch 69 12 = some (.invokeinterface 6 6, 15) := by decide +kernel
theorem fX6_isSign_15 : a_fetch 69 15 = some (.invokevirtual 96, 18) := by decide +kernel
theorem fX6_isSign_18 : a_fetch 69 18 = some (.iconst 2, 19) := by decide +kernel
theorem fX6_isSign_19 : a_fetch 69 19 = some (.if_icmp .ne 41, 22) := by decide +kernel
theorem fX6_isSign_22 : a_fetch 69 22 = some (.aload 0, 23) := by decide +kernel
theorem fX6_isSign_23 : a_fetch 69 23 = some (.invokeinterface 6 3, 26) := by decide +kernel
theorem fX6_isSign_26 : a_fetch 69 26 = some (.aload 0, 27) := by decide +kernel
theorem fX6_isSign_27 : a_fetch 69 27 = some (.invokeinterface 6 6, 30) := by decide +kernel
theorem fX6_isSign_30 : a_fetch 69 30 = some (.invokevirtual 96, 33) := by decide +kernel
theorem fX6_isSign_33 : a_fetch 69 33 = some (.iload 1, 34) := by decide +kernel
theorem fX6_isSign_34 : a_fetch 69 34 = some (.if_icmp .ne 41, 37) := by decide +kernel
theorem fX6_isSign_37 : a_fetch 69 37 = some (.iconst 1, 38) := by decide +kernel
theorem fX6_isSign_38 : a_fetch 69 38 = some (.goto 42, 41) := by decide +kernel
theorem fX6_isSign_41 : a_fetch 69 41 = some (.iconst 0, 42) := by decide +kernel
theorem fX6_isSign_42 : a_fetch 69 42 = some (.ireturn, 43) := by decide +kernel
theorem fX6_isWord_0 : a_fetch 70 0 = some (.aload 0, 1) := by decide +kernel
theorem fX6_isWord_1 : a_fetch 70 1 = some (.invokevirtual 65, 4) := by decide +kernel
theorem fX6_isWord_4 : a_fetch 70 4 = some (.ifCond .eq 19, 7) := by decide +kernel
theorem fX6_isWord_7 : a_fetch 70 7 = some (.aload 0, 8) := by decide +kernel
theorem fX6_isWord_8 : a_fetch 70 8 = some (.invokevirtual 68, 11) := by decide +kernel
theorem fX6_isWord_11 : a_fetch 70 11 = some (.iload 1, 12) := by decide +kernel
theorem fX6_isWord_12 : a_fetch 70 12 = some (.if_icmp .ne 19, 15) := by decide +kernel
theorem fX6_isWord_15 : a_fetch 70 15 = some (.iconst 1, 16) := by decide +kernel
theorem fX6_isWord_16 : a_fetch 70 16 = some (.goto 20, 19) := by decide +kernel
theorem fX6_isWord_19 : a_fetch 70 19 = some (.iconst 0, 20) := by decide +kernel
theorem fX6_isWord_20 : a_fetch 70 20 = some (.ireturn, 21) := by decide +kernel
theorem fX6_take_0 : a_fetch 71 0 = some (.aload 0, 1) := by decide +kernel
theorem fX6_take_1 : a_fetch 71 1 = some (.invokevirtual 65, 4) := by decide +kernel
theorem fX6_take_4 : a_fetch 71 4 = some (.ifCond .eq 32, 7) := by decide +kernel
theorem fX6_take_7 : a_fetch 71 7 = some (.aload 0, 8) := by decide +kernel
theorem fX6_take_8 : a_fetch 71 8 = some (.invokeinterface 6 0, 11) := by decide +kernel
theorem fX6_take_11 : a_fetch 71 11 = some (.aload 0, 12) := by decide +kernel
theorem fX6_take_12 : a_fetch 71 12 = some (.invokeinterface 6 6, 15) := by decide +kernel
theorem fX6_take_15 : a_fetch 71 15 = some (.invokevirtual 96, 18) := by decide +kernel
theorem fX6_take_18 : a_fetch 71 18 = some (.iconst 3, 19) := by decide +kernel
theorem fX6_take_19 : a_fetch 71 19 = some (.if_icmp .eq 32, 22) := by decide +kernel
theorem fX6_take_22 : a_fetch 71 22 = some (.aload 0, 23) := by decide +kernel
theorem fX6_take_23 : a_fetch 71 23 = some (.dup, 24) := by decide +kernel
theorem fX6_take_24 : a_fetch 71 24 = some (.invokeinterface 6 6, 27) := by decide +kernel
theorem fX6_take_27 : a_fetch 71 27 = some (.iconst 1, 28) := by decide +kernel
theorem fX6_take_28 : a_fetch 71 28 = some (.iadd, 29) := by decide +kernel
theorem fX6_take_29 : a_fetch 71 29 = some (.multianewarray 6 6, 32) := by decide +kernel
theorem fX6_take_32 : a_fetch 71 32 = some (.return_, 33) := by decide +kernel
theorem fX6_takeSign_0 : a_fetch 72 0 = some (.aload 0, 1) := by decide +kernel
theorem fX6_takeSign_1 : a_fetch 72 1 = some (.iload 1, 2) := by decide +kernel
theorem fX6_takeSign_2 : a_fetch 72 2 = some (.invokevirtual 69, 5) := by decide +kernel
theorem fX6_takeSign_5 : a_fetch 72 5 = some (.ifCond .eq 15, 8) := by decide +kernel
theorem fX6_takeSign_8 : a_fetch 72 8 = some (.aload 0, 9) := by decide +kernel
theorem fX6_takeSign_9 : a_fetch 72 9 = some (.invokevirtual 71, 12) := by decide +kernel
theorem fX6_takeSign_12 : a_fetch 72 12 = some (.goto 24, 15) := by decide +kernel
theorem fX6_takeSign_15 : a_fetch 72 15 = some (.aload 0, 16) := by decide +kernel
theorem fX6_takeSign_16 : a_fetch 72 16 = some (.iconst 1, 17) := by decide +kernel
theorem fX6_takeSign_17 : a_fetch 72 17 = some (.aload 0, 18) := by decide +kernel
theorem fX6_takeSign_18 : a_fetch 72 18 = some (.invokevirtual 67, 21) := by decide +kernel
theorem fX6_takeSign_21 : a_fetch 72 21 = some (.invokevirtual 66, 24) := by decide +kernel
theorem fX6_takeSign_24 : a_fetch 72 24 = some (.return_, 25) := by decide +kernel
theorem fX6_takeWord_0 : a_fetch 73 0 = some (.aload 0, 1) := by decide +kernel
theorem fX6_takeWord_1 : a_fetch 73 1 = some (.iload 1, 2) := by decide +kernel
theorem fX6_takeWord_2 : a_fetch 73 2 = some (.invokevirtual 70, 5) := by decide +kernel
theorem fX6_takeWord_5 : a_fetch 73 5 = some (.ifCond .eq 15, 8) := by decide +kernel
theorem fX6_takeWord_8 : a_fetch 73 8 = some (.aload 0, 9) := by decide +kernel
theorem fX6_takeWord_9 : a_fetch 73 9 = some (.invokevirtual 71, 12) := by decide +kernel
theorem fX6_takeWord_12 : a_fetch 73 12 = some (.goto 24, 15) := by decide +kernel
theorem fX6_takeWord_15 : a_fetch 73 15 = some (.aload 0, 16) := by decide +kernel
theorem fX6_takeWord_16 : a_fetch 73 16 = some (.iconst 1, 17) := by decide +kernel
theorem fX6_takeWord_17 : a_fetch 73 17 = some (.aload 0, 18) := by decide +kernel
theorem fX6_takeWord_18 : a_fetch 73 18 = some (.invokevirtual 67, 21) := by decide +kernel
theorem fX6_takeWord_21 : a_fetch 73 21 = some (.invokevirtual 66, 24) := by decide +kernel
theorem fX6_takeWord_24 : a_fetch 73 24 = some (.return_, 25) := by decide +kernel
theorem fX6_takeName_0 : a_fetch 74 0 = some (.aload 0, 1) := by decide +kernel
theorem fX6_takeName_1 : a_fetch 74 1 = some (.invokevirtual 68, 4) := by decide +kernel
theorem fX6_takeName_4 : a_fetch 74 4 = some (.istore 1, 5) := by decide +kernel
theorem fX6_takeName_5 : a_fetch 74 5 = some (.aload 0, 6) := by decide +kernel
theorem fX6_takeName_6 : a_fetch 74 6 = some (.invokeinterface 6 0, 9) := by decide +kernel
theorem fX6_takeName_9 : a_fetch 74 9 = some (.aload 0, 10) := by decide +kernel
theorem fX6_takeName_10 : a_fetch 74 10 = some (.invokeinterface 6 6, 13) := by decide +kernel
theorem fX6_takeName_13 : a_fetch 74 13 = some (.invokevirtual 96, 16) := by decide +kernel
theorem fX6_takeName_16 : a_fetch 74 16 = some (.ifCond .ne 30, 19) := by decide +kernel
theorem fX6_takeName_19 : a_fetch 74 19 = some (.iload 1, 20) := by decide +kernel
theorem fX6_takeName_20 : a_fetch 74 20 = some (.iconst (-1), 21) := by decide +kernel
theorem fX6_takeName_21 : a_fetch 74 21 = some (.if_icmp .eq 42, 24) := by decide +kernel
theorem fX6_takeName_24 : a_fetch 74 24 = some (.iload 1, 25) := by decide +kernel
theorem fX6_takeName_25 : a_fetch 74 25 = some (.iconst 24, 27) := by decide +kernel
theorem fX6_takeName_27 : a_fetch 74 27 = some (.if_icmp .ge 42, 30) := by decide +kernel
theorem fX6_takeName_30 : a_fetch 74 30 = some (.aload 0, 31) := by decide +kernel
theorem fX6_takeName_31 : a_fetch 74 31 = some (.iconst 1, 32) := by decide +kernel
theorem fX6_takeName_32 : a_fetch 74 32 = some (.aload 0, 33) := by decide +kernel
theorem fX6_takeName_33 : a_fetch 74 33 = some (.invokevirtual 67, 36) := by decide +kernel
theorem fX6_takeName_36 : a_fetch 74 36 = some (.invokevirtual 66, 39) := by decide +kernel
theorem fX6_takeName_39 : a_fetch 74 39 = some (.goto 70, 42) := by decide +kernel
theorem fX6_takeName_42 : a_fetch 74 42 = some (.aload 0, 43) := by decide +kernel
theorem fX6_takeName_43 : a_fetch 74 43 = some (.invokeinterface 6 2, 46) := by decide +kernel
theorem fX6_takeName_46 : a_fetch 74 46 = some (.aload 0, 47) := by decide +kernel
theorem fX6_takeName_47 : a_fetch 74 47 = some (.invokeinterface 6 6, 50) := by decide +kernel
theorem fX6_takeName_50 : a_fetch 74 50 = some (.invokevirtual 96, 53) := by decide +kernel
theorem fX6_takeName_53 : a_fetch 74 53 = some (.iconst 6, 55) := by decide +kernel
theorem fX6_takeName_55 : a_fetch 74 55 = some (.if_icmp .le 70, 58) := by decide +kernel
theorem fX6_takeName_58 : a_fetch 74 58 = some (.aload 0, 59) := by decide +kernel
theorem fX6_takeName_59 : a_fetch 74 59 = some (.iconst 1, 60) := by decide +kernel
theorem fX6_takeName_60 : a_fetch 74 60 = some (.aload 0, 61) := by decide +kernel
theorem fX6_takeName_61 : a_fetch 74 61 = some (.invokevirtual 67, 64) := by decide +kernel
theorem fX6_takeName_64 : a_fetch 74 64 = some (.iconst 6, 66) := by decide +kernel
theorem fX6_takeName_66 : a_fetch 74 66 = some (.iadd, 67) := by decide +kernel
theorem fX6_takeName_67 : a_fetch 74 67 = some (.invokevirtual 66, 70) := by decide +kernel
theorem fX6_takeName_70 : a_fetch 74 70 = some (.aload 0, 71) := by decide +kernel
theorem fX6_takeName_71 : a_fetch 74 71 = some (.invokeinterface 6 3, 74) := by decide +kernel
theorem fX6_takeName_74 : a_fetch 74 74 = some (.aload 0, 75) := by decide +kernel
theorem fX6_takeName_75 : a_fetch 74 75 = some (.invokeinterface 6 6, 78) := by decide +kernel
theorem fX6_takeName_78 : a_fetch 74 78 = some (.invokevirtual 96, 81) := by decide +kernel
theorem fX6_takeName_81 : a_fetch 74 81 = some (.istore 2, 82) := by decide +kernel
theorem fX6_takeName_82 : a_fetch 74 82 = some (.aload 0, 83) := by decide +kernel
theorem fX6_takeName_83 : a_fetch 74 83 = some (.invokevirtual 71, 86) := by decide +kernel
theorem fX6_takeName_86 : a_fetch 74 86 = some (.iload 2, 87) := by decide +kernel
theorem fX6_takeName_87 : a_fetch 74 87 = some (.ireturn, 88) := by decide +kernel
theorem fX6_takeNumber_0 : a_fetch 75 0 = some (.aload 0, 1) := by decide +kernel
theorem fX6_takeNumber_1 : a_fetch 75 1 = some (.invokeinterface 6 0, 4) := by decide +kernel
theorem fX6_takeNumber_4 : a_fetch 75 4 = some (.aload 0, 5) := by decide +kernel
theorem fX6_takeNumber_5 : a_fetch 75 5 = some (.invokeinterface 6 6, 8) := by decide +kernel
theorem fX6_takeNumber_8 : a_fetch 75 8 = some (.invokevirtual 96, 11) := by decide +kernel
theorem fX6_takeNumber_11 : a_fetch 75 11 = some (.iconst 1, 12) := by decide +kernel
theorem fX6_takeNumber_12 : a_fetch 75 12 = some (.if_icmp .eq 27, 15) := by decide +kernel
theorem fX6_takeNumber_15 : a_fetch 75 15 = some (.aload 0, 16) := by decide +kernel
theorem fX6_takeNumber_16 : a_fetch 75 16 = some (.iconst 1, 17) := by decide +kernel
theorem fX6_takeNumber_17 : a_fetch 75 17 = some (.aload 0, 18) := by decide +kernel
theorem fX6_takeNumber_18 : a_fetch 75 18 = some (.invokevirtual 67, 21) := by decide +kernel
theorem fX6_takeNumber_21 : a_fetch 75 21 = some (.invokevirtual 66, 24) := by decide +kernel
theorem fX6_takeNumber_24 : a_fetch 75 24 = some (.goto 80, 27) := by decide +kernel
theorem fX6_takeNumber_27 : a_fetch 75 27 = some (.aload 0, 28) := by decide +kernel
theorem fX6_takeNumber_28 : a_fetch 75 28 = some (.invokeinterface 6 2, 31) := by decide +kernel
theorem fX6_takeNumber_31 : a_fetch 75 31 = some (.aload 0, 32) := by decide +kernel
theorem fX6_takeNumber_32 : a_fetch 75 32 = some (.invokeinterface 6 6, 35) := by decide +kernel
theorem fX6_takeNumber_35 : a_fetch 75 35 = some (.invokevirtual 96, 38) := by decide +kernel
theorem fX6_takeNumber_38 : a_fetch 75 38 = some (.iconst 4, 39) := by decide +kernel
theorem fX6_takeNumber_39 : a_fetch 75 39 = some (.if_icmp .le 56, 42) := by decide +kernel
theorem fX6_takeNumber_42 : a_fetch 75 42 = some (.aload 0, 43) := by decide +kernel
theorem fX6_takeNumber_43 : a_fetch 75 43 = some (.iconst 1, 44) := by decide +kernel
theorem fX6_takeNumber_44 : a_fetch 75 44 = some (.aload 0, 45) := by decide +kernel
theorem fX6_takeNumber_45 : a_fetch 75 45 = some (.invokevirtual 67, 48) := by decide +kernel
theorem fX6_takeNumber_48 : a_fetch 75 48 = some (.iconst 4, 49) := by decide +kernel
theorem fX6_takeNumber_49 : a_fetch 75 49 = some (.iadd, 50) := by decide +kernel
theorem fX6_takeNumber_50 : a_fetch 75 50 = some (.invokevirtual 66, 53) := by decide +kernel
theorem fX6_takeNumber_53 : a_fetch 75 53 = some (.goto 80, 56) := by decide +kernel
theorem fX6_takeNumber_56 : a_fetch 75 56 = some (.aload 0, 57) := by decide +kernel
theorem fX6_takeNumber_57 : a_fetch 75 57 = some (.invokeinterface 6 3, 60) := by decide +kernel
theorem fX6_takeNumber_60 : a_fetch 75 60 = some (.aload 0, 61) := by decide +kernel
theorem fX6_takeNumber_61 : a_fetch 75 61 = some (.invokeinterface 6 6, 64) := by decide +kernel
theorem fX6_takeNumber_64 : a_fetch 75 64 = some (.invokevirtual 96, 67) := by decide +kernel
theorem fX6_takeNumber_67 : a_fetch 75 67 = some (.iload 1, 68) := by decide +kernel
theorem fX6_takeNumber_68 : a_fetch 75 68 = some (.if_icmp .le 80, 71) := by decide +kernel
theorem fX6_takeNumber_71 : a_fetch 75 71 = some (.aload 0, 72) := by decide +kernel
theorem fX6_takeNumber_72 : a_fetch 75 72 = some (.iconst 2, 73) := by decide +kernel
theorem fX6_takeNumber_73 : a_fetch 75 73 = some (.aload 0, 74) := by decide +kernel
theorem fX6_takeNumber_74 : a_fetch 75 74 = some (.invokevirtual 67, 77) := by decide +kernel
theorem fX6_takeNumber_77 : a_fetch 75 77 = some (.invokevirtual 66, 80) := by decide +kernel
theorem fX6_takeNumber_80 : a_fetch 75 80 = some (.aload 0, 81) := by decide +kernel
theorem fX6_takeNumber_81 : a_fetch 75 81 = some (.invokeinterface 6 3, 84) := by decide +kernel
theorem fX6_takeNumber_84 : a_fetch 75 84 = some (.aload 0, 85) := by decide +kernel
theorem fX6_takeNumber_85 : a_fetch 75 85 = some (.invokeinterface 6 6, 88) := by decide +kernel
theorem fX6_takeNumber_88 : a_fetch 75 88 = some (.invokevirtual 96, 91) := by decide +kernel
theorem fX6_takeNumber_91 : a_fetch 75 91 = some (.istore 2, 92) := by decide +kernel
theorem fX6_takeNumber_92 : a_fetch 75 92 = some (.aload 0, 93) := by decide +kernel
theorem fX6_takeNumber_93 : a_fetch 75 93 = some (.invokevirtual 71, 96) := by decide +kernel
theorem fX6_takeNumber_96 : a_fetch 75 96 = some (.iload 2, 97) := by decide +kernel
theorem fX6_takeNumber_97 : a_fetch 75 97 = some (.ireturn, 98) := by decide +kernel
theorem fX6_takeOpening_0 : a_fetch 76 0 = some (.iload 1, 1) := by decide +kernel
theorem fX6_takeOpening_1 : a_fetch 76 1 = some (.iconst 6, 3) := by decide +kernel
theorem fX6_takeOpening_3 : a_fetch 76 3 = some (.if_icmp .lt 15, 6) := by decide +kernel
theorem fX6_takeOpening_6 : a_fetch 76 6 = some (.aload 0, 7) := by decide +kernel
theorem fX6_takeOpening_7 : a_fetch 76 7 = some (.iconst 4, 8) := by decide +kernel
theorem fX6_takeOpening_8 : a_fetch 76 8 = some (.aload 0, 9) := by decide +kernel
theorem fX6_takeOpening_9 : a_fetch 76 9 = some (.invokevirtual 67, 12) := by decide +kernel
theorem fX6_takeOpening_12 : a_fetch 76 12 = some (.invokevirtual 66, 15) := by decide +kernel
theorem fX6_takeOpening_15 : a_fetch 76 15 = some (.aload 0, 16) := by decide +kernel
theorem fX6_takeOpening_16 : a_fetch 76 16 = some (.invokevirtual 71, 19) := by decide +kernel
theorem fX6_takeOpening_19 : a_fetch 76 19 = some (.return_, 20) := by decide +kernel
theorem fX6_readCity_0 : a_fetch 77 0 = some (.aload 1, 1) := by decide +kernel
theorem fX6_readCity_1 : a_fetch 77 1 = some (.invokevirtual 9, 4) := by decide +kernel
theorem fX6_readCity_4 : a_fetch 77 4 = some (.iconst 0, 5) := by decide +kernel
theorem fX6_readCity_5 : a_fetch 77 5 = some (.istore 2, 6) := by decide +kernel
theorem fX6_readCity_6 : a_fetch 77 6 = some (.iload 2, 7) := by decide +kernel
theorem fX6_readCity_7 : a_fetch 77 7 = some (.iconst 70, 9) := by decide +kernel
theorem fX6_readCity_9 : a_fetch 77 9 = some (.if_icmp .gt 176, 12) := by decide +kernel
theorem fX6_readCity_12 : a_fetch 77 12 = some (.aload 0, 13) := by decide +kernel
theorem fX6_readCity_13 : a_fetch 77 13 = some (.invokevirtual 65, 16) := by decide +kernel
theorem fX6_readCity_16 : a_fetch 77 16 = some (.ifCond .eq 176, 19) := by decide +kernel
theorem fX6_readCity_19 : a_fetch 77 19 = some (.aload 0, 20) := by decide +kernel
theorem fX6_readCity_20 : a_fetch 77 20 = some (.invokeinterface 6 0, 23) := by decide +kernel
theorem fX6_readCity_23 : a_fetch 77 23 = some (.aload 0, 24) := by decide +kernel
theorem fX6_readCity_24 : a_fetch 77 24 = some (.invokeinterface 6 6, 27) := by decide +kernel
theorem fX6_readCity_27 : a_fetch 77 27 = some (.invokevirtual 96, 30) := by decide +kernel
theorem fX6_readCity_30 : a_fetch 77 30 = some (.iconst 3, 31) := by decide +kernel
theorem fX6_readCity_31 : a_fetch 77 31 = some (.if_icmp .eq 176, 34) := by decide +kernel
theorem fX6_readCity_34 : a_fetch 77 34 = some (.aload 0, 35) := by decide +kernel
theorem fX6_readCity_35 : a_fetch 77 35 = some (.invokevirtual 68, 38) := by decide +kernel
theorem fX6_readCity_38 : a_fetch 77 38 = some (.istore 3, 39) := by decide +kernel
theorem fX6_readCity_39 : a_fetch 77 39 = some (.iload 2, 40) := by decide +kernel
theorem fX6_readCity_40 : a_fetch 77 40 = some (.iconst 70, 42) := by decide +kernel
theorem fX6_readCity_42 : a_fetch 77 42 = some (.if_icmp .eq 53, 45) := by decide +kernel
theorem fX6_readCity_45 : a_fetch 77 45 = some (.aload 1, 46) := by decide +kernel
theorem fX6_readCity_46 : a_fetch 77 46 = some (.iload 3, 47) := by decide +kernel
theorem fX6_readCity_47 : a_fetch 77 47 = some (.invokestatic 78, 50) := by decide +kernel
theorem fX6_readCity_50 : a_fetch 77 50 = some (.ifCond .eq 65, 53) := by decide +kernel
theorem fX6_readCity_53 : a_fetch 77 53 = some (.aload 0, 54) := by decide +kernel
theorem fX6_readCity_54 : a_fetch 77 54 = some (.iconst 5, 55) := by decide +kernel
theorem fX6_readCity_55 : a_fetch 77 55 = some (.aload 0, 56) := by decide +kernel
theorem fX6_readCity_56 : a_fetch 77 56 = some (.invokevirtual 67, 59) := by decide +kernel
theorem fX6_readCity_59 : a_fetch 77 59 = some (.invokevirtual 66, 62) := by decide +kernel
theorem fX6_readCity_62 : a_fetch 77 62 = some (.goto 154, 65) := by decide +kernel
theorem fX6_readCity_65 : a_fetch 77 65 = some (.iload 3, 66) := by decide +kernel
theorem fX6_readCity_66 : a_fetch 77 66 = some (.ifCond .eq 74, 69) := by decide +kernel
theorem fX6_readCity_69 : a_fetch 77 69 = some (.iload 3, 70) := by decide +kernel
theorem fX6_readCity_70 : a_fetch 77 70 = some (.iconst 2, 71) := by decide +kernel
theorem fX6_readCity_71 : a_fetch 77 71 = some (.if_icmp .ne 83, 74) := by decide +kernel
theorem fX6_readCity_74 : a_fetch 77 74 = some (.aload 0, 75) := by decide +kernel
theorem fX6_readCity_75 : a_fetch 77 75 = some (.aload 1, 76) := by decide +kernel
theorem fX6_readCity_76 : a_fetch 77 76 = some (.iload 3, 77) := by decide +kernel
theorem fX6_readCity_77 : a_fetch 77 77 = some (.invokevirtual 79, 80) := by decide +kernel
theorem fX6_readCity_80 : a_fetch 77 80 = some (.goto 154, 83) := by decide +kernel
theorem fX6_readCity_83 : a_fetch 77 83 = some (.iload 3, 84) := by decide +kernel
theorem fX6_readCity_84 : a_fetch 77 84 = some (.iconst 4, 85) := by decide +kernel
theorem fX6_readCity_85 : a_fetch 77 85 = some (.if_icmp .ne 96, 88) := by decide +kernel
theorem fX6_readCity_88 : a_fetch 77 88 = some (.aload 0, 89) := by decide +kernel
theorem fX6_readCity_89 : a_fetch 77 89 = some (.aload 1, 90) := by decide +kernel
theorem fX6_readCity_90 : a_fetch 77 90 = some (.invokevirtual 81, 93) := by decide +kernel
theorem fX6_readCity_93 : a_fetch 77 93 = some (.goto 154, 96) := by decide +kernel
theorem fX6_readCity_96 : a_fetch 77 96 = some (.iload 3, 97) := by decide +kernel
theorem fX6_readCity_97 : a_fetch 77 97 = some (.iconst 6, 99) := by decide +kernel
theorem fX6_readCity_99 : a_fetch 77 99 = some (.if_icmp .ne 110, 102) := by decide +kernel
theorem fX6_readCity_102 : a_fetch 77 102 = some (.aload 0, 103) := by decide +kernel
theorem fX6_readCity_103 : a_fetch 77 103 = some (.aload 1, 104) := by decide +kernel
theorem fX6_readCity_104 : a_fetch 77 104 = some (.invokevirtual 82, 107) := by decide +kernel
theorem fX6_readCity_107 : a_fetch 77 107 = some (.goto 154, 110) := by decide +kernel
theorem fX6_readCity_110 : a_fetch 77 110 = some (.iload 3, 111) := by decide +kernel
theorem fX6_readCity_111 : a_fetch 77 111 = some (.iconst 7, 113) := by decide +kernel
theorem fX6_readCity_113 : a_fetch 77 113 = some (.if_icmp .ne 124, 116) := by decide +kernel
theorem fX6_readCity_116 : a_fetch 77 116 = some (.aload 0, 117) := by decide +kernel
theorem fX6_readCity_117 : a_fetch 77 117 = some (.aload 1, 118) := by decide +kernel
theorem fX6_readCity_118 : a_fetch 77 118 = some (.invokevirtual 83, 121) := by decide +kernel
theorem fX6_readCity_121 : a_fetch 77 121 = some (.goto 154, 124) := by decide +kernel
theorem fX6_readCity_124 : a_fetch 77 124 = some (.iload 3, 125) := by decide +kernel
theorem fX6_readCity_125 : a_fetch 77 125 = some (.iconst 8, 127) := by decide +kernel
theorem fX6_readCity_127 : a_fetch 77 127 = some (.if_icmp .lt 145, 130) := by decide +kernel
theorem fX6_readCity_130 : a_fetch 77 130 = some (.iload 3, 131) := by decide +kernel
theorem fX6_readCity_131 : a_fetch 77 131 = some (.iconst 11, 133) := by decide +kernel
theorem fX6_readCity_133 : a_fetch 77 133 = some (.if_icmp .gt 145, 136) := by decide +kernel
theorem fX6_readCity_136 : a_fetch 77 136 = some (.aload 0, 137) := by decide +kernel
theorem fX6_readCity_137 : a_fetch 77 137 = some (.aload 1, 138) := by decide +kernel
theorem fX6_readCity_138 : a_fetch 77 138 = some (.iload 3, 139) := by decide +kernel
theorem fX6_readCity_139 : a_fetch 77 139 = some (.invokevirtual 84, 142) := by decide +kernel
theorem fX6_readCity_142 : a_fetch 77 142 = some (.goto 154, 145) := by decide +kernel
theorem fX6_readCity_145 : a_fetch 77 145 = some (.aload 0, 146) := by decide +kernel
theorem fX6_readCity_146 : a_fetch 77 146 = some (.iconst 1, 147) := by decide +kernel
theorem fX6_readCity_147 : a_fetch 77 147 = some (.aload 0, 148) := by decide +kernel
theorem fX6_readCity_148 : a_fetch 77 148 = some (.invokevirtual 67, 151) := by decide +kernel
theorem fX6_readCity_151 : a_fetch 77 151 = some (.invokevirtual 66, 154) := by decide +kernel
theorem fX6_readCity_154 : a_fetch 77 154 = some (.aload 0, 155) := by decide +kernel
theorem fX6_readCity_155 : a_fetch 77 155 = some (.iconst 59, 157) := by decide +kernel
theorem fX6_readCity_157 : a_fetch 77 157 = some (.invokevirtual 72, 160) := by decide +kernel
theorem fX6_readCity_160 : a_fetch 77 160 = some (.aload 1, 161) := by decide +kernel
theorem fX6_readCity_161 : a_fetch 77 161 = some (.dup, 162) := by decide +kernel
theorem fX6_readCity_162 : a_fetch 77 162 = some (.invokeinterface 1 14, 165) := by decide +kernel
theorem fX6_readCity_165 : a_fetch 77 165 = some (.iconst 1, 166) := by decide +kernel
theorem fX6_readCity_166 : a_fetch 77 166 = some (.iadd, 167) := by decide +kernel
theorem fX6_readCity_167 : a_fetch 77 167 = some (.multianewarray 1 14, 170) := by decide +kernel
theorem fX6_readCity_170 : a_fetch 77 170 = some (.iinc 2 1, 173) := by decide +kernel
theorem fX6_readCity_173 : a_fetch 77 173 = some (.goto 6, 176) := by decide +kernel
theorem fX6_readCity_176 : a_fetch 77 176 = some (.return_, 177) := by decide +kernel
theorem fX6_isTooMany_0 : a_fetch 78 0 = some (.iload 1, 1) := by decide +kernel
theorem fX6_isTooMany_1 : a_fetch 78 1 = some (.tableswitch 150 0 11 #[64, 150, 82, 150, 100, 150, 150, 150, 118, 126, 134, 142], 64) := by decide +kernel
theorem fX6_isTooMany_64 : a_fetch 78 64 = some (.aload 0, 65) := by decide +kernel
theorem fX6_isTooMany_65 : a_fetch 78 65 = some (.invokeinterface 1 0, 68) := by decide +kernel
theorem fX6_isTooMany_68 : a_fetch 78 68 = some (.invokevirtual 95, 71) := by decide +kernel
theorem fX6_isTooMany_71 : a_fetch 78 71 = some (.iconst 10, 73) := by decide +kernel
theorem fX6_isTooMany_73 : a_fetch 78 73 = some (.if_icmp .lt 80, 76) := by decide +kernel
theorem fX6_isTooMany_76 : a_fetch 78 76 = some (.iconst 1, 77) := by decide +kernel
theorem fX6_isTooMany_77 : a_fetch 78 77 = some (.goto 81, 80) := by decide +kernel
theorem fX6_isTooMany_80 : a_fetch 78 80 = some (.iconst 0, 81) := by decide +kernel
theorem fX6_isTooMany_81 : a_fetch 78 81 = some (.ireturn, 82) := by decide +kernel
theorem fX6_isTooMany_82 : a_fetch 78 82 = some (.aload 0, 83) := by decide +kernel
theorem fX6_isTooMany_83 : a_fetch 78 83 = some (.invokeinterface 1 5, 86) := by decide +kernel
theorem fX6_isTooMany_86 : a_fetch 78 86 = some (.invokevirtual 95, 89) := by decide +kernel
theorem fX6_isTooMany_89 : a_fetch 78 89 = some (.iconst 8, 91) := by decide +kernel
theorem fX6_isTooMany_91 : a_fetch 78 91 = some (.if_icmp .lt 98, 94) := by decide +kernel
theorem fX6_isTooMany_94 : a_fetch 78 94 = some (.iconst 1, 95) := by decide +kernel
theorem fX6_isTooMany_95 : a_fetch 78 95 = some (.goto 99, 98) := by decide +kernel
theorem fX6_isTooMany_98 : a_fetch 78 98 = some (.iconst 0, 99) := by decide +kernel
theorem fX6_isTooMany_99 : a_fetch 78 99 = some (.ireturn, 100) := by decide +kernel
theorem fX6_isTooMany_100 : a_fetch 78 100 = some (.aload 0, 101) := by decide +kernel
theorem fX6_isTooMany_101 : a_fetch 78 101 = some (.invokeinterface 1 7, 104) := by decide +kernel
theorem fX6_isTooMany_104 : a_fetch 78 104 = some (.invokevirtual 95, 107) := by decide +kernel
theorem fX6_isTooMany_107 : a_fetch 78 107 = some (.iconst 24, 109) := by decide +kernel
theorem fX6_isTooMany_109 : a_fetch 78 109 = some (.if_icmp .lt 116, 112) := by decide +kernel
theorem fX6_isTooMany_112 : a_fetch 78 112 = some (.iconst 1, 113) := by decide +kernel
theorem fX6_isTooMany_113 : a_fetch 78 113 = some (.goto 117, 116) := by decide +kernel
theorem fX6_isTooMany_116 : a_fetch 78 116 = some (.iconst 0, 117) := by decide +kernel
theorem fX6_isTooMany_117 : a_fetch 78 117 = some (.ireturn, 118) := by decide +kernel
theorem fX6_isTooMany_118 : a_fetch 78 118 = some (.aload 0, 119) := by decide +kernel
theorem fX6_isTooMany_119 : a_fetch 78 119 = some (.invokeinterface 1 10, 122) := by decide +kernel
theorem fX6_isTooMany_122 : a_fetch 78 122 = some (.invokevirtual 34, 125) := by decide +kernel
theorem fX6_isTooMany_125 : a_fetch 78 125 = some (.ireturn, 126) := by decide +kernel
theorem fX6_isTooMany_126 : a_fetch 78 126 = some (.aload 0, 127) := by decide +kernel
theorem fX6_isTooMany_127 : a_fetch 78 127 = some (.invokeinterface 1 11, 130) := by decide +kernel
theorem fX6_isTooMany_130 : a_fetch 78 130 = some (.invokevirtual 34, 133) := by decide +kernel
theorem fX6_isTooMany_133 : a_fetch 78 133 = some (.ireturn, 134) := by decide +kernel
theorem fX6_isTooMany_134 : a_fetch 78 134 = some (.aload 0, 135) := by decide +kernel
theorem fX6_isTooMany_135 : a_fetch 78 135 = some (.invokeinterface 1 12, 138) := by decide +kernel
theorem fX6_isTooMany_138 : a_fetch 78 138 = some (.invokevirtual 34, 141) := by decide +kernel
theorem fX6_isTooMany_141 : a_fetch 78 141 = some (.ireturn, 142) := by decide +kernel
theorem fX6_isTooMany_142 : a_fetch 78 142 = some (.aload 0, 143) := by decide +kernel
theorem fX6_isTooMany_143 : a_fetch 78 143 = some (.invokeinterface 1 13, 146) := by decide +kernel
theorem fX6_isTooMany_146 : a_fetch 78 146 = some (.invokevirtual 34, 149) := by decide +kernel
theorem fX6_isTooMany_149 : a_fetch 78 149 = some (.ireturn, 150) := by decide +kernel
theorem fX6_isTooMany_150 : a_fetch 78 150 = some (.iconst 0, 151) := by decide +kernel
theorem fX6_isTooMany_151 : a_fetch 78 151 = some (.ireturn, 152) := by decide +kernel
theorem fX6_readGiven_0 : a_fetch 79 0 = some (.aload 0, 1) := by decide +kernel
theorem fX6_readGiven_1 : a_fetch 79 1 = some (.invokevirtual 71, 4) := by decide +kernel
theorem fX6_readGiven_4 : a_fetch 79 4 = some (.aload 0, 5) := by decide +kernel
theorem fX6_readGiven_5 : a_fetch 79 5 = some (.invokevirtual 67, 8) := by decide +kernel
theorem fX6_readGiven_8 : a_fetch 79 8 = some (.istore 3, 9) := by decide +kernel
theorem fX6_readGiven_9 : a_fetch 79 9 = some (.aload 0, 10) := by decide +kernel
theorem fX6_readGiven_10 : a_fetch 79 10 = some (.invokevirtual 74, 13) := by decide +kernel
theorem fX6_readGiven_13 : a_fetch 79 13 = some (.istore 4, 15) := by decide +kernel
theorem fX6_readGiven_15 : a_fetch 79 15 = some (.aload 1, 16) := by decide +kernel
theorem fX6_readGiven_16 : a_fetch 79 16 = some (.iload 4, 18) := by decide +kernel
theorem fX6_readGiven_18 : a_fetch 79 18 = some (.invokevirtual 10, 21) := by decide +kernel
theorem fX6_readGiven_21 : a_fetch 79 21 = some (.ifCond .eq 30, 24) := by decide +kernel
theorem fX6_readGiven_24 : a_fetch 79 24 = some (.aload 0, 25) := by decide +kernel
theorem fX6_readGiven_25 : a_fetch 79 25 = some (.iconst 3, 26) := by decide +kernel
theorem fX6_readGiven_26 : a_fetch 79 26 = some (.iload 3, 27) := by decide +kernel
theorem fX6_readGiven_27 : a_fetch 79 27 = some (.invokevirtual 66, 30) := by decide +kernel
theorem fX6_readGiven_30 : a_fetch 79 30 = some (.aload 0, 31) := by decide +kernel
theorem fX6_readGiven_31 : a_fetch 79 31 = some (.iload 2, 32) := by decide +kernel
theorem fX6_readGiven_32 : a_fetch 79 32 = some (.ifCond .ne 39, 35) := by decide +kernel
theorem fX6_readGiven_35 : a_fetch 79 35 = some (.iconst 1, 36) := by decide +kernel
theorem fX6_readGiven_36 : a_fetch 79 36 = some (.goto 40, 39) := by decide +kernel
theorem fX6_readGiven_39 : a_fetch 79 39 = some (.iconst 3, 40) := by decide +kernel
theorem fX6_readGiven_40 : a_fetch 79 40 = some (.invokevirtual 73, 43) := by decide +kernel
theorem fX6_readGiven_43 : a_fetch 79 43 = some (.aload 0, 44) := by decide +kernel
theorem fX6_readGiven_44 : a_fetch 79 44 = some (.iload 2, 45) := by decide +kernel
theorem fX6_readGiven_45 : a_fetch 79 45 = some (.ifCond .ne 53, 48) := by decide +kernel
theorem fX6_readGiven_48 : a_fetch 79 48 = some (.iconst 9, 50) := by decide +kernel
theorem fX6_readGiven_50 : a_fetch 79 50 = some (.goto 55, 53) := by decide +kernel
theorem fX6_readGiven_53 : a_fetch 79 53 = some (.iconst 99, 55) := by decide +kernel
theorem fX6_readGiven_55 : a_fetch 79 55 = some (.invokevirtual 75, 58) := by decide +kernel
theorem fX6_readGiven_58 : a_fetch 79 58 = some (.istore 5, 60) := by decide +kernel
theorem fX6_readGiven_60 : a_fetch 79 60 = some (.aload 0, 61) := by decide +kernel
theorem fX6_readGiven_61 : a_fetch 79 61 = some (.invokevirtual 65, 64) := by decide +kernel
theorem fX6_readGiven_64 : a_fetch 79 64 = some (.ifCond .ne 68, 67) := by decide +kernel
theorem fX6_readGiven_67 : a_fetch 79 67 = some (.return_, 68) := by decide +kernel
theorem fX6_readGiven_68 : a_fetch 79 68 = some (.iload 2, 69) := by decide +kernel
theorem fX6_readGiven_69 : a_fetch 79 69 = some (.ifCond .ne 83, 72) := by decide +kernel
theorem fX6_readGiven_72 : a_fetch 79 72 = some (.aload 1, 73) := by decide +kernel
theorem fX6_readGiven_73 : a_fetch 79 73 = some (.iload 4, 75) := by decide +kernel
theorem fX6_readGiven_75 : a_fetch 79 75 = some (.iload 5, 77) := by decide +kernel
theorem fX6_readGiven_77 : a_fetch 79 77 = some (.invokevirtual 11, 80) := by decide +kernel
theorem fX6_readGiven_80 : a_fetch 79 80 = some (.goto 91, 83) := by decide +kernel
theorem fX6_readGiven_83 : a_fetch 79 83 = some (.aload 1, 84) := by decide +kernel
theorem fX6_readGiven_84 : a_fetch 79 84 = some (.iload 4, 86) := by decide +kernel
theorem fX6_readGiven_86 : a_fetch 79 86 = some (.iload 5, 88) := by decide +kernel
theorem fX6_readGiven_88 : a_fetch 79 88 = some (.invokevirtual 12, 91) := by decide +kernel
theorem fX6_readGiven_91 : a_fetch 79 91 = some (.return_, 92) := by decide +kernel
theorem fX6_takeKnown_0 : a_fetch 80 0 = some (.aload 0, 1) := by decide +kernel
theorem fX6_takeKnown_1 : a_fetch 80 1 = some (.invokevirtual 67, 4) := by decide +kernel
theorem fX6_takeKnown_4 : a_fetch 80 4 = some (.istore 2, 5) := by decide +kernel
theorem fX6_takeKnown_5 : a_fetch 80 5 = some (.aload 1, 6) := by decide +kernel
theorem fX6_takeKnown_6 : a_fetch 80 6 = some (.aload 0, 7) := by decide +kernel
theorem fX6_takeKnown_7 : a_fetch 80 7 = some (.invokevirtual 74, 10) := by decide +kernel
theorem fX6_takeKnown_10 : a_fetch 80 10 = some (.invokevirtual 103, 13) := by decide +kernel
theorem fX6_takeKnown_13 : a_fetch 80 13 = some (.istore 3, 14) := by decide +kernel
theorem fX6_takeKnown_14 : a_fetch 80 14 = some (.iload 3, 15) := by decide +kernel
theorem fX6_takeKnown_15 : a_fetch 80 15 = some (.iconst (-1), 16) := by decide +kernel
theorem fX6_takeKnown_16 : a_fetch 80 16 = some (.if_icmp .ne 25, 19) := by decide +kernel
theorem fX6_takeKnown_19 : a_fetch 80 19 = some (.aload 0, 20) := by decide +kernel
theorem fX6_takeKnown_20 : a_fetch 80 20 = some (.iconst 3, 21) := by decide +kernel
theorem fX6_takeKnown_21 : a_fetch 80 21 = some (.iload 2, 22) := by decide +kernel
theorem fX6_takeKnown_22 : a_fetch 80 22 = some (.invokevirtual 66, 25) := by decide +kernel
theorem fX6_takeKnown_25 : a_fetch 80 25 = some (.iload 3, 26) := by decide +kernel
theorem fX6_takeKnown_26 : a_fetch 80 26 = some (.ireturn, 27) := by decide +kernel
theorem fX6_readDuty_0 : a_fetch 81 0 = some (.aload 0, 1) := by decide +kernel
theorem fX6_readDuty_1 : a_fetch 81 1 = some (.invokevirtual 71, 4) := by decide +kernel
theorem fX6_readDuty_4 : a_fetch 81 4 = some (.aload 0, 5) := by decide +kernel
theorem fX6_readDuty_5 : a_fetch 81 5 = some (.aload 1, 6) := by decide +kernel
theorem fX6_readDuty_6 : a_fetch 81 6 = some (.invokeinterface 1 0, 9) := by decide +kernel
theorem fX6_readDuty_9 : a_fetch 81 9 = some (.invokevirtual 80, 12) := by decide +kernel
theorem fX6_readDuty_12 : a_fetch 81 12 = some (.istore 2, 13) := by decide +kernel
theorem fX6_readDuty_13 : a_fetch 81 13 = some (.aload 0, 14) := by decide +kernel
theorem fX6_readDuty_14 : a_fetch 81 14 = some (.aload 1, 15) := by decide +kernel
theorem fX6_readDuty_15 : a_fetch 81 15 = some (.invokeinterface 1 5, 18) := by decide +kernel
theorem fX6_readDuty_18 : a_fetch 81 18 = some (.invokevirtual 80, 21) := by decide +kernel
theorem fX6_readDuty_21 : a_fetch 81 21 = some (.istore 3, 22) := by decide +kernel
theorem fX6_readDuty_22 : a_fetch 81 22 = some (.aload 0, 23) := by decide +kernel
theorem fX6_readDuty_23 : a_fetch 81 23 = some (.iconst 5, 24) := by decide +kernel
theorem fX6_readDuty_24 : a_fetch 81 24 = some (.invokevirtual 73, 27) := by decide +kernel
theorem fX6_readDuty_27 : a_fetch 81 27 = some (.aload 0, 28) := by decide +kernel
theorem fX6_readDuty_28 : a_fetch 81 28 = some (.invokevirtual 67, 31) := by decide +kernel
theorem fX6_readDuty_31 : a_fetch 81 31 = some (.istore 4, 33) := by decide +kernel
theorem fX6_readDuty_33 : a_fetch 81 33 = some (.aload 0, 34) := by decide +kernel
theorem fX6_readDuty_34 : a_fetch 81 34 = some (.iconst 23, 36) := by decide +kernel
theorem fX6_readDuty_36 : a_fetch 81 36 = some (.invokevirtual 75, 39) := by decide +kernel
theorem fX6_readDuty_39 : a_fetch 81 39 = some (.istore 5, 41) := by decide +kernel
theorem fX6_readDuty_41 : a_fetch 81 41 = some (.aload 1, 42) := by decide +kernel
theorem fX6_readDuty_42 : a_fetch 81 42 = some (.iload 2, 43) := by decide +kernel
theorem fX6_readDuty_43 : a_fetch 81 43 = some (.iload 3, 44) := by decide +kernel
theorem fX6_readDuty_44 : a_fetch 81 44 = some (.iload 5, 46) := by decide +kernel
theorem fX6_readDuty_46 : a_fetch 81 46 = some (.invokevirtual 13, 49) := by decide +kernel
theorem fX6_readDuty_49 : a_fetch 81 49 = some (.ifCond .eq 59, 52) := by decide +kernel
theorem fX6_readDuty_52 : a_fetch 81 52 = some (.aload 0, 53) := by decide +kernel
theorem fX6_readDuty_53 : a_fetch 81 53 = some (.iconst 2, 54) := by decide +kernel
theorem fX6_readDuty_54 : a_fetch 81 54 = some (.iload 4, 56) := by decide +kernel
theorem fX6_readDuty_56 : a_fetch 81 56 = some (.invokevirtual 66, 59) := by decide +kernel
theorem fX6_readDuty_59 : a_fetch 81 59 = some (.aload 0, 60) := by decide +kernel
theorem fX6_readDuty_60 : a_fetch 81 60 = some (.invokevirtual 65, 63) := by decide +kernel
theorem fX6_readDuty_63 : a_fetch 81 63 = some (.ifCond .eq 74, 66) := by decide +kernel
theorem fX6_readDuty_66 : a_fetch 81 66 = some (.aload 1, 67) := by decide +kernel
theorem fX6_readDuty_67 : a_fetch 81 67 = some (.iload 2, 68) := by decide +kernel
theorem fX6_readDuty_68 : a_fetch 81 68 = some (.iload 3, 69) := by decide +kernel
theorem fX6_readDuty_69 : a_fetch 81 69 = some (.iload 5, 71) := by decide +kernel
theorem fX6_readDuty_71 : a_fetch 81 71 = some (.invokevirtual 14, 74) := by decide +kernel
theorem fX6_readDuty_74 : a_fetch 81 74 = some (.return_, 75) := by decide +kernel
theorem fX6_readCover_0 : a_fetch 82 0 = some (.aload 0, 1) := by decide +kernel
theorem fX6_readCover_1 : a_fetch 82 1 = some (.invokevirtual 71, 4) := by decide +kernel
theorem fX6_readCover_4 : a_fetch 82 4 = some (.aload 0, 5) := by decide +kernel
theorem fX6_readCover_5 : a_fetch 82 5 = some (.invokevirtual 67, 8) := by decide +kernel
theorem fX6_readCover_8 : a_fetch 82 8 = some (.istore 2, 9) := by decide +kernel
theorem fX6_readCover_9 : a_fetch 82 9 = some (.aload 0, 10) := by decide +kernel
theorem fX6_readCover_10 : a_fetch 82 10 = some (.aload 1, 11) := by decide +kernel
theorem fX6_readCover_11 : a_fetch 82 11 = some (.invokeinterface 1 0, 14) := by decide +kernel
theorem fX6_readCover_14 : a_fetch 82 14 = some (.invokevirtual 80, 17) := by decide +kernel
theorem fX6_readCover_17 : a_fetch 82 17 = some (.istore 3, 18) := by decide +kernel
theorem fX6_readCover_18 : a_fetch 82 18 = some (.aload 1, 19) := by decide +kernel
theorem fX6_readCover_19 : a_fetch 82 19 = some (.invokeinterface 1 2, 22) := by decide +kernel
theorem fX6_readCover_22 : a_fetch 82 22 = some (.iload 3, 23) := by decide +kernel
theorem fX6_readCover_23 : a_fetch 82 23 = some (.invokevirtual 96, 26) := by decide +kernel
theorem fX6_readCover_26 : a_fetch 82 26 = some (.iconst (-1), 27) := by decide +kernel
theorem fX6_readCover_27 : a_fetch 82 27 = some (.if_icmp .eq 36, 30) := by decide +kernel
theorem fX6_readCover_30 : a_fetch 82 30 = some (.aload 0, 31) := by decide +kernel
theorem fX6_readCover_31 : a_fetch 82 31 = some (.iconst 3, 32) := by decide +kernel
theorem fX6_readCover_32 : a_fetch 82 32 = some (.iload 2, 33) := by decide +kernel
theorem fX6_readCover_33 : a_fetch 82 33 = some (.invokevirtual 66, 36) := by decide +kernel
theorem fX6_readCover_36 : a_fetch 82 36 = some (.aload 0, 37) := by decide +kernel
theorem fX6_readCover_37 : a_fetch 82 37 = some (.invokevirtual 67, 40) := by decide +kernel
theorem fX6_readCover_40 : a_fetch 82 40 = some (.istore 2, 41) := by decide +kernel
theorem fX6_readCover_41 : a_fetch 82 41 = some (.aload 0, 42) := by decide +kernel
theorem fX6_readCover_42 : a_fetch 82 42 = some (.aload 1, 43) := by decide +kernel
theorem fX6_readCover_43 : a_fetch 82 43 = some (.invokeinterface 1 0, 46) := by decide +kernel
theorem fX6_readCover_46 : a_fetch 82 46 = some (.invokevirtual 80, 49) := by decide +kernel
theorem fX6_readCover_49 : a_fetch 82 49 = some (.istore 4, 51) := by decide +kernel
theorem fX6_readCover_51 : a_fetch 82 51 = some (.iload 4, 53) := by decide +kernel
theorem fX6_readCover_53 : a_fetch 82 53 = some (.iload 3, 54) := by decide +kernel
theorem fX6_readCover_54 : a_fetch 82 54 = some (.if_icmp .eq 70, 57) := by decide +kernel
theorem fX6_readCover_57 : a_fetch 82 57 = some (.aload 1, 58) := by decide +kernel
theorem fX6_readCover_58 : a_fetch 82 58 = some (.invokeinterface 1 3, 61) := by decide +kernel
theorem fX6_readCover_61 : a_fetch 82 61 = some (.iload 4, 63) := by decide +kernel
theorem fX6_readCover_63 : a_fetch 82 63 = some (.invokevirtual 96, 66) := by decide +kernel
theorem fX6_readCover_66 : a_fetch 82 66 = some (.iconst (-1), 67) := by decide +kernel
theorem fX6_readCover_67 : a_fetch 82 67 = some (.if_icmp .eq 76, 70) := by decide +kernel
theorem fX6_readCover_70 : a_fetch 82 70 = some (.aload 0, 71) := by decide +kernel
theorem fX6_readCover_71 : a_fetch 82 71 = some (.iconst 3, 72) := by decide +kernel
theorem fX6_readCover_72 : a_fetch 82 72 = some (.iload 2, 73) := by decide +kernel
theorem fX6_readCover_73 : a_fetch 82 73 = some (.invokevirtual 66, 76) := by decide +kernel
theorem fX6_readCover_76 : a_fetch 82 76 = some (.aload 0, 77) := by decide +kernel
theorem fX6_readCover_77 : a_fetch 82 77 = some (.invokevirtual 65, 80) := by decide +kernel
theorem fX6_readCover_80 : a_fetch 82 80 = some (.ifCond .ne 84, 83) := by decide +kernel
theorem fX6_readCover_83 : a_fetch 82 83 = some (.return_, 84) := by decide +kernel
theorem fX6_readCover_84 : a_fetch 82 84 = some (.aload 1, 85) := by decide +kernel
theorem fX6_readCover_85 : a_fetch 82 85 = some (.invokeinterface 1 2, 88) := by decide +kernel
theorem fX6_readCover_88 : a_fetch 82 88 = some (.iload 3, 89) := by decide +kernel
theorem fX6_readCover_89 : a_fetch 82 89 = some (.iload 4, 91) := by decide +kernel
theorem fX6_readCover_91 : a_fetch 82 91 = some (.invokevirtual 97, 94) := by decide +kernel
theorem fX6_readCover_94 : a_fetch 82 94 = some (.aload 1, 95) := by decide +kernel
theorem fX6_readCover_95 : a_fetch 82 95 = some (.invokeinterface 1 3, 98) := by decide +kernel
theorem fX6_readCover_98 : a_fetch 82 98 = some (.iload 4, 100) := by decide +kernel
theorem fX6_readCover_100 : a_fetch 82 100 = some (.iload 3, 101) := by decide +kernel
theorem fX6_readCover_101 : a_fetch 82 101 = some (.invokevirtual 97, 104) := by decide +kernel
theorem fX6_readCover_104 : a_fetch 82 104 = some (.return_, 105) := by decide +kernel
theorem fX6_readKnowing_0 : a_fetch 83 0 = some (.aload 0, 1) := by decide +kernel
theorem fX6_readKnowing_1 : a_fetch 83 1 = some (.invokevirtual 71, 4) := by decide +kernel
theorem fX6_readKnowing_4 : a_fetch 83 4 = some (.aload 0, 5) := by decide +kernel
theorem fX6_readKnowing_5 : a_fetch 83 5 = some (.aload 1, 6) := by decide +kernel
theorem fX6_readKnowing_6 : a_fetch 83 6 = some (.invokeinterface 1 0, 9) := by decide +kernel
theorem fX6_readKnowing_9 : a_fetch 83 9 = some (.invokevirtual 80, 12) := by decide +kernel
theorem fX6_readKnowing_12 : a_fetch 83 12 = some (.istore 2, 13) := by decide +kernel
theorem fX6_readKnowing_13 : a_fetch 83 13 = some (.aload 0, 14) := by decide +kernel
theorem fX6_readKnowing_14 : a_fetch 83 14 = some (.invokevirtual 67, 17) := by decide +kernel
theorem fX6_readKnowing_17 : a_fetch 83 17 = some (.istore 3, 18) := by decide +kernel
theorem fX6_readKnowing_18 : a_fetch 83 18 = some (.aload 0, 19) := by decide +kernel
theorem fX6_readKnowing_19 : a_fetch 83 19 = some (.aload 1, 20) := by decide +kernel
theorem fX6_readKnowing_20 : a_fetch 83 20 = some (.invokeinterface 1 0, 23) := by decide +kernel
theorem fX6_readKnowing_23 : a_fetch 83 23 = some (.invokevirtual 80, 26) := by decide +kernel
theorem fX6_readKnowing_26 : a_fetch 83 26 = some (.istore 4, 28) := by decide +kernel
theorem fX6_readKnowing_28 : a_fetch 83 28 = some (.iload 4, 30) := by decide +kernel
theorem fX6_readKnowing_30 : a_fetch 83 30 = some (.iload 2, 31) := by decide +kernel
theorem fX6_readKnowing_31 : a_fetch 83 31 = some (.if_icmp .ne 40, 34) := by decide +kernel
theorem fX6_readKnowing_34 : a_fetch 83 34 = some (.aload 0, 35) := by decide +kernel
theorem fX6_readKnowing_35 : a_fetch 83 35 = some (.iconst 3, 36) := by decide +kernel
theorem fX6_readKnowing_36 : a_fetch 83 36 = some (.iload 3, 37) := by decide +kernel
theorem fX6_readKnowing_37 : a_fetch 83 37 = some (.invokevirtual 66, 40) := by decide +kernel
theorem fX6_readKnowing_40 : a_fetch 83 40 = some (.aload 0, 41) := by decide +kernel
theorem fX6_readKnowing_41 : a_fetch 83 41 = some (.iconst 99, 43) := by decide +kernel
theorem fX6_readKnowing_43 : a_fetch 83 43 = some (.invokevirtual 75, 46) := by decide +kernel
theorem fX6_readKnowing_46 : a_fetch 83 46 = some (.istore 5, 48) := by decide +kernel
theorem fX6_readKnowing_48 : a_fetch 83 48 = some (.aload 0, 49) := by decide +kernel
theorem fX6_readKnowing_49 : a_fetch 83 49 = some (.invokevirtual 65, 52) := by decide +kernel
theorem fX6_readKnowing_52 : a_fetch 83 52 = some (.ifCond .eq 71, 55) := by decide +kernel
theorem fX6_readKnowing_55 : a_fetch 83 55 = some (.aload 1, 56) := by decide +kernel
theorem fX6_readKnowing_56 : a_fetch 83 56 = some (.invokeinterface 1 4, 59) := by decide +kernel
theorem fX6_readKnowing_59 : a_fetch 83 59 = some (.iload 2, 60) := by decide +kernel
theorem fX6_readKnowing_60 : a_fetch 83 60 = some (.iconst 10, 62) := by decide +kernel
theorem fX6_readKnowing_62 : a_fetch 83 62 = some (.imul, 63) := by decide +kernel
theorem fX6_readKnowing_63 : a_fetch 83 63 = some (.iload 4, 65) := by decide +kernel
theorem fX6_readKnowing_65 : a_fetch 83 65 = some (.iadd, 66) := by decide +kernel
theorem fX6_readKnowing_66 : a_fetch 83 66 = some (.iload 5, 68) := by decide +kernel
theorem fX6_readKnowing_68 : a_fetch 83 68 = some (.invokevirtual 97, 71) := by decide +kernel
theorem fX6_readKnowing_71 : a_fetch 83 71 = some (.return_, 72) := by decide +kernel
theorem fX6_readRule_0 : a_fetch 84 0 = some (.aload 0, 1) := by decide +kernel
theorem fX6_readRule_1 : a_fetch 84 1 = some (.invokevirtual 71, 4) := by decide +kernel
theorem fX6_readRule_4 : a_fetch 84 4 = some (.iload 2, 5) := by decide +kernel
theorem fX6_readRule_5 : a_fetch 84 5 = some (.iconst 8, 7) := by decide +kernel
theorem fX6_readRule_7 : a_fetch 84 7 = some (.if_icmp .eq 16, 10) := by decide +kernel
theorem fX6_readRule_10 : a_fetch 84 10 = some (.iload 2, 11) := by decide +kernel
theorem fX6_readRule_11 : a_fetch 84 11 = some (.iconst 9, 13) := by decide +kernel
theorem fX6_readRule_13 : a_fetch 84 13 = some (.if_icmp .ne 52, 16) := by decide +kernel
theorem fX6_readRule_16 : a_fetch 84 16 = some (.aload 0, 17) := by decide +kernel
theorem fX6_readRule_17 : a_fetch 84 17 = some (.iload 2, 18) := by decide +kernel
theorem fX6_readRule_18 : a_fetch 84 18 = some (.iconst 8, 20) := by decide +kernel
theorem fX6_readRule_20 : a_fetch 84 20 = some (.if_icmp .ne 30, 23) := by decide +kernel
theorem fX6_readRule_23 : a_fetch 84 23 = some (.aload 1, 24) := by decide +kernel
theorem fX6_readRule_24 : a_fetch 84 24 = some (.invokeinterface 1 10, 27) := by decide +kernel
theorem fX6_readRule_27 : a_fetch 84 27 = some (.goto 34, 30) := by decide +kernel
theorem fX6_readRule_30 : a_fetch 84 30 = some (.aload 1, 31) := by decide +kernel
theorem fX6_readRule_31 : a_fetch 84 31 = some (.invokeinterface 1 11, 34) := by decide +kernel
theorem fX6_readRule_34 : a_fetch 84 34 = some (.multianewarray 6 7, 37) := by decide +kernel
theorem fX6_readRule_37 : a_fetch 84 37 = some (.aload 0, 38) := by decide +kernel
theorem fX6_readRule_38 : a_fetch 84 38 = some (.jsr_w 61440, 41) := by decide +kernel
theorem fX6_readRule_41 : a_fetch 84 41 = some (.multianewarray 6 8, 44) := by decide +kernel
theorem fX6_readRule_44 : a_fetch 84 44 = some (.aload 0, 45) := by decide +kernel
theorem fX6_readRule_45 : a_fetch 84 45 = some (.iconst 0, 46) := by decide +kernel
theorem fX6_readRule_46 : a_fetch 84 46 = some (.invokevirtual 90, 49) := by decide +kernel
theorem fX6_readRule_49 : a_fetch 84 49 = some (.goto 97, 52) := by decide +kernel
theorem fX6_readRule_52 : a_fetch 84 52 = some (.aload 0, 53) := by decide +kernel
theorem fX6_readRule_53 : a_fetch 84 53 = some (.iload 2, 54) := by decide +kernel
theorem fX6_readRule_54 : a_fetch 84 54 = some (.iconst 10, 56) := by decide +kernel
theorem fX6_readRule_56 : a_fetch 84 56 = some (.if_icmp .ne 66, 59) := by decide +kernel
theorem fX6_readRule_59 : a_fetch 84 59 = some (.aload 1, 60) := by decide +kernel
theorem fX6_readRule_60 : a_fetch 84 60 = some (.invokeinterface 1 12, 63) := by decide +kernel
theorem fX6_readRule_63 : a_fetch 84 63 = some (.goto 70, 66) := by decide +kernel
theorem fX6_readRule_66 : a_fetch 84 66 = some (.aload 1, 67) := by decide +kernel
theorem fX6_readRule_67 : a_fetch 84 67 = some (.invokeinterface 1 13, 70) := by decide +kernel
theorem fX6_readRule_70 : a_fetch 84 70 = some (.multianewarray 6 7, 73) := by decide +kernel
theorem fX6_readRule_73 : a_fetch 84 73 = some (.aload 0, 74) := by decide +kernel
theorem fX6_readRule_74 : a_fetch 84 74 = some (.iload 2, 75) := by decide +kernel
theorem fX6_readRule_75 : a_fetch 84 75 = some (.iconst 10, 77) := by decide +kernel
theorem fX6_readRule_77 : a_fetch 84 77 = some (.if_icmp .ne 86, 80) := by decide +kernel
theorem fX6_readRule_80 : a_fetch 84 80 = some (.jsr_w 94216, 83) := by decide +kernel
theorem fX6_readRule_83 : a_fetch 84 83 = some (.goto 89, 86) := by decide +kernel
theorem fX6_readRule_86 : a_fetch 84 86 = some (.jsr_w 192512, 89) := by decide +kernel
theorem fX6_readRule_89 : a_fetch 84 89 = some (.multianewarray 6 8, 92) := by decide +kernel
theorem fX6_readRule_92 : a_fetch 84 92 = some (.aload 0, 93) := by decide +kernel
theorem fX6_readRule_93 : a_fetch 84 93 = some (.iconst 0, 94) := by decide +kernel
theorem fX6_readRule_94 : a_fetch 84 94 = some (.invokevirtual 86, 97) := by decide +kernel
theorem fX6_readRule_97 : a_fetch 84 97 = some (.return_, 98) := by decide +kernel
theorem fX6_readQuestion_0 : a_fetch 85 0 = some (.aload 0, 1) := by decide +kernel
theorem fX6_readQuestion_1 : a_fetch 85 1 = some (.aload 0, 2) := by decide +kernel
theorem fX6_readQuestion_2 : a_fetch 85 2 = some (.invokevirtual 68, 5) := by decide +kernel
theorem fX6_readQuestion_5 : a_fetch 85 5 = some (.multianewarray 6 10, 8) := by decide +kernel
theorem fX6_readQuestion_8 : a_fetch 85 8 = some (.aload 0, 9) := by decide +kernel
theorem fX6_readQuestion_9 : a_fetch 85 9 = some (.aload 0, 10) := by decide +kernel
theorem fX6_readQuestion_10 : a_fetch 85 10 = some (.invokeinterface 6 9, 13) := by decide +kernel
theorem fX6_readQuestion_13 : a_fetch 85 13 = some (.multianewarray 6 7, 16) := by decide +kernel
theorem fX6_readQuestion_16 : a_fetch 85 16 = some (.aload 0, 17) := by decide +kernel
theorem fX6_readQuestion_17 : a_fetch 85 17 = some (.invokeinterface 6 7, 20) := by decide +kernel
theorem fX6_readQuestion_20 : a_fetch 85 20 = some (.invokevirtual 35, 23) := by decide +kernel
theorem fX6_readQuestion_23 : a_fetch 85 23 = some (.aload 0, 24) := by decide +kernel
theorem fX6_readQuestion_24 : a_fetch 85 24 = some (.jsr_w 7516205056, 27) := by decide +kernel
theorem fX6_readQuestion_27 : a_fetch 85 27 = some (.multianewarray 6 8, 30) := by decide +kernel
theorem fX6_readQuestion_30 : a_fetch 85 30 = some (.aload 0, 31) := by decide +kernel
theorem fX6_readQuestion_31 : a_fetch 85 31 = some (.invokeinterface 6 10, 34) := by decide +kernel
theorem fX6_readQuestion_34 : a_fetch 85 34 = some (.iconst 24, 36) := by decide +kernel
theorem fX6_readQuestion_36 : a_fetch 85 36 = some (.if_icmp .eq 57, 39) := by decide +kernel
theorem fX6_readQuestion_39 : a_fetch 85 39 = some (.aload 0, 40) := by decide +kernel
theorem fX6_readQuestion_40 : a_fetch 85 40 = some (.invokeinterface 6 10, 43) := by decide +kernel
theorem fX6_readQuestion_43 : a_fetch 85 43 = some (.iconst 25, 45) := by decide +kernel
theorem fX6_readQuestion_45 : a_fetch 85 45 = some (.if_icmp .eq 57, 48) := by decide +kernel
theorem fX6_readQuestion_48 : a_fetch 85 48 = some (.aload 0, 49) := by decide +kernel
theorem fX6_readQuestion_49 : a_fetch 85 49 = some (.invokeinterface 6 10, 52) := by decide +kernel
theorem fX6_readQuestion_52 : a_fetch 85 52 = some (.iconst 26, 54) := by decide +kernel
theorem fX6_readQuestion_54 : a_fetch 85 54 = some (.if_icmp .ne 61, 57) := by decide +kernel
theorem fX6_readQuestion_57 : a_fetch 85 57 = some (.iconst 1, 58) := by decide +kernel
theorem fX6_readQuestion_58 : a_fetch 85 58 = some (.goto 62, 61) := by decide +kernel
theorem fX6_readQuestion_61 : a_fetch 85 61 = some (.iconst 0, 62) := by decide +kernel
theorem fX6_readQuestion_62 : a_fetch 85 62 = some (.istore 1, 63) := by decide +kernel
theorem fX6_readQuestion_63 : a_fetch 85 63 = some (.aload 0, 64) := by decide +kernel
theorem fX6_readQuestion_64 : a_fetch 85 64 = some (.invokeinterface 6 10, 67) := by decide +kernel
theorem fX6_readQuestion_67 : a_fetch 85 67 = some (.iconst 27, 69) := by decide +kernel
theorem fX6_readQuestion_69 : a_fetch 85 69 = some (.if_icmp .eq 90, 72) := by decide +kernel
theorem fX6_readQuestion_72 : a_fetch 85 72 = some (.aload 0, 73) := by decide +kernel
theorem fX6_readQuestion_73 : a_fetch 85 73 = some (.invokeinterface 6 10, 76) := by decide +kernel
theorem fX6_readQuestion_76 : a_fetch 85 76 = some (.iconst 28, 78) := by decide +kernel
theorem fX6_readQuestion_78 : a_fetch 85 78 = some (.if_icmp .eq 90, 81) := by decide +kernel
theorem fX6_readQuestion_81 : a_fetch 85 81 = some (.aload 0, 82) := by decide +kernel
theorem fX6_readQuestion_82 : a_fetch 85 82 = some (.invokeinterface 6 10, 85) := by decide +kernel
theorem fX6_readQuestion_85 : a_fetch 85 85 = some (.iconst 29, 87) := by decide +kernel
theorem fX6_readQuestion_87 : a_fetch 85 87 = some (.if_icmp .ne 94, 90) := by decide +kernel
theorem fX6_readQuestion_90 : a_fetch 85 90 = some (.iconst 1, 91) := by decide +kernel
theorem fX6_readQuestion_91 : a_fetch 85 91 = some (.goto 95, 94) := by decide +kernel
theorem fX6_readQuestion_94 : a_fetch 85 94 = some (.iconst 0, 95) := by decide +kernel
theorem fX6_readQuestion_95 : a_fetch 85 95 = some (.istore 2, 96) := by decide +kernel
theorem fX6_readQuestion_96 : a_fetch 85 96 = some (.iload 1, 97) := by decide +kernel
theorem fX6_readQuestion_97 : a_fetch 85 97 = some (.ifCond .ne 113, 100) := by decide +kernel
theorem fX6_readQuestion_100 : a_fetch 85 100 = some (.iload 2, 101) := by decide +kernel
theorem fX6_readQuestion_101 : a_fetch 85 101 = some (.ifCond .ne 113, 104) := by decide +kernel
theorem fX6_readQuestion_104 : a_fetch 85 104 = some (.aload 0, 105) := by decide +kernel
theorem fX6_readQuestion_105 : a_fetch 85 105 = some (.iconst 1, 106) := by decide +kernel
theorem fX6_readQuestion_106 : a_fetch 85 106 = some (.aload 0, 107) := by decide +kernel
theorem fX6_readQuestion_107 : a_fetch 85 107 = some (.invokevirtual 67, 110) := by decide +kernel
theorem fX6_readQuestion_110 : a_fetch 85 110 = some (.invokevirtual 66, 113) := by decide +kernel
theorem fX6_readQuestion_113 : a_fetch 85 113 = some (.aload 0, 114) := by decide +kernel
theorem fX6_readQuestion_114 : a_fetch 85 114 = some (.invokevirtual 71, 117) := by decide +kernel
theorem fX6_readQuestion_117 : a_fetch 85 117 = some (.iload 1, 118) := by decide +kernel
theorem fX6_readQuestion_118 : a_fetch 85 118 = some (.ifCond .eq 129, 121) := by decide +kernel
theorem fX6_readQuestion_121 : a_fetch 85 121 = some (.aload 0, 122) := by decide +kernel
theorem fX6_readQuestion_122 : a_fetch 85 122 = some (.iconst 0, 123) := by decide +kernel
theorem fX6_readQuestion_123 : a_fetch 85 123 = some (.invokevirtual 86, 126) := by decide +kernel
theorem fX6_readQuestion_126 : a_fetch 85 126 = some (.goto 134, 129) := by decide +kernel
theorem fX6_readQuestion_129 : a_fetch 85 129 = some (.aload 0, 130) := by decide +kernel
theorem fX6_readQuestion_130 : a_fetch 85 130 = some (.iconst 0, 131) := by decide +kernel
theorem fX6_readQuestion_131 : a_fetch 85 131 = some (.invokevirtual 90, 134) := by decide +kernel
theorem fX6_readQuestion_134 : a_fetch 85 134 = some (.aload 0, 135) := by decide +kernel
theorem fX6_readQuestion_135 : a_fetch 85 135 = some (.invokeinterface 6 0, 138) := by decide +kernel
theorem fX6_readQuestion_138 : a_fetch 85 138 = some (.aload 0, 139) := by decide +kernel
theorem fX6_readQuestion_139 : a_fetch 85 139 = some (.invokeinterface 6 6, 142) := by decide +kernel
theorem fX6_readQuestion_142 : a_fetch 85 142 = some (.invokevirtual 96, 145) := by decide +kernel
theorem fX6_readQuestion_145 : a_fetch 85 145 = some (.iconst 3, 146) := by decide +kernel
theorem fX6_readQuestion_146 : a_fetch 85 146 = some (.if_icmp .eq 158, 149) := by decide +kernel
theorem fX6_readQuestion_149 : a_fetch 85 149 = some (.aload 0, 150) := by decide +kernel
theorem fX6_readQuestion_150 : a_fetch 85 150 = some (.iconst 1, 151) := by decide +kernel
theorem fX6_readQuestion_151 : a_fetch 85 151 = some (.aload 0, 152) := by decide +kernel
theorem fX6_readQuestion_152 : a_fetch 85 152 = some (.invokevirtual 67, 155) := by decide +kernel
theorem fX6_readQuestion_155 : a_fetch 85 155 = some (.invokevirtual 66, 158) := by decide +kernel
theorem fX6_readQuestion_158 : a_fetch 85 158 = some (.return_, 159) := by decide +kernel
theorem fX6_readTest_0 : a_fetch 86 0 = some (.aload 0, 1) := by decide +kernel
theorem fX6_readTest_1 : a_fetch 86 1 = some (.iload 1, 2) := by decide +kernel
theorem fX6_readTest_2 : a_fetch 86 2 = some (.invokevirtual 87, 5) := by decide +kernel
theorem fX6_readTest_5 : a_fetch 86 5 = some (.iconst 0, 6) := by decide +kernel
theorem fX6_readTest_6 : a_fetch 86 6 = some (.istore 2, 7) := by decide +kernel
theorem fX6_readTest_7 : a_fetch 86 7 = some (.iload 2, 8) := by decide +kernel
theorem fX6_readTest_8 : a_fetch 86 8 = some (.iconst 1600, 11) := by decide +kernel
theorem fX6_readTest_11 : a_fetch 86 11 = some (.if_icmp .ge 48, 14) := by decide +kernel
theorem fX6_readTest_14 : a_fetch 86 14 = some (.aload 0, 15) := by decide +kernel
theorem fX6_readTest_15 : a_fetch 86 15 = some (.iconst 18, 17) := by decide +kernel
theorem fX6_readTest_17 : a_fetch 86 17 = some (.invokevirtual 70, 20) := by decide +kernel
theorem fX6_readTest_20 : a_fetch 86 20 = some (.ifCond .eq 48, 23) := by decide +kernel
theorem fX6_readTest_23 : a_fetch 86 23 = some (.aload 0, 24) := by decide +kernel
theorem fX6_readTest_24 : a_fetch 86 24 = some (.invokevirtual 71, 27) := by decide +kernel
theorem fX6_readTest_27 : a_fetch 86 27 = some (.aload 0, 28) := by decide +kernel
theorem fX6_readTest_28 : a_fetch 86 28 = some (.iload 1, 29) := by decide +kernel
theorem fX6_readTest_29 : a_fetch 86 29 = some (.invokevirtual 87, 32) := by decide +kernel
theorem fX6_readTest_32 : a_fetch 86 32 = some (.aload 0, 33) := by decide +kernel
theorem fX6_readTest_33 : a_fetch 86 33 = some (.invokeinterface 6 7, 36) := by decide +kernel
theorem fX6_readTest_36 : a_fetch 86 36 = some (.iconst 14, 38) := by decide +kernel
theorem fX6_readTest_38 : a_fetch 86 38 = some (.iconst 0, 39) := by decide +kernel
theorem fX6_readTest_39 : a_fetch 86 39 = some (.invokevirtual 36, 42) := by decide +kernel
theorem fX6_readTest_42 : a_fetch 86 42 = some (.iinc 2 1, 45) := by decide +kernel
theorem fX6_readTest_45 : a_fetch 86 45 = some (.goto 7, 48) := by decide +kernel
theorem fX6_readTest_48 : a_fetch 86 48 = some (.return_, 49) := by decide +kernel
theorem fX6_readBoth_0 : a_fetch 87 0 = some (.aload 0, 1) := by decide +kernel
theorem fX6_readBoth_1 : a_fetch 87 1 = some (.iload 1, 2) := by decide +kernel
theorem fX6_readBoth_2 : a_fetch 87 2 = some (.invokevirtual 88, 5) := by decide +kernel
theorem fX6_readBoth_5 : a_fetch 87 5 = some (.iconst 0, 6) := by decide +kernel
theorem fX6_readBoth_6 : a_fetch 87 6 = some (.istore 2, 7) := by decide +kernel
theorem fX6_readBoth_7 : a_fetch 87 7 = some (.iload 2, 8) := by decide +kernel
theorem fX6_readBoth_8 : a_fetch 87 8 = some (.iconst 1600, 11) := by decide +kernel
theorem fX6_readBoth_11 : a_fetch 87 11 = some (.if_icmp .ge 48, 14) := by decide +kernel
theorem fX6_readBoth_14 : a_fetch 87 14 = some (.aload 0, 15) := by decide +kernel
theorem fX6_readBoth_15 : a_fetch 87 15 = some (.iconst 19, 17) := by decide +kernel
theorem fX6_readBoth_17 : a_fetch 87 17 = some (.invokevirtual 70, 20) := by decide +kernel
theorem fX6_readBoth_20 : a_fetch 87 20 = some (.ifCond .eq 48, 23) := by decide +kernel
theorem fX6_readBoth_23 : a_fetch 87 23 = some (.aload 0, 24) := by decide +kernel
theorem fX6_readBoth_24 : a_fetch 87 24 = some (.invokevirtual 71, 27) := by decide +kernel
theorem fX6_readBoth_27 : a_fetch 87 27 = some (.aload 0, 28) := by decide +kernel
theorem fX6_readBoth_28 : a_fetch 87 28 = some (.iload 1, 29) := by decide +kernel
theorem fX6_readBoth_29 : a_fetch 87 29 = some (.invokevirtual 88, 32) := by decide +kernel
theorem fX6_readBoth_32 : a_fetch 87 32 = some (.aload 0, 33) := by decide +kernel
theorem fX6_readBoth_33 : a_fetch 87 33 = some (.invokeinterface 6 7, 36) := by decide +kernel
theorem fX6_readBoth_36 : a_fetch 87 36 = some (.iconst 13, 38) := by decide +kernel
theorem fX6_readBoth_38 : a_fetch 87 38 = some (.iconst 0, 39) := by decide +kernel
theorem fX6_readBoth_39 : a_fetch 87 39 = some (.invokevirtual 36, 42) := by decide +kernel
theorem fX6_readBoth_42 : a_fetch 87 42 = some (.iinc 2 1, 45) := by decide +kernel
theorem fX6_readBoth_45 : a_fetch 87 45 = some (.goto 7, 48) := by decide +kernel
theorem fX6_readBoth_48 : a_fetch 87 48 = some (.return_, 49) := by decide +kernel
theorem fX6_readFact_0 : a_fetch 88 0 = some (.aload 0, 1) := by decide +kernel
theorem fX6_readFact_1 : a_fetch 88 1 = some (.invokevirtual 65, 4) := by decide +kernel
theorem fX6_readFact_4 : a_fetch 88 4 = some (.ifCond .eq 13, 7) := by decide +kernel
theorem fX6_readFact_7 : a_fetch 88 7 = some (.iload 1, 8) := by decide +kernel
theorem fX6_readFact_8 : a_fetch 88 8 = some (.iconst 6, 10) := by decide +kernel
theorem fX6_readFact_10 : a_fetch 88 10 = some (.if_icmp .le 14, 13) := by decide +kernel
theorem fX6_readFact_13 : a_fetch 88 13 = some (.return_, 14) := by decide +kernel
theorem fX6_readFact_14 : a_fetch 88 14 = some (.aload 0, 15) := by decide +kernel
theorem fX6_readFact_15 : a_fetch 88 15 = some (.iconst 20, 17) := by decide +kernel
theorem fX6_readFact_17 : a_fetch 88 17 = some (.invokevirtual 70, 20) := by decide +kernel
theorem fX6_readFact_20 : a_fetch 88 20 = some (.ifCond .eq 47, 23) := by decide +kernel
theorem fX6_readFact_23 : a_fetch 88 23 = some (.aload 0, 24) := by decide +kernel
theorem fX6_readFact_24 : a_fetch 88 24 = some (.iload 1, 25) := by decide +kernel
theorem fX6_readFact_25 : a_fetch 88 25 = some (.invokevirtual 76, 28) := by decide +kernel
theorem fX6_readFact_28 : a_fetch 88 28 = some (.aload 0, 29) := by decide +kernel
theorem fX6_readFact_29 : a_fetch 88 29 = some (.iload 1, 30) := by decide +kernel
theorem fX6_readFact_30 : a_fetch 88 30 = some (.iconst 1, 31) := by decide +kernel
theorem fX6_readFact_31 : a_fetch 88 31 = some (.iadd, 32) := by decide +kernel
theorem fX6_readFact_32 : a_fetch 88 32 = some (.invokevirtual 88, 35) := by decide +kernel
theorem fX6_readFact_35 : a_fetch 88 35 = some (.aload 0, 36) := by decide +kernel
theorem fX6_readFact_36 : a_fetch 88 36 = some (.invokeinterface 6 7, 39) := by decide +kernel
theorem fX6_readFact_39 : a_fetch 88 39 = some (.iconst 3, 40) := by decide +kernel
theorem fX6_readFact_40 : a_fetch 88 40 = some (.iconst 0, 41) := by decide +kernel
theorem fX6_readFact_41 : a_fetch 88 41 = some (.invokevirtual 36, 44) := by decide +kernel
theorem fX6_readFact_44 : a_fetch 88 44 = some (.goto 144, 47) := by decide +kernel
theorem fX6_readFact_47 : a_fetch 88 47 = some (.aload 0, 48) := by decide +kernel
theorem fX6_readFact_48 : a_fetch 88 48 = some (.iconst 91, 50) := by decide +kernel
theorem fX6_readFact_50 : a_fetch 88 50 = some (.invokevirtual 69, 53) := by decide +kernel
theorem fX6_readFact_53 : a_fetch 88 53 = some (.ifCond .eq 77, 56) := by decide +kernel
theorem fX6_readFact_56 : a_fetch 88 56 = some (.aload 0, 57) := by decide +kernel
theorem fX6_readFact_57 : a_fetch 88 57 = some (.iload 1, 58) := by decide +kernel
theorem fX6_readFact_58 : a_fetch 88 58 = some (.invokevirtual 76, 61) := by decide +kernel
theorem fX6_readFact_61 : a_fetch 88 61 = some (.aload 0, 62) := by decide +kernel
theorem fX6_readFact_62 : a_fetch 88 62 = some (.iload 1, 63) := by decide +kernel
theorem fX6_readFact_63 : a_fetch 88 63 = some (.iconst 1, 64) := by decide +kernel
theorem fX6_readFact_64 : a_fetch 88 64 = some (.iadd, 65) := by decide +kernel
theorem fX6_readFact_65 : a_fetch 88 65 = some (.invokevirtual 86, 68) := by decide +kernel
theorem fX6_readFact_68 : a_fetch 88 68 = some (.aload 0, 69) := by decide +kernel
theorem fX6_readFact_69 : a_fetch 88 69 = some (.iconst 93, 71) := by decide +kernel
theorem fX6_readFact_71 : a_fetch 88 71 = some (.invokevirtual 72, 74) := by decide +kernel
theorem fX6_readFact_74 : a_fetch 88 74 = some (.goto 144, 77) := by decide +kernel
theorem fX6_readFact_77 : a_fetch 88 77 = some (.aload 0, 78) := by decide +kernel
theorem fX6_readFact_78 : a_fetch 88 78 = some (.iconst 21, 80) := by decide +kernel
theorem fX6_readFact_80 : a_fetch 88 80 = some (.invokevirtual 70, 83) := by decide +kernel
theorem fX6_readFact_83 : a_fetch 88 83 = some (.ifCond .eq 102, 86) := by decide +kernel
theorem fX6_readFact_86 : a_fetch 88 86 = some (.aload 0, 87) := by decide +kernel
theorem fX6_readFact_87 : a_fetch 88 87 = some (.invokevirtual 71, 90) := by decide +kernel
theorem fX6_readFact_90 : a_fetch 88 90 = some (.aload 0, 91) := by decide +kernel
theorem fX6_readFact_91 : a_fetch 88 91 = some (.invokeinterface 6 7, 94) := by decide +kernel
theorem fX6_readFact_94 : a_fetch 88 94 = some (.iconst 0, 95) := by decide +kernel
theorem fX6_readFact_95 : a_fetch 88 95 = some (.iconst 1, 96) := by decide +kernel
theorem fX6_readFact_96 : a_fetch 88 96 = some (.invokevirtual 36, 99) := by decide +kernel
theorem fX6_readFact_99 : a_fetch 88 99 = some (.goto 144, 102) := by decide +kernel
theorem fX6_readFact_102 : a_fetch 88 102 = some (.aload 0, 103) := by decide +kernel
theorem fX6_readFact_103 : a_fetch 88 103 = some (.iload 1, 104) := by decide +kernel
theorem fX6_readFact_104 : a_fetch 88 104 = some (.invokevirtual 90, 107) := by decide +kernel
theorem fX6_readFact_107 : a_fetch 88 107 = some (.aload 0, 108) := by decide +kernel
theorem fX6_readFact_108 : a_fetch 88 108 = some (.invokevirtual 89, 111) := by decide +kernel
theorem fX6_readFact_111 : a_fetch 88 111 = some (.istore 2, 112) := by decide +kernel
theorem fX6_readFact_112 : a_fetch 88 112 = some (.iload 2, 113) := by decide +kernel
theorem fX6_readFact_113 : a_fetch 88 113 = some (.iconst (-1), 114) := by decide +kernel
theorem fX6_readFact_114 : a_fetch 88 114 = some (.if_icmp .ne 126, 117) := by decide +kernel
theorem fX6_readFact_117 : a_fetch 88 117 = some (.aload 0, 118) := by decide +kernel
theorem fX6_readFact_118 : a_fetch 88 118 = some (.iconst 1, 119) := by decide +kernel
theorem fX6_readFact_119 : a_fetch 88 119 = some (.aload 0, 120) := by decide +kernel
theorem fX6_readFact_120 : a_fetch 88 120 = some (.invokevirtual 67, 123) := by decide +kernel
theorem fX6_readFact_123 : a_fetch 88 123 = some (.invokevirtual 66, 126) := by decide +kernel
theorem fX6_readFact_126 : a_fetch 88 126 = some (.aload 0, 127) := by decide +kernel
theorem fX6_readFact_127 : a_fetch 88 127 = some (.invokevirtual 71, 130) := by decide +kernel
theorem fX6_readFact_130 : a_fetch 88 130 = some (.aload 0, 131) := by decide +kernel
theorem fX6_readFact_131 : a_fetch 88 131 = some (.iload 1, 132) := by decide +kernel
theorem fX6_readFact_132 : a_fetch 88 132 = some (.invokevirtual 90, 135) := by decide +kernel
theorem fX6_readFact_135 : a_fetch 88 135 = some (.aload 0, 136) := by decide +kernel
theorem fX6_readFact_136 : a_fetch 88 136 = some (.invokeinterface 6 7, 139) := by decide +kernel
theorem fX6_readFact_139 : a_fetch 88 139 = some (.iload 2, 140) := by decide +kernel
theorem fX6_readFact_140 : a_fetch 88 140 = some (.iconst 0, 141) := by decide +kernel
theorem fX6_readFact_141 : a_fetch 88 141 = some (.invokevirtual 36, 144) := by decide +kernel
theorem fX6_readFact_144 : a_fetch 88 144 = some (.return_, 145) := by decide +kernel
theorem fX6_comparison_0 : a_fetch 89 0 = some (.aload 0, 1) := by decide +kernel
theorem fX6_comparison_1 : a_fetch 89 1 = some (.iconst 60, 3) := by decide +kernel
theorem fX6_comparison_3 : a_fetch 89 3 = some (.invokevirtual 69, 6) := by decide +kernel
theorem fX6_comparison_6 : a_fetch 89 6 = some (.ifCond .eq 12, 9) := by decide +kernel
theorem fX6_comparison_9 : a_fetch 89 9 = some (.iconst 10, 11) := by decide +kernel
theorem fX6_comparison_11 : a_fetch 89 11 = some (.ireturn, 12) := by decide +kernel
theorem fX6_comparison_12 : a_fetch 89 12 = some (.aload 0, 13) := by decide +kernel
theorem fX6_comparison_13 : a_fetch 89 13 = some (.iconst 62, 15) := by decide +kernel
theorem fX6_comparison_15 : a_fetch 89 15 = some (.invokevirtual 69, 18) := by decide +kernel
theorem fX6_comparison_18 : a_fetch 89 18 = some (.ifCond .eq 24, 21) := by decide +kernel
theorem fX6_comparison_21 : a_fetch 89 21 = some (.iconst 11, 23) := by decide +kernel
theorem fX6_comparison_23 : a_fetch 89 23 = some (.ireturn, 24) := by decide +kernel
theorem fX6_comparison_24 : a_fetch 89 24 = some (.aload 0, 25) := by decide +kernel
theorem fX6_comparison_25 : a_fetch 89 25 = some (.iconst 61, 27) := by decide +kernel
theorem fX6_comparison_27 : a_fetch 89 27 = some (.invokevirtual 69, 30) := by decide +kernel
theorem fX6_comparison_30 : a_fetch 89 30 = some (.ifCond .eq 38, 33) := by decide +kernel
theorem fX6_comparison_33 : a_fetch 89 33 = some (.iconst 12, 35) := by decide +kernel
theorem fX6_comparison_35 : a_fetch 89 35 = some (.goto 39, 38) := by decide +kernel
theorem fX6_comparison_38 : a_fetch 89 38 = some (.iconst (-1), 39) := by decide +kernel
theorem fX6_comparison_39 : a_fetch 89 39 = some (.ireturn, 40) := by decide +kernel
theorem fX6_readSum_0 : a_fetch 90 0 = some (.aload 0, 1) := by decide +kernel
theorem fX6_readSum_1 : a_fetch 90 1 = some (.iload 1, 2) := by decide +kernel
theorem fX6_readSum_2 : a_fetch 90 2 = some (.invokevirtual 91, 5) := by decide +kernel
theorem fX6_readSum_5 : a_fetch 90 5 = some (.iconst 0, 6) := by decide +kernel
theorem fX6_readSum_6 : a_fetch 90 6 = some (.istore 2, 7) := by decide +kernel
theorem fX6_readSum_7 : a_fetch 90 7 = some (.iload 2, 8) := by decide +kernel
theorem fX6_readSum_8 : a_fetch 90 8 = some (.iconst 1600, 11) := by decide +kernel
theorem fX6_readSum_11 : a_fetch 90 11 = some (.if_icmp .ge 71, 14) := by decide +kernel
theorem fX6_readSum_14 : a_fetch 90 14 = some (.aload 0, 15) := by decide +kernel
theorem fX6_readSum_15 : a_fetch 90 15 = some (.iconst 43, 17) := by decide +kernel
theorem fX6_readSum_17 : a_fetch 90 17 = some (.invokevirtual 69, 20) := by decide +kernel
theorem fX6_readSum_20 : a_fetch 90 20 = some (.ifCond .ne 32, 23) := by decide +kernel
theorem fX6_readSum_23 : a_fetch 90 23 = some (.aload 0, 24) := by decide +kernel
theorem fX6_readSum_24 : a_fetch 90 24 = some (.iconst 45, 26) := by decide +kernel
theorem fX6_readSum_26 : a_fetch 90 26 = some (.invokevirtual 69, 29) := by decide +kernel
theorem fX6_readSum_29 : a_fetch 90 29 = some (.ifCond .eq 71, 32) := by decide +kernel
theorem fX6_readSum_32 : a_fetch 90 32 = some (.aload 0, 33) := by decide +kernel
theorem fX6_readSum_33 : a_fetch 90 33 = some (.iconst 43, 35) := by decide +kernel
theorem fX6_readSum_35 : a_fetch 90 35 = some (.invokevirtual 69, 38) := by decide +kernel
theorem fX6_readSum_38 : a_fetch 90 38 = some (.ifCond .eq 45, 41) := by decide +kernel
theorem fX6_readSum_41 : a_fetch 90 41 = some (.iconst 4, 42) := by decide +kernel
theorem fX6_readSum_42 : a_fetch 90 42 = some (.goto 46, 45) := by decide +kernel
theorem fX6_readSum_45 : a_fetch 90 45 = some (.iconst 5, 46) := by decide +kernel
theorem fX6_readSum_46 : a_fetch 90 46 = some (.istore 3, 47) := by decide +kernel
theorem fX6_readSum_47 : a_fetch 90 47 = some (.aload 0, 48) := by decide +kernel
theorem fX6_readSum_48 : a_fetch 90 48 = some (.invokevirtual 71, 51) := by decide +kernel
theorem fX6_readSum_51 : a_fetch 90 51 = some (.aload 0, 52) := by decide +kernel
theorem fX6_readSum_52 : a_fetch 90 52 = some (.iload 1, 53) := by decide +kernel
theorem fX6_readSum_53 : a_fetch 90 53 = some (.invokevirtual 91, 56) := by decide +kernel
theorem fX6_readSum_56 : a_fetch 90 56 = some (.aload 0, 57) := by decide +kernel
theorem fX6_readSum_57 : a_fetch 90 57 = some (.invokeinterface 6 7, 60) := by decide +kernel
theorem fX6_readSum_60 : a_fetch 90 60 = some (.iload 3, 61) := by decide +kernel
theorem fX6_readSum_61 : a_fetch 90 61 = some (.iconst 0, 62) := by decide +kernel
theorem fX6_readSum_62 : a_fetch 90 62 = some (.invokevirtual 36, 65) := by decide +kernel
theorem fX6_readSum_65 : a_fetch 90 65 = some (.iinc 2 1, 68) := by decide +kernel
theorem fX6_readSum_68 : a_fetch 90 68 = some (.goto 7, 71) := by decide +kernel
theorem fX6_readSum_71 : a_fetch 90 71 = some (.return_, 72) := by decide +kernel
theorem fX6_readProduct_0 : a_fetch 91 0 = some (.aload 0, 1) := by decide +kernel
theorem fX6_readProduct_1 : a_fetch 91 1 = some (.iload 1, 2) := by decide +kernel
theorem fX6_readProduct_2 : a_fetch 91 2 = some (.invokevirtual 92, 5) := by decide +kernel
theorem fX6_readProduct_5 : a_fetch 91 5 = some (.iconst 0, 6) := by decide +kernel
theorem fX6_readProduct_6 : a_fetch 91 6 = some (.istore 2, 7) := by decide +kernel
theorem fX6_readProduct_7 : a_fetch 91 7 = some (.iload 2, 8) := by decide +kernel
theorem fX6_readProduct_8 : a_fetch 91 8 = some (.iconst 1600, 11) := by decide +kernel
theorem fX6_readProduct_11 : a_fetch 91 11 = some (.if_icmp .ge 73, 14) := by decide +kernel
theorem fX6_readProduct_14 : a_fetch 91 14 = some (.aload 0, 15) := by decide +kernel
theorem fX6_readProduct_15 : a_fetch 91 15 = some (.iconst 42, 17) := by decide +kernel
theorem fX6_readProduct_17 : a_fetch 91 17 = some (.invokevirtual 69, 20) := by decide +kernel
theorem fX6_readProduct_20 : a_fetch 91 20 = some (.ifCond .ne 32, 23) := by decide +kernel
theorem fX6_readProduct_23 : a_fetch 91 23 = some (.aload 0, 24) := by decide +kernel
theorem fX6_readProduct_24 : a_fetch 91 24 = some (.iconst 47, 26) := by decide +kernel
theorem fX6_readProduct_26 : a_fetch 91 26 = some (.invokevirtual 69, 29) := by decide +kernel
theorem fX6_readProduct_29 : a_fetch 91 29 = some (.ifCond .eq 73, 32) := by decide +kernel
theorem fX6_readProduct_32 : a_fetch 91 32 = some (.aload 0, 33) := by decide +kernel
theorem fX6_readProduct_33 : a_fetch 91 33 = some (.iconst 42, 35) := by decide +kernel
theorem fX6_readProduct_35 : a_fetch 91 35 = some (.invokevirtual 69, 38) := by decide +kernel
theorem fX6_readProduct_38 : a_fetch 91 38 = some (.ifCond .eq 46, 41) := by decide +kernel
theorem fX6_readProduct_41 : a_fetch 91 41 = some (.iconst 6, 43) := by decide +kernel
theorem fX6_readProduct_43 : a_fetch 91 43 = some (.goto 48, 46) := by decide +kernel
theorem fX6_readProduct_46 : a_fetch 91 46 = some (.iconst 7, 48) := by decide +kernel
theorem fX6_readProduct_48 : a_fetch 91 48 = some (.istore 3, 49) := by decide +kernel
theorem fX6_readProduct_49 : a_fetch 91 49 = some (.aload 0, 50) := by decide +kernel
theorem fX6_readProduct_50 : a_fetch 91 50 = some (.invokevirtual 71, 53) := by decide +kernel
theorem fX6_readProduct_53 : a_fetch 91 53 = some (.aload 0, 54) := by decide +kernel
theorem fX6_readProduct_54 : a_fetch 91 54 = some (.iload 1, 55) := by decide +kernel
theorem fX6_readProduct_55 : a_fetch 91 55 = some (.invokevirtual 92, 58) := by decide +kernel
theorem fX6_readProduct_58 : a_fetch 91 58 = some (.aload 0, 59) := by decide +kernel
theorem fX6_readProduct_59 : a_fetch 91 59 = some (.invokeinterface 6 7, 62) := by decide +kernel
theorem fX6_readProduct_62 : a_fetch 91 62 = some (.iload 3, 63) := by decide +kernel
theorem fX6_readProduct_63 : a_fetch 91 63 = some (.iconst 0, 64) := by decide +kernel
theorem fX6_readProduct_64 : a_fetch 91 64 = some (.invokevirtual 36, 67) := by decide +kernel
theorem fX6_readProduct_67 : a_fetch 91 67 = some (.iinc 2 1, 70) := by decide +kernel
theorem fX6_readProduct_70 : a_fetch 91 70 = some (.goto 7, 73) := by decide +kernel
theorem fX6_readProduct_73 : a_fetch 91 73 = some (.return_, 74) := by decide +kernel
theorem fX6_readPart_0 : a_fetch 92 0 = some (.aload 0, 1) := by decide +kernel
theorem fX6_readPart_1 : a_fetch 92 1 = some (.invokevirtual 65, 4) := by decide +kernel
theorem fX6_readPart_4 : a_fetch 92 4 = some (.ifCond .eq 13, 7) := by decide +kernel
theorem fX6_readPart_7 : a_fetch 92 7 = some (.iload 1, 8) := by decide +kernel
theorem fX6_readPart_8 : a_fetch 92 8 = some (.iconst 6, 10) := by decide +kernel
theorem fX6_readPart_10 : a_fetch 92 10 = some (.if_icmp .le 14, 13) := by decide +kernel
theorem fX6_readPart_13 : a_fetch 92 13 = some (.return_, 14) := by decide +kernel
theorem fX6_readPart_14 : a_fetch 92 14 = some (.aload 0, 15) := by decide +kernel
theorem fX6_readPart_15 : a_fetch 92 15 = some (.invokevirtual 68, 18) := by decide +kernel
theorem fX6_readPart_18 : a_fetch 92 18 = some (.istore 2, 19) := by decide +kernel
theorem fX6_readPart_19 : a_fetch 92 19 = some (.aload 0, 20) := by decide +kernel
theorem fX6_readPart_20 : a_fetch 92 20 = some (.invokeinterface 6 0, 23) := by decide +kernel
theorem fX6_readPart_23 : a_fetch 92 23 = some (.aload 0, 24) := by decide +kernel
theorem fX6_readPart_24 : a_fetch 92 24 = some (.invokeinterface 6 6, 27) := by decide +kernel
theorem fX6_readPart_27 : a_fetch 92 27 = some (.invokevirtual 96, 30) := by decide +kernel
theorem fX6_readPart_30 : a_fetch 92 30 = some (.iconst 1, 31) := by decide +kernel
theorem fX6_readPart_31 : a_fetch 92 31 = some (.if_icmp .ne 52, 34) := by decide +kernel
theorem fX6_readPart_34 : a_fetch 92 34 = some (.aload 0, 35) := by decide +kernel
theorem fX6_readPart_35 : a_fetch 92 35 = some (.invokeinterface 6 7, 38) := by decide +kernel
theorem fX6_readPart_38 : a_fetch 92 38 = some (.iconst 0, 39) := by decide +kernel
theorem fX6_readPart_39 : a_fetch 92 39 = some (.aload 0, 40) := by decide +kernel
theorem fX6_readPart_40 : a_fetch 92 40 = some (.iconst 9999, 43) := by decide +kernel
theorem fX6_readPart_43 : a_fetch 92 43 = some (.invokevirtual 75, 46) := by decide +kernel
theorem fX6_readPart_46 : a_fetch 92 46 = some (.invokevirtual 36, 49) := by decide +kernel
theorem fX6_readPart_49 : a_fetch 92 49 = some (.goto 199, 52) := by decide +kernel
theorem fX6_readPart_52 : a_fetch 92 52 = some (.aload 0, 53) := by decide +kernel
theorem fX6_readPart_53 : a_fetch 92 53 = some (.iconst 40, 55) := by decide +kernel
theorem fX6_readPart_55 : a_fetch 92 55 = some (.invokevirtual 69, 58) := by decide +kernel
theorem fX6_readPart_58 : a_fetch 92 58 = some (.ifCond .eq 82, 61) := by decide +kernel
theorem fX6_readPart_61 : a_fetch 92 61 = some (.aload 0, 62) := by decide +kernel
theorem fX6_readPart_62 : a_fetch 92 62 = some (.iload 1, 63) := by decide +kernel
theorem fX6_readPart_63 : a_fetch 92 63 = some (.invokevirtual 76, 66) := by decide +kernel
theorem fX6_readPart_66 : a_fetch 92 66 = some (.aload 0, 67) := by decide +kernel
theorem fX6_readPart_67 : a_fetch 92 67 = some (.iload 1, 68) := by decide +kernel
theorem fX6_readPart_68 : a_fetch 92 68 = some (.iconst 1, 69) := by decide +kernel
theorem fX6_readPart_69 : a_fetch 92 69 = some (.iadd, 70) := by decide +kernel
theorem fX6_readPart_70 : a_fetch 92 70 = some (.invokevirtual 90, 73) := by decide +kernel
theorem fX6_readPart_73 : a_fetch 92 73 = some (.aload 0, 74) := by decide +kernel
theorem fX6_readPart_74 : a_fetch 92 74 = some (.iconst 41, 76) := by decide +kernel
theorem fX6_readPart_76 : a_fetch 92 76 = some (.invokevirtual 72, 79) := by decide +kernel
theorem fX6_readPart_79 : a_fetch 92 79 = some (.goto 199, 82) := by decide +kernel
theorem fX6_readPart_82 : a_fetch 92 82 = some (.iload 2, 83) := by decide +kernel
theorem fX6_readPart_83 : a_fetch 92 83 = some (.iconst 22, 85) := by decide +kernel
theorem fX6_readPart_85 : a_fetch 92 85 = some (.if_icmp .eq 94, 88) := by decide +kernel
theorem fX6_readPart_88 : a_fetch 92 88 = some (.iload 2, 89) := by decide +kernel
theorem fX6_readPart_89 : a_fetch 92 89 = some (.iconst 23, 91) := by decide +kernel
theorem fX6_readPart_91 : a_fetch 92 91 = some (.if_icmp .ne 115, 94) := by decide +kernel
theorem fX6_readPart_94 : a_fetch 92 94 = some (.aload 0, 95) := by decide +kernel
theorem fX6_readPart_95 : a_fetch 92 95 = some (.iload 1, 96) := by decide +kernel
theorem fX6_readPart_96 : a_fetch 92 96 = some (.iload 2, 97) := by decide +kernel
theorem fX6_readPart_97 : a_fetch 92 97 = some (.iconst 22, 99) := by decide +kernel
theorem fX6_readPart_99 : a_fetch 92 99 = some (.if_icmp .ne 107, 102) := by decide +kernel
theorem fX6_readPart_102 : a_fetch 92 102 = some (.iconst 8, 104) := by decide +kernel
theorem fX6_readPart_104 : a_fetch 92 104 = some (.goto 109, 107) := by decide +kernel
theorem fX6_readPart_107 : a_fetch 92 107 = some (.iconst 9, 109) := by decide +kernel
theorem fX6_readPart_109 : a_fetch 92 109 = some (.invokevirtual 93, 112) := by decide +kernel
theorem fX6_readPart_112 : a_fetch 92 112 = some (.goto 199, 115) := by decide +kernel
theorem fX6_readPart_115 : a_fetch 92 115 = some (.iload 2, 116) := by decide +kernel
theorem fX6_readPart_116 : a_fetch 92 116 = some (.iconst 14, 118) := by decide +kernel
theorem fX6_readPart_118 : a_fetch 92 118 = some (.if_icmp .ne 156, 121) := by decide +kernel
theorem fX6_readPart_121 : a_fetch 92 121 = some (.aload 0, 122) := by decide +kernel
theorem fX6_readPart_122 : a_fetch 92 122 = some (.invokeinterface 6 8, 125) := by decide +kernel
theorem fX6_readPart_125 : a_fetch 92 125 = some (.jsr_w 7516205056, 128) := by decide +kernel
theorem fX6_readPart_128 : a_fetch 92 128 = some (.lcmp, 129) := by decide +kernel
theorem fX6_readPart_129 : a_fetch 92 129 = some (.ifCond .ne 156, 132) := by decide +kernel
theorem fX6_readPart_132 : a_fetch 92 132 = some (.aload 0, 133) := by decide +kernel
theorem fX6_readPart_133 : a_fetch 92 133 = some (.iload 1, 134) := by decide +kernel
theorem fX6_readPart_134 : a_fetch 92 134 = some (.invokevirtual 76, 137) := by decide +kernel
theorem fX6_readPart_137 : a_fetch 92 137 = some (.aload 0, 138) := by decide +kernel
theorem fX6_readPart_138 : a_fetch 92 138 = some (.iload 1, 139) := by decide +kernel
theorem fX6_readPart_139 : a_fetch 92 139 = some (.iconst 1, 140) := by decide +kernel
theorem fX6_readPart_140 : a_fetch 92 140 = some (.iadd, 141) := by decide +kernel
theorem fX6_readPart_141 : a_fetch 92 141 = some (.invokevirtual 92, 144) := by decide +kernel
theorem fX6_readPart_144 : a_fetch 92 144 = some (.aload 0, 145) := by decide +kernel
theorem fX6_readPart_145 : a_fetch 92 145 = some (.invokeinterface 6 7, 148) := by decide +kernel
theorem fX6_readPart_148 : a_fetch 92 148 = some (.iconst 2, 149) := by decide +kernel
theorem fX6_readPart_149 : a_fetch 92 149 = some (.iconst 0, 150) := by decide +kernel
theorem fX6_readPart_150 : a_fetch 92 150 = some (.invokevirtual 36, 153) := by decide +kernel
theorem fX6_readPart_153 : a_fetch 92 153 = some (.goto 199, 156) := by decide +kernel
theorem fX6_readPart_156 : a_fetch 92 156 = some (.iload 2, 157) := by decide +kernel
theorem fX6_readPart_157 : a_fetch 92 157 = some (.iconst (-1), 158) := by decide +kernel
theorem fX6_readPart_158 : a_fetch 92 158 = some (.if_icmp .eq 190, 161) := by decide +kernel
theorem fX6_readPart_161 : a_fetch 92 161 = some (.aload 0, 162) := by decide +kernel
theorem fX6_readPart_162 : a_fetch 92 162 = some (.invokeinterface 6 8, 165) := by decide +kernel
theorem fX6_readPart_165 : a_fetch 92 165 = some (.iload 2, 166) := by decide +kernel
theorem fX6_readPart_166 : a_fetch 92 166 = some (.lshr, 167) := by decide +kernel
theorem fX6_readPart_167 : a_fetch 92 167 = some (.jsr_w 1, 168) := by decide +kernel
theorem fX6_readPart_168 : a_fetch 92 168 = some (.land, 169) := by decide +kernel
theorem fX6_readPart_169 : a_fetch 92 169 = some (.jsr_w 1, 170) := by decide +kernel
theorem fX6_readPart_170 : a_fetch 92 170 = some (.lcmp, 171) := by decide +kernel
theorem fX6_readPart_171 : a_fetch 92 171 = some (.ifCond .ne 190, 174) := by decide +kernel
theorem fX6_readPart_174 : a_fetch 92 174 = some (.aload 0, 175) := by decide +kernel
theorem fX6_readPart_175 : a_fetch 92 175 = some (.invokevirtual 71, 178) := by decide +kernel
theorem fX6_readPart_178 : a_fetch 92 178 = some (.aload 0, 179) := by decide +kernel
theorem fX6_readPart_179 : a_fetch 92 179 = some (.invokeinterface 6 7, 182) := by decide +kernel
theorem fX6_readPart_182 : a_fetch 92 182 = some (.iconst 1, 183) := by decide +kernel
theorem fX6_readPart_183 : a_fetch 92 183 = some (.iload 2, 184) := by decide +kernel
theorem fX6_readPart_184 : a_fetch 92 184 = some (.invokevirtual 36, 187) := by decide +kernel
theorem fX6_readPart_187 : a_fetch 92 187 = some (.goto 199, 190) := by decide +kernel
theorem fX6_readPart_190 : a_fetch 92 190 = some (.aload 0, 191) := by decide +kernel
theorem fX6_readPart_191 : a_fetch 92 191 = some (.iconst 1, 192) := by decide +kernel
theorem fX6_readPart_192 : a_fetch 92 192 = some (.aload 0, 193) := by decide +kernel
theorem fX6_readPart_193 : a_fetch 92 193 = some (.invokevirtual 67, 196) := by decide +kernel
theorem fX6_readPart_196 : a_fetch 92 196 = some (.invokevirtual 66, 199) := by decide +kernel
theorem fX6_readPart_199 : a_fetch 92 199 = some (.return_, 200) := by decide +kernel
theorem fX6_readPair_0 : a_fetch 93 0 = some (.aload 0, 1) := by decide +kernel
theorem fX6_readPair_1 : a_fetch 93 1 = some (.invokevirtual 71, 4) := by decide +kernel
theorem fX6_readPair_4 : a_fetch 93 4 = some (.aload 0, 5) := by decide +kernel
theorem fX6_readPair_5 : a_fetch 93 5 = some (.iconst 40, 7) := by decide +kernel
theorem fX6_readPair_7 : a_fetch 93 7 = some (.invokevirtual 69, 10) := by decide +kernel
theorem fX6_readPair_10 : a_fetch 93 10 = some (.ifCond .ne 22, 13) := by decide +kernel
theorem fX6_readPair_13 : a_fetch 93 13 = some (.aload 0, 14) := by decide +kernel
theorem fX6_readPair_14 : a_fetch 93 14 = some (.iconst 1, 15) := by decide +kernel
theorem fX6_readPair_15 : a_fetch 93 15 = some (.aload 0, 16) := by decide +kernel
theorem fX6_readPair_16 : a_fetch 93 16 = some (.invokevirtual 67, 19) := by decide +kernel
theorem fX6_readPair_19 : a_fetch 93 19 = some (.invokevirtual 66, 22) := by decide +kernel
theorem fX6_readPair_22 : a_fetch 93 22 = some (.aload 0, 23) := by decide +kernel
theorem fX6_readPair_23 : a_fetch 93 23 = some (.iload 1, 24) := by decide +kernel
theorem fX6_readPair_24 : a_fetch 93 24 = some (.invokevirtual 76, 27) := by decide +kernel
theorem fX6_readPair_27 : a_fetch 93 27 = some (.aload 0, 28) := by decide +kernel
theorem fX6_readPair_28 : a_fetch 93 28 = some (.iload 1, 29) := by decide +kernel
theorem fX6_readPair_29 : a_fetch 93 29 = some (.iconst 1, 30) := by decide +kernel
theorem fX6_readPair_30 : a_fetch 93 30 = some (.iadd, 31) := by decide +kernel
theorem fX6_readPair_31 : a_fetch 93 31 = some (.invokevirtual 90, 34) := by decide +kernel
theorem fX6_readPair_34 : a_fetch 93 34 = some (.aload 0, 35) := by decide +kernel
theorem fX6_readPair_35 : a_fetch 93 35 = some (.iconst 44, 37) := by decide +kernel
theorem fX6_readPair_37 : a_fetch 93 37 = some (.invokevirtual 72, 40) := by decide +kernel
theorem fX6_readPair_40 : a_fetch 93 40 = some (.aload 0, 41) := by decide +kernel
theorem fX6_readPair_41 : a_fetch 93 41 = some (.iload 1, 42) := by decide +kernel
theorem fX6_readPair_42 : a_fetch 93 42 = some (.iconst 1, 43) := by decide +kernel
theorem fX6_readPair_43 : a_fetch 93 43 = some (.iadd, 44) := by decide +kernel
theorem fX6_readPair_44 : a_fetch 93 44 = some (.invokevirtual 90, 47) := by decide +kernel
theorem fX6_readPair_47 : a_fetch 93 47 = some (.aload 0, 48) := by decide +kernel
theorem fX6_readPair_48 : a_fetch 93 48 = some (.iconst 41, 50) := by decide +kernel
theorem fX6_readPair_50 : a_fetch 93 50 = some (.invokevirtual 72, 53) := by decide +kernel
theorem fX6_readPair_53 : a_fetch 93 53 = some (.aload 0, 54) := by decide +kernel
theorem fX6_readPair_54 : a_fetch 93 54 = some (.invokeinterface 6 7, 57) := by decide +kernel
theorem fX6_readPair_57 : a_fetch 93 57 = some (.iload 2, 58) := by decide +kernel
theorem fX6_readPair_58 : a_fetch 93 58 = some (.iconst 0, 59) := by decide +kernel
theorem fX6_readPair_59 : a_fetch 93 59 = some (.invokevirtual 36, 62) := by decide +kernel
theorem fX6_readPair_62 : a_fetch 93 62 = some (.return_, 63) := by decide +kernel
theorem fX7_init_0 : a_fetch 94 0 = some (.aload 0, 1) := by decide +kernel
theorem fX7_init_1 : a_fetch 94 1 = some (.monitorenter, 4) := by decide +kernel
theorem fX7_init_4 : a_fetch 94 4 = some (.aload 0, 5) := by decide +kernel
theorem fX7_init_5 : a_fetch 94 5 = some (.iload 1, 6) := by decide +kernel
theorem fX7_init_6 : a_fetch 94 6 = some (.iconst 0, 7) := by decide +kernel
theorem fX7_init_7 : a_fetch 94 7 = some (.invokestatic 289, 10) := by decide +kernel
theorem fX7_init_10 : a_fetch 94 10 = some (.newarray .int, 12) := by decide +kernel
theorem fX7_init_12 : a_fetch 94 12 = some (.multianewarray 7 0, 15) := by decide +kernel
theorem fX7_init_15 : a_fetch 94 15 = some (.return_, 16) := by decide +kernel
theorem fX7_size_0 : a_fetch 95 0 = some (.aload 0, 1) := by decide +kernel
theorem fX7_size_1 : a_fetch 95 1 = some (.invokeinterface 7 1, 4) := by decide +kernel
theorem fX7_size_4 : a_fetch 95 4 = some (.ireturn, 5) := by decide +kernel
theorem fX7_get_0 : a_fetch 96 0 = some (.iload 1, 1) := by decide +kernel
theorem fX7_get_1 : a_fetch 96 1 = some (.ifCond .lt 30, 4) := by decide +kernel
theorem fX7_get_4 : a_fetch 96 4 = some (.iload 1, 5) := by decide +kernel
theorem fX7_get_5 : a_fetch 96 5 = some (.aload 0, 6) := by decide +kernel
theorem fX7_get_6 : a_fetch 96 6 = some (.invokeinterface 7 1, 9) := by decide +kernel
theorem fX7_get_9 : a_fetch 96 9 = some (.if_icmp .ge 30, 12) := by decide +kernel
theorem fX7_get_12 : a_fetch 96 12 = some (.iload 1, 13) := by decide +kernel
theorem fX7_get_13 : a_fetch 96 13 = some (.aload 0, 14) := by decide +kernel
theorem fX7_get_14 : a_fetch 96 14 = some (.invokeinterface 7 0, 17) := by decide +kernel
theorem fX7_get_17 : a_fetch 96 17 = some (.arraylength, 18) := by decide +kernel
theorem fX7_get_18 : a_fetch 96 18 = some (.if_icmp .ge 30, 21) := by decide +kernel
theorem fX7_get_21 : a_fetch 96 21 = some (.aload 0, 22) := by decide +kernel
theorem fX7_get_22 : a_fetch 96 22 = some (.invokeinterface 7 0, 25) := by decide +kernel
theorem fX7_get_25 : a_fetch 96 25 = some (.iload 1, 26) := by decide +kernel
theorem fX7_get_26 : a_fetch 96 26 = some (.iaload, 27) := by decide +kernel
theorem fX7_get_27 : a_fetch 96 27 = some (.goto 31, 30) := by decide +kernel
theorem fX7_get_30 : a_fetch 96 30 = some (.iconst (-1), 31) := by decide +kernel
theorem fX7_get_31 : a_fetch 96 31 = some (.ireturn, 32) := by decide +kernel
theorem fX7_put_0 : a_fetch 97 0 = some (.iload 1, 1) := by decide +kernel
theorem fX7_put_1 : a_fetch 97 1 = some (.ifCond .lt 28, 4) := by decide +kernel
theorem fX7_put_4 : a_fetch 97 4 = some (.iload 1, 5) := by decide +kernel
theorem fX7_put_5 : a_fetch 97 5 = some (.aload 0, 6) := by decide +kernel
theorem fX7_put_6 : a_fetch 97 6 = some (.invokeinterface 7 1, 9) := by decide +kernel
theorem fX7_put_9 : a_fetch 97 9 = some (.if_icmp .ge 28, 12) := by decide +kernel
theorem fX7_put_12 : a_fetch 97 12 = some (.iload 1, 13) := by decide +kernel
theorem fX7_put_13 : a_fetch 97 13 = some (.aload 0, 14) := by decide +kernel
theorem fX7_put_14 : a_fetch 97 14 = some (.invokeinterface 7 0, 17) := by decide +kernel
theorem fX7_put_17 : a_fetch 97 17 = some (.arraylength, 18) := by decide +kernel
theorem fX7_put_18 : a_fetch 97 18 = some (.if_icmp .ge 28, 21) := by decide +kernel
theorem fX7_put_21 : a_fetch 97 21 = some (.aload 0, 22) := by decide +kernel
theorem fX7_put_22 : a_fetch 97 22 = some (.invokeinterface 7 0, 25) := by decide +kernel
theorem fX7_put_25 : a_fetch 97 25 = some (.iload 1, 26) := by decide +kernel
theorem fX7_put_26 : a_fetch 97 26 = some (.iload 2, 27) := by decide +kernel
theorem fX7_put_27 : a_fetch 97 27 = some (.iastore, 28) := by decide +kernel
theorem fX7_put_28 : a_fetch 97 28 = some (.return_, 29) := by decide +kernel
theorem fX7_add_0 : a_fetch 98 0 = some (.aload 0, 1) := by decide +kernel
theorem fX7_add_1 : a_fetch 98 1 = some (.invokeinterface 7 1, 4) := by decide +kernel
theorem fX7_add_4 : a_fetch 98 4 = some (.ifCond .lt 39, 7) := by decide +kernel
theorem fX7_add_7 : a_fetch 98 7 = some (.aload 0, 8) := by decide +kernel
theorem fX7_add_8 : a_fetch 98 8 = some (.invokeinterface 7 1, 11) := by decide +kernel
theorem fX7_add_11 : a_fetch 98 11 = some (.aload 0, 12) := by decide +kernel
theorem fX7_add_12 : a_fetch 98 12 = some (.invokeinterface 7 0, 15) := by decide +kernel
theorem fX7_add_15 : a_fetch 98 15 = some (.arraylength, 16) := by decide +kernel
theorem fX7_add_16 : a_fetch 98 16 = some (.if_icmp .ge 39, 19) := by decide +kernel
theorem fX7_add_19 : a_fetch 98 19 = some (.aload 0, 20) := by decide +kernel
theorem fX7_add_20 : a_fetch 98 20 = some (.invokeinterface 7 0, 23) := by decide +kernel
theorem fX7_add_23 : a_fetch 98 23 = some (.aload 0, 24) := by decide +kernel
theorem fX7_add_24 : a_fetch 98 24 = some (.invokeinterface 7 1, 27) := by decide +kernel
theorem fX7_add_27 : a_fetch 98 27 = some (.iload 1, 28) := by decide +kernel
theorem fX7_add_28 : a_fetch 98 28 = some (.iastore, 29) := by decide +kernel
theorem fX7_add_29 : a_fetch 98 29 = some (.aload 0, 30) := by decide +kernel
theorem fX7_add_30 : a_fetch 98 30 = some (.dup, 31) := by decide +kernel
theorem fX7_add_31 : a_fetch 98 31 = some (.invokeinterface 7 1, 34) := by decide +kernel
theorem fX7_add_34 : a_fetch 98 34 = some (.iconst 1, 35) := by decide +kernel
theorem fX7_add_35 : a_fetch 98 35 = some (.iadd, 36) := by decide +kernel
theorem fX7_add_36 : a_fetch 98 36 = some (.multianewarray 7 1, 39) := by decide +kernel
theorem fX7_add_39 : a_fetch 98 39 = some (.return_, 40) := by decide +kernel
theorem fX7_insert_0 : a_fetch 99 0 = some (.aload 0, 1) := by decide +kernel
theorem fX7_insert_1 : a_fetch 99 1 = some (.iload 2, 2) := by decide +kernel
theorem fX7_insert_2 : a_fetch 99 2 = some (.invokevirtual 98, 5) := by decide +kernel
theorem fX7_insert_5 : a_fetch 99 5 = some (.aload 0, 6) := by decide +kernel
theorem fX7_insert_6 : a_fetch 99 6 = some (.invokeinterface 7 1, 9) := by decide +kernel
theorem fX7_insert_9 : a_fetch 99 9 = some (.iconst 1, 10) := by decide +kernel
theorem fX7_insert_10 : a_fetch 99 10 = some (.isub, 11) := by decide +kernel
theorem fX7_insert_11 : a_fetch 99 11 = some (.istore 3, 12) := by decide +kernel
theorem fX7_insert_12 : a_fetch 99 12 = some (.iload 3, 13) := by decide +kernel
theorem fX7_insert_13 : a_fetch 99 13 = some (.iload 1, 14) := by decide +kernel
theorem fX7_insert_14 : a_fetch 99 14 = some (.if_icmp .le 35, 17) := by decide +kernel
theorem fX7_insert_17 : a_fetch 99 17 = some (.aload 0, 18) := by decide +kernel
theorem fX7_insert_18 : a_fetch 99 18 = some (.iload 3, 19) := by decide +kernel
theorem fX7_insert_19 : a_fetch 99 19 = some (.aload 0, 20) := by decide +kernel
theorem fX7_insert_20 : a_fetch 99 20 = some (.iload 3, 21) := by decide +kernel
theorem fX7_insert_21 : a_fetch 99 21 = some (.iconst 1, 22) := by decide +kernel
theorem fX7_insert_22 : a_fetch 99 22 = some (.isub, 23) := by decide +kernel
theorem fX7_insert_23 : a_fetch 99 23 = some (.invokevirtual 96, 26) := by decide +kernel
theorem fX7_insert_26 : a_fetch 99 26 = some (.invokevirtual 97, 29) := by decide +kernel
theorem fX7_insert_29 : a_fetch 99 29 = some (.iinc 3 (-1), 32) := by decide +kernel
theorem fX7_insert_32 : a_fetch 99 32 = some (.goto 12, 35) := by decide +kernel
theorem fX7_insert_35 : a_fetch 99 35 = some (.aload 0, 36) := by decide +kernel
theorem fX7_insert_36 : a_fetch 99 36 = some (.iload 1, 37) := by decide +kernel
theorem fX7_insert_37 : a_fetch 99 37 = some (.iload 2, 38) := by decide +kernel
theorem fX7_insert_38 : a_fetch 99 38 = some (.invokevirtual 97, 41) := by decide +kernel
theorem fX7_insert_41 : a_fetch 99 41 = some (.return_, 42) := by decide +kernel
theorem fX7_cut_0 : a_fetch 100 0 = some (.iload 1, 1) := by decide +kernel
theorem fX7_cut_1 : a_fetch 100 1 = some (.ifCond .lt 17, 4) := by decide +kernel
theorem fX7_cut_4 : a_fetch 100 4 = some (.iload 1, 5) := by decide +kernel
theorem fX7_cut_5 : a_fetch 100 5 = some (.aload 0, 6) := by decide +kernel
theorem fX7_cut_6 : a_fetch 100 6 = some (.invokeinterface 7 1, 9) := by decide +kernel
theorem fX7_cut_9 : a_fetch 100 9 = some (.if_icmp .ge 17, 12) := by decide +kernel
theorem fX7_cut_12 : a_fetch 100 12 = some (.aload 0, 13) := by decide +kernel
theorem fX7_cut_13 : a_fetch 100 13 = some (.iload 1, 14) := by decide +kernel
theorem fX7_cut_14 : a_fetch 100 14 = some (.multianewarray 7 1, 17) := by decide +kernel
theorem fX7_cut_17 : a_fetch 100 17 = some (.return_, 18) := by decide +kernel
theorem fX7_fill_0 : a_fetch 101 0 = some (.aload 0, 1) := by decide +kernel
theorem fX7_fill_1 : a_fetch 101 1 = some (.iload 1, 2) := by decide +kernel
theorem fX7_fill_2 : a_fetch 101 2 = some (.iconst 0, 3) := by decide +kernel
theorem fX7_fill_3 : a_fetch 101 3 = some (.invokestatic 289, 6) := by decide +kernel
theorem fX7_fill_6 : a_fetch 101 6 = some (.aload 0, 7) := by decide +kernel
theorem fX7_fill_7 : a_fetch 101 7 = some (.invokeinterface 7 0, 10) := by decide +kernel
theorem fX7_fill_10 : a_fetch 101 10 = some (.arraylength, 11) := by decide +kernel
theorem fX7_fill_11 : a_fetch 101 11 = some (.invokestatic 290, 14) := by decide +kernel
theorem fX7_fill_14 : a_fetch 101 14 = some (.multianewarray 7 1, 17) := by decide +kernel
theorem fX7_fill_17 : a_fetch 101 17 = some (.iconst 0, 18) := by decide +kernel
theorem fX7_fill_18 : a_fetch 101 18 = some (.istore 3, 19) := by decide +kernel
theorem fX7_fill_19 : a_fetch 101 19 = some (.iload 3, 20) := by decide +kernel
theorem fX7_fill_20 : a_fetch 101 20 = some (.aload 0, 21) := by decide +kernel
theorem fX7_fill_21 : a_fetch 101 21 = some (.invokeinterface 7 1, 24) := by decide +kernel
theorem fX7_fill_24 : a_fetch 101 24 = some (.if_icmp .ge 39, 27) := by decide +kernel
theorem fX7_fill_27 : a_fetch 101 27 = some (.aload 0, 28) := by decide +kernel
theorem fX7_fill_28 : a_fetch 101 28 = some (.iload 3, 29) := by decide +kernel
theorem fX7_fill_29 : a_fetch 101 29 = some (.iload 2, 30) := by decide +kernel
theorem fX7_fill_30 : a_fetch 101 30 = some (.invokevirtual 97, 33) := by decide +kernel
theorem fX7_fill_33 : a_fetch 101 33 = some (.iinc 3 1, 36) := by decide +kernel
theorem fX7_fill_36 : a_fetch 101 36 = some (.goto 19, 39) := by decide +kernel
theorem fX7_fill_39 : a_fetch 101 39 = some (.return_, 40) := by decide +kernel
theorem fX7_copy_0 : a_fetch 102 0 = some (.aload 0, 1) := by decide +kernel
theorem fX7_copy_1 : a_fetch 102 1 = some (.aload 1, 2) := by decide +kernel
theorem fX7_copy_2 : a_fetch 102 2 = some (.invokeinterface 7 1, 5) := by decide +kernel
theorem fX7_copy_5 : a_fetch 102 5 = some (.aload 0, 6) := by decide +kernel
theorem fX7_copy_6 : a_fetch 102 6 = some (.invokeinterface 7 0, 9) := by decide +kernel
theorem fX7_copy_9 : a_fetch 102 9 = some (.arraylength, 10) := by decide +kernel
theorem fX7_copy_10 : a_fetch 102 10 = some (.invokestatic 290, 13) := by decide +kernel
theorem fX7_copy_13 : a_fetch 102 13 = some (.multianewarray 7 1, 16) := by decide +kernel
theorem fX7_copy_16 : a_fetch 102 16 = some (.iconst 0, 17) := by decide +kernel
theorem fX7_copy_17 : a_fetch 102 17 = some (.istore 2, 18) := by decide +kernel
theorem fX7_copy_18 : a_fetch 102 18 = some (.iload 2, 19) := by decide +kernel
theorem fX7_copy_19 : a_fetch 102 19 = some (.aload 0, 20) := by decide +kernel
theorem fX7_copy_20 : a_fetch 102 20 = some (.invokeinterface 7 1, 23) := by decide +kernel
theorem fX7_copy_23 : a_fetch 102 23 = some (.if_icmp .ge 42, 26) := by decide +kernel
theorem fX7_copy_26 : a_fetch 102 26 = some (.aload 0, 27) := by decide +kernel
theorem fX7_copy_27 : a_fetch 102 27 = some (.iload 2, 28) := by decide +kernel
theorem fX7_copy_28 : a_fetch 102 28 = some (.aload 1, 29) := by decide +kernel
theorem fX7_copy_29 : a_fetch 102 29 = some (.iload 2, 30) := by decide +kernel
theorem fX7_copy_30 : a_fetch 102 30 = some (.invokevirtual 96, 33) := by decide +kernel
theorem fX7_copy_33 : a_fetch 102 33 = some (.invokevirtual 97, 36) := by decide +kernel
theorem fX7_copy_36 : a_fetch 102 36 = some (.iinc 2 1, 39) := by decide +kernel
theorem fX7_copy_39 : a_fetch 102 39 = some (.goto 18, 42) := by decide +kernel
theorem fX7_copy_42 : a_fetch 102 42 = some (.return_, 43) := by decide +kernel
theorem fX7_find_0 : a_fetch 103 0 = some (.iconst 0, 1) := by decide +kernel
theorem fX7_find_1 : a_fetch 103 1 = some (.istore 2, 2) := by decide +kernel
theorem fX7_find_2 : a_fetch 103 2 = some (.iload 2, 3) := by decide +kernel
theorem fX7_find_3 : a_fetch 103 3 = some (.aload 0, 4) := by decide +kernel
theorem fX7_find_4 : a_fetch 103 4 = some (.invokeinterface 7 1, 7) := by decide +kernel
theorem fX7_find_7 : a_fetch 103 7 = some (.if_icmp .ge 27, 10) := by decide +kernel
theorem fX7_find_10 : a_fetch 103 10 = some (.aload 0, 11) := by decide +kernel
theorem fX7_find_11 : a_fetch 103 11 = some (.iload 2, 12) := by decide +kernel
theorem fX7_find_12 : a_fetch 103 12 = some (.invokevirtual 96, 15) := by decide +kernel
theorem fX7_find_15 : a_fetch 103 15 = some (.iload 1, 16) := by decide +kernel
theorem fX7_find_16 : a_fetch 103 16 = some (.if_icmp .ne 21, 19) := by decide +kernel
theorem fX7_find_19 : a_fetch 103 19 = some (.iload 2, 20) := by decide +kernel
theorem fX7_find_20 : a_fetch 103 20 = some (.ireturn, 21) := by decide +kernel
theorem fX7_find_21 : a_fetch 103 21 = some (.iinc 2 1, 24) := by decide +kernel
theorem fX7_find_24 : a_fetch 103 24 = some (.goto 2, 27) := by decide +kernel
theorem fX7_find_27 : a_fetch 103 27 = some (.iconst (-1), 28) := by decide +kernel
theorem fX7_find_28 : a_fetch 103 28 = some (.ireturn, 29) := by decide +kernel
theorem fX7_count_0 : a_fetch 104 0 = some (.iconst 0, 1) := by decide +kernel
theorem fX7_count_1 : a_fetch 104 1 = some (.istore 2, 2) := by decide +kernel
theorem fX7_count_2 : a_fetch 104 2 = some (.iconst 0, 3) := by decide +kernel
theorem fX7_count_3 : a_fetch 104 3 = some (.istore 3, 4) := by decide +kernel
theorem fX7_count_4 : a_fetch 104 4 = some (.iload 3, 5) := by decide +kernel
theorem fX7_count_5 : a_fetch 104 5 = some (.aload 0, 6) := by decide +kernel
theorem fX7_count_6 : a_fetch 104 6 = some (.invokeinterface 7 1, 9) := by decide +kernel
theorem fX7_count_9 : a_fetch 104 9 = some (.if_icmp .ge 30, 12) := by decide +kernel
theorem fX7_count_12 : a_fetch 104 12 = some (.aload 0, 13) := by decide +kernel
theorem fX7_count_13 : a_fetch 104 13 = some (.iload 3, 14) := by decide +kernel
theorem fX7_count_14 : a_fetch 104 14 = some (.invokevirtual 96, 17) := by decide +kernel
theorem fX7_count_17 : a_fetch 104 17 = some (.iload 1, 18) := by decide +kernel
theorem fX7_count_18 : a_fetch 104 18 = some (.if_icmp .ne 24, 21) := by decide +kernel
theorem fX7_count_21 : a_fetch 104 21 = some (.iinc 2 1, 24) := by decide +kernel
theorem fX7_count_24 : a_fetch 104 24 = some (.iinc 3 1, 27) := by decide +kernel
theorem fX7_count_27 : a_fetch 104 27 = some (.goto 4, 30) := by decide +kernel
theorem fX7_count_30 : a_fetch 104 30 = some (.iload 2, 31) := by decide +kernel
theorem fX7_count_31 : a_fetch 104 31 = some (.ireturn, 32) := by decide +kernel
theorem fX8_init_0 : a_fetch 105 0 = some (.aload 0, 1) := by decide +kernel
theorem fX8_init_1 : a_fetch 105 1 = some (.monitorenter, 4) := by decide +kernel
theorem fX8_init_4 : a_fetch 105 4 = some (.aload 0, 5) := by decide +kernel
theorem fX8_init_5 : a_fetch 105 5 = some (.iconst (-1), 6) := by decide +kernel
theorem fX8_init_6 : a_fetch 105 6 = some (.multianewarray 8 1, 9) := by decide +kernel
theorem fX8_init_9 : a_fetch 105 9 = some (.aload 0, 10) := by decide +kernel
theorem fX8_init_10 : a_fetch 105 10 = some (.iconst (-1), 11) := by decide +kernel
theorem fX8_init_11 : a_fetch 105 11 = some (.multianewarray 8 2, 14) := by decide +kernel
theorem fX8_init_14 : a_fetch 105 14 = some (.return_, 15) := by decide +kernel
theorem fX8_count_0 : a_fetch 106 0 = some (.iload 2, 1) := by decide +kernel
theorem fX8_count_1 : a_fetch 106 1 = some (.ifCond .eq 32, 4) := by decide +kernel
theorem fX8_count_4 : a_fetch 106 4 = some (.aload 0, 5) := by decide +kernel
theorem fX8_count_5 : a_fetch 106 5 = some (.invokeinterface 8 1, 8) := by decide +kernel
theorem fX8_count_8 : a_fetch 106 8 = some (.iconst (-1), 9) := by decide +kernel
theorem fX8_count_9 : a_fetch 106 9 = some (.if_icmp .ne 17, 12) := by decide +kernel
theorem fX8_count_12 : a_fetch 106 12 = some (.aload 0, 13) := by decide +kernel
theorem fX8_count_13 : a_fetch 106 13 = some (.iload 1, 14) := by decide +kernel
theorem fX8_count_14 : a_fetch 106 14 = some (.multianewarray 8 1, 17) := by decide +kernel
theorem fX8_count_17 : a_fetch 106 17 = some (.aload 0, 18) := by decide +kernel
theorem fX8_count_18 : a_fetch 106 18 = some (.iload 1, 19) := by decide +kernel
theorem fX8_count_19 : a_fetch 106 19 = some (.multianewarray 8 2, 22) := by decide +kernel
theorem fX8_count_22 : a_fetch 106 22 = some (.aload 0, 23) := by decide +kernel
theorem fX8_count_23 : a_fetch 106 23 = some (.dup, 24) := by decide +kernel
theorem fX8_count_24 : a_fetch 106 24 = some (.invokeinterface 8 3, 27) := by decide +kernel
theorem fX8_count_27 : a_fetch 106 27 = some (.iconst 1, 28) := by decide +kernel
theorem fX8_count_28 : a_fetch 106 28 = some (.iadd, 29) := by decide +kernel
theorem fX8_count_29 : a_fetch 106 29 = some (.multianewarray 8 3, 32) := by decide +kernel
theorem fX8_count_32 : a_fetch 106 32 = some (.aload 0, 33) := by decide +kernel
theorem fX8_count_33 : a_fetch 106 33 = some (.dup, 34) := by decide +kernel
theorem fX8_count_34 : a_fetch 106 34 = some (.invokeinterface 8 4, 37) := by decide +kernel
theorem fX8_count_37 : a_fetch 106 37 = some (.iload 2, 38) := by decide +kernel
theorem fX8_count_38 : a_fetch 106 38 = some (.i2l, 39) := by decide +kernel
theorem fX8_count_39 : a_fetch 106 39 = some (.ladd, 40) := by decide +kernel
theorem fX8_count_40 : a_fetch 106 40 = some (.multianewarray 8 4, 43) := by decide +kernel
theorem fX8_count_43 : a_fetch 106 43 = some (.aload 0, 44) := by decide +kernel
theorem fX8_count_44 : a_fetch 106 44 = some (.aload 0, 45) := by decide +kernel
theorem fX8_count_45 : a_fetch 106 45 = some (.invokeinterface 8 0, 48) := by decide +kernel
theorem fX8_count_48 : a_fetch 106 48 = some (.ifCond .ne 55, 51) := by decide +kernel
theorem fX8_count_51 : a_fetch 106 51 = some (.iload 2, 52) := by decide +kernel
theorem fX8_count_52 : a_fetch 106 52 = some (.goto 63, 55) := by decide +kernel
theorem fX8_count_55 : a_fetch 106 55 = some (.aload 0, 56) := by decide +kernel
theorem fX8_count_56 : a_fetch 106 56 = some (.invokeinterface 8 5, 59) := by decide +kernel
theorem fX8_count_59 : a_fetch 106 59 = some (.iload 2, 60) := by decide +kernel
theorem fX8_count_60 : a_fetch 106 60 = some (.invokestatic 289, 63) := by decide +kernel
theorem fX8_count_63 : a_fetch 106 63 = some (.multianewarray 8 5, 66) := by decide +kernel
theorem fX8_count_66 : a_fetch 106 66 = some (.aload 0, 67) := by decide +kernel
theorem fX8_count_67 : a_fetch 106 67 = some (.aload 0, 68) := by decide +kernel
theorem fX8_count_68 : a_fetch 106 68 = some (.invokeinterface 8 0, 71) := by decide +kernel
theorem fX8_count_71 : a_fetch 106 71 = some (.ifCond .ne 78, 74) := by decide +kernel
theorem fX8_count_74 : a_fetch 106 74 = some (.iload 2, 75) := by decide +kernel
theorem fX8_count_75 : a_fetch 106 75 = some (.goto 86, 78) := by decide +kernel
theorem fX8_count_78 : a_fetch 106 78 = some (.aload 0, 79) := by decide +kernel
theorem fX8_count_79 : a_fetch 106 79 = some (.invokeinterface 8 6, 82) := by decide +kernel
theorem fX8_count_82 : a_fetch 106 82 = some (.iload 2, 83) := by decide +kernel
theorem fX8_count_83 : a_fetch 106 83 = some (.invokestatic 290, 86) := by decide +kernel
theorem fX8_count_86 : a_fetch 106 86 = some (.multianewarray 8 6, 89) := by decide +kernel
theorem fX8_count_89 : a_fetch 106 89 = some (.aload 0, 90) := by decide +kernel
theorem fX8_count_90 : a_fetch 106 90 = some (.dup, 91) := by decide +kernel
theorem fX8_count_91 : a_fetch 106 91 = some (.invokeinterface 8 0, 94) := by decide +kernel
theorem fX8_count_94 : a_fetch 106 94 = some (.iconst 1, 95) := by decide +kernel
theorem fX8_count_95 : a_fetch 106 95 = some (.iadd, 96) := by decide +kernel
theorem fX8_count_96 : a_fetch 106 96 = some (.multianewarray 8 0, 99) := by decide +kernel
theorem fX8_count_99 : a_fetch 106 99 = some (.return_, 100) := by decide +kernel
theorem fX8_answer_0 : a_fetch 107 0 = some (.iload 1, 1) := by decide +kernel
theorem fX8_answer_1 : a_fetch 107 1 = some (.tableswitch 75 24 29 #[40, 46, 52, 58, 63, 69], 40) := by decide +kernel
theorem fX8_answer_40 : a_fetch 107 40 = some (.aload 0, 41) := by decide +kernel
theorem fX8_answer_41 : a_fetch 107 41 = some (.invokeinterface 8 1, 44) := by decide +kernel
theorem fX8_answer_44 : a_fetch 107 44 = some (.i2l, 45) := by decide +kernel
theorem fX8_answer_45 : a_fetch 107 45 = some (.lreturn, 46) := by decide +kernel
theorem fX8_answer_46 : a_fetch 107 46 = some (.aload 0, 47) := by decide +kernel
theorem fX8_answer_47 : a_fetch 107 47 = some (.invokeinterface 8 2, 50) := by decide +kernel
theorem fX8_answer_50 : a_fetch 107 50 = some (.i2l, 51) := by decide +kernel
theorem fX8_answer_51 : a_fetch 107 51 = some (.lreturn, 52) := by decide +kernel
theorem fX8_answer_52 : a_fetch 107 52 = some (.aload 0, 53) := by decide +kernel
theorem fX8_answer_53 : a_fetch 107 53 = some (.invokeinterface 8 3, 56) := by decide +kernel
theorem fX8_answer_56 : a_fetch 107 56 = some (.i2l, 57) := by decide +kernel
theorem fX8_answer_57 : a_fetch 107 57 = some (.lreturn, 58) := by decide +kernel
theorem fX8_answer_58 : a_fetch 107 58 = some (.aload 0, 59) := by decide +kernel
theorem fX8_answer_59 : a_fetch 107 59 = some (.invokeinterface 8 4, 62) := by decide +kernel
theorem fX8_answer_62 : a_fetch 107 62 = some (.lreturn, 63) := by decide +kernel
theorem fX8_answer_63 : a_fetch 107 63 = some (.aload 0, 64) := by decide +kernel
theorem fX8_answer_64 : a_fetch 107 64 = some (.invokeinterface 8 5, 67) := by decide +kernel
theorem fX8_answer_67 : a_fetch 107 67 = some (.i2l, 68) := by decide +kernel
theorem fX8_answer_68 : a_fetch 107 68 = some (.lreturn, 69) := by decide +kernel
theorem fX8_answer_69 : a_fetch 107 69 = some (.aload 0, 70) := by decide +kernel
theorem fX8_answer_70 : a_fetch 107 70 = some (.invokeinterface 8 6, 73) := by decide +kernel
theorem fX8_answer_73 : a_fetch 107 73 = some (.i2l, 74) := by decide +kernel
theorem fX8_answer_74 : a_fetch 107 74 = some (.lreturn, 75) := by decide +kernel
theorem fX8_answer_75 : a_fetch 107 75 = some (.jsr_w (-1000000000000000), 78) := by decide +kernel
theorem fX8_answer_78 : a_fetch 107 78 = some (.lreturn, 79) := by decide +kernel
theorem fX9_init_0 : a_fetch 108 0 = some (.aload 0, 1) := by decide +kernel
theorem fX9_init_1 : a_fetch 108 1 = some (.monitorenter, 4) := by decide +kernel
theorem fX9_init_4 : a_fetch 108 4 = some (.aload 0, 5) := by decide +kernel
theorem fX9_init_5 : a_fetch 108 5 = some (.new 7, 8) := by decide +kernel
theorem fX9_init_8 : a_fetch 108 8 = some (.dup, 9) := by decide +kernel
theorem fX9_init_9 : a_fetch 108 9 = some (.iconst 1600, 12) := by decide +kernel
theorem fX9_init_12 : a_fetch 108 12 = some (.invokespecial 94, 15) := by decide +kernel
theorem fX9_init_15 : a_fetch 108 15 = some (.multianewarray 9 0, 18) := by decide +kernel
theorem fX9_init_18 : a_fetch 108 18 = some (.aload 0, 19) := by decide +kernel
theorem fX9_init_19 : a_fetch 108 19 = some (.new 7, 22) := by decide +kernel
theorem fX9_init_22 : a_fetch 108 22 = some (.dup, 23) := by decide +kernel
theorem fX9_init_23 : a_fetch 108 23 = some (.iconst 123, 25) := by decide +kernel
theorem fX9_init_25 : a_fetch 108 25 = some (.invokespecial 94, 28) := by decide +kernel
theorem fX9_init_28 : a_fetch 108 28 = some (.multianewarray 9 1, 31) := by decide +kernel
theorem fX9_init_31 : a_fetch 108 31 = some (.aload 0, 32) := by decide +kernel
theorem fX9_init_32 : a_fetch 108 32 = some (.new 7, 35) := by decide +kernel
theorem fX9_init_35 : a_fetch 108 35 = some (.dup, 36) := by decide +kernel
theorem fX9_init_36 : a_fetch 108 36 = some (.iconst 6, 38) := by decide +kernel
theorem fX9_init_38 : a_fetch 108 38 = some (.invokespecial 94, 41) := by decide +kernel
theorem fX9_init_41 : a_fetch 108 41 = some (.multianewarray 9 2, 44) := by decide +kernel
theorem fX9_init_44 : a_fetch 108 44 = some (.aload 0, 45) := by decide +kernel
theorem fX9_init_45 : a_fetch 108 45 = some (.new 7, 48) := by decide +kernel
theorem fX9_init_48 : a_fetch 108 48 = some (.dup, 49) := by decide +kernel
theorem fX9_init_49 : a_fetch 108 49 = some (.iconst 60, 51) := by decide +kernel
theorem fX9_init_51 : a_fetch 108 51 = some (.invokespecial 94, 54) := by decide +kernel
theorem fX9_init_54 : a_fetch 108 54 = some (.multianewarray 9 3, 57) := by decide +kernel
theorem fX9_init_57 : a_fetch 108 57 = some (.aload 0, 58) := by decide +kernel
theorem fX9_init_58 : a_fetch 108 58 = some (.new 6, 61) := by decide +kernel
theorem fX9_init_61 : a_fetch 108 61 = some (.dup, 62) := by decide +kernel
theorem fX9_init_62 : a_fetch 108 62 = some (.invokespecial 56, 65) := by decide +kernel
theorem fX9_init_65 : a_fetch 108 65 = some (.multianewarray 9 4, 68) := by decide +kernel
theorem fX9_init_68 : a_fetch 108 68 = some (.aload 0, 69) := by decide +kernel
theorem fX9_init_69 : a_fetch 108 69 = some (.new 2, 72) := by decide +kernel
theorem fX9_init_72 : a_fetch 108 72 = some (.dup, 73) := by decide +kernel
theorem fX9_init_73 : a_fetch 108 73 = some (.invokespecial 16, 76) := by decide +kernel
theorem fX9_init_76 : a_fetch 108 76 = some (.multianewarray 9 5, 79) := by decide +kernel
theorem fX9_init_79 : a_fetch 108 79 = some (.aload 0, 80) := by decide +kernel
theorem fX9_init_80 : a_fetch 108 80 = some (.new 0, 83) := by decide +kernel
theorem fX9_init_83 : a_fetch 108 83 = some (.dup, 84) := by decide +kernel
theorem fX9_init_84 : a_fetch 108 84 = some (.invokespecial 0, 87) := by decide +kernel
theorem fX9_init_87 : a_fetch 108 87 = some (.multianewarray 9 6, 90) := by decide +kernel
theorem fX9_init_90 : a_fetch 108 90 = some (.aload 0, 91) := by decide +kernel
theorem fX9_init_91 : a_fetch 108 91 = some (.new 5, 94) := by decide +kernel
theorem fX9_init_94 : a_fetch 108 94 = some (.dup, 95) := by decide +kernel
theorem fX9_init_95 : a_fetch 108 95 = some (.invokespecial 50, 98) := by decide +kernel
theorem fX9_init_98 : a_fetch 108 98 = some (.multianewarray 9 7, 101) := by decide +kernel
theorem fX9_init_101 : a_fetch 108 101 = some (.aload 0, 102) := by decide +kernel
theorem fX9_init_102 : a_fetch 108 102 = some (.new 4, 105) := by decide +kernel
theorem fX9_init_105 : a_fetch 108 105 = some (.dup, 106) := by decide +kernel
theorem fX9_init_106 : a_fetch 108 106 = some (.invokespecial 41, 109) := by decide +kernel
theorem fX9_init_109 : a_fetch 108 109 = some (.multianewarray 9 8, 112) := by decide +kernel
theorem fX9_init_112 : a_fetch 108 112 = some (.aload 0, 113) := by decide +kernel
theorem fX9_init_113 : a_fetch 108 113 = some (.new 4, 116) := by decide +kernel
theorem fX9_init_116 : a_fetch 108 116 = some (.dup, 117) := by decide +kernel
theorem fX9_init_117 : a_fetch 108 117 = some (.invokespecial 41, 120) := by decide +kernel
theorem fX9_init_120 : a_fetch 108 120 = some (.multianewarray 9 9, 123) := by decide +kernel
theorem fX9_init_123 : a_fetch 108 123 = some (.aload 0, 124) := by decide +kernel
theorem fX9_init_124 : a_fetch 108 124 = some (.new 1, 127) := by decide +kernel
theorem fX9_init_127 : a_fetch 108 127 = some (.dup, 128) := by decide +kernel
theorem fX9_init_128 : a_fetch 108 128 = some (.invokespecial 8, 131) := by decide +kernel
theorem fX9_init_131 : a_fetch 108 131 = some (.multianewarray 9 10, 134) := by decide +kernel
theorem fX9_init_134 : a_fetch 108 134 = some (.aload 0, 135) := by decide +kernel
theorem fX9_init_135 : a_fetch 108 135 = some (.new 1, 138) := by decide +kernel
theorem fX9_init_138 : a_fetch 108 138 = some (.dup, 139) := by decide +kernel
theorem fX9_init_139 : a_fetch 108 139 = some (.invokespecial 8, 142) := by decide +kernel
theorem fX9_init_142 : a_fetch 108 142 = some (.multianewarray 9 11, 145) := by decide +kernel
theorem fX9_init_145 : a_fetch 108 145 = some (.aload 0, 146) := by decide +kernel
theorem fX9_init_146 : a_fetch 108 146 = some (.iconst (-1), 147) := by decide +kernel
theorem fX9_init_147 : a_fetch 108 147 = some (.multianewarray 9 12, 150) := by decide +kernel
theorem fX9_init_150 : a_fetch 108 150 = some (.aload 0, 151) := by decide +kernel
theorem fX9_init_151 : a_fetch 108 151 = some (.jsr_w 1, 152) := by decide +kernel
theorem fX9_init_152 : a_fetch 108 152 = some (.multianewarray 9 13, 155) := by decide +kernel
theorem fX9_init_155 : a_fetch 108 155 = some (.aload 0, 156) := by decide +kernel
theorem fX9_init_156 : a_fetch 108 156 = some (.invokeinterface 9 2, 159) := by decide +kernel
theorem fX9_init_159 : a_fetch 108 159 = some (.iconst 6, 161) := by decide +kernel
theorem fX9_init_161 : a_fetch 108 161 = some (.iconst 0, 162) := by decide +kernel
theorem fX9_init_162 : a_fetch 108 162 = some (.invokevirtual 101, 165) := by decide +kernel
theorem fX9_init_165 : a_fetch 108 165 = some (.aload 0, 166) := by decide +kernel
theorem fX9_init_166 : a_fetch 108 166 = some (.invokeinterface 9 10, 169) := by decide +kernel
theorem fX9_init_169 : a_fetch 108 169 = some (.invokevirtual 9, 172) := by decide +kernel
theorem fX9_init_172 : a_fetch 108 172 = some (.aload 0, 173) := by decide +kernel
theorem fX9_init_173 : a_fetch 108 173 = some (.invokeinterface 9 8, 176) := by decide +kernel
theorem fX9_init_176 : a_fetch 108 176 = some (.aload 0, 177) := by decide +kernel
theorem fX9_init_177 : a_fetch 108 177 = some (.invokeinterface 9 10, 180) := by decide +kernel
theorem fX9_init_180 : a_fetch 108 180 = some (.invokevirtual 42, 183) := by decide +kernel
theorem fX9_init_183 : a_fetch 108 183 = some (.return_, 184) := by decide +kernel
theorem fX9_feed_0 : a_fetch 109 0 = some (.aload 0, 1) := by decide +kernel
theorem fX9_feed_1 : a_fetch 109 1 = some (.invokeinterface 9 0, 4) := by decide +kernel
theorem fX9_feed_4 : a_fetch 109 4 = some (.invokevirtual 95, 7) := by decide +kernel
theorem fX9_feed_7 : a_fetch 109 7 = some (.iconst 20, 9) := by decide +kernel
theorem fX9_feed_9 : a_fetch 109 9 = some (.iadd, 10) := by decide +kernel
theorem fX9_feed_10 : a_fetch 109 10 = some (.iconst 1600, 13) := by decide +kernel
theorem fX9_feed_13 : a_fetch 109 13 = some (.if_icmp .le 22, 16) := by decide +kernel
theorem fX9_feed_16 : a_fetch 109 16 = some (.aload 0, 17) := by decide +kernel
theorem fX9_feed_17 : a_fetch 109 17 = some (.iconst 0, 18) := by decide +kernel
theorem fX9_feed_18 : a_fetch 109 18 = some (.invokevirtual 141, 21) := by decide +kernel
theorem fX9_feed_21 : a_fetch 109 21 = some (.ireturn, 22) := by decide +kernel
theorem fX9_feed_22 : a_fetch 109 22 = some (.aload 0, 23) := by decide +kernel
theorem fX9_feed_23 : a_fetch 109 23 = some (.iload 1, 24) := by decide +kernel
theorem fX9_feed_24 : a_fetch 109 24 = some (.invokevirtual 146, 27) := by decide +kernel
theorem fX9_feed_27 : a_fetch 109 27 = some (.aload 0, 28) := by decide +kernel
theorem fX9_feed_28 : a_fetch 109 28 = some (.iload 2, 29) := by decide +kernel
theorem fX9_feed_29 : a_fetch 109 29 = some (.invokevirtual 146, 32) := by decide +kernel
theorem fX9_feed_32 : a_fetch 109 32 = some (.aload 0, 33) := by decide +kernel
theorem fX9_feed_33 : a_fetch 109 33 = some (.iload 3, 34) := by decide +kernel
theorem fX9_feed_34 : a_fetch 109 34 = some (.invokevirtual 146, 37) := by decide +kernel
theorem fX9_feed_37 : a_fetch 109 37 = some (.aload 0, 38) := by decide +kernel
theorem fX9_feed_38 : a_fetch 109 38 = some (.iload 4, 40) := by decide +kernel
theorem fX9_feed_40 : a_fetch 109 40 = some (.invokevirtual 146, 43) := by decide +kernel
theorem fX9_feed_43 : a_fetch 109 43 = some (.aload 0, 44) := by decide +kernel
theorem fX9_feed_44 : a_fetch 109 44 = some (.iload 5, 46) := by decide +kernel
theorem fX9_feed_46 : a_fetch 109 46 = some (.invokevirtual 146, 49) := by decide +kernel
theorem fX9_feed_49 : a_fetch 109 49 = some (.aload 0, 50) := by decide +kernel
theorem fX9_feed_50 : a_fetch 109 50 = some (.invokeinterface 9 0, 53) := by decide +kernel
theorem fX9_feed_53 : a_fetch 109 53 = some (.invokevirtual 95, 56) := by decide +kernel
theorem fX9_feed_56 : a_fetch 109 56 = some (.ireturn, 57) := by decide +kernel
theorem fX9_end_0 : a_fetch 110 0 = some (.iload 1, 1) := by decide +kernel
theorem fX9_end_1 : a_fetch 110 1 = some (.ifCond .lt 15, 4) := by decide +kernel
theorem fX9_end_4 : a_fetch 110 4 = some (.iload 1, 5) := by decide +kernel
theorem fX9_end_5 : a_fetch 110 5 = some (.aload 0, 6) := by decide +kernel
theorem fX9_end_6 : a_fetch 110 6 = some (.invokeinterface 9 0, 9) := by decide +kernel
theorem fX9_end_9 : a_fetch 110 9 = some (.invokevirtual 95, 12) := by decide +kernel
theorem fX9_end_12 : a_fetch 110 12 = some (.if_icmp .le 23, 15) := by decide +kernel
theorem fX9_end_15 : a_fetch 110 15 = some (.aload 0, 16) := by decide +kernel
theorem fX9_end_16 : a_fetch 110 16 = some (.iconst 0, 17) := by decide +kernel
theorem fX9_end_17 : a_fetch 110 17 = some (.invokevirtual 141, 20) := by decide +kernel
theorem fX9_end_20 : a_fetch 110 20 = some (.pop, 21) := by decide +kernel
theorem fX9_end_21 : a_fetch 110 21 = some (.iconst 0, 22) := by decide +kernel
theorem fX9_end_22 : a_fetch 110 22 = some (.ireturn, 23) := by decide +kernel
theorem fX9_end_23 : a_fetch 110 23 = some (.aload 0, 24) := by decide +kernel
theorem fX9_end_24 : a_fetch 110 24 = some (.invokeinterface 9 0, 27) := by decide +kernel
theorem fX9_end_27 : a_fetch 110 27 = some (.iload 1, 28) := by decide +kernel
theorem fX9_end_28 : a_fetch 110 28 = some (.invokevirtual 100, 31) := by decide +kernel
theorem fX9_end_31 : a_fetch 110 31 = some (.iconst 1, 32) := by decide +kernel
theorem fX9_end_32 : a_fetch 110 32 = some (.ireturn, 33) := by decide +kernel
theorem fX9_city_0 : a_fetch 111 0 = some (.aload 0, 1) := by decide +kernel
theorem fX9_city_1 : a_fetch 111 1 = some (.invokeinterface 9 4, 4) := by decide +kernel
theorem fX9_city_4 : a_fetch 111 4 = some (.aload 0, 5) := by decide +kernel
theorem fX9_city_5 : a_fetch 111 5 = some (.invokeinterface 9 0, 8) := by decide +kernel
theorem fX9_city_8 : a_fetch 111 8 = some (.invokevirtual 58, 11) := by decide +kernel
theorem fX9_city_11 : a_fetch 111 11 = some (.aload 0, 12) := by decide +kernel
theorem fX9_city_12 : a_fetch 111 12 = some (.invokeinterface 9 0, 15) := by decide +kernel
theorem fX9_city_15 : a_fetch 111 15 = some (.iconst 0, 16) := by decide +kernel
theorem fX9_city_16 : a_fetch 111 16 = some (.invokevirtual 100, 19) := by decide +kernel
theorem fX9_city_19 : a_fetch 111 19 = some (.aload 0, 20) := by decide +kernel
theorem fX9_city_20 : a_fetch 111 20 = some (.invokeinterface 9 4, 23) := by decide +kernel
theorem fX9_city_23 : a_fetch 111 23 = some (.aload 0, 24) := by decide +kernel
theorem fX9_city_24 : a_fetch 111 24 = some (.invokeinterface 9 11, 27) := by decide +kernel
theorem fX9_city_27 : a_fetch 111 27 = some (.invokevirtual 77, 30) := by decide +kernel
theorem fX9_city_30 : a_fetch 111 30 = some (.aload 0, 31) := by decide +kernel
theorem fX9_city_31 : a_fetch 111 31 = some (.invokeinterface 9 4, 34) := by decide +kernel
theorem fX9_city_34 : a_fetch 111 34 = some (.invokeinterface 6 11, 37) := by decide +kernel
theorem fX9_city_37 : a_fetch 111 37 = some (.ifCond .eq 46, 40) := by decide +kernel
theorem fX9_city_40 : a_fetch 111 40 = some (.aload 0, 41) := by decide +kernel
theorem fX9_city_41 : a_fetch 111 41 = some (.iconst 1, 42) := by decide +kernel
theorem fX9_city_42 : a_fetch 111 42 = some (.invokevirtual 141, 45) := by decide +kernel
theorem fX9_city_45 : a_fetch 111 45 = some (.ireturn, 46) := by decide +kernel
theorem fX9_city_46 : a_fetch 111 46 = some (.aload 0, 47) := by decide +kernel
theorem fX9_city_47 : a_fetch 111 47 = some (.invokeinterface 9 11, 50) := by decide +kernel
theorem fX9_city_50 : a_fetch 111 50 = some (.astore 1, 51) := by decide +kernel
theorem fX9_city_51 : a_fetch 111 51 = some (.aload 0, 52) := by decide +kernel
theorem fX9_city_52 : a_fetch 111 52 = some (.aload 0, 53) := by decide +kernel
theorem fX9_city_53 : a_fetch 111 53 = some (.invokeinterface 9 10, 56) := by decide +kernel
theorem fX9_city_56 : a_fetch 111 56 = some (.multianewarray 9 11, 59) := by decide +kernel
theorem fX9_city_59 : a_fetch 111 59 = some (.aload 0, 60) := by decide +kernel
theorem fX9_city_60 : a_fetch 111 60 = some (.aload 1, 61) := by decide +kernel
theorem fX9_city_61 : a_fetch 111 61 = some (.multianewarray 9 10, 64) := by decide +kernel
theorem fX9_city_64 : a_fetch 111 64 = some (.aload 0, 65) := by decide +kernel
theorem fX9_city_65 : a_fetch 111 65 = some (.invokeinterface 9 8, 68) := by decide +kernel
theorem fX9_city_68 : a_fetch 111 68 = some (.aload 0, 69) := by decide +kernel
theorem fX9_city_69 : a_fetch 111 69 = some (.invokeinterface 9 10, 72) := by decide +kernel
theorem fX9_city_72 : a_fetch 111 72 = some (.invokevirtual 42, 75) := by decide +kernel
theorem fX9_city_75 : a_fetch 111 75 = some (.aload 0, 76) := by decide +kernel
theorem fX9_city_76 : a_fetch 111 76 = some (.invokeinterface 9 7, 79) := by decide +kernel
theorem fX9_city_79 : a_fetch 111 79 = some (.invokevirtual 52, 82) := by decide +kernel
theorem fX9_city_82 : a_fetch 111 82 = some (.aload 0, 83) := by decide +kernel
theorem fX9_city_83 : a_fetch 111 83 = some (.invokeinterface 9 3, 86) := by decide +kernel
theorem fX9_city_86 : a_fetch 111 86 = some (.iconst 0, 87) := by decide +kernel
theorem fX9_city_87 : a_fetch 111 87 = some (.invokevirtual 100, 90) := by decide +kernel
theorem fX9_city_90 : a_fetch 111 90 = some (.aload 0, 91) := by decide +kernel
theorem fX9_city_91 : a_fetch 111 91 = some (.iconst (-1), 92) := by decide +kernel
theorem fX9_city_92 : a_fetch 111 92 = some (.multianewarray 9 12, 95) := by decide +kernel
theorem fX9_city_95 : a_fetch 111 95 = some (.aload 0, 96) := by decide +kernel
theorem fX9_city_96 : a_fetch 111 96 = some (.invokeinterface 9 10, 99) := by decide +kernel
theorem fX9_city_99 : a_fetch 111 99 = some (.invokeinterface 1 14, 102) := by decide +kernel
theorem fX9_city_102 : a_fetch 111 102 = some (.ireturn, 103) := by decide +kernel
theorem fX9_fault_0 : a_fetch 112 0 = some (.iload 1, 1) := by decide +kernel
theorem fX9_fault_1 : a_fetch 112 1 = some (.ifCond .ne 12, 4) := by decide +kernel
theorem fX9_fault_4 : a_fetch 112 4 = some (.aload 0, 5) := by decide +kernel
theorem fX9_fault_5 : a_fetch 112 5 = some (.invokeinterface 9 4, 8) := by decide +kernel
theorem fX9_fault_8 : a_fetch 112 8 = some (.invokeinterface 6 11, 11) := by decide +kernel
theorem fX9_fault_11 : a_fetch 112 11 = some (.ireturn, 12) := by decide +kernel
theorem fX9_fault_12 : a_fetch 112 12 = some (.iload 1, 13) := by decide +kernel
theorem fX9_fault_13 : a_fetch 112 13 = some (.iconst 1, 14) := by decide +kernel
theorem fX9_fault_14 : a_fetch 112 14 = some (.if_icmp .ne 27, 17) := by decide +kernel
theorem fX9_fault_17 : a_fetch 112 17 = some (.aload 0, 18) := by decide +kernel
theorem fX9_fault_18 : a_fetch 112 18 = some (.invokeinterface 9 4, 21) := by decide +kernel
theorem fX9_fault_21 : a_fetch 112 21 = some (.invokeinterface 6 12, 24) := by decide +kernel
theorem fX9_fault_24 : a_fetch 112 24 = some (.goto 28, 27) := by decide +kernel
theorem fX9_fault_27 : a_fetch 112 27 = some (.iconst (-1), 28) := by decide +kernel
theorem fX9_fault_28 : a_fetch 112 28 = some (.ireturn, 29) := by decide +kernel
theorem fX9_has_0 : a_fetch 113 0 = some (.iload 1, 1) := by decide +kernel
theorem fX9_has_1 : a_fetch 113 1 = some (.tableswitch 124 0 8 #[52, 63, 74, 85, 93, 98, 103, 108, 116], 52) := by decide +kernel
theorem fX9_has_52 : a_fetch 113 52 = some (.aload 0, 53) := by decide +kernel
theorem fX9_has_53 : a_fetch 113 53 = some (.invokeinterface 9 10, 56) := by decide +kernel
theorem fX9_has_56 : a_fetch 113 56 = some (.invokeinterface 1 0, 59) := by decide +kernel
theorem fX9_has_59 : a_fetch 113 59 = some (.invokevirtual 95, 62) := by decide +kernel
theorem fX9_has_62 : a_fetch 113 62 = some (.ireturn, 63) := by decide +kernel
theorem fX9_has_63 : a_fetch 113 63 = some (.aload 0, 64) := by decide +kernel
theorem fX9_has_64 : a_fetch 113 64 = some (.invokeinterface 9 10, 67) := by decide +kernel
theorem fX9_has_67 : a_fetch 113 67 = some (.invokeinterface 1 5, 70) := by decide +kernel
theorem fX9_has_70 : a_fetch 113 70 = some (.invokevirtual 95, 73) := by decide +kernel
theorem fX9_has_73 : a_fetch 113 73 = some (.ireturn, 74) := by decide +kernel
theorem fX9_has_74 : a_fetch 113 74 = some (.aload 0, 75) := by decide +kernel
theorem fX9_has_75 : a_fetch 113 75 = some (.invokeinterface 9 10, 78) := by decide +kernel
theorem fX9_has_78 : a_fetch 113 78 = some (.invokeinterface 1 7, 81) := by decide +kernel
theorem fX9_has_81 : a_fetch 113 81 = some (.invokevirtual 95, 84) := by decide +kernel
theorem fX9_has_84 : a_fetch 113 84 = some (.ireturn, 85) := by decide +kernel
theorem fX9_has_85 : a_fetch 113 85 = some (.aload 0, 86) := by decide +kernel
theorem fX9_has_86 : a_fetch 113 86 = some (.invokeinterface 9 8, 89) := by decide +kernel
theorem fX9_has_89 : a_fetch 113 89 = some (.invokeinterface 4 0, 92) := by decide +kernel
theorem fX9_has_92 : a_fetch 113 92 = some (.ireturn, 93) := by decide +kernel
theorem fX9_has_93 : a_fetch 113 93 = some (.aload 0, 94) := by decide +kernel
theorem fX9_has_94 : a_fetch 113 94 = some (.invokevirtual 147, 97) := by decide +kernel
theorem fX9_has_97 : a_fetch 113 97 = some (.ireturn, 98) := by decide +kernel
theorem fX9_has_98 : a_fetch 113 98 = some (.aload 0, 99) := by decide +kernel
theorem fX9_has_99 : a_fetch 113 99 = some (.invokevirtual 147, 102) := by decide +kernel
theorem fX9_has_102 : a_fetch 113 102 = some (.ireturn, 103) := by decide +kernel
theorem fX9_has_103 : a_fetch 113 103 = some (.aload 0, 104) := by decide +kernel
theorem fX9_has_104 : a_fetch 113 104 = some (.invokevirtual 148, 107) := by decide +kernel
theorem fX9_has_107 : a_fetch 113 107 = some (.ireturn, 108) := by decide +kernel
theorem fX9_has_108 : a_fetch 113 108 = some (.aload 0, 109) := by decide +kernel
theorem fX9_has_109 : a_fetch 113 109 = some (.invokeinterface 9 8, 112) := by decide +kernel
theorem fX9_has_112 : a_fetch 113 112 = some (.invokevirtual 48, 115) := by decide +kernel
theorem fX9_has_115 : a_fetch 113 115 = some (.ireturn, 116) := by decide +kernel
theorem fX9_has_116 : a_fetch 113 116 = some (.aload 0, 117) := by decide +kernel
theorem fX9_has_117 : a_fetch 113 117 = some (.invokeinterface 9 7, 120) := by decide +kernel
theorem fX9_has_120 : a_fetch 113 120 = some (.invokevirtual 51, 123) := by decide +kernel
theorem fX9_has_123 : a_fetch 113 123 = some (.ireturn, 124) := by decide +kernel
theorem fX9_has_124 : a_fetch 113 124 = some (.iconst (-1), 125) := by decide +kernel
theorem fX9_has_125 : a_fetch 113 125 = some (.ireturn, 126) := by decide +kernel
theorem fX9_letter_0 : a_fetch 114 0 = some (.iload 1, 1) := by decide +kernel
theorem fX9_letter_1 : a_fetch 114 1 = some (.ifCond .eq 11, 4) := by decide +kernel
theorem fX9_letter_4 : a_fetch 114 4 = some (.iload 1, 5) := by decide +kernel
theorem fX9_letter_5 : a_fetch 114 5 = some (.iconst 1, 6) := by decide +kernel
theorem fX9_letter_6 : a_fetch 114 6 = some (.if_icmp .eq 11, 9) := by decide +kernel
theorem fX9_letter_9 : a_fetch 114 9 = some (.iconst (-1), 10) := by decide +kernel
theorem fX9_letter_10 : a_fetch 114 10 = some (.ireturn, 11) := by decide +kernel
theorem fX9_letter_11 : a_fetch 114 11 = some (.iload 1, 12) := by decide +kernel
theorem fX9_letter_12 : a_fetch 114 12 = some (.ifCond .ne 25, 15) := by decide +kernel
theorem fX9_letter_15 : a_fetch 114 15 = some (.aload 0, 16) := by decide +kernel
theorem fX9_letter_16 : a_fetch 114 16 = some (.invokeinterface 9 10, 19) := by decide +kernel
theorem fX9_letter_19 : a_fetch 114 19 = some (.invokeinterface 1 0, 22) := by decide +kernel
theorem fX9_letter_22 : a_fetch 114 22 = some (.goto 32, 25) := by decide +kernel
theorem fX9_letter_25 : a_fetch 114 25 = some (.aload 0, 26) := by decide +kernel
theorem fX9_letter_26 : a_fetch 114 26 = some (.invokeinterface 9 10, 29) := by decide +kernel
theorem fX9_letter_29 : a_fetch 114 29 = some (.invokeinterface 1 5, 32) := by decide +kernel
theorem fX9_letter_32 : a_fetch 114 32 = some (.astore 4, 34) := by decide +kernel
theorem fX9_letter_34 : a_fetch 114 34 = some (.iload 2, 35) := by decide +kernel
theorem fX9_letter_35 : a_fetch 114 35 = some (.ifCond .lt 57, 38) := by decide +kernel
theorem fX9_letter_38 : a_fetch 114 38 = some (.iload 2, 39) := by decide +kernel
theorem fX9_letter_39 : a_fetch 114 39 = some (.aload 4, 41) := by decide +kernel
theorem fX9_letter_41 : a_fetch 114 41 = some (.invokevirtual 95, 44) := by decide +kernel
theorem fX9_letter_44 : a_fetch 114 44 = some (.if_icmp .ge 57, 47) := by decide +kernel
theorem fX9_letter_47 : a_fetch 114 47 = some (.iload 3, 48) := by decide +kernel
theorem fX9_letter_48 : a_fetch 114 48 = some (.ifCond .lt 57, 51) := by decide +kernel
theorem fX9_letter_51 : a_fetch 114 51 = some (.iload 3, 52) := by decide +kernel
theorem fX9_letter_52 : a_fetch 114 52 = some (.iconst 6, 54) := by decide +kernel
theorem fX9_letter_54 : a_fetch 114 54 = some (.if_icmp .lt 59, 57) := by decide +kernel
theorem fX9_letter_57 : a_fetch 114 57 = some (.iconst (-1), 58) := by decide +kernel
theorem fX9_letter_58 : a_fetch 114 58 = some (.ireturn, 59) := by decide +kernel
theorem fX9_letter_59 : a_fetch 114 59 = some (.aload 4, 61) := by decide +kernel
theorem fX9_letter_61 : a_fetch 114 61 = some (.iload 2, 62) := by decide +kernel
theorem fX9_letter_62 : a_fetch 114 62 = some (.invokevirtual 96, 65) := by decide +kernel
theorem fX9_letter_65 : a_fetch 114 65 = some (.iconst 5, 66) := by decide +kernel
theorem fX9_letter_66 : a_fetch 114 66 = some (.iload 3, 67) := by decide +kernel
theorem fX9_letter_67 : a_fetch 114 67 = some (.imul, 68) := by decide +kernel
theorem fX9_letter_68 : a_fetch 114 68 = some (.ishr, 69) := by decide +kernel
theorem fX9_letter_69 : a_fetch 114 69 = some (.iconst 31, 71) := by decide +kernel
theorem fX9_letter_71 : a_fetch 114 71 = some (.iand, 72) := by decide +kernel
theorem fX9_letter_72 : a_fetch 114 72 = some (.ireturn, 73) := by decide +kernel
theorem fX9_person_0 : a_fetch 115 0 = some (.aload 0, 1) := by decide +kernel
theorem fX9_person_1 : a_fetch 115 1 = some (.iload 1, 2) := by decide +kernel
theorem fX9_person_2 : a_fetch 115 2 = some (.invokevirtual 142, 5) := by decide +kernel
theorem fX9_person_5 : a_fetch 115 5 = some (.ifCond .ne 10, 8) := by decide +kernel
theorem fX9_person_8 : a_fetch 115 8 = some (.iconst (-1), 9) := by decide +kernel
theorem fX9_person_9 : a_fetch 115 9 = some (.ireturn, 10) := by decide +kernel
theorem fX9_person_10 : a_fetch 115 10 = some (.iload 2, 11) := by decide +kernel
theorem fX9_person_11 : a_fetch 115 11 = some (.tableswitch 136 0 6 #[52, 64, 76, 88, 100, 112, 124], 52) := by decide +kernel
theorem fX9_person_52 : a_fetch 115 52 = some (.aload 0, 53) := by decide +kernel
theorem fX9_person_53 : a_fetch 115 53 = some (.invokeinterface 9 10, 56) := by decide +kernel
theorem fX9_person_56 : a_fetch 115 56 = some (.invokeinterface 1 1, 59) := by decide +kernel
theorem fX9_person_59 : a_fetch 115 59 = some (.iload 1, 60) := by decide +kernel
theorem fX9_person_60 : a_fetch 115 60 = some (.invokevirtual 96, 63) := by decide +kernel
theorem fX9_person_63 : a_fetch 115 63 = some (.ireturn, 64) := by decide +kernel
theorem fX9_person_64 : a_fetch 115 64 = some (.aload 0, 65) := by decide +kernel
theorem fX9_person_65 : a_fetch 115 65 = some (.invokeinterface 9 8, 68) := by decide +kernel
theorem fX9_person_68 : a_fetch 115 68 = some (.invokeinterface 4 1, 71) := by decide +kernel
theorem fX9_person_71 : a_fetch 115 71 = some (.iload 1, 72) := by decide +kernel
theorem fX9_person_72 : a_fetch 115 72 = some (.invokevirtual 96, 75) := by decide +kernel
theorem fX9_person_75 : a_fetch 115 75 = some (.ireturn, 76) := by decide +kernel
theorem fX9_person_76 : a_fetch 115 76 = some (.aload 0, 77) := by decide +kernel
theorem fX9_person_77 : a_fetch 115 77 = some (.invokeinterface 9 8, 80) := by decide +kernel
theorem fX9_person_80 : a_fetch 115 80 = some (.invokeinterface 4 2, 83) := by decide +kernel
theorem fX9_person_83 : a_fetch 115 83 = some (.iload 1, 84) := by decide +kernel
theorem fX9_person_84 : a_fetch 115 84 = some (.invokevirtual 96, 87) := by decide +kernel
theorem fX9_person_87 : a_fetch 115 87 = some (.ireturn, 88) := by decide +kernel
theorem fX9_person_88 : a_fetch 115 88 = some (.aload 0, 89) := by decide +kernel
theorem fX9_person_89 : a_fetch 115 89 = some (.invokeinterface 9 10, 92) := by decide +kernel
theorem fX9_person_92 : a_fetch 115 92 = some (.invokeinterface 1 2, 95) := by decide +kernel
theorem fX9_person_95 : a_fetch 115 95 = some (.iload 1, 96) := by decide +kernel
theorem fX9_person_96 : a_fetch 115 96 = some (.invokevirtual 96, 99) := by decide +kernel
theorem fX9_person_99 : a_fetch 115 99 = some (.ireturn, 100) := by decide +kernel
theorem fX9_person_100 : a_fetch 115 100 = some (.aload 0, 101) := by decide +kernel
theorem fX9_person_101 : a_fetch 115 101 = some (.invokeinterface 9 10, 104) := by decide +kernel
theorem fX9_person_104 : a_fetch 115 104 = some (.invokeinterface 1 3, 107) := by decide +kernel
theorem fX9_person_107 : a_fetch 115 107 = some (.iload 1, 108) := by decide +kernel
theorem fX9_person_108 : a_fetch 115 108 = some (.invokevirtual 96, 111) := by decide +kernel
theorem fX9_person_111 : a_fetch 115 111 = some (.ireturn, 112) := by decide +kernel
theorem fX9_person_112 : a_fetch 115 112 = some (.aload 0, 113) := by decide +kernel
theorem fX9_person_113 : a_fetch 115 113 = some (.invokeinterface 9 10, 116) := by decide +kernel
theorem fX9_person_116 : a_fetch 115 116 = some (.invokeinterface 1 7, 119) := by decide +kernel
theorem fX9_person_119 : a_fetch 115 119 = some (.iload 1, 120) := by decide +kernel
theorem fX9_person_120 : a_fetch 115 120 = some (.invokevirtual 104, 123) := by decide +kernel
theorem fX9_person_123 : a_fetch 115 123 = some (.ireturn, 124) := by decide +kernel
theorem fX9_person_124 : a_fetch 115 124 = some (.aload 0, 125) := by decide +kernel
theorem fX9_person_125 : a_fetch 115 125 = some (.invokeinterface 9 8, 128) := by decide +kernel
theorem fX9_person_128 : a_fetch 115 128 = some (.invokeinterface 4 1, 131) := by decide +kernel
theorem fX9_person_131 : a_fetch 115 131 = some (.iload 1, 132) := by decide +kernel
theorem fX9_person_132 : a_fetch 115 132 = some (.invokevirtual 103, 135) := by decide +kernel
theorem fX9_person_135 : a_fetch 115 135 = some (.ireturn, 136) := by decide +kernel
theorem fX9_person_136 : a_fetch 115 136 = some (.iconst (-1), 137) := by decide +kernel
theorem fX9_person_137 : a_fetch 115 137 = some (.ireturn, 138) := by decide +kernel
theorem fX9_points_0 : a_fetch 116 0 = some (.aload 0, 1) := by decide +kernel
theorem fX9_points_1 : a_fetch 116 1 = some (.iload 1, 2) := by decide +kernel
theorem fX9_points_2 : a_fetch 116 2 = some (.invokevirtual 142, 5) := by decide +kernel
theorem fX9_points_5 : a_fetch 116 5 = some (.ifCond .eq 28, 8) := by decide +kernel
theorem fX9_points_8 : a_fetch 116 8 = some (.aload 0, 9) := by decide +kernel
theorem fX9_points_9 : a_fetch 116 9 = some (.iload 2, 10) := by decide +kernel
theorem fX9_points_10 : a_fetch 116 10 = some (.invokevirtual 142, 13) := by decide +kernel
theorem fX9_points_13 : a_fetch 116 13 = some (.ifCond .eq 28, 16) := by decide +kernel
theorem fX9_points_16 : a_fetch 116 16 = some (.aload 0, 17) := by decide +kernel
theorem fX9_points_17 : a_fetch 116 17 = some (.invokeinterface 9 8, 20) := by decide +kernel
theorem fX9_points_20 : a_fetch 116 20 = some (.iload 1, 21) := by decide +kernel
theorem fX9_points_21 : a_fetch 116 21 = some (.iload 2, 22) := by decide +kernel
theorem fX9_points_22 : a_fetch 116 22 = some (.invokevirtual 45, 25) := by decide +kernel
theorem fX9_points_25 : a_fetch 116 25 = some (.goto 29, 28) := by decide +kernel
theorem fX9_points_28 : a_fetch 116 28 = some (.iconst (-1), 29) := by decide +kernel
theorem fX9_points_29 : a_fetch 116 29 = some (.ireturn, 30) := by decide +kernel
theorem fX9_could_0 : a_fetch 117 0 = some (.aload 0, 1) := by decide +kernel
theorem fX9_could_1 : a_fetch 117 1 = some (.iload 1, 2) := by decide +kernel
theorem fX9_could_2 : a_fetch 117 2 = some (.invokevirtual 142, 5) := by decide +kernel
theorem fX9_could_5 : a_fetch 117 5 = some (.ifCond .eq 16, 8) := by decide +kernel
theorem fX9_could_8 : a_fetch 117 8 = some (.aload 0, 9) := by decide +kernel
theorem fX9_could_9 : a_fetch 117 9 = some (.iload 2, 10) := by decide +kernel
theorem fX9_could_10 : a_fetch 117 10 = some (.invokevirtual 142, 13) := by decide +kernel
theorem fX9_could_13 : a_fetch 117 13 = some (.ifCond .ne 18, 16) := by decide +kernel
theorem fX9_could_16 : a_fetch 117 16 = some (.iconst (-1), 17) := by decide +kernel
theorem fX9_could_17 : a_fetch 117 17 = some (.ireturn, 18) := by decide +kernel
theorem fX9_could_18 : a_fetch 117 18 = some (.aload 0, 19) := by decide +kernel
theorem fX9_could_19 : a_fetch 117 19 = some (.iload 3, 20) := by decide +kernel
theorem fX9_could_20 : a_fetch 117 20 = some (.invokevirtual 143, 23) := by decide +kernel
theorem fX9_could_23 : a_fetch 117 23 = some (.ifCond .eq 35, 26) := by decide +kernel
theorem fX9_could_26 : a_fetch 117 26 = some (.aload 0, 27) := by decide +kernel
theorem fX9_could_27 : a_fetch 117 27 = some (.iload 4, 29) := by decide +kernel
theorem fX9_could_29 : a_fetch 117 29 = some (.invokevirtual 144, 32) := by decide +kernel
theorem fX9_could_32 : a_fetch 117 32 = some (.ifCond .ne 37, 35) := by decide +kernel
theorem fX9_could_35 : a_fetch 117 35 = some (.iconst (-1), 36) := by decide +kernel
theorem fX9_could_36 : a_fetch 117 36 = some (.ireturn, 37) := by decide +kernel
theorem fX9_could_37 : a_fetch 117 37 = some (.aload 0, 38) := by decide +kernel
theorem fX9_could_38 : a_fetch 117 38 = some (.invokeinterface 9 5, 41) := by decide +kernel
theorem fX9_could_41 : a_fetch 117 41 = some (.aload 0, 42) := by decide +kernel
theorem fX9_could_42 : a_fetch 117 42 = some (.invokeinterface 9 10, 45) := by decide +kernel
theorem fX9_could_45 : a_fetch 117 45 = some (.aload 0, 46) := by decide +kernel
theorem fX9_could_46 : a_fetch 117 46 = some (.invokeinterface 9 8, 49) := by decide +kernel
theorem fX9_could_49 : a_fetch 117 49 = some (.iload 1, 50) := by decide +kernel
theorem fX9_could_50 : a_fetch 117 50 = some (.iload 2, 51) := by decide +kernel
theorem fX9_could_51 : a_fetch 117 51 = some (.iload 3, 52) := by decide +kernel
theorem fX9_could_52 : a_fetch 117 52 = some (.iload 4, 54) := by decide +kernel
theorem fX9_could_54 : a_fetch 117 54 = some (.invokevirtual 26, 57) := by decide +kernel
theorem fX9_could_57 : a_fetch 117 57 = some (.ifCond .eq 64, 60) := by decide +kernel
theorem fX9_could_60 : a_fetch 117 60 = some (.iconst 1, 61) := by decide +kernel
theorem fX9_could_61 : a_fetch 117 61 = some (.goto 65, 64) := by decide +kernel
theorem fX9_could_64 : a_fetch 117 64 = some (.iconst 0, 65) := by decide +kernel
theorem fX9_could_65 : a_fetch 117 65 = some (.ireturn, 66) := by decide +kernel
theorem fX9_kept_0 : a_fetch 118 0 = some (.aload 0, 1) := by decide +kernel
theorem fX9_kept_1 : a_fetch 118 1 = some (.invokeinterface 9 8, 4) := by decide +kernel
theorem fX9_kept_4 : a_fetch 118 4 = some (.iload 1, 5) := by decide +kernel
theorem fX9_kept_5 : a_fetch 118 5 = some (.iload 2, 6) := by decide +kernel
theorem fX9_kept_6 : a_fetch 118 6 = some (.invokevirtual 49, 9) := by decide +kernel
theorem fX9_kept_9 : a_fetch 118 9 = some (.ireturn, 10) := by decide +kernel
theorem fX9_wave_0 : a_fetch 119 0 = some (.aload 0, 1) := by decide +kernel
theorem fX9_wave_1 : a_fetch 119 1 = some (.iload 1, 2) := by decide +kernel
theorem fX9_wave_2 : a_fetch 119 2 = some (.invokevirtual 145, 5) := by decide +kernel
theorem fX9_wave_5 : a_fetch 119 5 = some (.ifCond .ne 10, 8) := by decide +kernel
theorem fX9_wave_8 : a_fetch 119 8 = some (.iconst (-1), 9) := by decide +kernel
theorem fX9_wave_9 : a_fetch 119 9 = some (.ireturn, 10) := by decide +kernel
theorem fX9_wave_10 : a_fetch 119 10 = some (.aload 0, 11) := by decide +kernel
theorem fX9_wave_11 : a_fetch 119 11 = some (.invokeinterface 9 9, 14) := by decide +kernel
theorem fX9_wave_14 : a_fetch 119 14 = some (.aload 0, 15) := by decide +kernel
theorem fX9_wave_15 : a_fetch 119 15 = some (.invokeinterface 9 8, 18) := by decide +kernel
theorem fX9_wave_18 : a_fetch 119 18 = some (.invokevirtual 44, 21) := by decide +kernel
theorem fX9_wave_21 : a_fetch 119 21 = some (.aload 0, 22) := by decide +kernel
theorem fX9_wave_22 : a_fetch 119 22 = some (.invokeinterface 9 5, 25) := by decide +kernel
theorem fX9_wave_25 : a_fetch 119 25 = some (.aload 0, 26) := by decide +kernel
theorem fX9_wave_26 : a_fetch 119 26 = some (.invokeinterface 9 10, 29) := by decide +kernel
theorem fX9_wave_29 : a_fetch 119 29 = some (.aload 0, 30) := by decide +kernel
theorem fX9_wave_30 : a_fetch 119 30 = some (.invokeinterface 9 9, 33) := by decide +kernel
theorem fX9_wave_33 : a_fetch 119 33 = some (.iload 1, 34) := by decide +kernel
theorem fX9_wave_34 : a_fetch 119 34 = some (.invokevirtual 18, 37) := by decide +kernel
theorem fX9_wave_37 : a_fetch 119 37 = some (.iload 2, 38) := by decide +kernel
theorem fX9_wave_38 : a_fetch 119 38 = some (.iconst (-1), 39) := by decide +kernel
theorem fX9_wave_39 : a_fetch 119 39 = some (.if_icmp .ne 53, 42) := by decide +kernel
theorem fX9_wave_42 : a_fetch 119 42 = some (.aload 0, 43) := by decide +kernel
theorem fX9_wave_43 : a_fetch 119 43 = some (.invokeinterface 9 5, 46) := by decide +kernel
theorem fX9_wave_46 : a_fetch 119 46 = some (.invokeinterface 2 1, 49) := by decide +kernel
theorem fX9_wave_49 : a_fetch 119 49 = some (.invokevirtual 95, 52) := by decide +kernel
theorem fX9_wave_52 : a_fetch 119 52 = some (.ireturn, 53) := by decide +kernel
theorem fX9_wave_53 : a_fetch 119 53 = some (.iload 2, 54) := by decide +kernel
theorem fX9_wave_54 : a_fetch 119 54 = some (.iconst 20, 56) := by decide +kernel
theorem fX9_wave_56 : a_fetch 119 56 = some (.if_icmp .ne 69, 59) := by decide +kernel
theorem fX9_wave_59 : a_fetch 119 59 = some (.aload 0, 60) := by decide +kernel
theorem fX9_wave_60 : a_fetch 119 60 = some (.invokeinterface 9 5, 63) := by decide +kernel
theorem fX9_wave_63 : a_fetch 119 63 = some (.invokeinterface 2 2, 66) := by decide +kernel
theorem fX9_wave_66 : a_fetch 119 66 = some (.goto 80, 69) := by decide +kernel
theorem fX9_wave_69 : a_fetch 119 69 = some (.aload 0, 70) := by decide +kernel
theorem fX9_wave_70 : a_fetch 119 70 = some (.invokeinterface 9 5, 73) := by decide +kernel
theorem fX9_wave_73 : a_fetch 119 73 = some (.invokeinterface 2 1, 76) := by decide +kernel
theorem fX9_wave_76 : a_fetch 119 76 = some (.iload 2, 77) := by decide +kernel
theorem fX9_wave_77 : a_fetch 119 77 = some (.invokevirtual 96, 80) := by decide +kernel
theorem fX9_wave_80 : a_fetch 119 80 = some (.ireturn, 81) := by decide +kernel
theorem fX9_would_0 : a_fetch 120 0 = some (.aload 0, 1) := by decide +kernel
theorem fX9_would_1 : a_fetch 120 1 = some (.iload 1, 2) := by decide +kernel
theorem fX9_would_2 : a_fetch 120 2 = some (.invokevirtual 145, 5) := by decide +kernel
theorem fX9_would_5 : a_fetch 120 5 = some (.ifCond .eq 17, 8) := by decide +kernel
theorem fX9_would_8 : a_fetch 120 8 = some (.iload 2, 9) := by decide +kernel
theorem fX9_would_9 : a_fetch 120 9 = some (.ifCond .eq 19, 12) := by decide +kernel
theorem fX9_would_12 : a_fetch 120 12 = some (.iload 2, 13) := by decide +kernel
theorem fX9_would_13 : a_fetch 120 13 = some (.iconst 1, 14) := by decide +kernel
theorem fX9_would_14 : a_fetch 120 14 = some (.if_icmp .eq 19, 17) := by decide +kernel
theorem fX9_would_17 : a_fetch 120 17 = some (.iconst (-1), 18) := by decide +kernel
theorem fX9_would_18 : a_fetch 120 18 = some (.ireturn, 19) := by decide +kernel
theorem fX9_would_19 : a_fetch 120 19 = some (.aload 0, 20) := by decide +kernel
theorem fX9_would_20 : a_fetch 120 20 = some (.invokeinterface 9 9, 23) := by decide +kernel
theorem fX9_would_23 : a_fetch 120 23 = some (.aload 0, 24) := by decide +kernel
theorem fX9_would_24 : a_fetch 120 24 = some (.invokeinterface 9 8, 27) := by decide +kernel
theorem fX9_would_27 : a_fetch 120 27 = some (.invokevirtual 44, 30) := by decide +kernel
theorem fX9_would_30 : a_fetch 120 30 = some (.aload 0, 31) := by decide +kernel
theorem fX9_would_31 : a_fetch 120 31 = some (.invokeinterface 9 5, 34) := by decide +kernel
theorem fX9_would_34 : a_fetch 120 34 = some (.invokevirtual 17, 37) := by decide +kernel
theorem fX9_would_37 : a_fetch 120 37 = some (.aload 0, 38) := by decide +kernel
theorem fX9_would_38 : a_fetch 120 38 = some (.invokeinterface 9 5, 41) := by decide +kernel
theorem fX9_would_41 : a_fetch 120 41 = some (.aload 0, 42) := by decide +kernel
theorem fX9_would_42 : a_fetch 120 42 = some (.invokeinterface 9 10, 45) := by decide +kernel
theorem fX9_would_45 : a_fetch 120 45 = some (.aload 0, 46) := by decide +kernel
theorem fX9_would_46 : a_fetch 120 46 = some (.invokeinterface 9 9, 49) := by decide +kernel
theorem fX9_would_49 : a_fetch 120 49 = some (.iload 1, 50) := by decide +kernel
