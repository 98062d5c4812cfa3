theorem fX10_qOf_18 : a_fetch 276 18 = some (.iconst 1, 19) := by decide +kernel
theorem fX10_qOf_19 : a_fetch 276 19 = some (.isub, 20) := by decide +kernel
theorem fX10_qOf_20 : a_fetch 276 20 = some (.i2l, 21) := by decide +kernel
theorem fX10_qOf_21 : a_fetch 276 21 = some (.invokestatic 159, 24) := by decide +kernel
theorem fX10_qOf_24 : a_fetch 276 24 = some (.ifCond .eq 41, 27) := by decide +kernel
theorem fX10_qOf_27 : a_fetch 276 27 = some (.aload 0, 28) := by decide +kernel
theorem fX10_qOf_28 : a_fetch 276 28 = some (.aload 0, 29) := by decide +kernel
theorem fX10_qOf_29 : a_fetch 276 29 = some (.invokeinterface 10 58, 32) := by decide +kernel
theorem fX10_qOf_32 : a_fetch 276 32 = some (.lload 2, 33) := by decide +kernel
theorem fX10_qOf_33 : a_fetch 276 33 = some (.l2i, 34) := by decide +kernel
theorem fX10_qOf_34 : a_fetch 276 34 = some (.invokevirtual 198, 37) := by decide +kernel
theorem fX10_qOf_37 : a_fetch 276 37 = some (.i2l, 38) := by decide +kernel
theorem fX10_qOf_38 : a_fetch 276 38 = some (.goto 42, 41) := by decide +kernel
theorem fX10_qOf_41 : a_fetch 276 41 = some (.jsr_w 0, 42) := by decide +kernel
theorem fX10_qOf_42 : a_fetch 276 42 = some (.lreturn, 43) := by decide +kernel
theorem fX10_qTold_0 : a_fetch 277 0 = some (.aload 0, 1) := by decide +kernel
theorem fX10_qTold_1 : a_fetch 277 1 = some (.iconst 0, 2) := by decide +kernel
theorem fX10_qTold_2 : a_fetch 277 2 = some (.multianewarray 10 104, 5) := by decide +kernel
theorem fX10_qTold_5 : a_fetch 277 5 = some (.iconst 0, 6) := by decide +kernel
theorem fX10_qTold_6 : a_fetch 277 6 = some (.istore 2, 7) := by decide +kernel
theorem fX10_qTold_7 : a_fetch 277 7 = some (.iload 2, 8) := by decide +kernel
theorem fX10_qTold_8 : a_fetch 277 8 = some (.aload 0, 9) := by decide +kernel
theorem fX10_qTold_9 : a_fetch 277 9 = some (.invokeinterface 10 98, 12) := by decide +kernel
theorem fX10_qTold_12 : a_fetch 277 12 = some (.if_icmp .ge 168, 15) := by decide +kernel
theorem fX10_qTold_15 : a_fetch 277 15 = some (.aload 0, 16) := by decide +kernel
theorem fX10_qTold_16 : a_fetch 277 16 = some (.invokeinterface 10 97, 19) := by decide +kernel
theorem fX10_qTold_19 : a_fetch 277 19 = some (.iload 2, 20) := by decide +kernel
theorem fX10_qTold_20 : a_fetch 277 20 = some (.iaload, 21) := by decide +kernel
theorem fX10_qTold_21 : a_fetch 277 21 = some (.istore 3, 22) := by decide +kernel
theorem fX10_qTold_22 : a_fetch 277 22 = some (.iload 3, 23) := by decide +kernel
theorem fX10_qTold_23 : a_fetch 277 23 = some (.iconst 1000, 26) := by decide +kernel
theorem fX10_qTold_26 : a_fetch 277 26 = some (.if_icmp .lt 42, 29) := by decide +kernel
theorem fX10_qTold_29 : a_fetch 277 29 = some (.aload 0, 30) := by decide +kernel
theorem fX10_qTold_30 : a_fetch 277 30 = some (.iload 3, 31) := by decide +kernel
theorem fX10_qTold_31 : a_fetch 277 31 = some (.iconst 1000, 34) := by decide +kernel
theorem fX10_qTold_34 : a_fetch 277 34 = some (.isub, 35) := by decide +kernel
theorem fX10_qTold_35 : a_fetch 277 35 = some (.i2l, 36) := by decide +kernel
theorem fX10_qTold_36 : a_fetch 277 36 = some (.invokevirtual 273, 39) := by decide +kernel
theorem fX10_qTold_39 : a_fetch 277 39 = some (.goto 162, 42) := by decide +kernel
theorem fX10_qTold_42 : a_fetch 277 42 = some (.iload 3, 43) := by decide +kernel
theorem fX10_qTold_43 : a_fetch 277 43 = some (.iconst 60, 45) := by decide +kernel
theorem fX10_qTold_45 : a_fetch 277 45 = some (.if_icmp .lt 85, 48) := by decide +kernel
theorem fX10_qTold_48 : a_fetch 277 48 = some (.aload 0, 49) := by decide +kernel
theorem fX10_qTold_49 : a_fetch 277 49 = some (.invokeinterface 10 103, 52) := by decide +kernel
theorem fX10_qTold_52 : a_fetch 277 52 = some (.aload 0, 53) := by decide +kernel
theorem fX10_qTold_53 : a_fetch 277 53 = some (.invokeinterface 10 104, 56) := by decide +kernel
theorem fX10_qTold_56 : a_fetch 277 56 = some (.iconst 1, 57) := by decide +kernel
theorem fX10_qTold_57 : a_fetch 277 57 = some (.isub, 58) := by decide +kernel
theorem fX10_qTold_58 : a_fetch 277 58 = some (.aload 0, 59) := by decide +kernel
theorem fX10_qTold_59 : a_fetch 277 59 = some (.iload 3, 60) := by decide +kernel
theorem fX10_qTold_60 : a_fetch 277 60 = some (.iconst 60, 62) := by decide +kernel
theorem fX10_qTold_62 : a_fetch 277 62 = some (.isub, 63) := by decide +kernel
theorem fX10_qTold_63 : a_fetch 277 63 = some (.aload 0, 64) := by decide +kernel
theorem fX10_qTold_64 : a_fetch 277 64 = some (.invokeinterface 10 103, 67) := by decide +kernel
theorem fX10_qTold_67 : a_fetch 277 67 = some (.aload 0, 68) := by decide +kernel
theorem fX10_qTold_68 : a_fetch 277 68 = some (.invokeinterface 10 104, 71) := by decide +kernel
theorem fX10_qTold_71 : a_fetch 277 71 = some (.iconst 1, 72) := by decide +kernel
theorem fX10_qTold_72 : a_fetch 277 72 = some (.isub, 73) := by decide +kernel
theorem fX10_qTold_73 : a_fetch 277 73 = some (.laload, 74) := by decide +kernel
theorem fX10_qTold_74 : a_fetch 277 74 = some (.iload 1, 75) := by decide +kernel
theorem fX10_qTold_75 : a_fetch 277 75 = some (.invokevirtual 276, 78) := by decide +kernel
theorem fX10_qTold_78 : a_fetch 277 78 = some (.invokestatic 271, 81) := by decide +kernel
theorem fX10_qTold_81 : a_fetch 277 81 = some (.lastore, 82) := by decide +kernel
theorem fX10_qTold_82 : a_fetch 277 82 = some (.goto 162, 85) := by decide +kernel
theorem fX10_qTold_85 : a_fetch 277 85 = some (.iload 3, 86) := by decide +kernel
theorem fX10_qTold_86 : a_fetch 277 86 = some (.iconst 40, 88) := by decide +kernel
theorem fX10_qTold_88 : a_fetch 277 88 = some (.if_icmp .lt 110, 91) := by decide +kernel
theorem fX10_qTold_91 : a_fetch 277 91 = some (.aload 0, 92) := by decide +kernel
theorem fX10_qTold_92 : a_fetch 277 92 = some (.aload 0, 93) := by decide +kernel
theorem fX10_qTold_93 : a_fetch 277 93 = some (.iload 3, 94) := by decide +kernel
theorem fX10_qTold_94 : a_fetch 277 94 = some (.iconst 40, 96) := by decide +kernel
theorem fX10_qTold_96 : a_fetch 277 96 = some (.isub, 97) := by decide +kernel
theorem fX10_qTold_97 : a_fetch 277 97 = some (.iload 1, 98) := by decide +kernel
theorem fX10_qTold_98 : a_fetch 277 98 = some (.invokevirtual 275, 101) := by decide +kernel
theorem fX10_qTold_101 : a_fetch 277 101 = some (.invokestatic 271, 104) := by decide +kernel
theorem fX10_qTold_104 : a_fetch 277 104 = some (.invokevirtual 273, 107) := by decide +kernel
theorem fX10_qTold_107 : a_fetch 277 107 = some (.goto 162, 110) := by decide +kernel
theorem fX10_qTold_110 : a_fetch 277 110 = some (.iload 3, 111) := by decide +kernel
theorem fX10_qTold_111 : a_fetch 277 111 = some (.iconst 13, 113) := by decide +kernel
theorem fX10_qTold_113 : a_fetch 277 113 = some (.if_icmp .ne 124, 116) := by decide +kernel
theorem fX10_qTold_116 : a_fetch 277 116 = some (.aload 0, 117) := by decide +kernel
theorem fX10_qTold_117 : a_fetch 277 117 = some (.jsr_w 1, 118) := by decide +kernel
theorem fX10_qTold_118 : a_fetch 277 118 = some (.invokevirtual 273, 121) := by decide +kernel
theorem fX10_qTold_121 : a_fetch 277 121 = some (.goto 162, 124) := by decide +kernel
theorem fX10_qTold_124 : a_fetch 277 124 = some (.iload 3, 125) := by decide +kernel
theorem fX10_qTold_125 : a_fetch 277 125 = some (.iconst 12, 127) := by decide +kernel
theorem fX10_qTold_127 : a_fetch 277 127 = some (.if_icmp .ne 157, 130) := by decide +kernel
theorem fX10_qTold_130 : a_fetch 277 130 = some (.aload 0, 131) := by decide +kernel
theorem fX10_qTold_131 : a_fetch 277 131 = some (.invokeinterface 10 103, 134) := by decide +kernel
theorem fX10_qTold_134 : a_fetch 277 134 = some (.aload 0, 135) := by decide +kernel
theorem fX10_qTold_135 : a_fetch 277 135 = some (.invokeinterface 10 104, 138) := by decide +kernel
theorem fX10_qTold_138 : a_fetch 277 138 = some (.iconst 1, 139) := by decide +kernel
theorem fX10_qTold_139 : a_fetch 277 139 = some (.isub, 140) := by decide +kernel
theorem fX10_qTold_140 : a_fetch 277 140 = some (.jsr_w 1, 141) := by decide +kernel
theorem fX10_qTold_141 : a_fetch 277 141 = some (.aload 0, 142) := by decide +kernel
theorem fX10_qTold_142 : a_fetch 277 142 = some (.invokeinterface 10 103, 145) := by decide +kernel
theorem fX10_qTold_145 : a_fetch 277 145 = some (.aload 0, 146) := by decide +kernel
theorem fX10_qTold_146 : a_fetch 277 146 = some (.invokeinterface 10 104, 149) := by decide +kernel
theorem fX10_qTold_149 : a_fetch 277 149 = some (.iconst 1, 150) := by decide +kernel
theorem fX10_qTold_150 : a_fetch 277 150 = some (.isub, 151) := by decide +kernel
theorem fX10_qTold_151 : a_fetch 277 151 = some (.laload, 152) := by decide +kernel
theorem fX10_qTold_152 : a_fetch 277 152 = some (.lsub, 153) := by decide +kernel
theorem fX10_qTold_153 : a_fetch 277 153 = some (.lastore, 154) := by decide +kernel
theorem fX10_qTold_154 : a_fetch 277 154 = some (.goto 162, 157) := by decide +kernel
theorem fX10_qTold_157 : a_fetch 277 157 = some (.aload 0, 158) := by decide +kernel
theorem fX10_qTold_158 : a_fetch 277 158 = some (.iload 3, 159) := by decide +kernel
theorem fX10_qTold_159 : a_fetch 277 159 = some (.invokevirtual 274, 162) := by decide +kernel
theorem fX10_qTold_162 : a_fetch 277 162 = some (.iinc 2 1, 165) := by decide +kernel
theorem fX10_qTold_165 : a_fetch 277 165 = some (.goto 7, 168) := by decide +kernel
theorem fX10_qTold_168 : a_fetch 277 168 = some (.aload 0, 169) := by decide +kernel
theorem fX10_qTold_169 : a_fetch 277 169 = some (.invokeinterface 10 103, 172) := by decide +kernel
theorem fX10_qTold_172 : a_fetch 277 172 = some (.iconst 0, 173) := by decide +kernel
theorem fX10_qTold_173 : a_fetch 277 173 = some (.laload, 174) := by decide +kernel
theorem fX10_qTold_174 : a_fetch 277 174 = some (.lreturn, 175) := by decide +kernel
theorem fX10_qKind_0 : a_fetch 278 0 = some (.aload 0, 1) := by decide +kernel
theorem fX10_qKind_1 : a_fetch 278 1 = some (.aload 0, 2) := by decide +kernel
theorem fX10_qKind_2 : a_fetch 278 2 = some (.invokeinterface 10 75, 5) := by decide +kernel
theorem fX10_qKind_5 : a_fetch 278 5 = some (.invokevirtual 167, 8) := by decide +kernel
theorem fX10_qKind_8 : a_fetch 278 8 = some (.ifCond .eq 15, 11) := by decide +kernel
theorem fX10_qKind_11 : a_fetch 278 11 = some (.iconst 0, 12) := by decide +kernel
theorem fX10_qKind_12 : a_fetch 278 12 = some (.goto 76, 15) := by decide +kernel
theorem fX10_qKind_15 : a_fetch 278 15 = some (.aload 0, 16) := by decide +kernel
theorem fX10_qKind_16 : a_fetch 278 16 = some (.aload 0, 17) := by decide +kernel
theorem fX10_qKind_17 : a_fetch 278 17 = some (.invokeinterface 10 76, 20) := by decide +kernel
theorem fX10_qKind_20 : a_fetch 278 20 = some (.invokevirtual 167, 23) := by decide +kernel
theorem fX10_qKind_23 : a_fetch 278 23 = some (.ifCond .eq 30, 26) := by decide +kernel
theorem fX10_qKind_26 : a_fetch 278 26 = some (.iconst 1, 27) := by decide +kernel
theorem fX10_qKind_27 : a_fetch 278 27 = some (.goto 76, 30) := by decide +kernel
theorem fX10_qKind_30 : a_fetch 278 30 = some (.aload 0, 31) := by decide +kernel
theorem fX10_qKind_31 : a_fetch 278 31 = some (.aload 0, 32) := by decide +kernel
theorem fX10_qKind_32 : a_fetch 278 32 = some (.invokeinterface 10 77, 35) := by decide +kernel
theorem fX10_qKind_35 : a_fetch 278 35 = some (.invokevirtual 167, 38) := by decide +kernel
theorem fX10_qKind_38 : a_fetch 278 38 = some (.ifCond .eq 45, 41) := by decide +kernel
theorem fX10_qKind_41 : a_fetch 278 41 = some (.iconst 2, 42) := by decide +kernel
theorem fX10_qKind_42 : a_fetch 278 42 = some (.goto 76, 45) := by decide +kernel
theorem fX10_qKind_45 : a_fetch 278 45 = some (.aload 0, 46) := by decide +kernel
theorem fX10_qKind_46 : a_fetch 278 46 = some (.aload 0, 47) := by decide +kernel
theorem fX10_qKind_47 : a_fetch 278 47 = some (.invokeinterface 10 78, 50) := by decide +kernel
theorem fX10_qKind_50 : a_fetch 278 50 = some (.invokevirtual 167, 53) := by decide +kernel
theorem fX10_qKind_53 : a_fetch 278 53 = some (.ifCond .eq 60, 56) := by decide +kernel
theorem fX10_qKind_56 : a_fetch 278 56 = some (.iconst 3, 57) := by decide +kernel
theorem fX10_qKind_57 : a_fetch 278 57 = some (.goto 76, 60) := by decide +kernel
theorem fX10_qKind_60 : a_fetch 278 60 = some (.aload 0, 61) := by decide +kernel
theorem fX10_qKind_61 : a_fetch 278 61 = some (.aload 0, 62) := by decide +kernel
theorem fX10_qKind_62 : a_fetch 278 62 = some (.invokeinterface 10 79, 65) := by decide +kernel
theorem fX10_qKind_65 : a_fetch 278 65 = some (.invokevirtual 167, 68) := by decide +kernel
theorem fX10_qKind_68 : a_fetch 278 68 = some (.ifCond .eq 75, 71) := by decide +kernel
theorem fX10_qKind_71 : a_fetch 278 71 = some (.iconst 4, 72) := by decide +kernel
theorem fX10_qKind_72 : a_fetch 278 72 = some (.goto 76, 75) := by decide +kernel
theorem fX10_qKind_75 : a_fetch 278 75 = some (.iconst 5, 76) := by decide +kernel
theorem fX10_qKind_76 : a_fetch 278 76 = some (.istore 1, 77) := by decide +kernel
theorem fX10_qKind_77 : a_fetch 278 77 = some (.iload 1, 78) := by decide +kernel
theorem fX10_qKind_78 : a_fetch 278 78 = some (.iconst 5, 79) := by decide +kernel
theorem fX10_qKind_79 : a_fetch 278 79 = some (.if_icmp .ne 90, 82) := by decide +kernel
theorem fX10_qKind_82 : a_fetch 278 82 = some (.aload 0, 83) := by decide +kernel
theorem fX10_qKind_83 : a_fetch 278 83 = some (.aload 0, 84) := by decide +kernel
theorem fX10_qKind_84 : a_fetch 278 84 = some (.invokeinterface 10 80, 87) := by decide +kernel
theorem fX10_qKind_87 : a_fetch 278 87 = some (.invokevirtual 168, 90) := by decide +kernel
theorem fX10_qKind_90 : a_fetch 278 90 = some (.iload 1, 91) := by decide +kernel
theorem fX10_qKind_91 : a_fetch 278 91 = some (.ireturn, 92) := by decide +kernel
theorem fX10_qTakes_0 : a_fetch 279 0 = some (.iload 1, 1) := by decide +kernel
theorem fX10_qTakes_1 : a_fetch 279 1 = some (.iconst 3, 2) := by decide +kernel
theorem fX10_qTakes_2 : a_fetch 279 2 = some (.if_icmp .ge 15, 5) := by decide +kernel
theorem fX10_qTakes_5 : a_fetch 279 5 = some (.lload 2, 6) := by decide +kernel
theorem fX10_qTakes_6 : a_fetch 279 6 = some (.jsr_w 1, 7) := by decide +kernel
theorem fX10_qTakes_7 : a_fetch 279 7 = some (.lcmp, 8) := by decide +kernel
theorem fX10_qTakes_8 : a_fetch 279 8 = some (.ifCond .ne 15, 11) := by decide +kernel
theorem fX10_qTakes_11 : a_fetch 279 11 = some (.iconst 1, 12) := by decide +kernel
theorem fX10_qTakes_12 : a_fetch 279 12 = some (.goto 16, 15) := by decide +kernel
theorem fX10_qTakes_15 : a_fetch 279 15 = some (.iconst 0, 16) := by decide +kernel
theorem fX10_qTakes_16 : a_fetch 279 16 = some (.istore 5, 18) := by decide +kernel
theorem fX10_qTakes_18 : a_fetch 279 18 = some (.iload 1, 19) := by decide +kernel
theorem fX10_qTakes_19 : a_fetch 279 19 = some (.ifCond .ne 38, 22) := by decide +kernel
theorem fX10_qTakes_22 : a_fetch 279 22 = some (.iload 5, 24) := by decide +kernel
theorem fX10_qTakes_24 : a_fetch 279 24 = some (.ifCond .eq 38, 27) := by decide +kernel
theorem fX10_qTakes_27 : a_fetch 279 27 = some (.aload 0, 28) := by decide +kernel
theorem fX10_qTakes_28 : a_fetch 279 28 = some (.invokeinterface 10 105, 31) := by decide +kernel
theorem fX10_qTakes_31 : a_fetch 279 31 = some (.jsr_w (-1), 34) := by decide +kernel
theorem fX10_qTakes_34 : a_fetch 279 34 = some (.lcmp, 35) := by decide +kernel
theorem fX10_qTakes_35 : a_fetch 279 35 = some (.ifCond .eq 48, 38) := by decide +kernel
theorem fX10_qTakes_38 : a_fetch 279 38 = some (.iload 1, 39) := by decide +kernel
theorem fX10_qTakes_39 : a_fetch 279 39 = some (.iconst 1, 40) := by decide +kernel
theorem fX10_qTakes_40 : a_fetch 279 40 = some (.if_icmp .ne 55, 43) := by decide +kernel
theorem fX10_qTakes_43 : a_fetch 279 43 = some (.iload 5, 45) := by decide +kernel
theorem fX10_qTakes_45 : a_fetch 279 45 = some (.ifCond .eq 55, 48) := by decide +kernel
theorem fX10_qTakes_48 : a_fetch 279 48 = some (.aload 0, 49) := by decide +kernel
theorem fX10_qTakes_49 : a_fetch 279 49 = some (.iload 4, 51) := by decide +kernel
theorem fX10_qTakes_51 : a_fetch 279 51 = some (.i2l, 52) := by decide +kernel
theorem fX10_qTakes_52 : a_fetch 279 52 = some (.multianewarray 10 105, 55) := by decide +kernel
theorem fX10_qTakes_55 : a_fetch 279 55 = some (.iload 1, 56) := by decide +kernel
theorem fX10_qTakes_56 : a_fetch 279 56 = some (.iconst 2, 57) := by decide +kernel
theorem fX10_qTakes_57 : a_fetch 279 57 = some (.if_icmp .ne 75, 60) := by decide +kernel
theorem fX10_qTakes_60 : a_fetch 279 60 = some (.iload 5, 62) := by decide +kernel
theorem fX10_qTakes_62 : a_fetch 279 62 = some (.ifCond .eq 75, 65) := by decide +kernel
theorem fX10_qTakes_65 : a_fetch 279 65 = some (.aload 0, 66) := by decide +kernel
theorem fX10_qTakes_66 : a_fetch 279 66 = some (.dup, 67) := by decide +kernel
theorem fX10_qTakes_67 : a_fetch 279 67 = some (.invokeinterface 10 105, 70) := by decide +kernel
theorem fX10_qTakes_70 : a_fetch 279 70 = some (.jsr_w 1, 71) := by decide +kernel
theorem fX10_qTakes_71 : a_fetch 279 71 = some (.ladd, 72) := by decide +kernel
theorem fX10_qTakes_72 : a_fetch 279 72 = some (.multianewarray 10 105, 75) := by decide +kernel
theorem fX10_qTakes_75 : a_fetch 279 75 = some (.iload 1, 76) := by decide +kernel
theorem fX10_qTakes_76 : a_fetch 279 76 = some (.iconst 3, 77) := by decide +kernel
theorem fX10_qTakes_77 : a_fetch 279 77 = some (.if_icmp .ne 90, 80) := by decide +kernel
theorem fX10_qTakes_80 : a_fetch 279 80 = some (.aload 0, 81) := by decide +kernel
theorem fX10_qTakes_81 : a_fetch 279 81 = some (.dup, 82) := by decide +kernel
theorem fX10_qTakes_82 : a_fetch 279 82 = some (.invokeinterface 10 105, 85) := by decide +kernel
theorem fX10_qTakes_85 : a_fetch 279 85 = some (.lload 2, 86) := by decide +kernel
theorem fX10_qTakes_86 : a_fetch 279 86 = some (.ladd, 87) := by decide +kernel
theorem fX10_qTakes_87 : a_fetch 279 87 = some (.multianewarray 10 105, 90) := by decide +kernel
theorem fX10_qTakes_90 : a_fetch 279 90 = some (.iload 1, 91) := by decide +kernel
theorem fX10_qTakes_91 : a_fetch 279 91 = some (.iconst 3, 92) := by decide +kernel
theorem fX10_qTakes_92 : a_fetch 279 92 = some (.if_icmp .le 133, 95) := by decide +kernel
theorem fX10_qTakes_95 : a_fetch 279 95 = some (.aload 0, 96) := by decide +kernel
theorem fX10_qTakes_96 : a_fetch 279 96 = some (.invokeinterface 10 106, 99) := by decide +kernel
theorem fX10_qTakes_99 : a_fetch 279 99 = some (.ifCond .ne 128, 102) := by decide +kernel
theorem fX10_qTakes_102 : a_fetch 279 102 = some (.iload 1, 103) := by decide +kernel
theorem fX10_qTakes_103 : a_fetch 279 103 = some (.iconst 4, 104) := by decide +kernel
theorem fX10_qTakes_104 : a_fetch 279 104 = some (.if_icmp .ne 119, 107) := by decide +kernel
theorem fX10_qTakes_107 : a_fetch 279 107 = some (.lload 2, 108) := by decide +kernel
theorem fX10_qTakes_108 : a_fetch 279 108 = some (.aload 0, 109) := by decide +kernel
theorem fX10_qTakes_109 : a_fetch 279 109 = some (.invokeinterface 10 105, 112) := by decide +kernel
theorem fX10_qTakes_112 : a_fetch 279 112 = some (.lcmp, 113) := by decide +kernel
theorem fX10_qTakes_113 : a_fetch 279 113 = some (.ifCond .le 133, 116) := by decide +kernel
theorem fX10_qTakes_116 : a_fetch 279 116 = some (.goto 128, 119) := by decide +kernel
theorem fX10_qTakes_119 : a_fetch 279 119 = some (.lload 2, 120) := by decide +kernel
theorem fX10_qTakes_120 : a_fetch 279 120 = some (.aload 0, 121) := by decide +kernel
theorem fX10_qTakes_121 : a_fetch 279 121 = some (.invokeinterface 10 105, 124) := by decide +kernel
theorem fX10_qTakes_124 : a_fetch 279 124 = some (.lcmp, 125) := by decide +kernel
theorem fX10_qTakes_125 : a_fetch 279 125 = some (.ifCond .ge 133, 128) := by decide +kernel
theorem fX10_qTakes_128 : a_fetch 279 128 = some (.aload 0, 129) := by decide +kernel
theorem fX10_qTakes_129 : a_fetch 279 129 = some (.lload 2, 130) := by decide +kernel
theorem fX10_qTakes_130 : a_fetch 279 130 = some (.multianewarray 10 105, 133) := by decide +kernel
theorem fX10_qTakes_133 : a_fetch 279 133 = some (.aload 0, 134) := by decide +kernel
theorem fX10_qTakes_134 : a_fetch 279 134 = some (.iconst 0, 135) := by decide +kernel
theorem fX10_qTakes_135 : a_fetch 279 135 = some (.multianewarray 10 106, 138) := by decide +kernel
theorem fX10_qTakes_138 : a_fetch 279 138 = some (.return_, 139) := by decide +kernel
theorem fX10_ask_0 : a_fetch 280 0 = some (.aload 0, 1) := by decide +kernel
theorem fX10_ask_1 : a_fetch 280 1 = some (.iload 1, 2) := by decide +kernel
theorem fX10_ask_2 : a_fetch 280 2 = some (.invokevirtual 191, 5) := by decide +kernel
theorem fX10_ask_5 : a_fetch 280 5 = some (.ifCond .ne 17, 8) := by decide +kernel
theorem fX10_ask_8 : a_fetch 280 8 = some (.aload 0, 9) := by decide +kernel
theorem fX10_ask_9 : a_fetch 280 9 = some (.iconst 0, 10) := by decide +kernel
theorem fX10_ask_10 : a_fetch 280 10 = some (.multianewarray 10 1, 13) := by decide +kernel
theorem fX10_ask_13 : a_fetch 280 13 = some (.jsr_w (-1000000000000000), 16) := by decide +kernel
theorem fX10_ask_16 : a_fetch 280 16 = some (.lreturn, 17) := by decide +kernel
theorem fX10_ask_17 : a_fetch 280 17 = some (.aload 0, 18) := by decide +kernel
theorem fX10_ask_18 : a_fetch 280 18 = some (.aload 0, 19) := by decide +kernel
theorem fX10_ask_19 : a_fetch 280 19 = some (.invokeinterface 10 1, 22) := by decide +kernel
theorem fX10_ask_22 : a_fetch 280 22 = some (.multianewarray 10 3, 25) := by decide +kernel
theorem fX10_ask_25 : a_fetch 280 25 = some (.aload 0, 26) := by decide +kernel
theorem fX10_ask_26 : a_fetch 280 26 = some (.iconst 0, 27) := by decide +kernel
theorem fX10_ask_27 : a_fetch 280 27 = some (.multianewarray 10 1, 30) := by decide +kernel
theorem fX10_ask_30 : a_fetch 280 30 = some (.aload 0, 31) := by decide +kernel
theorem fX10_ask_31 : a_fetch 280 31 = some (.iconst 0, 32) := by decide +kernel
theorem fX10_ask_32 : a_fetch 280 32 = some (.multianewarray 10 2, 35) := by decide +kernel
theorem fX10_ask_35 : a_fetch 280 35 = some (.aload 0, 36) := by decide +kernel
theorem fX10_ask_36 : a_fetch 280 36 = some (.iconst (-1), 37) := by decide +kernel
theorem fX10_ask_37 : a_fetch 280 37 = some (.multianewarray 10 4, 40) := by decide +kernel
theorem fX10_ask_40 : a_fetch 280 40 = some (.aload 0, 41) := by decide +kernel
theorem fX10_ask_41 : a_fetch 280 41 = some (.iconst 0, 42) := by decide +kernel
theorem fX10_ask_42 : a_fetch 280 42 = some (.multianewarray 10 5, 45) := by decide +kernel
theorem fX10_ask_45 : a_fetch 280 45 = some (.aload 0, 46) := by decide +kernel
theorem fX10_ask_46 : a_fetch 280 46 = some (.iconst (-1), 47) := by decide +kernel
theorem fX10_ask_47 : a_fetch 280 47 = some (.multianewarray 10 6, 50) := by decide +kernel
theorem fX10_ask_50 : a_fetch 280 50 = some (.aload 0, 51) := by decide +kernel
theorem fX10_ask_51 : a_fetch 280 51 = some (.iconst 3, 52) := by decide +kernel
theorem fX10_ask_52 : a_fetch 280 52 = some (.multianewarray 10 48, 55) := by decide +kernel
theorem fX10_ask_55 : a_fetch 280 55 = some (.aload 0, 56) := by decide +kernel
theorem fX10_ask_56 : a_fetch 280 56 = some (.iconst 0, 57) := by decide +kernel
theorem fX10_ask_57 : a_fetch 280 57 = some (.multianewarray 10 98, 60) := by decide +kernel
theorem fX10_ask_60 : a_fetch 280 60 = some (.aload 0, 61) := by decide +kernel
theorem fX10_ask_61 : a_fetch 280 61 = some (.iconst 0, 62) := by decide +kernel
theorem fX10_ask_62 : a_fetch 280 62 = some (.multianewarray 10 100, 65) := by decide +kernel
theorem fX10_ask_65 : a_fetch 280 65 = some (.aload 0, 66) := by decide +kernel
theorem fX10_ask_66 : a_fetch 280 66 = some (.iconst 0, 67) := by decide +kernel
theorem fX10_ask_67 : a_fetch 280 67 = some (.multianewarray 10 101, 70) := by decide +kernel
theorem fX10_ask_70 : a_fetch 280 70 = some (.aload 0, 71) := by decide +kernel
theorem fX10_ask_71 : a_fetch 280 71 = some (.iconst 0, 72) := by decide +kernel
theorem fX10_ask_72 : a_fetch 280 72 = some (.multianewarray 10 102, 75) := by decide +kernel
theorem fX10_ask_75 : a_fetch 280 75 = some (.aload 0, 76) := by decide +kernel
theorem fX10_ask_76 : a_fetch 280 76 = some (.invokevirtual 278, 79) := by decide +kernel
theorem fX10_ask_79 : a_fetch 280 79 = some (.istore 2, 80) := by decide +kernel
theorem fX10_ask_80 : a_fetch 280 80 = some (.aload 0, 81) := by decide +kernel
theorem fX10_ask_81 : a_fetch 280 81 = some (.invokeinterface 10 5, 84) := by decide +kernel
theorem fX10_ask_84 : a_fetch 280 84 = some (.ifCond .ne 99, 87) := by decide +kernel
theorem fX10_ask_87 : a_fetch 280 87 = some (.iload 2, 88) := by decide +kernel
theorem fX10_ask_88 : a_fetch 280 88 = some (.iconst 3, 89) := by decide +kernel
theorem fX10_ask_89 : a_fetch 280 89 = some (.if_icmp .ge 99, 92) := by decide +kernel
theorem fX10_ask_92 : a_fetch 280 92 = some (.aload 0, 93) := by decide +kernel
theorem fX10_ask_93 : a_fetch 280 93 = some (.invokevirtual 269, 96) := by decide +kernel
theorem fX10_ask_96 : a_fetch 280 96 = some (.goto 110, 99) := by decide +kernel
theorem fX10_ask_99 : a_fetch 280 99 = some (.aload 0, 100) := by decide +kernel
theorem fX10_ask_100 : a_fetch 280 100 = some (.invokeinterface 10 5, 103) := by decide +kernel
theorem fX10_ask_103 : a_fetch 280 103 = some (.ifCond .ne 110, 106) := by decide +kernel
theorem fX10_ask_106 : a_fetch 280 106 = some (.aload 0, 107) := by decide +kernel
theorem fX10_ask_107 : a_fetch 280 107 = some (.invokevirtual 265, 110) := by decide +kernel
theorem fX10_ask_110 : a_fetch 280 110 = some (.aload 0, 111) := by decide +kernel
theorem fX10_ask_111 : a_fetch 280 111 = some (.invokeinterface 10 5, 114) := by decide +kernel
theorem fX10_ask_114 : a_fetch 280 114 = some (.ifCond .ne 134, 117) := by decide +kernel
theorem fX10_ask_117 : a_fetch 280 117 = some (.aload 0, 118) := by decide +kernel
theorem fX10_ask_118 : a_fetch 280 118 = some (.invokevirtual 165, 121) := by decide +kernel
theorem fX10_ask_121 : a_fetch 280 121 = some (.iconst (-1), 122) := by decide +kernel
theorem fX10_ask_122 : a_fetch 280 122 = some (.if_icmp .eq 134, 125) := by decide +kernel
theorem fX10_ask_125 : a_fetch 280 125 = some (.aload 0, 126) := by decide +kernel
theorem fX10_ask_126 : a_fetch 280 126 = some (.iconst 1, 127) := by decide +kernel
theorem fX10_ask_127 : a_fetch 280 127 = some (.aload 0, 128) := by decide +kernel
theorem fX10_ask_128 : a_fetch 280 128 = some (.invokeinterface 10 2, 131) := by decide +kernel
theorem fX10_ask_131 : a_fetch 280 131 = some (.invokevirtual 162, 134) := by decide +kernel
theorem fX10_ask_134 : a_fetch 280 134 = some (.aload 0, 135) := by decide +kernel
theorem fX10_ask_135 : a_fetch 280 135 = some (.aload 0, 136) := by decide +kernel
theorem fX10_ask_136 : a_fetch 280 136 = some (.invokeinterface 10 5, 139) := by decide +kernel
theorem fX10_ask_139 : a_fetch 280 139 = some (.multianewarray 10 7, 142) := by decide +kernel
theorem fX10_ask_142 : a_fetch 280 142 = some (.aload 0, 143) := by decide +kernel
theorem fX10_ask_143 : a_fetch 280 143 = some (.aload 0, 144) := by decide +kernel
theorem fX10_ask_144 : a_fetch 280 144 = some (.invokeinterface 10 6, 147) := by decide +kernel
theorem fX10_ask_147 : a_fetch 280 147 = some (.multianewarray 10 8, 150) := by decide +kernel
theorem fX10_ask_150 : a_fetch 280 150 = some (.aload 0, 151) := by decide +kernel
theorem fX10_ask_151 : a_fetch 280 151 = some (.invokeinterface 10 5, 154) := by decide +kernel
theorem fX10_ask_154 : a_fetch 280 154 = some (.ifCond .eq 161, 157) := by decide +kernel
theorem fX10_ask_157 : a_fetch 280 157 = some (.jsr_w (-1000000000000000), 160) := by decide +kernel
theorem fX10_ask_160 : a_fetch 280 160 = some (.lreturn, 161) := by decide +kernel
theorem fX10_ask_161 : a_fetch 280 161 = some (.aload 0, 162) := by decide +kernel
theorem fX10_ask_162 : a_fetch 280 162 = some (.iload 2, 163) := by decide +kernel
theorem fX10_ask_163 : a_fetch 280 163 = some (.iconst 2, 164) := by decide +kernel
theorem fX10_ask_164 : a_fetch 280 164 = some (.if_icmp .ge 173, 167) := by decide +kernel
theorem fX10_ask_167 : a_fetch 280 167 = some (.jsr_w (-1), 170) := by decide +kernel
theorem fX10_ask_170 : a_fetch 280 170 = some (.goto 174, 173) := by decide +kernel
theorem fX10_ask_173 : a_fetch 280 173 = some (.jsr_w 0, 174) := by decide +kernel
theorem fX10_ask_174 : a_fetch 280 174 = some (.multianewarray 10 105, 177) := by decide +kernel
theorem fX10_ask_177 : a_fetch 280 177 = some (.aload 0, 178) := by decide +kernel
theorem fX10_ask_178 : a_fetch 280 178 = some (.iconst 1, 179) := by decide +kernel
theorem fX10_ask_179 : a_fetch 280 179 = some (.multianewarray 10 106, 182) := by decide +kernel
theorem fX10_ask_182 : a_fetch 280 182 = some (.aload 0, 183) := by decide +kernel
theorem fX10_ask_183 : a_fetch 280 183 = some (.invokevirtual 201, 186) := by decide +kernel
theorem fX10_ask_186 : a_fetch 280 186 = some (.iconst 0, 187) := by decide +kernel
theorem fX10_ask_187 : a_fetch 280 187 = some (.istore 3, 188) := by decide +kernel
theorem fX10_ask_188 : a_fetch 280 188 = some (.iload 3, 189) := by decide +kernel
theorem fX10_ask_189 : a_fetch 280 189 = some (.iconst 48, 191) := by decide +kernel
theorem fX10_ask_191 : a_fetch 280 191 = some (.if_icmp .ge 275, 194) := by decide +kernel
theorem fX10_ask_194 : a_fetch 280 194 = some (.aload 0, 195) := by decide +kernel
theorem fX10_ask_195 : a_fetch 280 195 = some (.invokeinterface 10 50, 198) := by decide +kernel
theorem fX10_ask_198 : a_fetch 280 198 = some (.iconst 0, 199) := by decide +kernel
theorem fX10_ask_199 : a_fetch 280 199 = some (.iaload, 200) := by decide +kernel
theorem fX10_ask_200 : a_fetch 280 200 = some (.iload 3, 201) := by decide +kernel
theorem fX10_ask_201 : a_fetch 280 201 = some (.iadd, 202) := by decide +kernel
theorem fX10_ask_202 : a_fetch 280 202 = some (.iconst 9999, 205) := by decide +kernel
theorem fX10_ask_205 : a_fetch 280 205 = some (.if_icmp .gt 275, 208) := by decide +kernel
theorem fX10_ask_208 : a_fetch 280 208 = some (.aload 0, 209) := by decide +kernel
theorem fX10_ask_209 : a_fetch 280 209 = some (.invokevirtual 208, 212) := by decide +kernel
theorem fX10_ask_212 : a_fetch 280 212 = some (.iload 3, 213) := by decide +kernel
theorem fX10_ask_213 : a_fetch 280 213 = some (.ifCond .le 220, 216) := by decide +kernel
theorem fX10_ask_216 : a_fetch 280 216 = some (.aload 0, 217) := by decide +kernel
theorem fX10_ask_217 : a_fetch 280 217 = some (.invokevirtual 213, 220) := by decide +kernel
theorem fX10_ask_220 : a_fetch 280 220 = some (.aload 0, 221) := by decide +kernel
theorem fX10_ask_221 : a_fetch 280 221 = some (.iload 1, 222) := by decide +kernel
theorem fX10_ask_222 : a_fetch 280 222 = some (.multianewarray 10 58, 225) := by decide +kernel
theorem fX10_ask_225 : a_fetch 280 225 = some (.aload 0, 226) := by decide +kernel
theorem fX10_ask_226 : a_fetch 280 226 = some (.aload 0, 227) := by decide +kernel
theorem fX10_ask_227 : a_fetch 280 227 = some (.invokeinterface 10 49, 230) := by decide +kernel
theorem fX10_ask_230 : a_fetch 280 230 = some (.iconst 0, 231) := by decide +kernel
theorem fX10_ask_231 : a_fetch 280 231 = some (.iaload, 232) := by decide +kernel
theorem fX10_ask_232 : a_fetch 280 232 = some (.iconst 24, 234) := by decide +kernel
theorem fX10_ask_234 : a_fetch 280 234 = some (.irem, 235) := by decide +kernel
theorem fX10_ask_235 : a_fetch 280 235 = some (.i2l, 236) := by decide +kernel
theorem fX10_ask_236 : a_fetch 280 236 = some (.multianewarray 10 51, 239) := by decide +kernel
theorem fX10_ask_239 : a_fetch 280 239 = some (.aload 0, 240) := by decide +kernel
theorem fX10_ask_240 : a_fetch 280 240 = some (.aload 0, 241) := by decide +kernel
theorem fX10_ask_241 : a_fetch 280 241 = some (.invokeinterface 10 49, 244) := by decide +kernel
theorem fX10_ask_244 : a_fetch 280 244 = some (.iconst 0, 245) := by decide +kernel
theorem fX10_ask_245 : a_fetch 280 245 = some (.iaload, 246) := by decide +kernel
theorem fX10_ask_246 : a_fetch 280 246 = some (.iconst 24, 248) := by decide +kernel
theorem fX10_ask_248 : a_fetch 280 248 = some (.idiv, 249) := by decide +kernel
theorem fX10_ask_249 : a_fetch 280 249 = some (.i2l, 250) := by decide +kernel
theorem fX10_ask_250 : a_fetch 280 250 = some (.multianewarray 10 52, 253) := by decide +kernel
theorem fX10_ask_253 : a_fetch 280 253 = some (.aload 0, 254) := by decide +kernel
theorem fX10_ask_254 : a_fetch 280 254 = some (.iload 2, 255) := by decide +kernel
theorem fX10_ask_255 : a_fetch 280 255 = some (.aload 0, 256) := by decide +kernel
theorem fX10_ask_256 : a_fetch 280 256 = some (.iload 3, 257) := by decide +kernel
theorem fX10_ask_257 : a_fetch 280 257 = some (.invokevirtual 277, 260) := by decide +kernel
theorem fX10_ask_260 : a_fetch 280 260 = some (.aload 0, 261) := by decide +kernel
theorem fX10_ask_261 : a_fetch 280 261 = some (.invokeinterface 10 49, 264) := by decide +kernel
theorem fX10_ask_264 : a_fetch 280 264 = some (.iconst 0, 265) := by decide +kernel
theorem fX10_ask_265 : a_fetch 280 265 = some (.iaload, 266) := by decide +kernel
theorem fX10_ask_266 : a_fetch 280 266 = some (.invokevirtual 279, 269) := by decide +kernel
theorem fX10_ask_269 : a_fetch 280 269 = some (.iinc 3 1, 272) := by decide +kernel
theorem fX10_ask_272 : a_fetch 280 272 = some (.goto 188, 275) := by decide +kernel
theorem fX10_ask_275 : a_fetch 280 275 = some (.aload 0, 276) := by decide +kernel
theorem fX10_ask_276 : a_fetch 280 276 = some (.invokevirtual 202, 279) := by decide +kernel
theorem fX10_ask_279 : a_fetch 280 279 = some (.aload 0, 280) := by decide +kernel
theorem fX10_ask_280 : a_fetch 280 280 = some (.invokeinterface 10 105, 283) := by decide +kernel
theorem fX10_ask_283 : a_fetch 280 283 = some (.lreturn, 284) := by decide +kernel
theorem fX10_checked_0 : a_fetch 281 0 = some (.iconst 197, 3) := by decide +kernel
theorem fX10_checked_3 : a_fetch 281 3 = some (.istore 2, 4) := by decide +kernel
theorem fX10_checked_4 : a_fetch 281 4 = some (.iconst 0, 5) := by decide +kernel
theorem fX10_checked_5 : a_fetch 281 5 = some (.istore 3, 6) := by decide +kernel
theorem fX10_checked_6 : a_fetch 281 6 = some (.iload 3, 7) := by decide +kernel
theorem fX10_checked_7 : a_fetch 281 7 = some (.iload 1, 8) := by decide +kernel
theorem fX10_checked_8 : a_fetch 281 8 = some (.if_icmp .ge 29, 11) := by decide +kernel
theorem fX10_checked_11 : a_fetch 281 11 = some (.iconst 3, 12) := by decide +kernel
theorem fX10_checked_12 : a_fetch 281 12 = some (.iload 2, 13) := by decide +kernel
theorem fX10_checked_13 : a_fetch 281 13 = some (.imul, 14) := by decide +kernel
theorem fX10_checked_14 : a_fetch 281 14 = some (.aload 0, 15) := by decide +kernel
theorem fX10_checked_15 : a_fetch 281 15 = some (.iload 3, 16) := by decide +kernel
theorem fX10_checked_16 : a_fetch 281 16 = some (.iaload, 17) := by decide +kernel
theorem fX10_checked_17 : a_fetch 281 17 = some (.iadd, 18) := by decide +kernel
theorem fX10_checked_18 : a_fetch 281 18 = some (.iconst 251, 21) := by decide +kernel
theorem fX10_checked_21 : a_fetch 281 21 = some (.irem, 22) := by decide +kernel
theorem fX10_checked_22 : a_fetch 281 22 = some (.istore 2, 23) := by decide +kernel
theorem fX10_checked_23 : a_fetch 281 23 = some (.iinc 3 1, 26) := by decide +kernel
theorem fX10_checked_26 : a_fetch 281 26 = some (.goto 6, 29) := by decide +kernel
theorem fX10_checked_29 : a_fetch 281 29 = some (.iload 2, 30) := by decide +kernel
theorem fX10_checked_30 : a_fetch 281 30 = some (.ireturn, 31) := by decide +kernel
theorem fX10_writes_0 : a_fetch 282 0 = some (.aload 0, 1) := by decide +kernel
theorem fX10_writes_1 : a_fetch 282 1 = some (.invokeinterface 10 107, 4) := by decide +kernel
theorem fX10_writes_4 : a_fetch 282 4 = some (.aload 0, 5) := by decide +kernel
theorem fX10_writes_5 : a_fetch 282 5 = some (.invokeinterface 10 108, 8) := by decide +kernel
theorem fX10_writes_8 : a_fetch 282 8 = some (.iload 1, 9) := by decide +kernel
theorem fX10_writes_9 : a_fetch 282 9 = some (.iastore, 10) := by decide +kernel
theorem fX10_writes_10 : a_fetch 282 10 = some (.aload 0, 11) := by decide +kernel
theorem fX10_writes_11 : a_fetch 282 11 = some (.dup, 12) := by decide +kernel
theorem fX10_writes_12 : a_fetch 282 12 = some (.invokeinterface 10 108, 15) := by decide +kernel
theorem fX10_writes_15 : a_fetch 282 15 = some (.iconst 1, 16) := by decide +kernel
theorem fX10_writes_16 : a_fetch 282 16 = some (.iadd, 17) := by decide +kernel
theorem fX10_writes_17 : a_fetch 282 17 = some (.multianewarray 10 108, 20) := by decide +kernel
theorem fX10_writes_20 : a_fetch 282 20 = some (.return_, 21) := by decide +kernel
theorem fX10_image_0 : a_fetch 283 0 = some (.aload 0, 1) := by decide +kernel
theorem fX10_image_1 : a_fetch 283 1 = some (.iconst 0, 2) := by decide +kernel
theorem fX10_image_2 : a_fetch 283 2 = some (.multianewarray 10 108, 5) := by decide +kernel
theorem fX10_image_5 : a_fetch 283 5 = some (.aload 0, 6) := by decide +kernel
theorem fX10_image_6 : a_fetch 283 6 = some (.aload 0, 7) := by decide +kernel
theorem fX10_image_7 : a_fetch 283 7 = some (.invokeinterface 10 49, 10) := by decide +kernel
theorem fX10_image_10 : a_fetch 283 10 = some (.iconst 0, 11) := by decide +kernel
theorem fX10_image_11 : a_fetch 283 11 = some (.iaload, 12) := by decide +kernel
theorem fX10_image_12 : a_fetch 283 12 = some (.iconst 256, 15) := by decide +kernel
theorem fX10_image_15 : a_fetch 283 15 = some (.idiv, 16) := by decide +kernel
theorem fX10_image_16 : a_fetch 283 16 = some (.invokevirtual 282, 19) := by decide +kernel
theorem fX10_image_19 : a_fetch 283 19 = some (.aload 0, 20) := by decide +kernel
theorem fX10_image_20 : a_fetch 283 20 = some (.aload 0, 21) := by decide +kernel
theorem fX10_image_21 : a_fetch 283 21 = some (.invokeinterface 10 49, 24) := by decide +kernel
theorem fX10_image_24 : a_fetch 283 24 = some (.iconst 0, 25) := by decide +kernel
theorem fX10_image_25 : a_fetch 283 25 = some (.iaload, 26) := by decide +kernel
theorem fX10_image_26 : a_fetch 283 26 = some (.iconst 256, 29) := by decide +kernel
theorem fX10_image_29 : a_fetch 283 29 = some (.irem, 30) := by decide +kernel
theorem fX10_image_30 : a_fetch 283 30 = some (.invokevirtual 282, 33) := by decide +kernel
theorem fX10_image_33 : a_fetch 283 33 = some (.iconst 0, 34) := by decide +kernel
theorem fX10_image_34 : a_fetch 283 34 = some (.istore 1, 35) := by decide +kernel
theorem fX10_image_35 : a_fetch 283 35 = some (.iload 1, 36) := by decide +kernel
theorem fX10_image_36 : a_fetch 283 36 = some (.aload 0, 37) := by decide +kernel
theorem fX10_image_37 : a_fetch 283 37 = some (.invokevirtual 189, 40) := by decide +kernel
theorem fX10_image_40 : a_fetch 283 40 = some (.if_icmp .ge 97, 43) := by decide +kernel
theorem fX10_image_43 : a_fetch 283 43 = some (.aload 0, 44) := by decide +kernel
theorem fX10_image_44 : a_fetch 283 44 = some (.aload 0, 45) := by decide +kernel
theorem fX10_image_45 : a_fetch 283 45 = some (.iload 1, 46) := by decide +kernel
theorem fX10_image_46 : a_fetch 283 46 = some (.invokevirtual 195, 49) := by decide +kernel
theorem fX10_image_49 : a_fetch 283 49 = some (.iconst 1, 50) := by decide +kernel
theorem fX10_image_50 : a_fetch 283 50 = some (.iadd, 51) := by decide +kernel
theorem fX10_image_51 : a_fetch 283 51 = some (.invokevirtual 282, 54) := by decide +kernel
theorem fX10_image_54 : a_fetch 283 54 = some (.aload 0, 55) := by decide +kernel
theorem fX10_image_55 : a_fetch 283 55 = some (.aload 0, 56) := by decide +kernel
theorem fX10_image_56 : a_fetch 283 56 = some (.iload 1, 57) := by decide +kernel
theorem fX10_image_57 : a_fetch 283 57 = some (.invokevirtual 197, 60) := by decide +kernel
theorem fX10_image_60 : a_fetch 283 60 = some (.iconst 1, 61) := by decide +kernel
theorem fX10_image_61 : a_fetch 283 61 = some (.iadd, 62) := by decide +kernel
theorem fX10_image_62 : a_fetch 283 62 = some (.invokevirtual 282, 65) := by decide +kernel
theorem fX10_image_65 : a_fetch 283 65 = some (.iconst 0, 66) := by decide +kernel
theorem fX10_image_66 : a_fetch 283 66 = some (.istore 2, 67) := by decide +kernel
theorem fX10_image_67 : a_fetch 283 67 = some (.iload 2, 68) := by decide +kernel
theorem fX10_image_68 : a_fetch 283 68 = some (.aload 0, 69) := by decide +kernel
theorem fX10_image_69 : a_fetch 283 69 = some (.invokevirtual 189, 72) := by decide +kernel
theorem fX10_image_72 : a_fetch 283 72 = some (.if_icmp .ge 91, 75) := by decide +kernel
theorem fX10_image_75 : a_fetch 283 75 = some (.aload 0, 76) := by decide +kernel
theorem fX10_image_76 : a_fetch 283 76 = some (.aload 0, 77) := by decide +kernel
theorem fX10_image_77 : a_fetch 283 77 = some (.iload 1, 78) := by decide +kernel
theorem fX10_image_78 : a_fetch 283 78 = some (.iload 2, 79) := by decide +kernel
theorem fX10_image_79 : a_fetch 283 79 = some (.invokevirtual 198, 82) := by decide +kernel
theorem fX10_image_82 : a_fetch 283 82 = some (.invokevirtual 282, 85) := by decide +kernel
theorem fX10_image_85 : a_fetch 283 85 = some (.iinc 2 1, 88) := by decide +kernel
theorem fX10_image_88 : a_fetch 283 88 = some (.goto 67, 91) := by decide +kernel
theorem fX10_image_91 : a_fetch 283 91 = some (.iinc 1 1, 94) := by decide +kernel
theorem fX10_image_94 : a_fetch 283 94 = some (.goto 35, 97) := by decide +kernel
theorem fX10_image_97 : a_fetch 283 97 = some (.aload 0, 98) := by decide +kernel
theorem fX10_image_98 : a_fetch 283 98 = some (.aload 0, 99) := by decide +kernel
theorem fX10_image_99 : a_fetch 283 99 = some (.invokeinterface 10 107, 102) := by decide +kernel
theorem fX10_image_102 : a_fetch 283 102 = some (.aload 0, 103) := by decide +kernel
theorem fX10_image_103 : a_fetch 283 103 = some (.invokeinterface 10 108, 106) := by decide +kernel
theorem fX10_image_106 : a_fetch 283 106 = some (.invokestatic 281, 109) := by decide +kernel
theorem fX10_image_109 : a_fetch 283 109 = some (.invokevirtual 282, 112) := by decide +kernel
theorem fX10_image_112 : a_fetch 283 112 = some (.aload 0, 113) := by decide +kernel
theorem fX10_image_113 : a_fetch 283 113 = some (.invokeinterface 10 108, 116) := by decide +kernel
theorem fX10_image_116 : a_fetch 283 116 = some (.ireturn, 117) := by decide +kernel
theorem fX10_octet_0 : a_fetch 284 0 = some (.iload 1, 1) := by decide +kernel
theorem fX10_octet_1 : a_fetch 284 1 = some (.ifCond .lt 21, 4) := by decide +kernel
theorem fX10_octet_4 : a_fetch 284 4 = some (.iload 1, 5) := by decide +kernel
theorem fX10_octet_5 : a_fetch 284 5 = some (.aload 0, 6) := by decide +kernel
theorem fX10_octet_6 : a_fetch 284 6 = some (.invokeinterface 10 108, 9) := by decide +kernel
theorem fX10_octet_9 : a_fetch 284 9 = some (.if_icmp .ge 21, 12) := by decide +kernel
theorem fX10_octet_12 : a_fetch 284 12 = some (.aload 0, 13) := by decide +kernel
theorem fX10_octet_13 : a_fetch 284 13 = some (.invokeinterface 10 107, 16) := by decide +kernel
theorem fX10_octet_16 : a_fetch 284 16 = some (.iload 1, 17) := by decide +kernel
theorem fX10_octet_17 : a_fetch 284 17 = some (.iaload, 18) := by decide +kernel
theorem fX10_octet_18 : a_fetch 284 18 = some (.goto 22, 21) := by decide +kernel
theorem fX10_octet_21 : a_fetch 284 21 = some (.iconst (-1), 22) := by decide +kernel
theorem fX10_octet_22 : a_fetch 284 22 = some (.ireturn, 23) := by decide +kernel
theorem fX10_isPersonTold_0 : a_fetch 285 0 = some (.iconst 2, 1) := by decide +kernel
theorem fX10_isPersonTold_1 : a_fetch 285 1 = some (.aload 0, 2) := by decide +kernel
theorem fX10_isPersonTold_2 : a_fetch 285 2 = some (.invokevirtual 189, 5) := by decide +kernel
theorem fX10_isPersonTold_5 : a_fetch 285 5 = some (.iadd, 6) := by decide +kernel
theorem fX10_isPersonTold_6 : a_fetch 285 6 = some (.istore 2, 7) := by decide +kernel
theorem fX10_isPersonTold_7 : a_fetch 285 7 = some (.iconst 2, 8) := by decide +kernel
theorem fX10_isPersonTold_8 : a_fetch 285 8 = some (.iload 2, 9) := by decide +kernel
theorem fX10_isPersonTold_9 : a_fetch 285 9 = some (.iload 1, 10) := by decide +kernel
theorem fX10_isPersonTold_10 : a_fetch 285 10 = some (.imul, 11) := by decide +kernel
theorem fX10_isPersonTold_11 : a_fetch 285 11 = some (.iadd, 12) := by decide +kernel
theorem fX10_isPersonTold_12 : a_fetch 285 12 = some (.istore 3, 13) := by decide +kernel
theorem fX10_isPersonTold_13 : a_fetch 285 13 = some (.aload 0, 14) := by decide +kernel
theorem fX10_isPersonTold_14 : a_fetch 285 14 = some (.invokeinterface 10 0, 17) := by decide +kernel
theorem fX10_isPersonTold_17 : a_fetch 285 17 = some (.iload 3, 18) := by decide +kernel
theorem fX10_isPersonTold_18 : a_fetch 285 18 = some (.iaload, 19) := by decide +kernel
theorem fX10_isPersonTold_19 : a_fetch 285 19 = some (.aload 0, 20) := by decide +kernel
theorem fX10_isPersonTold_20 : a_fetch 285 20 = some (.invokevirtual 189, 23) := by decide +kernel
theorem fX10_isPersonTold_23 : a_fetch 285 23 = some (.if_icmp .gt 70, 26) := by decide +kernel
theorem fX10_isPersonTold_26 : a_fetch 285 26 = some (.aload 0, 27) := by decide +kernel
theorem fX10_isPersonTold_27 : a_fetch 285 27 = some (.invokeinterface 10 0, 30) := by decide +kernel
theorem fX10_isPersonTold_30 : a_fetch 285 30 = some (.iload 3, 31) := by decide +kernel
theorem fX10_isPersonTold_31 : a_fetch 285 31 = some (.iconst 1, 32) := by decide +kernel
theorem fX10_isPersonTold_32 : a_fetch 285 32 = some (.iadd, 33) := by decide +kernel
theorem fX10_isPersonTold_33 : a_fetch 285 33 = some (.iaload, 34) := by decide +kernel
theorem fX10_isPersonTold_34 : a_fetch 285 34 = some (.aload 0, 35) := by decide +kernel
theorem fX10_isPersonTold_35 : a_fetch 285 35 = some (.invokevirtual 189, 38) := by decide +kernel
theorem fX10_isPersonTold_38 : a_fetch 285 38 = some (.if_icmp .gt 70, 41) := by decide +kernel
theorem fX10_isPersonTold_41 : a_fetch 285 41 = some (.aload 0, 42) := by decide +kernel
theorem fX10_isPersonTold_42 : a_fetch 285 42 = some (.invokeinterface 10 0, 45) := by decide +kernel
theorem fX10_isPersonTold_45 : a_fetch 285 45 = some (.iload 3, 46) := by decide +kernel
theorem fX10_isPersonTold_46 : a_fetch 285 46 = some (.iconst 1, 47) := by decide +kernel
theorem fX10_isPersonTold_47 : a_fetch 285 47 = some (.iadd, 48) := by decide +kernel
theorem fX10_isPersonTold_48 : a_fetch 285 48 = some (.iaload, 49) := by decide +kernel
theorem fX10_isPersonTold_49 : a_fetch 285 49 = some (.iload 1, 50) := by decide +kernel
theorem fX10_isPersonTold_50 : a_fetch 285 50 = some (.iconst 1, 51) := by decide +kernel
theorem fX10_isPersonTold_51 : a_fetch 285 51 = some (.iadd, 52) := by decide +kernel
theorem fX10_isPersonTold_52 : a_fetch 285 52 = some (.if_icmp .eq 70, 55) := by decide +kernel
theorem fX10_isPersonTold_55 : a_fetch 285 55 = some (.aload 0, 56) := by decide +kernel
theorem fX10_isPersonTold_56 : a_fetch 285 56 = some (.invokeinterface 10 0, 59) := by decide +kernel
theorem fX10_isPersonTold_59 : a_fetch 285 59 = some (.iload 3, 60) := by decide +kernel
theorem fX10_isPersonTold_60 : a_fetch 285 60 = some (.iconst 2, 61) := by decide +kernel
theorem fX10_isPersonTold_61 : a_fetch 285 61 = some (.iadd, 62) := by decide +kernel
theorem fX10_isPersonTold_62 : a_fetch 285 62 = some (.iload 1, 63) := by decide +kernel
theorem fX10_isPersonTold_63 : a_fetch 285 63 = some (.iadd, 64) := by decide +kernel
theorem fX10_isPersonTold_64 : a_fetch 285 64 = some (.iaload, 65) := by decide +kernel
theorem fX10_isPersonTold_65 : a_fetch 285 65 = some (.iconst 99, 67) := by decide +kernel
theorem fX10_isPersonTold_67 : a_fetch 285 67 = some (.if_icmp .eq 72, 70) := by decide +kernel
theorem fX10_isPersonTold_70 : a_fetch 285 70 = some (.iconst 0, 71) := by decide +kernel
theorem fX10_isPersonTold_71 : a_fetch 285 71 = some (.ireturn, 72) := by decide +kernel
theorem fX10_isPersonTold_72 : a_fetch 285 72 = some (.iconst 0, 73) := by decide +kernel
theorem fX10_isPersonTold_73 : a_fetch 285 73 = some (.istore 4, 75) := by decide +kernel
theorem fX10_isPersonTold_75 : a_fetch 285 75 = some (.iload 4, 77) := by decide +kernel
theorem fX10_isPersonTold_77 : a_fetch 285 77 = some (.iload 1, 78) := by decide +kernel
theorem fX10_isPersonTold_78 : a_fetch 285 78 = some (.if_icmp .ge 118, 81) := by decide +kernel
theorem fX10_isPersonTold_81 : a_fetch 285 81 = some (.aload 0, 82) := by decide +kernel
theorem fX10_isPersonTold_82 : a_fetch 285 82 = some (.invokeinterface 10 0, 85) := by decide +kernel
theorem fX10_isPersonTold_85 : a_fetch 285 85 = some (.iload 3, 86) := by decide +kernel
theorem fX10_isPersonTold_86 : a_fetch 285 86 = some (.iaload, 87) := by decide +kernel
theorem fX10_isPersonTold_87 : a_fetch 285 87 = some (.ifCond .le 112, 90) := by decide +kernel
theorem fX10_isPersonTold_90 : a_fetch 285 90 = some (.aload 0, 91) := by decide +kernel
theorem fX10_isPersonTold_91 : a_fetch 285 91 = some (.invokeinterface 10 0, 94) := by decide +kernel
theorem fX10_isPersonTold_94 : a_fetch 285 94 = some (.iconst 2, 95) := by decide +kernel
theorem fX10_isPersonTold_95 : a_fetch 285 95 = some (.iload 2, 96) := by decide +kernel
theorem fX10_isPersonTold_96 : a_fetch 285 96 = some (.iload 4, 98) := by decide +kernel
theorem fX10_isPersonTold_98 : a_fetch 285 98 = some (.imul, 99) := by decide +kernel
theorem fX10_isPersonTold_99 : a_fetch 285 99 = some (.iadd, 100) := by decide +kernel
theorem fX10_isPersonTold_100 : a_fetch 285 100 = some (.iaload, 101) := by decide +kernel
theorem fX10_isPersonTold_101 : a_fetch 285 101 = some (.aload 0, 102) := by decide +kernel
theorem fX10_isPersonTold_102 : a_fetch 285 102 = some (.invokeinterface 10 0, 105) := by decide +kernel
theorem fX10_isPersonTold_105 : a_fetch 285 105 = some (.iload 3, 106) := by decide +kernel
theorem fX10_isPersonTold_106 : a_fetch 285 106 = some (.iaload, 107) := by decide +kernel
theorem fX10_isPersonTold_107 : a_fetch 285 107 = some (.if_icmp .ne 112, 110) := by decide +kernel
theorem fX10_isPersonTold_110 : a_fetch 285 110 = some (.iconst 0, 111) := by decide +kernel
theorem fX10_isPersonTold_111 : a_fetch 285 111 = some (.ireturn, 112) := by decide +kernel
theorem fX10_isPersonTold_112 : a_fetch 285 112 = some (.iinc 4 1, 115) := by decide +kernel
theorem fX10_isPersonTold_115 : a_fetch 285 115 = some (.goto 75, 118) := by decide +kernel
theorem fX10_isPersonTold_118 : a_fetch 285 118 = some (.iconst 0, 119) := by decide +kernel
theorem fX10_isPersonTold_119 : a_fetch 285 119 = some (.istore 4, 121) := by decide +kernel
theorem fX10_isPersonTold_121 : a_fetch 285 121 = some (.iload 4, 123) := by decide +kernel
theorem fX10_isPersonTold_123 : a_fetch 285 123 = some (.aload 0, 124) := by decide +kernel
theorem fX10_isPersonTold_124 : a_fetch 285 124 = some (.invokevirtual 189, 127) := by decide +kernel
theorem fX10_isPersonTold_127 : a_fetch 285 127 = some (.if_icmp .ge 154, 130) := by decide +kernel
theorem fX10_isPersonTold_130 : a_fetch 285 130 = some (.aload 0, 131) := by decide +kernel
theorem fX10_isPersonTold_131 : a_fetch 285 131 = some (.invokeinterface 10 0, 134) := by decide +kernel
theorem fX10_isPersonTold_134 : a_fetch 285 134 = some (.iload 3, 135) := by decide +kernel
theorem fX10_isPersonTold_135 : a_fetch 285 135 = some (.iconst 2, 136) := by decide +kernel
theorem fX10_isPersonTold_136 : a_fetch 285 136 = some (.iadd, 137) := by decide +kernel
theorem fX10_isPersonTold_137 : a_fetch 285 137 = some (.iload 4, 139) := by decide +kernel
theorem fX10_isPersonTold_139 : a_fetch 285 139 = some (.iadd, 140) := by decide +kernel
theorem fX10_isPersonTold_140 : a_fetch 285 140 = some (.iaload, 141) := by decide +kernel
theorem fX10_isPersonTold_141 : a_fetch 285 141 = some (.iconst 99, 143) := by decide +kernel
theorem fX10_isPersonTold_143 : a_fetch 285 143 = some (.if_icmp .le 148, 146) := by decide +kernel
theorem fX10_isPersonTold_146 : a_fetch 285 146 = some (.iconst 0, 147) := by decide +kernel
theorem fX10_isPersonTold_147 : a_fetch 285 147 = some (.ireturn, 148) := by decide +kernel
theorem fX10_isPersonTold_148 : a_fetch 285 148 = some (.iinc 4 1, 151) := by decide +kernel
theorem fX10_isPersonTold_151 : a_fetch 285 151 = some (.goto 121, 154) := by decide +kernel
theorem fX10_isPersonTold_154 : a_fetch 285 154 = some (.iconst 1, 155) := by decide +kernel
theorem fX10_isPersonTold_155 : a_fetch 285 155 = some (.ireturn, 156) := by decide +kernel
theorem fX10_isTold_0 : a_fetch 286 0 = some (.iconst 2, 1) := by decide +kernel
theorem fX10_isTold_1 : a_fetch 286 1 = some (.aload 0, 2) := by decide +kernel
theorem fX10_isTold_2 : a_fetch 286 2 = some (.invokevirtual 189, 5) := by decide +kernel
theorem fX10_isTold_5 : a_fetch 286 5 = some (.iadd, 6) := by decide +kernel
theorem fX10_isTold_6 : a_fetch 286 6 = some (.istore 2, 7) := by decide +kernel
theorem fX10_isTold_7 : a_fetch 286 7 = some (.iload 1, 8) := by decide +kernel
theorem fX10_isTold_8 : a_fetch 286 8 = some (.iconst 3, 9) := by decide +kernel
theorem fX10_isTold_9 : a_fetch 286 9 = some (.iload 2, 10) := by decide +kernel
theorem fX10_isTold_10 : a_fetch 286 10 = some (.aload 0, 11) := by decide +kernel
theorem fX10_isTold_11 : a_fetch 286 11 = some (.invokevirtual 189, 14) := by decide +kernel
theorem fX10_isTold_14 : a_fetch 286 14 = some (.imul, 15) := by decide +kernel
theorem fX10_isTold_15 : a_fetch 286 15 = some (.iadd, 16) := by decide +kernel
theorem fX10_isTold_16 : a_fetch 286 16 = some (.if_icmp .ne 63, 19) := by decide +kernel
theorem fX10_isTold_19 : a_fetch 286 19 = some (.aload 0, 20) := by decide +kernel
theorem fX10_isTold_20 : a_fetch 286 20 = some (.invokeinterface 10 0, 23) := by decide +kernel
theorem fX10_isTold_23 : a_fetch 286 23 = some (.iload 1, 24) := by decide +kernel
theorem fX10_isTold_24 : a_fetch 286 24 = some (.iconst 1, 25) := by decide +kernel
theorem fX10_isTold_25 : a_fetch 286 25 = some (.isub, 26) := by decide +kernel
theorem fX10_isTold_26 : a_fetch 286 26 = some (.iaload, 27) := by decide +kernel
theorem fX10_isTold_27 : a_fetch 286 27 = some (.aload 0, 28) := by decide +kernel
theorem fX10_isTold_28 : a_fetch 286 28 = some (.invokeinterface 10 0, 31) := by decide +kernel
theorem fX10_isTold_31 : a_fetch 286 31 = some (.iload 1, 32) := by decide +kernel
theorem fX10_isTold_32 : a_fetch 286 32 = some (.iconst 1, 33) := by decide +kernel
theorem fX10_isTold_33 : a_fetch 286 33 = some (.isub, 34) := by decide +kernel
theorem fX10_isTold_34 : a_fetch 286 34 = some (.invokestatic 281, 37) := by decide +kernel
theorem fX10_isTold_37 : a_fetch 286 37 = some (.if_icmp .ne 63, 40) := by decide +kernel
theorem fX10_isTold_40 : a_fetch 286 40 = some (.iconst 256, 43) := by decide +kernel
theorem fX10_isTold_43 : a_fetch 286 43 = some (.aload 0, 44) := by decide +kernel
theorem fX10_isTold_44 : a_fetch 286 44 = some (.invokeinterface 10 0, 47) := by decide +kernel
theorem fX10_isTold_47 : a_fetch 286 47 = some (.iconst 0, 48) := by decide +kernel
theorem fX10_isTold_48 : a_fetch 286 48 = some (.iaload, 49) := by decide +kernel
theorem fX10_isTold_49 : a_fetch 286 49 = some (.imul, 50) := by decide +kernel
theorem fX10_isTold_50 : a_fetch 286 50 = some (.aload 0, 51) := by decide +kernel
theorem fX10_isTold_51 : a_fetch 286 51 = some (.invokeinterface 10 0, 54) := by decide +kernel
theorem fX10_isTold_54 : a_fetch 286 54 = some (.iconst 1, 55) := by decide +kernel
theorem fX10_isTold_55 : a_fetch 286 55 = some (.iaload, 56) := by decide +kernel
theorem fX10_isTold_56 : a_fetch 286 56 = some (.iadd, 57) := by decide +kernel
theorem fX10_isTold_57 : a_fetch 286 57 = some (.iconst 9999, 60) := by decide +kernel
theorem fX10_isTold_60 : a_fetch 286 60 = some (.if_icmp .le 65, 63) := by decide +kernel
theorem fX10_isTold_63 : a_fetch 286 63 = some (.iconst 0, 64) := by decide +kernel
theorem fX10_isTold_64 : a_fetch 286 64 = some (.ireturn, 65) := by decide +kernel
theorem fX10_isTold_65 : a_fetch 286 65 = some (.iconst 0, 66) := by decide +kernel
theorem fX10_isTold_66 : a_fetch 286 66 = some (.istore 3, 67) := by decide +kernel
theorem fX10_isTold_67 : a_fetch 286 67 = some (.iload 3, 68) := by decide +kernel
theorem fX10_isTold_68 : a_fetch 286 68 = some (.aload 0, 69) := by decide +kernel
theorem fX10_isTold_69 : a_fetch 286 69 = some (.invokevirtual 189, 72) := by decide +kernel
theorem fX10_isTold_72 : a_fetch 286 72 = some (.if_icmp .ge 91, 75) := by decide +kernel
theorem fX10_isTold_75 : a_fetch 286 75 = some (.aload 0, 76) := by decide +kernel
theorem fX10_isTold_76 : a_fetch 286 76 = some (.iload 3, 77) := by decide +kernel
theorem fX10_isTold_77 : a_fetch 286 77 = some (.invokevirtual 285, 80) := by decide +kernel
theorem fX10_isTold_80 : a_fetch 286 80 = some (.ifCond .ne 85, 83) := by decide +kernel
theorem fX10_isTold_83 : a_fetch 286 83 = some (.iconst 0, 84) := by decide +kernel
theorem fX10_isTold_84 : a_fetch 286 84 = some (.ireturn, 85) := by decide +kernel
theorem fX10_isTold_85 : a_fetch 286 85 = some (.iinc 3 1, 88) := by decide +kernel
theorem fX10_isTold_88 : a_fetch 286 88 = some (.goto 67, 91) := by decide +kernel
theorem fX10_isTold_91 : a_fetch 286 91 = some (.iconst 1, 92) := by decide +kernel
theorem fX10_isTold_92 : a_fetch 286 92 = some (.ireturn, 93) := by decide +kernel
theorem fX10_on_0 : a_fetch 287 0 = some (.aload 0, 1) := by decide +kernel
theorem fX10_on_1 : a_fetch 287 1 = some (.invokeinterface 10 1, 4) := by decide +kernel
theorem fX10_on_4 : a_fetch 287 4 = some (.istore 1, 5) := by decide +kernel
theorem fX10_on_5 : a_fetch 287 5 = some (.aload 0, 6) := by decide +kernel
theorem fX10_on_6 : a_fetch 287 6 = some (.iconst 0, 7) := by decide +kernel
theorem fX10_on_7 : a_fetch 287 7 = some (.multianewarray 10 1, 10) := by decide +kernel
theorem fX10_on_10 : a_fetch 287 10 = some (.aload 0, 11) := by decide +kernel
theorem fX10_on_11 : a_fetch 287 11 = some (.iload 1, 12) := by decide +kernel
theorem fX10_on_12 : a_fetch 287 12 = some (.invokevirtual 286, 15) := by decide +kernel
theorem fX10_on_15 : a_fetch 287 15 = some (.ifCond .ne 30, 18) := by decide +kernel
theorem fX10_on_18 : a_fetch 287 18 = some (.aload 0, 19) := by decide +kernel
theorem fX10_on_19 : a_fetch 287 19 = some (.invokeinterface 10 9, 22) := by decide +kernel
theorem fX10_on_22 : a_fetch 287 22 = some (.iconst 5, 23) := by decide +kernel
theorem fX10_on_23 : a_fetch 287 23 = some (.dup2, 24) := by decide +kernel
theorem fX10_on_24 : a_fetch 287 24 = some (.iaload, 25) := by decide +kernel
theorem fX10_on_25 : a_fetch 287 25 = some (.iconst 1, 26) := by decide +kernel
theorem fX10_on_26 : a_fetch 287 26 = some (.iadd, 27) := by decide +kernel
theorem fX10_on_27 : a_fetch 287 27 = some (.iastore, 28) := by decide +kernel
theorem fX10_on_28 : a_fetch 287 28 = some (.iconst 0, 29) := by decide +kernel
theorem fX10_on_29 : a_fetch 287 29 = some (.ireturn, 30) := by decide +kernel
theorem fX10_on_30 : a_fetch 287 30 = some (.aload 0, 31) := by decide +kernel
theorem fX10_on_31 : a_fetch 287 31 = some (.invokeinterface 10 49, 34) := by decide +kernel
theorem fX10_on_34 : a_fetch 287 34 = some (.iconst 0, 35) := by decide +kernel
theorem fX10_on_35 : a_fetch 287 35 = some (.iconst 256, 38) := by decide +kernel
theorem fX10_on_38 : a_fetch 287 38 = some (.aload 0, 39) := by decide +kernel
theorem fX10_on_39 : a_fetch 287 39 = some (.invokeinterface 10 0, 42) := by decide +kernel
theorem fX10_on_42 : a_fetch 287 42 = some (.iconst 0, 43) := by decide +kernel
theorem fX10_on_43 : a_fetch 287 43 = some (.iaload, 44) := by decide +kernel
theorem fX10_on_44 : a_fetch 287 44 = some (.imul, 45) := by decide +kernel
theorem fX10_on_45 : a_fetch 287 45 = some (.aload 0, 46) := by decide +kernel
theorem fX10_on_46 : a_fetch 287 46 = some (.invokeinterface 10 0, 49) := by decide +kernel
theorem fX10_on_49 : a_fetch 287 49 = some (.iconst 1, 50) := by decide +kernel
theorem fX10_on_50 : a_fetch 287 50 = some (.iaload, 51) := by decide +kernel
theorem fX10_on_51 : a_fetch 287 51 = some (.iadd, 52) := by decide +kernel
theorem fX10_on_52 : a_fetch 287 52 = some (.iastore, 53) := by decide +kernel
theorem fX10_on_53 : a_fetch 287 53 = some (.iconst 0, 54) := by decide +kernel
theorem fX10_on_54 : a_fetch 287 54 = some (.istore 2, 55) := by decide +kernel
theorem fX10_on_55 : a_fetch 287 55 = some (.iload 2, 56) := by decide +kernel
theorem fX10_on_56 : a_fetch 287 56 = some (.aload 0, 57) := by decide +kernel
theorem fX10_on_57 : a_fetch 287 57 = some (.invokevirtual 189, 60) := by decide +kernel
theorem fX10_on_60 : a_fetch 287 60 = some (.if_icmp .ge 150, 63) := by decide +kernel
theorem fX10_on_63 : a_fetch 287 63 = some (.iconst 2, 64) := by decide +kernel
theorem fX10_on_64 : a_fetch 287 64 = some (.iconst 2, 65) := by decide +kernel
theorem fX10_on_65 : a_fetch 287 65 = some (.aload 0, 66) := by decide +kernel
theorem fX10_on_66 : a_fetch 287 66 = some (.invokevirtual 189, 69) := by decide +kernel
theorem fX10_on_69 : a_fetch 287 69 = some (.iadd, 70) := by decide +kernel
theorem fX10_on_70 : a_fetch 287 70 = some (.iload 2, 71) := by decide +kernel
theorem fX10_on_71 : a_fetch 287 71 = some (.imul, 72) := by decide +kernel
theorem fX10_on_72 : a_fetch 287 72 = some (.iadd, 73) := by decide +kernel
theorem fX10_on_73 : a_fetch 287 73 = some (.istore 3, 74) := by decide +kernel
theorem fX10_on_74 : a_fetch 287 74 = some (.aload 0, 75) := by decide +kernel
theorem fX10_on_75 : a_fetch 287 75 = some (.iload 2, 76) := by decide +kernel
theorem fX10_on_76 : a_fetch 287 76 = some (.aload 0, 77) := by decide +kernel
theorem fX10_on_77 : a_fetch 287 77 = some (.invokeinterface 10 0, 80) := by decide +kernel
theorem fX10_on_80 : a_fetch 287 80 = some (.iload 3, 81) := by decide +kernel
theorem fX10_on_81 : a_fetch 287 81 = some (.iaload, 82) := by decide +kernel
theorem fX10_on_82 : a_fetch 287 82 = some (.iconst 1, 83) := by decide +kernel
theorem fX10_on_83 : a_fetch 287 83 = some (.isub, 84) := by decide +kernel
theorem fX10_on_84 : a_fetch 287 84 = some (.invokevirtual 196, 87) := by decide +kernel
theorem fX10_on_87 : a_fetch 287 87 = some (.aload 0, 88) := by decide +kernel
theorem fX10_on_88 : a_fetch 287 88 = some (.invokeinterface 10 49, 91) := by decide +kernel
theorem fX10_on_91 : a_fetch 287 91 = some (.iconst 2, 92) := by decide +kernel
theorem fX10_on_92 : a_fetch 287 92 = some (.iconst 12, 94) := by decide +kernel
theorem fX10_on_94 : a_fetch 287 94 = some (.iload 2, 95) := by decide +kernel
theorem fX10_on_95 : a_fetch 287 95 = some (.imul, 96) := by decide +kernel
theorem fX10_on_96 : a_fetch 287 96 = some (.iadd, 97) := by decide +kernel
theorem fX10_on_97 : a_fetch 287 97 = some (.aload 0, 98) := by decide +kernel
theorem fX10_on_98 : a_fetch 287 98 = some (.invokeinterface 10 0, 101) := by decide +kernel
theorem fX10_on_101 : a_fetch 287 101 = some (.iload 3, 102) := by decide +kernel
theorem fX10_on_102 : a_fetch 287 102 = some (.iconst 1, 103) := by decide +kernel
theorem fX10_on_103 : a_fetch 287 103 = some (.iadd, 104) := by decide +kernel
theorem fX10_on_104 : a_fetch 287 104 = some (.iaload, 105) := by decide +kernel
theorem fX10_on_105 : a_fetch 287 105 = some (.iconst 1, 106) := by decide +kernel
theorem fX10_on_106 : a_fetch 287 106 = some (.isub, 107) := by decide +kernel
theorem fX10_on_107 : a_fetch 287 107 = some (.iastore, 108) := by decide +kernel
theorem fX10_on_108 : a_fetch 287 108 = some (.iconst 0, 109) := by decide +kernel
theorem fX10_on_109 : a_fetch 287 109 = some (.istore 4, 111) := by decide +kernel
theorem fX10_on_111 : a_fetch 287 111 = some (.iload 4, 113) := by decide +kernel
theorem fX10_on_113 : a_fetch 287 113 = some (.aload 0, 114) := by decide +kernel
theorem fX10_on_114 : a_fetch 287 114 = some (.invokevirtual 189, 117) := by decide +kernel
theorem fX10_on_117 : a_fetch 287 117 = some (.if_icmp .ge 144, 120) := by decide +kernel
theorem fX10_on_120 : a_fetch 287 120 = some (.aload 0, 121) := by decide +kernel
theorem fX10_on_121 : a_fetch 287 121 = some (.iload 2, 122) := by decide +kernel
theorem fX10_on_122 : a_fetch 287 122 = some (.iload 4, 124) := by decide +kernel
theorem fX10_on_124 : a_fetch 287 124 = some (.aload 0, 125) := by decide +kernel
theorem fX10_on_125 : a_fetch 287 125 = some (.invokeinterface 10 0, 128) := by decide +kernel
theorem fX10_on_128 : a_fetch 287 128 = some (.iload 3, 129) := by decide +kernel
theorem fX10_on_129 : a_fetch 287 129 = some (.iconst 2, 130) := by decide +kernel
theorem fX10_on_130 : a_fetch 287 130 = some (.iadd, 131) := by decide +kernel
theorem fX10_on_131 : a_fetch 287 131 = some (.iload 4, 133) := by decide +kernel
theorem fX10_on_133 : a_fetch 287 133 = some (.iadd, 134) := by decide +kernel
theorem fX10_on_134 : a_fetch 287 134 = some (.iaload, 135) := by decide +kernel
theorem fX10_on_135 : a_fetch 287 135 = some (.invokevirtual 199, 138) := by decide +kernel
theorem fX10_on_138 : a_fetch 287 138 = some (.iinc 4 1, 141) := by decide +kernel
theorem fX10_on_141 : a_fetch 287 141 = some (.goto 111, 144) := by decide +kernel
theorem fX10_on_144 : a_fetch 287 144 = some (.iinc 2 1, 147) := by decide +kernel
theorem fX10_on_147 : a_fetch 287 147 = some (.goto 55, 150) := by decide +kernel
theorem fX10_on_150 : a_fetch 287 150 = some (.aload 0, 151) := by decide +kernel
theorem fX10_on_151 : a_fetch 287 151 = some (.invokeinterface 10 49, 154) := by decide +kernel
theorem fX10_on_154 : a_fetch 287 154 = some (.iconst 121, 156) := by decide +kernel
theorem fX10_on_156 : a_fetch 287 156 = some (.iconst 0, 157) := by decide +kernel
theorem fX10_on_157 : a_fetch 287 157 = some (.iastore, 158) := by decide +kernel
theorem fX10_on_158 : a_fetch 287 158 = some (.aload 0, 159) := by decide +kernel
theorem fX10_on_159 : a_fetch 287 159 = some (.iconst 0, 160) := by decide +kernel
theorem fX10_on_160 : a_fetch 287 160 = some (.multianewarray 10 69, 163) := by decide +kernel
theorem fX10_on_163 : a_fetch 287 163 = some (.iconst 1, 164) := by decide +kernel
theorem fX10_on_164 : a_fetch 287 164 = some (.ireturn, 165) := by decide +kernel
theorem fX10_status_0 : a_fetch 288 0 = some (.iload 1, 1) := by decide +kernel
theorem fX10_status_1 : a_fetch 288 1 = some (.i2l, 2) := by decide +kernel
theorem fX10_status_2 : a_fetch 288 2 = some (.jsr_w 0, 3) := by decide +kernel
theorem fX10_status_3 : a_fetch 288 3 = some (.jsr_w 5, 6) := by decide +kernel
theorem fX10_status_6 : a_fetch 288 6 = some (.invokestatic 159, 9) := by decide +kernel
theorem fX10_status_9 : a_fetch 288 9 = some (.ifCond .eq 21, 12) := by decide +kernel
theorem fX10_status_12 : a_fetch 288 12 = some (.aload 0, 13) := by decide +kernel
theorem fX10_status_13 : a_fetch 288 13 = some (.invokeinterface 10 9, 16) := by decide +kernel
theorem fX10_status_16 : a_fetch 288 16 = some (.iload 1, 17) := by decide +kernel
theorem fX10_status_17 : a_fetch 288 17 = some (.iaload, 18) := by decide +kernel
theorem fX10_status_18 : a_fetch 288 18 = some (.goto 22, 21) := by decide +kernel
theorem fX10_status_21 : a_fetch 288 21 = some (.iconst (-1), 22) := by decide +kernel
theorem fX10_status_22 : a_fetch 288 22 = some (.ireturn, 23) := by decide +kernel
theorem fM_max_0 : a_fetch 289 0 = some (.iload 0, 1) := by decide +kernel
theorem fM_max_1 : a_fetch 289 1 = some (.iload 1, 2) := by decide +kernel
theorem fM_max_2 : a_fetch 289 2 = some (.if_icmp .lt 9, 5) := by decide +kernel
theorem fM_max_5 : a_fetch 289 5 = some (.iload 0, 6) := by decide +kernel
theorem fM_max_6 : a_fetch 289 6 = some (.goto 10, 9) := by decide +kernel
theorem fM_max_9 : a_fetch 289 9 = some (.iload 1, 10) := by decide +kernel
theorem fM_max_10 : a_fetch 289 10 = some (.ireturn, 11) := by decide +kernel
theorem fM_min_0 : a_fetch 290 0 = some (.iload 0, 1) := by decide +kernel
theorem fM_min_1 : a_fetch 290 1 = some (.iload 1, 2) := by decide +kernel
theorem fM_min_2 : a_fetch 290 2 = some (.if_icmp .gt 9, 5) := by decide +kernel
theorem fM_min_5 : a_fetch 290 5 = some (.iload 0, 6) := by decide +kernel
theorem fM_min_6 : a_fetch 290 6 = some (.goto 10, 9) := by decide +kernel
theorem fM_min_9 : a_fetch 290 9 = some (.iload 1, 10) := by decide +kernel
theorem fM_min_10 : a_fetch 290 10 = some (.ireturn, 11) := by decide +kernel
theorem fM_lmax_0 : a_fetch 291 0 = some (.lload 0, 1) := by decide +kernel
theorem fM_lmax_1 : a_fetch 291 1 = some (.lload 2, 2) := by decide +kernel
theorem fM_lmax_2 : a_fetch 291 2 = some (.lcmp, 3) := by decide +kernel
theorem fM_lmax_3 : a_fetch 291 3 = some (.ifCond .lt 10, 6) := by decide +kernel
theorem fM_lmax_6 : a_fetch 291 6 = some (.lload 0, 7) := by decide +kernel
theorem fM_lmax_7 : a_fetch 291 7 = some (.goto 11, 10) := by decide +kernel
theorem fM_lmax_10 : a_fetch 291 10 = some (.lload 2, 11) := by decide +kernel
theorem fM_lmax_11 : a_fetch 291 11 = some (.lreturn, 12) := by decide +kernel
theorem fM_lmin_0 : a_fetch 292 0 = some (.lload 0, 1) := by decide +kernel
theorem fM_lmin_1 : a_fetch 292 1 = some (.lload 2, 2) := by decide +kernel
theorem fM_lmin_2 : a_fetch 292 2 = some (.lcmp, 3) := by decide +kernel
theorem fM_lmin_3 : a_fetch 292 3 = some (.ifCond .gt 10, 6) := by decide +kernel
theorem fM_lmin_6 : a_fetch 292 6 = some (.lload 0, 7) := by decide +kernel
theorem fM_lmin_7 : a_fetch 292 7 = some (.goto 11, 10) := by decide +kernel
theorem fM_lmin_10 : a_fetch 292 10 = some (.lload 2, 11) := by decide +kernel
theorem fM_lmin_11 : a_fetch 292 11 = some (.lreturn, 12) := by decide +kernel
theorem fJ9_floorDiv_7cf53_0 : a_fetch 293 0 = some (.iload 0, 1) := by decide +kernel
theorem fJ9_floorDiv_7cf53_1 : a_fetch 293 1 = some (.iload 1, 2) := by decide +kernel
theorem fJ9_floorDiv_7cf53_2 : a_fetch 293 2 = some (.idiv, 3) := by decide +kernel
theorem fJ9_floorDiv_7cf53_3 : a_fetch 293 3 = some (.istore 2, 4) := by decide +kernel
theorem fJ9_floorDiv_7cf53_4 : a_fetch 293 4 = some (.iload 0, 5) := by decide +kernel
theorem fJ9_floorDiv_7cf53_5 : a_fetch 293 5 = some (.iload 1, 6) := by decide +kernel
theorem fJ9_floorDiv_7cf53_6 : a_fetch 293 6 = some (.ixor, 7) := by decide +kernel
theorem fJ9_floorDiv_7cf53_7 : a_fetch 293 7 = some (.ifCond .ge 21, 10) := by decide +kernel
theorem fJ9_floorDiv_7cf53_10 : a_fetch 293 10 = some (.iload 2, 11) := by decide +kernel
theorem fJ9_floorDiv_7cf53_11 : a_fetch 293 11 = some (.iload 1, 12) := by decide +kernel
theorem fJ9_floorDiv_7cf53_12 : a_fetch 293 12 = some (.imul, 13) := by decide +kernel
theorem fJ9_floorDiv_7cf53_13 : a_fetch 293 13 = some (.iload 0, 14) := by decide +kernel
theorem fJ9_floorDiv_7cf53_14 : a_fetch 293 14 = some (.if_icmp .eq 21, 17) := by decide +kernel
theorem fJ9_floorDiv_7cf53_17 : a_fetch 293 17 = some (.iload 2, 18) := by decide +kernel
theorem fJ9_floorDiv_7cf53_18 : a_fetch 293 18 = some (.iconst 1, 19) := by decide +kernel
theorem fJ9_floorDiv_7cf53_19 : a_fetch 293 19 = some (.isub, 20) := by decide +kernel
theorem fJ9_floorDiv_7cf53_20 : a_fetch 293 20 = some (.ireturn, 21) := by decide +kernel
theorem fJ9_floorDiv_7cf53_21 : a_fetch 293 21 = some (.iload 2, 22) := by decide +kernel
theorem fJ9_floorDiv_7cf53_22 : a_fetch 293 22 = some (.ireturn, 23) := by decide +kernel
theorem fJ9_floorMod_7cf53_0 : a_fetch 294 0 = some (.iload 0, 1) := by decide +kernel
theorem fJ9_floorMod_7cf53_1 : a_fetch 294 1 = some (.iload 1, 2) := by decide +kernel
theorem fJ9_floorMod_7cf53_2 : a_fetch 294 2 = some (.irem, 3) := by decide +kernel
theorem fJ9_floorMod_7cf53_3 : a_fetch 294 3 = some (.istore 2, 4) := by decide +kernel
theorem fJ9_floorMod_7cf53_4 : a_fetch 294 4 = some (.iload 0, 5) := by decide +kernel
theorem fJ9_floorMod_7cf53_5 : a_fetch 294 5 = some (.iload 1, 6) := by decide +kernel
theorem fJ9_floorMod_7cf53_6 : a_fetch 294 6 = some (.ixor, 7) := by decide +kernel
theorem fJ9_floorMod_7cf53_7 : a_fetch 294 7 = some (.ifCond .ge 18, 10) := by decide +kernel
theorem fJ9_floorMod_7cf53_10 : a_fetch 294 10 = some (.iload 2, 11) := by decide +kernel
theorem fJ9_floorMod_7cf53_11 : a_fetch 294 11 = some (.ifCond .eq 18, 14) := by decide +kernel
theorem fJ9_floorMod_7cf53_14 : a_fetch 294 14 = some (.iload 2, 15) := by decide +kernel
theorem fJ9_floorMod_7cf53_15 : a_fetch 294 15 = some (.iload 1, 16) := by decide +kernel
theorem fJ9_floorMod_7cf53_16 : a_fetch 294 16 = some (.iadd, 17) := by decide +kernel
theorem fJ9_floorMod_7cf53_17 : a_fetch 294 17 = some (.ireturn, 18) := by decide +kernel
theorem fJ9_floorMod_7cf53_18 : a_fetch 294 18 = some (.iload 2, 19) := by decide +kernel
theorem fJ9_floorMod_7cf53_19 : a_fetch 294 19 = some (.ireturn, 20) := by decide +kernel
theorem fJ6_bitCount_0f7a4_0 : a_fetch 295 0 = some (.iload 0, 1) := by decide +kernel
theorem fJ6_bitCount_0f7a4_1 : a_fetch 295 1 = some (.iload 0, 2) := by decide +kernel
theorem fJ6_bitCount_0f7a4_2 : a_fetch 295 2 = some (.iconst 1, 3) := by decide +kernel
theorem fJ6_bitCount_0f7a4_3 : a_fetch 295 3 = some (.iushr, 4) := by decide +kernel
theorem fJ6_bitCount_0f7a4_4 : a_fetch 295 4 = some (.iconst 1431655765, 7) := by decide +kernel
theorem fJ6_bitCount_0f7a4_7 : a_fetch 295 7 = some (.iand, 8) := by decide +kernel
theorem fJ6_bitCount_0f7a4_8 : a_fetch 295 8 = some (.isub, 9) := by decide +kernel
theorem fJ6_bitCount_0f7a4_9 : a_fetch 295 9 = some (.istore 0, 10) := by decide +kernel
theorem fJ6_bitCount_0f7a4_10 : a_fetch 295 10 = some (.iload 0, 11) := by decide +kernel
theorem fJ6_bitCount_0f7a4_11 : a_fetch 295 11 = some (.iconst 858993459, 14) := by decide +kernel
theorem fJ6_bitCount_0f7a4_14 : a_fetch 295 14 = some (.iand, 15) := by decide +kernel
theorem fJ6_bitCount_0f7a4_15 : a_fetch 295 15 = some (.iload 0, 16) := by decide +kernel
theorem fJ6_bitCount_0f7a4_16 : a_fetch 295 16 = some (.iconst 2, 17) := by decide +kernel
theorem fJ6_bitCount_0f7a4_17 : a_fetch 295 17 = some (.iushr, 18) := by decide +kernel
theorem fJ6_bitCount_0f7a4_18 : a_fetch 295 18 = some (.iconst 858993459, 21) := by decide +kernel
theorem fJ6_bitCount_0f7a4_21 : a_fetch 295 21 = some (.iand, 22) := by decide +kernel
theorem fJ6_bitCount_0f7a4_22 : a_fetch 295 22 = some (.iadd, 23) := by decide +kernel
theorem fJ6_bitCount_0f7a4_23 : a_fetch 295 23 = some (.istore 0, 24) := by decide +kernel
theorem fJ6_bitCount_0f7a4_24 : a_fetch 295 24 = some (.iload 0, 25) := by decide +kernel
theorem fJ6_bitCount_0f7a4_25 : a_fetch 295 25 = some (.iload 0, 26) := by decide +kernel
theorem fJ6_bitCount_0f7a4_26 : a_fetch 295 26 = some (.iconst 4, 27) := by decide +kernel
theorem fJ6_bitCount_0f7a4_27 : a_fetch 295 27 = some (.iushr, 28) := by decide +kernel
theorem fJ6_bitCount_0f7a4_28 : a_fetch 295 28 = some (.iadd, 29) := by decide +kernel
theorem fJ6_bitCount_0f7a4_29 : a_fetch 295 29 = some (.iconst 252645135, 32) := by decide +kernel
theorem fJ6_bitCount_0f7a4_32 : a_fetch 295 32 = some (.iand, 33) := by decide +kernel
theorem fJ6_bitCount_0f7a4_33 : a_fetch 295 33 = some (.istore 0, 34) := by decide +kernel
theorem fJ6_bitCount_0f7a4_34 : a_fetch 295 34 = some (.iload 0, 35) := by decide +kernel
theorem fJ6_bitCount_0f7a4_35 : a_fetch 295 35 = some (.iload 0, 36) := by decide +kernel
theorem fJ6_bitCount_0f7a4_36 : a_fetch 295 36 = some (.iconst 8, 38) := by decide +kernel
theorem fJ6_bitCount_0f7a4_38 : a_fetch 295 38 = some (.iushr, 39) := by decide +kernel
theorem fJ6_bitCount_0f7a4_39 : a_fetch 295 39 = some (.iadd, 40) := by decide +kernel
theorem fJ6_bitCount_0f7a4_40 : a_fetch 295 40 = some (.istore 0, 41) := by decide +kernel
theorem fJ6_bitCount_0f7a4_41 : a_fetch 295 41 = some (.iload 0, 42) := by decide +kernel
theorem fJ6_bitCount_0f7a4_42 : a_fetch 295 42 = some (.iload 0, 43) := by decide +kernel
theorem fJ6_bitCount_0f7a4_43 : a_fetch 295 43 = some (.iconst 16, 45) := by decide +kernel
theorem fJ6_bitCount_0f7a4_45 : a_fetch 295 45 = some (.iushr, 46) := by decide +kernel
theorem fJ6_bitCount_0f7a4_46 : a_fetch 295 46 = some (.iadd, 47) := by decide +kernel
theorem fJ6_bitCount_0f7a4_47 : a_fetch 295 47 = some (.istore 0, 48) := by decide +kernel
theorem fJ6_bitCount_0f7a4_48 : a_fetch 295 48 = some (.iload 0, 49) := by decide +kernel
theorem fJ6_bitCount_0f7a4_49 : a_fetch 295 49 = some (.iconst 63, 51) := by decide +kernel
theorem fJ6_bitCount_0f7a4_51 : a_fetch 295 51 = some (.iand, 52) := by decide +kernel
theorem fJ6_bitCount_0f7a4_52 : a_fetch 295 52 = some (.ireturn, 53) := by decide +kernel
theorem fJ0_length_8abf5_0 : a_fetch 296 0 = some (.aload 0, 1) := by decide +kernel
theorem fJ0_length_8abf5_1 : a_fetch 296 1 = some (.fneg, 4) := by decide +kernel
theorem fJ0_length_8abf5_4 : a_fetch 296 4 = some (.arraylength, 5) := by decide +kernel
theorem fJ0_length_8abf5_5 : a_fetch 296 5 = some (.aload 0, 6) := by decide +kernel
theorem fJ0_length_8abf5_6 : a_fetch 296 6 = some (.invokevirtual 298, 9) := by decide +kernel
theorem fJ0_length_8abf5_9 : a_fetch 296 9 = some (.ishr, 10) := by decide +kernel
theorem fJ0_length_8abf5_10 : a_fetch 296 10 = some (.ireturn, 11) := by decide +kernel
theorem fJ0_charAt_5068e_0 : a_fetch 297 0 = some (.aload 0, 1) := by decide +kernel
theorem fJ0_charAt_5068e_1 : a_fetch 297 1 = some (.invokevirtual 299, 4) := by decide +kernel
theorem fJ0_charAt_5068e_4 : a_fetch 297 4 = some (.ifCond .eq 16, 7) := by decide +kernel
theorem fJ0_charAt_5068e_7 : a_fetch 297 7 = some (.aload 0, 8) := by decide +kernel
theorem fJ0_charAt_5068e_8 : a_fetch 297 8 = some (.fneg, 11) := by decide +kernel
theorem fJ0_charAt_5068e_11 : a_fetch 297 11 = some (.iload 1, 12) := by decide +kernel
theorem fJ0_charAt_5068e_12 : a_fetch 297 12 = some (.invokestatic 301, 15) := by decide +kernel
theorem fJ0_charAt_5068e_15 : a_fetch 297 15 = some (.ireturn, 16) := by decide +kernel
theorem fJ0_charAt_5068e_16 : a_fetch 297 16 = some (.aload 0, 17) := by decide +kernel
theorem fJ0_charAt_5068e_17 : a_fetch 297 17 = some (.fneg, 20) := by decide +kernel
theorem fJ0_charAt_5068e_20 : a_fetch 297 20 = some (.iload 1, 21) := by decide +kernel
theorem fJ0_charAt_5068e_24 : a_fetch 297 24 = some (.ireturn, 25) := by decide +kernel
theorem fJ0_coder_7d493_0 : a_fetch 298 0 = some (.iconst 1, 3) := by decide +kernel
theorem fJ0_coder_7d493_3 : a_fetch 298 3 = some (.ifCond .eq 13, 6) := by decide +kernel
theorem fJ0_coder_7d493_6 : a_fetch 298 6 = some (.aload 0, 7) := by decide +kernel
theorem fJ0_coder_7d493_7 : a_fetch 298 7 = some (.dneg, 10) := by decide +kernel
theorem fJ0_coder_7d493_10 : a_fetch 298 10 = some (.goto 14, 13) := by decide +kernel
theorem fJ0_coder_7d493_13 : a_fetch 298 13 = some (.iconst 1, 14) := by decide +kernel
theorem fJ0_coder_7d493_14 : a_fetch 298 14 = some (.ireturn, 15) := by decide +kernel
theorem fJ0_isLatin1_aae02_0 : a_fetch 299 0 = some (.iconst 1, 3) := by decide +kernel
theorem fJ0_isLatin1_aae02_3 : a_fetch 299 3 = some (.ifCond .eq 17, 6) := by decide +kernel
theorem fJ0_isLatin1_aae02_6 : a_fetch 299 6 = some (.aload 0, 7) := by decide +kernel
theorem fJ0_isLatin1_aae02_7 : a_fetch 299 7 = some (.dneg, 10) := by decide +kernel
theorem fJ0_isLatin1_aae02_10 : a_fetch 299 10 = some (.ifCond .ne 17, 13) := by decide +kernel
theorem fJ0_isLatin1_aae02_13 : a_fetch 299 13 = some (.iconst 1, 14) := by decide +kernel
theorem fJ0_isLatin1_aae02_14 : a_fetch 299 14 = some (.goto 18, 17) := by decide +kernel
theorem fJ0_isLatin1_aae02_17 : a_fetch 299 17 = some (.iconst 0, 18) := by decide +kernel
theorem fJ0_isLatin1_aae02_18 : a_fetch 299 18 = some (.ireturn, 19) := by decide +kernel
theorem fJ0_checkIndex_df160_0 : a_fetch 300 0 = some (.iload 0, 1) := by decide +kernel
theorem fJ0_checkIndex_df160_1 : a_fetch 300 1 = some (.iload 1, 2) := by decide +kernel
theorem fJ0_checkIndex_df160_2 : a_fetch 300 2 = some (.ret 20, 5) := by decide +kernel
theorem fJ0_checkIndex_df160_5 : a_fetch 300 5 = some (.invokestatic 302, 8) := by decide +kernel
theorem fJ0_checkIndex_df160_8 : a_fetch 300 8 = some (.pop, 9) := by decide +kernel
theorem fJ0_checkIndex_df160_9 : a_fetch 300 9 = some (.return_, 10) := by decide +kernel
theorem fJ1_charAt_3b067_0 : a_fetch 301 0 = some (.iload 1, 1) := by decide +kernel
theorem fJ1_charAt_3b067_1 : a_fetch 301 1 = some (.aload 0, 2) := by decide +kernel
theorem fJ1_charAt_3b067_2 : a_fetch 301 2 = some (.arraylength, 3) := by decide +kernel
theorem fJ1_charAt_3b067_3 : a_fetch 301 3 = some (.invokestatic 300, 6) := by decide +kernel
theorem fJ1_charAt_3b067_6 : a_fetch 301 6 = some (.aload 0, 7) := by decide +kernel
theorem fJ1_charAt_3b067_7 : a_fetch 301 7 = some (.iload 1, 8) := by decide +kernel
theorem fJ1_charAt_3b067_8 : a_fetch 301 8 = some (.baload, 9) := by decide +kernel
theorem fJ1_charAt_3b067_9 : a_fetch 301 9 = some (.iconst 255, 12) := by decide +kernel
theorem fJ1_charAt_3b067_12 : a_fetch 301 12 = some (.iand, 13) := by decide +kernel
theorem fJ1_charAt_3b067_13 : a_fetch 301 13 = some (.i2c, 14) := by decide +kernel
theorem fJ1_charAt_3b067_14 : a_fetch 301 14 = some (.ireturn, 15) := by decide +kernel
theorem fJ3_checkIndex_8e157_0 : a_fetch 302 0 = some (.iload 0, 1) := by decide +kernel
theorem fJ3_checkIndex_8e157_1 : a_fetch 302 1 = some (.ifCond .lt 9, 4) := by decide +kernel
theorem fJ3_checkIndex_8e157_4 : a_fetch 302 4 = some (.iload 0, 5) := by decide +kernel
theorem fJ3_checkIndex_8e157_5 : a_fetch 302 5 = some (.iload 1, 6) := by decide +kernel
theorem fJ3_checkIndex_8e157_6 : a_fetch 302 6 = some (.if_icmp .lt 16, 9) := by decide +kernel
theorem fJ3_checkIndex_8e157_9 : a_fetch 302 9 = some (.aload 2, 10) := by decide +kernel
theorem fJ3_checkIndex_8e157_10 : a_fetch 302 10 = some (.iload 0, 11) := by decide +kernel
theorem fJ3_checkIndex_8e157_11 : a_fetch 302 11 = some (.iload 1, 12) := by decide +kernel
theorem fJ3_checkIndex_8e157_16 : a_fetch 302 16 = some (.iload 0, 17) := by decide +kernel
theorem fJ3_checkIndex_8e157_17 : a_fetch 302 17 = some (.ireturn, 18) := by decide +kernel
theorem fL_law_0 : a_fetch 303 0 = some (.new 9, 3) := by decide +kernel
theorem fL_law_3 : a_fetch 303 3 = some (.dup, 4) := by decide +kernel
theorem fL_law_4 : a_fetch 303 4 = some (.invokespecial 108, 7) := by decide +kernel
theorem fL_law_7 : a_fetch 303 7 = some (.astore 1, 8) := by decide +kernel
theorem fL_law_8 : a_fetch 303 8 = some (.new 10, 11) := by decide +kernel
theorem fL_law_11 : a_fetch 303 11 = some (.dup, 12) := by decide +kernel
theorem fL_law_12 : a_fetch 303 12 = some (.invokespecial 158, 15) := by decide +kernel
theorem fL_law_15 : a_fetch 303 15 = some (.astore 2, 16) := by decide +kernel
theorem fL_law_16 : a_fetch 303 16 = some (.iconst 0, 17) := by decide +kernel
theorem fL_law_17 : a_fetch 303 17 = some (.istore 3, 18) := by decide +kernel
theorem fL_law_18 : a_fetch 303 18 = some (.iload 3, 19) := by decide +kernel
theorem fL_law_19 : a_fetch 303 19 = some (.aload 0, 20) := by decide +kernel
theorem fL_law_20 : a_fetch 303 20 = some (.arraylength, 21) := by decide +kernel
theorem fL_law_21 : a_fetch 303 21 = some (.iconst 6, 23) := by decide +kernel
theorem fL_law_23 : a_fetch 303 23 = some (.isub, 24) := by decide +kernel
theorem fL_law_24 : a_fetch 303 24 = some (.if_icmp .gt 1079, 27) := by decide +kernel
theorem fL_law_27 : a_fetch 303 27 = some (.aload 0, 28) := by decide +kernel
theorem fL_law_28 : a_fetch 303 28 = some (.iload 3, 29) := by decide +kernel
theorem fL_law_29 : a_fetch 303 29 = some (.iaload, 30) := by decide +kernel
theorem fL_law_30 : a_fetch 303 30 = some (.iconst 31, 32) := by decide +kernel
theorem fL_law_32 : a_fetch 303 32 = some (.iand, 33) := by decide +kernel
theorem fL_law_33 : a_fetch 303 33 = some (.tableswitch 1073 0 31 #[176, 239, 262, 275, 298, 321, 364, 397, 430, 483, 516, 549, 582, 605, 638, 671, 694, 717, 760, 783, 806, 839, 882, 905, 918, 941, 964, 977, 1001, 1014, 1037, 1050], 176) := by decide +kernel
theorem fL_law_176 : a_fetch 303 176 = some (.aload 1, 177) := by decide +kernel
theorem fL_law_177 : a_fetch 303 177 = some (.aload 0, 178) := by decide +kernel
theorem fL_law_178 : a_fetch 303 178 = some (.iload 3, 179) := by decide +kernel
theorem fL_law_179 : a_fetch 303 179 = some (.iconst 1, 180) := by decide +kernel
theorem fL_law_180 : a_fetch 303 180 = some (.iadd, 181) := by decide +kernel
theorem fL_law_181 : a_fetch 303 181 = some (.iaload, 182) := by decide +kernel
theorem fL_law_182 : a_fetch 303 182 = some (.aload 0, 183) := by decide +kernel
theorem fL_law_183 : a_fetch 303 183 = some (.iload 3, 184) := by decide +kernel
theorem fL_law_184 : a_fetch 303 184 = some (.iconst 2, 185) := by decide +kernel
theorem fL_law_185 : a_fetch 303 185 = some (.iadd, 186) := by decide +kernel
theorem fL_law_186 : a_fetch 303 186 = some (.iaload, 187) := by decide +kernel
theorem fL_law_187 : a_fetch 303 187 = some (.aload 0, 188) := by decide +kernel
theorem fL_law_188 : a_fetch 303 188 = some (.iload 3, 189) := by decide +kernel
theorem fL_law_189 : a_fetch 303 189 = some (.iconst 3, 190) := by decide +kernel
theorem fL_law_190 : a_fetch 303 190 = some (.iadd, 191) := by decide +kernel
theorem fL_law_191 : a_fetch 303 191 = some (.iaload, 192) := by decide +kernel
theorem fL_law_192 : a_fetch 303 192 = some (.aload 0, 193) := by decide +kernel
theorem fL_law_193 : a_fetch 303 193 = some (.iload 3, 194) := by decide +kernel
theorem fL_law_194 : a_fetch 303 194 = some (.iconst 4, 195) := by decide +kernel
theorem fL_law_195 : a_fetch 303 195 = some (.iadd, 196) := by decide +kernel
theorem fL_law_196 : a_fetch 303 196 = some (.iaload, 197) := by decide +kernel
theorem fL_law_197 : a_fetch 303 197 = some (.aload 0, 198) := by decide +kernel
theorem fL_law_198 : a_fetch 303 198 = some (.iload 3, 199) := by decide +kernel
theorem fL_law_199 : a_fetch 303 199 = some (.iconst 5, 200) := by decide +kernel
theorem fL_law_200 : a_fetch 303 200 = some (.iadd, 201) := by decide +kernel
theorem fL_law_201 : a_fetch 303 201 = some (.iaload, 202) := by decide +kernel
theorem fL_law_202 : a_fetch 303 202 = some (.invokevirtual 109, 205) := by decide +kernel
theorem fL_law_205 : a_fetch 303 205 = some (.aload 2, 206) := by decide +kernel
theorem fL_law_206 : a_fetch 303 206 = some (.aload 0, 207) := by decide +kernel
theorem fL_law_207 : a_fetch 303 207 = some (.iload 3, 208) := by decide +kernel
theorem fL_law_208 : a_fetch 303 208 = some (.iconst 1, 209) := by decide +kernel
theorem fL_law_209 : a_fetch 303 209 = some (.iadd, 210) := by decide +kernel
theorem fL_law_210 : a_fetch 303 210 = some (.iaload, 211) := by decide +kernel
theorem fL_law_211 : a_fetch 303 211 = some (.aload 0, 212) := by decide +kernel
theorem fL_law_212 : a_fetch 303 212 = some (.iload 3, 213) := by decide +kernel
theorem fL_law_213 : a_fetch 303 213 = some (.iconst 2, 214) := by decide +kernel
theorem fL_law_214 : a_fetch 303 214 = some (.iadd, 215) := by decide +kernel
theorem fL_law_215 : a_fetch 303 215 = some (.iaload, 216) := by decide +kernel
theorem fL_law_216 : a_fetch 303 216 = some (.aload 0, 217) := by decide +kernel
theorem fL_law_217 : a_fetch 303 217 = some (.iload 3, 218) := by decide +kernel
theorem fL_law_218 : a_fetch 303 218 = some (.iconst 3, 219) := by decide +kernel
theorem fL_law_219 : a_fetch 303 219 = some (.iadd, 220) := by decide +kernel
theorem fL_law_220 : a_fetch 303 220 = some (.iaload, 221) := by decide +kernel
theorem fL_law_221 : a_fetch 303 221 = some (.aload 0, 222) := by decide +kernel
theorem fL_law_222 : a_fetch 303 222 = some (.iload 3, 223) := by decide +kernel
theorem fL_law_223 : a_fetch 303 223 = some (.iconst 4, 224) := by decide +kernel
theorem fL_law_224 : a_fetch 303 224 = some (.iadd, 225) := by decide +kernel
theorem fL_law_225 : a_fetch 303 225 = some (.iaload, 226) := by decide +kernel
theorem fL_law_226 : a_fetch 303 226 = some (.aload 0, 227) := by decide +kernel
theorem fL_law_227 : a_fetch 303 227 = some (.iload 3, 228) := by decide +kernel
theorem fL_law_228 : a_fetch 303 228 = some (.iconst 5, 229) := by decide +kernel
theorem fL_law_229 : a_fetch 303 229 = some (.iadd, 230) := by decide +kernel
theorem fL_law_230 : a_fetch 303 230 = some (.iaload, 231) := by decide +kernel
theorem fL_law_231 : a_fetch 303 231 = some (.invokevirtual 160, 234) := by decide +kernel
theorem fL_law_234 : a_fetch 303 234 = some (.if_icmp .eq 1073, 237) := by decide +kernel
theorem fL_law_237 : a_fetch 303 237 = some (.iconst 0, 238) := by decide +kernel
theorem fL_law_238 : a_fetch 303 238 = some (.ireturn, 239) := by decide +kernel
theorem fL_law_239 : a_fetch 303 239 = some (.aload 1, 240) := by decide +kernel
theorem fL_law_240 : a_fetch 303 240 = some (.aload 0, 241) := by decide +kernel
theorem fL_law_241 : a_fetch 303 241 = some (.iload 3, 242) := by decide +kernel
theorem fL_law_242 : a_fetch 303 242 = some (.iconst 1, 243) := by decide +kernel
theorem fL_law_243 : a_fetch 303 243 = some (.iadd, 244) := by decide +kernel
theorem fL_law_244 : a_fetch 303 244 = some (.iaload, 245) := by decide +kernel
theorem fL_law_245 : a_fetch 303 245 = some (.invokevirtual 110, 248) := by decide +kernel
theorem fL_law_248 : a_fetch 303 248 = some (.aload 2, 249) := by decide +kernel
theorem fL_law_249 : a_fetch 303 249 = some (.aload 0, 250) := by decide +kernel
theorem fL_law_250 : a_fetch 303 250 = some (.iload 3, 251) := by decide +kernel
theorem fL_law_251 : a_fetch 303 251 = some (.iconst 1, 252) := by decide +kernel
theorem fL_law_252 : a_fetch 303 252 = some (.iadd, 253) := by decide +kernel
theorem fL_law_253 : a_fetch 303 253 = some (.iaload, 254) := by decide +kernel
theorem fL_law_254 : a_fetch 303 254 = some (.invokevirtual 161, 257) := by decide +kernel
theorem fL_law_257 : a_fetch 303 257 = some (.if_icmp .eq 1073, 260) := by decide +kernel
theorem fL_law_260 : a_fetch 303 260 = some (.iconst 0, 261) := by decide +kernel
theorem fL_law_261 : a_fetch 303 261 = some (.ireturn, 262) := by decide +kernel
theorem fL_law_262 : a_fetch 303 262 = some (.aload 1, 263) := by decide +kernel
theorem fL_law_263 : a_fetch 303 263 = some (.invokevirtual 111, 266) := by decide +kernel
theorem fL_law_266 : a_fetch 303 266 = some (.aload 2, 267) := by decide +kernel
theorem fL_law_267 : a_fetch 303 267 = some (.invokevirtual 186, 270) := by decide +kernel
theorem fL_law_270 : a_fetch 303 270 = some (.if_icmp .eq 1073, 273) := by decide +kernel
theorem fL_law_273 : a_fetch 303 273 = some (.iconst 0, 274) := by decide +kernel
theorem fL_law_274 : a_fetch 303 274 = some (.ireturn, 275) := by decide +kernel
theorem fL_law_275 : a_fetch 303 275 = some (.aload 1, 276) := by decide +kernel
theorem fL_law_276 : a_fetch 303 276 = some (.aload 0, 277) := by decide +kernel
theorem fL_law_277 : a_fetch 303 277 = some (.iload 3, 278) := by decide +kernel
theorem fL_law_278 : a_fetch 303 278 = some (.iconst 1, 279) := by decide +kernel
theorem fL_law_279 : a_fetch 303 279 = some (.iadd, 280) := by decide +kernel
theorem fL_law_280 : a_fetch 303 280 = some (.iaload, 281) := by decide +kernel
theorem fL_law_281 : a_fetch 303 281 = some (.invokevirtual 112, 284) := by decide +kernel
theorem fL_law_284 : a_fetch 303 284 = some (.aload 2, 285) := by decide +kernel
theorem fL_law_285 : a_fetch 303 285 = some (.aload 0, 286) := by decide +kernel
theorem fL_law_286 : a_fetch 303 286 = some (.iload 3, 287) := by decide +kernel
theorem fL_law_287 : a_fetch 303 287 = some (.iconst 1, 288) := by decide +kernel
theorem fL_law_288 : a_fetch 303 288 = some (.iadd, 289) := by decide +kernel
theorem fL_law_289 : a_fetch 303 289 = some (.iaload, 290) := by decide +kernel
theorem fL_law_290 : a_fetch 303 290 = some (.invokevirtual 188, 293) := by decide +kernel
theorem fL_law_293 : a_fetch 303 293 = some (.if_icmp .eq 1073, 296) := by decide +kernel
theorem fL_law_296 : a_fetch 303 296 = some (.iconst 0, 297) := by decide +kernel
theorem fL_law_297 : a_fetch 303 297 = some (.ireturn, 298) := by decide +kernel
theorem fL_law_298 : a_fetch 303 298 = some (.aload 1, 299) := by decide +kernel
theorem fL_law_299 : a_fetch 303 299 = some (.aload 0, 300) := by decide +kernel
theorem fL_law_300 : a_fetch 303 300 = some (.iload 3, 301) := by decide +kernel
theorem fL_law_301 : a_fetch 303 301 = some (.iconst 1, 302) := by decide +kernel
theorem fL_law_302 : a_fetch 303 302 = some (.iadd, 303) := by decide +kernel
theorem fL_law_303 : a_fetch 303 303 = some (.iaload, 304) := by decide +kernel
theorem fL_law_304 : a_fetch 303 304 = some (.invokevirtual 113, 307) := by decide +kernel
theorem fL_law_307 : a_fetch 303 307 = some (.aload 2, 308) := by decide +kernel
theorem fL_law_308 : a_fetch 303 308 = some (.aload 0, 309) := by decide +kernel
theorem fL_law_309 : a_fetch 303 309 = some (.iload 3, 310) := by decide +kernel
theorem fL_law_310 : a_fetch 303 310 = some (.iconst 1, 311) := by decide +kernel
theorem fL_law_311 : a_fetch 303 311 = some (.iadd, 312) := by decide +kernel
theorem fL_law_312 : a_fetch 303 312 = some (.iaload, 313) := by decide +kernel
theorem fL_law_313 : a_fetch 303 313 = some (.invokevirtual 217, 316) := by decide +kernel
theorem fL_law_316 : a_fetch 303 316 = some (.if_icmp .eq 1073, 319) := by decide +kernel
theorem fL_law_319 : a_fetch 303 319 = some (.iconst 0, 320) := by decide +kernel
theorem fL_law_320 : a_fetch 303 320 = some (.ireturn, 321) := by decide +kernel
theorem fL_law_321 : a_fetch 303 321 = some (.aload 1, 322) := by decide +kernel
theorem fL_law_322 : a_fetch 303 322 = some (.aload 0, 323) := by decide +kernel
theorem fL_law_323 : a_fetch 303 323 = some (.iload 3, 324) := by decide +kernel
theorem fL_law_324 : a_fetch 303 324 = some (.iconst 1, 325) := by decide +kernel
theorem fL_law_325 : a_fetch 303 325 = some (.iadd, 326) := by decide +kernel
theorem fL_law_326 : a_fetch 303 326 = some (.iaload, 327) := by decide +kernel
theorem fL_law_327 : a_fetch 303 327 = some (.aload 0, 328) := by decide +kernel
theorem fL_law_328 : a_fetch 303 328 = some (.iload 3, 329) := by decide +kernel
theorem fL_law_329 : a_fetch 303 329 = some (.iconst 2, 330) := by decide +kernel
theorem fL_law_330 : a_fetch 303 330 = some (.iadd, 331) := by decide +kernel
theorem fL_law_331 : a_fetch 303 331 = some (.iaload, 332) := by decide +kernel
theorem fL_law_332 : a_fetch 303 332 = some (.aload 0, 333) := by decide +kernel
theorem fL_law_333 : a_fetch 303 333 = some (.iload 3, 334) := by decide +kernel
theorem fL_law_334 : a_fetch 303 334 = some (.iconst 3, 335) := by decide +kernel
theorem fL_law_335 : a_fetch 303 335 = some (.iadd, 336) := by decide +kernel
theorem fL_law_336 : a_fetch 303 336 = some (.iaload, 337) := by decide +kernel
theorem fL_law_337 : a_fetch 303 337 = some (.invokevirtual 114, 340) := by decide +kernel
theorem fL_law_340 : a_fetch 303 340 = some (.aload 2, 341) := by decide +kernel
theorem fL_law_341 : a_fetch 303 341 = some (.aload 0, 342) := by decide +kernel
theorem fL_law_342 : a_fetch 303 342 = some (.iload 3, 343) := by decide +kernel
theorem fL_law_343 : a_fetch 303 343 = some (.iconst 1, 344) := by decide +kernel
theorem fL_law_344 : a_fetch 303 344 = some (.iadd, 345) := by decide +kernel
theorem fL_law_345 : a_fetch 303 345 = some (.iaload, 346) := by decide +kernel
theorem fL_law_346 : a_fetch 303 346 = some (.aload 0, 347) := by decide +kernel
theorem fL_law_347 : a_fetch 303 347 = some (.iload 3, 348) := by decide +kernel
theorem fL_law_348 : a_fetch 303 348 = some (.iconst 2, 349) := by decide +kernel
theorem fL_law_349 : a_fetch 303 349 = some (.iadd, 350) := by decide +kernel
theorem fL_law_350 : a_fetch 303 350 = some (.iaload, 351) := by decide +kernel
theorem fL_law_351 : a_fetch 303 351 = some (.aload 0, 352) := by decide +kernel
theorem fL_law_352 : a_fetch 303 352 = some (.iload 3, 353) := by decide +kernel
theorem fL_law_353 : a_fetch 303 353 = some (.iconst 3, 354) := by decide +kernel
theorem fL_law_354 : a_fetch 303 354 = some (.iadd, 355) := by decide +kernel
theorem fL_law_355 : a_fetch 303 355 = some (.iaload, 356) := by decide +kernel
theorem fL_law_356 : a_fetch 303 356 = some (.invokevirtual 218, 359) := by decide +kernel
theorem fL_law_359 : a_fetch 303 359 = some (.if_icmp .eq 1073, 362) := by decide +kernel
theorem fL_law_362 : a_fetch 303 362 = some (.iconst 0, 363) := by decide +kernel
theorem fL_law_363 : a_fetch 303 363 = some (.ireturn, 364) := by decide +kernel
theorem fL_law_364 : a_fetch 303 364 = some (.aload 1, 365) := by decide +kernel
theorem fL_law_365 : a_fetch 303 365 = some (.aload 0, 366) := by decide +kernel
theorem fL_law_366 : a_fetch 303 366 = some (.iload 3, 367) := by decide +kernel
theorem fL_law_367 : a_fetch 303 367 = some (.iconst 1, 368) := by decide +kernel
theorem fL_law_368 : a_fetch 303 368 = some (.iadd, 369) := by decide +kernel
theorem fL_law_369 : a_fetch 303 369 = some (.iaload, 370) := by decide +kernel
theorem fL_law_370 : a_fetch 303 370 = some (.aload 0, 371) := by decide +kernel
theorem fL_law_371 : a_fetch 303 371 = some (.iload 3, 372) := by decide +kernel
theorem fL_law_372 : a_fetch 303 372 = some (.iconst 2, 373) := by decide +kernel
theorem fL_law_373 : a_fetch 303 373 = some (.iadd, 374) := by decide +kernel
theorem fL_law_374 : a_fetch 303 374 = some (.iaload, 375) := by decide +kernel
theorem fL_law_375 : a_fetch 303 375 = some (.invokevirtual 115, 378) := by decide +kernel
theorem fL_law_378 : a_fetch 303 378 = some (.aload 2, 379) := by decide +kernel
theorem fL_law_379 : a_fetch 303 379 = some (.aload 0, 380) := by decide +kernel
theorem fL_law_380 : a_fetch 303 380 = some (.iload 3, 381) := by decide +kernel
theorem fL_law_381 : a_fetch 303 381 = some (.iconst 1, 382) := by decide +kernel
theorem fL_law_382 : a_fetch 303 382 = some (.iadd, 383) := by decide +kernel
theorem fL_law_383 : a_fetch 303 383 = some (.iaload, 384) := by decide +kernel
theorem fL_law_384 : a_fetch 303 384 = some (.aload 0, 385) := by decide +kernel
theorem fL_law_385 : a_fetch 303 385 = some (.iload 3, 386) := by decide +kernel
theorem fL_law_386 : a_fetch 303 386 = some (.iconst 2, 387) := by decide +kernel
theorem fL_law_387 : a_fetch 303 387 = some (.iadd, 388) := by decide +kernel
theorem fL_law_388 : a_fetch 303 388 = some (.iaload, 389) := by decide +kernel
theorem fL_law_389 : a_fetch 303 389 = some (.invokevirtual 220, 392) := by decide +kernel
theorem fL_law_392 : a_fetch 303 392 = some (.if_icmp .eq 1073, 395) := by decide +kernel
theorem fL_law_395 : a_fetch 303 395 = some (.iconst 0, 396) := by decide +kernel
theorem fL_law_396 : a_fetch 303 396 = some (.ireturn, 397) := by decide +kernel
theorem fL_law_397 : a_fetch 303 397 = some (.aload 1, 398) := by decide +kernel
theorem fL_law_398 : a_fetch 303 398 = some (.aload 0, 399) := by decide +kernel
theorem fL_law_399 : a_fetch 303 399 = some (.iload 3, 400) := by decide +kernel
theorem fL_law_400 : a_fetch 303 400 = some (.iconst 1, 401) := by decide +kernel
theorem fL_law_401 : a_fetch 303 401 = some (.iadd, 402) := by decide +kernel
theorem fL_law_402 : a_fetch 303 402 = some (.iaload, 403) := by decide +kernel
theorem fL_law_403 : a_fetch 303 403 = some (.aload 0, 404) := by decide +kernel
theorem fL_law_404 : a_fetch 303 404 = some (.iload 3, 405) := by decide +kernel
theorem fL_law_405 : a_fetch 303 405 = some (.iconst 2, 406) := by decide +kernel
theorem fL_law_406 : a_fetch 303 406 = some (.iadd, 407) := by decide +kernel
theorem fL_law_407 : a_fetch 303 407 = some (.iaload, 408) := by decide +kernel
theorem fL_law_408 : a_fetch 303 408 = some (.invokevirtual 116, 411) := by decide +kernel
theorem fL_law_411 : a_fetch 303 411 = some (.aload 2, 412) := by decide +kernel
theorem fL_law_412 : a_fetch 303 412 = some (.aload 0, 413) := by decide +kernel
theorem fL_law_413 : a_fetch 303 413 = some (.iload 3, 414) := by decide +kernel
theorem fL_law_414 : a_fetch 303 414 = some (.iconst 1, 415) := by decide +kernel
theorem fL_law_415 : a_fetch 303 415 = some (.iadd, 416) := by decide +kernel
theorem fL_law_416 : a_fetch 303 416 = some (.iaload, 417) := by decide +kernel
theorem fL_law_417 : a_fetch 303 417 = some (.aload 0, 418) := by decide +kernel
theorem fL_law_418 : a_fetch 303 418 = some (.iload 3, 419) := by decide +kernel
theorem fL_law_419 : a_fetch 303 419 = some (.iconst 2, 420) := by decide +kernel
theorem fL_law_420 : a_fetch 303 420 = some (.iadd, 421) := by decide +kernel
theorem fL_law_421 : a_fetch 303 421 = some (.iaload, 422) := by decide +kernel
theorem fL_law_422 : a_fetch 303 422 = some (.invokevirtual 221, 425) := by decide +kernel
theorem fL_law_425 : a_fetch 303 425 = some (.if_icmp .eq 1073, 428) := by decide +kernel
theorem fL_law_428 : a_fetch 303 428 = some (.iconst 0, 429) := by decide +kernel
theorem fL_law_429 : a_fetch 303 429 = some (.ireturn, 430) := by decide +kernel
theorem fL_law_430 : a_fetch 303 430 = some (.aload 1, 431) := by decide +kernel
theorem fL_law_431 : a_fetch 303 431 = some (.aload 0, 432) := by decide +kernel
theorem fL_law_432 : a_fetch 303 432 = some (.iload 3, 433) := by decide +kernel
theorem fL_law_433 : a_fetch 303 433 = some (.iconst 1, 434) := by decide +kernel
theorem fL_law_434 : a_fetch 303 434 = some (.iadd, 435) := by decide +kernel
theorem fL_law_435 : a_fetch 303 435 = some (.iaload, 436) := by decide +kernel
theorem fL_law_436 : a_fetch 303 436 = some (.aload 0, 437) := by decide +kernel
theorem fL_law_437 : a_fetch 303 437 = some (.iload 3, 438) := by decide +kernel
theorem fL_law_438 : a_fetch 303 438 = some (.iconst 2, 439) := by decide +kernel
theorem fL_law_439 : a_fetch 303 439 = some (.iadd, 440) := by decide +kernel
theorem fL_law_440 : a_fetch 303 440 = some (.iaload, 441) := by decide +kernel
theorem fL_law_441 : a_fetch 303 441 = some (.aload 0, 442) := by decide +kernel
theorem fL_law_442 : a_fetch 303 442 = some (.iload 3, 443) := by decide +kernel
theorem fL_law_443 : a_fetch 303 443 = some (.iconst 3, 444) := by decide +kernel
theorem fL_law_444 : a_fetch 303 444 = some (.iadd, 445) := by decide +kernel
theorem fL_law_445 : a_fetch 303 445 = some (.iaload, 446) := by decide +kernel
theorem fL_law_446 : a_fetch 303 446 = some (.aload 0, 447) := by decide +kernel
theorem fL_law_447 : a_fetch 303 447 = some (.iload 3, 448) := by decide +kernel
theorem fL_law_448 : a_fetch 303 448 = some (.iconst 4, 449) := by decide +kernel
theorem fL_law_449 : a_fetch 303 449 = some (.iadd, 450) := by decide +kernel
theorem fL_law_450 : a_fetch 303 450 = some (.iaload, 451) := by decide +kernel
theorem fL_law_451 : a_fetch 303 451 = some (.invokevirtual 117, 454) := by decide +kernel
theorem fL_law_454 : a_fetch 303 454 = some (.aload 2, 455) := by decide +kernel
theorem fL_law_455 : a_fetch 303 455 = some (.aload 0, 456) := by decide +kernel
theorem fL_law_456 : a_fetch 303 456 = some (.iload 3, 457) := by decide +kernel
theorem fL_law_457 : a_fetch 303 457 = some (.iconst 1, 458) := by decide +kernel
theorem fL_law_458 : a_fetch 303 458 = some (.iadd, 459) := by decide +kernel
theorem fL_law_459 : a_fetch 303 459 = some (.iaload, 460) := by decide +kernel
theorem fL_law_460 : a_fetch 303 460 = some (.aload 0, 461) := by decide +kernel
theorem fL_law_461 : a_fetch 303 461 = some (.iload 3, 462) := by decide +kernel
theorem fL_law_462 : a_fetch 303 462 = some (.iconst 2, 463) := by decide +kernel
theorem fL_law_463 : a_fetch 303 463 = some (.iadd, 464) := by decide +kernel
theorem fL_law_464 : a_fetch 303 464 = some (.iaload, 465) := by decide +kernel
theorem fL_law_465 : a_fetch 303 465 = some (.aload 0, 466) := by decide +kernel
theorem fL_law_466 : a_fetch 303 466 = some (.iload 3, 467) := by decide +kernel
theorem fL_law_467 : a_fetch 303 467 = some (.iconst 3, 468) := by decide +kernel
theorem fL_law_468 : a_fetch 303 468 = some (.iadd, 469) := by decide +kernel
theorem fL_law_469 : a_fetch 303 469 = some (.iaload, 470) := by decide +kernel
theorem fL_law_470 : a_fetch 303 470 = some (.aload 0, 471) := by decide +kernel
theorem fL_law_471 : a_fetch 303 471 = some (.iload 3, 472) := by decide +kernel
theorem fL_law_472 : a_fetch 303 472 = some (.iconst 4, 473) := by decide +kernel
theorem fL_law_473 : a_fetch 303 473 = some (.iadd, 474) := by decide +kernel
theorem fL_law_474 : a_fetch 303 474 = some (.iaload, 475) := by decide +kernel
theorem fL_law_475 : a_fetch 303 475 = some (.invokevirtual 223, 478) := by decide +kernel
theorem fL_law_478 : a_fetch 303 478 = some (.if_icmp .eq 1073, 481) := by decide +kernel
theorem fL_law_481 : a_fetch 303 481 = some (.iconst 0, 482) := by decide +kernel
theorem fL_law_482 : a_fetch 303 482 = some (.ireturn, 483) := by decide +kernel
theorem fL_law_483 : a_fetch 303 483 = some (.aload 1, 484) := by decide +kernel
theorem fL_law_484 : a_fetch 303 484 = some (.aload 0, 485) := by decide +kernel
theorem fL_law_485 : a_fetch 303 485 = some (.iload 3, 486) := by decide +kernel
theorem fL_law_486 : a_fetch 303 486 = some (.iconst 1, 487) := by decide +kernel
theorem fL_law_487 : a_fetch 303 487 = some (.iadd, 488) := by decide +kernel
theorem fL_law_488 : a_fetch 303 488 = some (.iaload, 489) := by decide +kernel
theorem fL_law_489 : a_fetch 303 489 = some (.aload 0, 490) := by decide +kernel
theorem fL_law_490 : a_fetch 303 490 = some (.iload 3, 491) := by decide +kernel
theorem fL_law_491 : a_fetch 303 491 = some (.iconst 2, 492) := by decide +kernel
theorem fL_law_492 : a_fetch 303 492 = some (.iadd, 493) := by decide +kernel
theorem fL_law_493 : a_fetch 303 493 = some (.iaload, 494) := by decide +kernel
theorem fL_law_494 : a_fetch 303 494 = some (.invokevirtual 118, 497) := by decide +kernel
theorem fL_law_497 : a_fetch 303 497 = some (.aload 2, 498) := by decide +kernel
theorem fL_law_498 : a_fetch 303 498 = some (.aload 0, 499) := by decide +kernel
theorem fL_law_499 : a_fetch 303 499 = some (.iload 3, 500) := by decide +kernel
theorem fL_law_500 : a_fetch 303 500 = some (.iconst 1, 501) := by decide +kernel
theorem fL_law_501 : a_fetch 303 501 = some (.iadd, 502) := by decide +kernel
theorem fL_law_502 : a_fetch 303 502 = some (.iaload, 503) := by decide +kernel
theorem fL_law_503 : a_fetch 303 503 = some (.aload 0, 504) := by decide +kernel
theorem fL_law_504 : a_fetch 303 504 = some (.iload 3, 505) := by decide +kernel
theorem fL_law_505 : a_fetch 303 505 = some (.iconst 2, 506) := by decide +kernel
theorem fL_law_506 : a_fetch 303 506 = some (.iadd, 507) := by decide +kernel
theorem fL_law_507 : a_fetch 303 507 = some (.iaload, 508) := by decide +kernel
theorem fL_law_508 : a_fetch 303 508 = some (.invokevirtual 224, 511) := by decide +kernel
theorem fL_law_511 : a_fetch 303 511 = some (.if_icmp .eq 1073, 514) := by decide +kernel
theorem fL_law_514 : a_fetch 303 514 = some (.iconst 0, 515) := by decide +kernel
theorem fL_law_515 : a_fetch 303 515 = some (.ireturn, 516) := by decide +kernel
theorem fL_law_516 : a_fetch 303 516 = some (.aload 1, 517) := by decide +kernel
theorem fL_law_517 : a_fetch 303 517 = some (.aload 0, 518) := by decide +kernel
theorem fL_law_518 : a_fetch 303 518 = some (.iload 3, 519) := by decide +kernel
theorem fL_law_519 : a_fetch 303 519 = some (.iconst 1, 520) := by decide +kernel
theorem fL_law_520 : a_fetch 303 520 = some (.iadd, 521) := by decide +kernel
theorem fL_law_521 : a_fetch 303 521 = some (.iaload, 522) := by decide +kernel
theorem fL_law_522 : a_fetch 303 522 = some (.aload 0, 523) := by decide +kernel
theorem fL_law_523 : a_fetch 303 523 = some (.iload 3, 524) := by decide +kernel
theorem fL_law_524 : a_fetch 303 524 = some (.iconst 2, 525) := by decide +kernel
theorem fL_law_525 : a_fetch 303 525 = some (.iadd, 526) := by decide +kernel
theorem fL_law_526 : a_fetch 303 526 = some (.iaload, 527) := by decide +kernel
theorem fL_law_527 : a_fetch 303 527 = some (.invokevirtual 119, 530) := by decide +kernel
theorem fL_law_530 : a_fetch 303 530 = some (.aload 2, 531) := by decide +kernel
theorem fL_law_531 : a_fetch 303 531 = some (.aload 0, 532) := by decide +kernel
theorem fL_law_532 : a_fetch 303 532 = some (.iload 3, 533) := by decide +kernel
theorem fL_law_533 : a_fetch 303 533 = some (.iconst 1, 534) := by decide +kernel
theorem fL_law_534 : a_fetch 303 534 = some (.iadd, 535) := by decide +kernel
theorem fL_law_535 : a_fetch 303 535 = some (.iaload, 536) := by decide +kernel
theorem fL_law_536 : a_fetch 303 536 = some (.aload 0, 537) := by decide +kernel
theorem fL_law_537 : a_fetch 303 537 = some (.iload 3, 538) := by decide +kernel
theorem fL_law_538 : a_fetch 303 538 = some (.iconst 2, 539) := by decide +kernel
theorem fL_law_539 : a_fetch 303 539 = some (.iadd, 540) := by decide +kernel
theorem fL_law_540 : a_fetch 303 540 = some (.iaload, 541) := by decide +kernel
theorem fL_law_541 : a_fetch 303 541 = some (.invokevirtual 226, 544) := by decide +kernel
theorem fL_law_544 : a_fetch 303 544 = some (.if_icmp .eq 1073, 547) := by decide +kernel
theorem fL_law_547 : a_fetch 303 547 = some (.iconst 0, 548) := by decide +kernel
theorem fL_law_548 : a_fetch 303 548 = some (.ireturn, 549) := by decide +kernel
theorem fL_law_549 : a_fetch 303 549 = some (.aload 1, 550) := by decide +kernel
theorem fL_law_550 : a_fetch 303 550 = some (.aload 0, 551) := by decide +kernel
theorem fL_law_551 : a_fetch 303 551 = some (.iload 3, 552) := by decide +kernel
theorem fL_law_552 : a_fetch 303 552 = some (.iconst 1, 553) := by decide +kernel
theorem fL_law_553 : a_fetch 303 553 = some (.iadd, 554) := by decide +kernel
theorem fL_law_554 : a_fetch 303 554 = some (.iaload, 555) := by decide +kernel
theorem fL_law_555 : a_fetch 303 555 = some (.aload 0, 556) := by decide +kernel
theorem fL_law_556 : a_fetch 303 556 = some (.iload 3, 557) := by decide +kernel
theorem fL_law_557 : a_fetch 303 557 = some (.iconst 2, 558) := by decide +kernel
theorem fL_law_558 : a_fetch 303 558 = some (.iadd, 559) := by decide +kernel
theorem fL_law_559 : a_fetch 303 559 = some (.iaload, 560) := by decide +kernel
theorem fL_law_560 : a_fetch 303 560 = some (.invokevirtual 120, 563) := by decide +kernel
theorem fL_law_563 : a_fetch 303 563 = some (.aload 2, 564) := by decide +kernel
theorem fL_law_564 : a_fetch 303 564 = some (.aload 0, 565) := by decide +kernel
theorem fL_law_565 : a_fetch 303 565 = some (.iload 3, 566) := by decide +kernel
theorem fL_law_566 : a_fetch 303 566 = some (.iconst 1, 567) := by decide +kernel
theorem fL_law_567 : a_fetch 303 567 = some (.iadd, 568) := by decide +kernel
theorem fL_law_568 : a_fetch 303 568 = some (.iaload, 569) := by decide +kernel
theorem fL_law_569 : a_fetch 303 569 = some (.aload 0, 570) := by decide +kernel
theorem fL_law_570 : a_fetch 303 570 = some (.iload 3, 571) := by decide +kernel
theorem fL_law_571 : a_fetch 303 571 = some (.iconst 2, 572) := by decide +kernel
theorem fL_law_572 : a_fetch 303 572 = some (.iadd, 573) := by decide +kernel
theorem fL_law_573 : a_fetch 303 573 = some (.iaload, 574) := by decide +kernel
theorem fL_law_574 : a_fetch 303 574 = some (.invokevirtual 228, 577) := by decide +kernel
theorem fL_law_577 : a_fetch 303 577 = some (.if_icmp .eq 1073, 580) := by decide +kernel
theorem fL_law_580 : a_fetch 303 580 = some (.iconst 0, 581) := by decide +kernel
theorem fL_law_581 : a_fetch 303 581 = some (.ireturn, 582) := by decide +kernel
theorem fL_law_582 : a_fetch 303 582 = some (.aload 1, 583) := by decide +kernel
theorem fL_law_583 : a_fetch 303 583 = some (.aload 0, 584) := by decide +kernel
theorem fL_law_584 : a_fetch 303 584 = some (.iload 3, 585) := by decide +kernel
theorem fL_law_585 : a_fetch 303 585 = some (.iconst 1, 586) := by decide +kernel
theorem fL_law_586 : a_fetch 303 586 = some (.iadd, 587) := by decide +kernel
theorem fL_law_587 : a_fetch 303 587 = some (.iaload, 588) := by decide +kernel
theorem fL_law_588 : a_fetch 303 588 = some (.invokevirtual 121, 591) := by decide +kernel
theorem fL_law_591 : a_fetch 303 591 = some (.aload 2, 592) := by decide +kernel
theorem fL_law_592 : a_fetch 303 592 = some (.aload 0, 593) := by decide +kernel
theorem fL_law_593 : a_fetch 303 593 = some (.iload 3, 594) := by decide +kernel
theorem fL_law_594 : a_fetch 303 594 = some (.iconst 1, 595) := by decide +kernel
theorem fL_law_595 : a_fetch 303 595 = some (.iadd, 596) := by decide +kernel
theorem fL_law_596 : a_fetch 303 596 = some (.iaload, 597) := by decide +kernel
theorem fL_law_597 : a_fetch 303 597 = some (.invokevirtual 229, 600) := by decide +kernel
theorem fL_law_600 : a_fetch 303 600 = some (.if_icmp .eq 1073, 603) := by decide +kernel
theorem fL_law_603 : a_fetch 303 603 = some (.iconst 0, 604) := by decide +kernel
theorem fL_law_604 : a_fetch 303 604 = some (.ireturn, 605) := by decide +kernel
theorem fL_law_605 : a_fetch 303 605 = some (.aload 1, 606) := by decide +kernel
theorem fL_law_606 : a_fetch 303 606 = some (.aload 0, 607) := by decide +kernel
theorem fL_law_607 : a_fetch 303 607 = some (.iload 3, 608) := by decide +kernel
theorem fL_law_608 : a_fetch 303 608 = some (.iconst 1, 609) := by decide +kernel
theorem fL_law_609 : a_fetch 303 609 = some (.iadd, 610) := by decide +kernel
theorem fL_law_610 : a_fetch 303 610 = some (.iaload, 611) := by decide +kernel
theorem fL_law_611 : a_fetch 303 611 = some (.aload 0, 612) := by decide +kernel
theorem fL_law_612 : a_fetch 303 612 = some (.iload 3, 613) := by decide +kernel
theorem fL_law_613 : a_fetch 303 613 = some (.iconst 2, 614) := by decide +kernel
theorem fL_law_614 : a_fetch 303 614 = some (.iadd, 615) := by decide +kernel
theorem fL_law_615 : a_fetch 303 615 = some (.iaload, 616) := by decide +kernel
theorem fL_law_616 : a_fetch 303 616 = some (.invokevirtual 122, 619) := by decide +kernel
theorem fL_law_619 : a_fetch 303 619 = some (.aload 2, 620) := by decide +kernel
theorem fL_law_620 : a_fetch 303 620 = some (.aload 0, 621) := by decide +kernel
theorem fL_law_621 : a_fetch 303 621 = some (.iload 3, 622) := by decide +kernel
theorem fL_law_622 : a_fetch 303 622 = some (.iconst 1, 623) := by decide +kernel
theorem fL_law_623 : a_fetch 303 623 = some (.iadd, 624) := by decide +kernel
theorem fL_law_624 : a_fetch 303 624 = some (.iaload, 625) := by decide +kernel
theorem fL_law_625 : a_fetch 303 625 = some (.aload 0, 626) := by decide +kernel
theorem fL_law_626 : a_fetch 303 626 = some (.iload 3, 627) := by decide +kernel
theorem fL_law_627 : a_fetch 303 627 = some (.iconst 2, 628) := by decide +kernel
theorem fL_law_628 : a_fetch 303 628 = some (.iadd, 629) := by decide +kernel
theorem fL_law_629 : a_fetch 303 629 = some (.iaload, 630) := by decide +kernel
theorem fL_law_630 : a_fetch 303 630 = some (.invokevirtual 231, 633) := by decide +kernel
theorem fL_law_633 : a_fetch 303 633 = some (.if_icmp .eq 1073, 636) := by decide +kernel
theorem fL_law_636 : a_fetch 303 636 = some (.iconst 0, 637) := by decide +kernel
theorem fL_law_637 : a_fetch 303 637 = some (.ireturn, 638) := by decide +kernel
theorem fL_law_638 : a_fetch 303 638 = some (.aload 1, 639) := by decide +kernel
theorem fL_law_639 : a_fetch 303 639 = some (.aload 0, 640) := by decide +kernel
theorem fL_law_640 : a_fetch 303 640 = some (.iload 3, 641) := by decide +kernel
theorem fL_law_641 : a_fetch 303 641 = some (.iconst 1, 642) := by decide +kernel
theorem fL_law_642 : a_fetch 303 642 = some (.iadd, 643) := by decide +kernel
theorem fL_law_643 : a_fetch 303 643 = some (.iaload, 644) := by decide +kernel
theorem fL_law_644 : a_fetch 303 644 = some (.aload 0, 645) := by decide +kernel
theorem fL_law_645 : a_fetch 303 645 = some (.iload 3, 646) := by decide +kernel
theorem fL_law_646 : a_fetch 303 646 = some (.iconst 2, 647) := by decide +kernel
theorem fL_law_647 : a_fetch 303 647 = some (.iadd, 648) := by decide +kernel
theorem fL_law_648 : a_fetch 303 648 = some (.iaload, 649) := by decide +kernel
theorem fL_law_649 : a_fetch 303 649 = some (.invokevirtual 123, 652) := by decide +kernel
theorem fL_law_652 : a_fetch 303 652 = some (.aload 2, 653) := by decide +kernel
theorem fL_law_653 : a_fetch 303 653 = some (.aload 0, 654) := by decide +kernel
theorem fL_law_654 : a_fetch 303 654 = some (.iload 3, 655) := by decide +kernel
theorem fL_law_655 : a_fetch 303 655 = some (.iconst 1, 656) := by decide +kernel
theorem fL_law_656 : a_fetch 303 656 = some (.iadd, 657) := by decide +kernel
theorem fL_law_657 : a_fetch 303 657 = some (.iaload, 658) := by decide +kernel
theorem fL_law_658 : a_fetch 303 658 = some (.aload 0, 659) := by decide +kernel
theorem fL_law_659 : a_fetch 303 659 = some (.iload 3, 660) := by decide +kernel
theorem fL_law_660 : a_fetch 303 660 = some (.iconst 2, 661) := by decide +kernel
theorem fL_law_661 : a_fetch 303 661 = some (.iadd, 662) := by decide +kernel
theorem fL_law_662 : a_fetch 303 662 = some (.iaload, 663) := by decide +kernel
theorem fL_law_663 : a_fetch 303 663 = some (.invokevirtual 232, 666) := by decide +kernel
theorem fL_law_666 : a_fetch 303 666 = some (.if_icmp .eq 1073, 669) := by decide +kernel
theorem fL_law_669 : a_fetch 303 669 = some (.iconst 0, 670) := by decide +kernel
theorem fL_law_670 : a_fetch 303 670 = some (.ireturn, 671) := by decide +kernel
theorem fL_law_671 : a_fetch 303 671 = some (.aload 1, 672) := by decide +kernel
theorem fL_law_672 : a_fetch 303 672 = some (.aload 0, 673) := by decide +kernel
theorem fL_law_673 : a_fetch 303 673 = some (.iload 3, 674) := by decide +kernel
theorem fL_law_674 : a_fetch 303 674 = some (.iconst 1, 675) := by decide +kernel
theorem fL_law_675 : a_fetch 303 675 = some (.iadd, 676) := by decide +kernel
theorem fL_law_676 : a_fetch 303 676 = some (.iaload, 677) := by decide +kernel
theorem fL_law_677 : a_fetch 303 677 = some (.invokevirtual 124, 680) := by decide +kernel
theorem fL_law_680 : a_fetch 303 680 = some (.aload 2, 681) := by decide +kernel
theorem fL_law_681 : a_fetch 303 681 = some (.aload 0, 682) := by decide +kernel
theorem fL_law_682 : a_fetch 303 682 = some (.iload 3, 683) := by decide +kernel
theorem fL_law_683 : a_fetch 303 683 = some (.iconst 1, 684) := by decide +kernel
theorem fL_law_684 : a_fetch 303 684 = some (.iadd, 685) := by decide +kernel
theorem fL_law_685 : a_fetch 303 685 = some (.iaload, 686) := by decide +kernel
theorem fL_law_686 : a_fetch 303 686 = some (.invokevirtual 234, 689) := by decide +kernel
theorem fL_law_689 : a_fetch 303 689 = some (.if_icmp .eq 1073, 692) := by decide +kernel
theorem fL_law_692 : a_fetch 303 692 = some (.iconst 0, 693) := by decide +kernel
theorem fL_law_693 : a_fetch 303 693 = some (.ireturn, 694) := by decide +kernel
theorem fL_law_694 : a_fetch 303 694 = some (.aload 1, 695) := by decide +kernel
theorem fL_law_695 : a_fetch 303 695 = some (.aload 0, 696) := by decide +kernel
theorem fL_law_696 : a_fetch 303 696 = some (.iload 3, 697) := by decide +kernel
theorem fL_law_697 : a_fetch 303 697 = some (.iconst 1, 698) := by decide +kernel
theorem fL_law_698 : a_fetch 303 698 = some (.iadd, 699) := by decide +kernel
theorem fL_law_699 : a_fetch 303 699 = some (.iaload, 700) := by decide +kernel
theorem fL_law_700 : a_fetch 303 700 = some (.invokevirtual 125, 703) := by decide +kernel
theorem fL_law_703 : a_fetch 303 703 = some (.aload 2, 704) := by decide +kernel
theorem fL_law_704 : a_fetch 303 704 = some (.aload 0, 705) := by decide +kernel
theorem fL_law_705 : a_fetch 303 705 = some (.iload 3, 706) := by decide +kernel
theorem fL_law_706 : a_fetch 303 706 = some (.iconst 1, 707) := by decide +kernel
theorem fL_law_707 : a_fetch 303 707 = some (.iadd, 708) := by decide +kernel
theorem fL_law_708 : a_fetch 303 708 = some (.iaload, 709) := by decide +kernel
theorem fL_law_709 : a_fetch 303 709 = some (.invokevirtual 235, 712) := by decide +kernel
theorem fL_law_712 : a_fetch 303 712 = some (.if_icmp .eq 1073, 715) := by decide +kernel
theorem fL_law_715 : a_fetch 303 715 = some (.iconst 0, 716) := by decide +kernel
theorem fL_law_716 : a_fetch 303 716 = some (.ireturn, 717) := by decide +kernel
theorem fL_law_717 : a_fetch 303 717 = some (.aload 1, 718) := by decide +kernel
theorem fL_law_718 : a_fetch 303 718 = some (.aload 0, 719) := by decide +kernel
theorem fL_law_719 : a_fetch 303 719 = some (.iload 3, 720) := by decide +kernel
theorem fL_law_720 : a_fetch 303 720 = some (.iconst 1, 721) := by decide +kernel
theorem fL_law_721 : a_fetch 303 721 = some (.iadd, 722) := by decide +kernel
theorem fL_law_722 : a_fetch 303 722 = some (.iaload, 723) := by decide +kernel
theorem fL_law_723 : a_fetch 303 723 = some (.aload 0, 724) := by decide +kernel
theorem fL_law_724 : a_fetch 303 724 = some (.iload 3, 725) := by decide +kernel
theorem fL_law_725 : a_fetch 303 725 = some (.iconst 2, 726) := by decide +kernel
theorem fL_law_726 : a_fetch 303 726 = some (.iadd, 727) := by decide +kernel
theorem fL_law_727 : a_fetch 303 727 = some (.iaload, 728) := by decide +kernel
theorem fL_law_728 : a_fetch 303 728 = some (.aload 0, 729) := by decide +kernel
theorem fL_law_729 : a_fetch 303 729 = some (.iload 3, 730) := by decide +kernel
theorem fL_law_730 : a_fetch 303 730 = some (.iconst 3, 731) := by decide +kernel
theorem fL_law_731 : a_fetch 303 731 = some (.iadd, 732) := by decide +kernel
theorem fL_law_732 : a_fetch 303 732 = some (.iaload, 733) := by decide +kernel
theorem fL_law_733 : a_fetch 303 733 = some (.invokevirtual 126, 736) := by decide +kernel
theorem fL_law_736 : a_fetch 303 736 = some (.aload 2, 737) := by decide +kernel
theorem fL_law_737 : a_fetch 303 737 = some (.aload 0, 738) := by decide +kernel
theorem fL_law_738 : a_fetch 303 738 = some (.iload 3, 739) := by decide +kernel
theorem fL_law_739 : a_fetch 303 739 = some (.iconst 1, 740) := by decide +kernel
theorem fL_law_740 : a_fetch 303 740 = some (.iadd, 741) := by decide +kernel
theorem fL_law_741 : a_fetch 303 741 = some (.iaload, 742) := by decide +kernel
theorem fL_law_742 : a_fetch 303 742 = some (.aload 0, 743) := by decide +kernel
theorem fL_law_743 : a_fetch 303 743 = some (.iload 3, 744) := by decide +kernel
theorem fL_law_744 : a_fetch 303 744 = some (.iconst 2, 745) := by decide +kernel
theorem fL_law_745 : a_fetch 303 745 = some (.iadd, 746) := by decide +kernel
theorem fL_law_746 : a_fetch 303 746 = some (.iaload, 747) := by decide +kernel
theorem fL_law_747 : a_fetch 303 747 = some (.aload 0, 748) := by decide +kernel
theorem fL_law_748 : a_fetch 303 748 = some (.iload 3, 749) := by decide +kernel
theorem fL_law_749 : a_fetch 303 749 = some (.iconst 3, 750) := by decide +kernel
theorem fL_law_750 : a_fetch 303 750 = some (.iadd, 751) := by decide +kernel
theorem fL_law_751 : a_fetch 303 751 = some (.iaload, 752) := by decide +kernel
theorem fL_law_752 : a_fetch 303 752 = some (.invokevirtual 236, 755) := by decide +kernel
theorem fL_law_755 : a_fetch 303 755 = some (.if_icmp .eq 1073, 758) := by decide +kernel
theorem fL_law_758 : a_fetch 303 758 = some (.iconst 0, 759) := by decide +kernel
theorem fL_law_759 : a_fetch 303 759 = some (.ireturn, 760) := by decide +kernel
theorem fL_law_760 : a_fetch 303 760 = some (.aload 1, 761) := by decide +kernel
theorem fL_law_761 : a_fetch 303 761 = some (.aload 0, 762) := by decide +kernel
theorem fL_law_762 : a_fetch 303 762 = some (.iload 3, 763) := by decide +kernel
theorem fL_law_763 : a_fetch 303 763 = some (.iconst 1, 764) := by decide +kernel
theorem fL_law_764 : a_fetch 303 764 = some (.iadd, 765) := by decide +kernel
theorem fL_law_765 : a_fetch 303 765 = some (.iaload, 766) := by decide +kernel
theorem fL_law_766 : a_fetch 303 766 = some (.invokevirtual 127, 769) := by decide +kernel
theorem fL_law_769 : a_fetch 303 769 = some (.aload 2, 770) := by decide +kernel
theorem fL_law_770 : a_fetch 303 770 = some (.aload 0, 771) := by decide +kernel
theorem fL_law_771 : a_fetch 303 771 = some (.iload 3, 772) := by decide +kernel
theorem fL_law_772 : a_fetch 303 772 = some (.iconst 1, 773) := by decide +kernel
theorem fL_law_773 : a_fetch 303 773 = some (.iadd, 774) := by decide +kernel
theorem fL_law_774 : a_fetch 303 774 = some (.iaload, 775) := by decide +kernel
theorem fL_law_775 : a_fetch 303 775 = some (.invokevirtual 240, 778) := by decide +kernel
theorem fL_law_778 : a_fetch 303 778 = some (.if_icmp .eq 1073, 781) := by decide +kernel
theorem fL_law_781 : a_fetch 303 781 = some (.iconst 0, 782) := by decide +kernel
theorem fL_law_782 : a_fetch 303 782 = some (.ireturn, 783) := by decide +kernel
theorem fL_law_783 : a_fetch 303 783 = some (.aload 1, 784) := by decide +kernel
theorem fL_law_784 : a_fetch 303 784 = some (.aload 0, 785) := by decide +kernel
theorem fL_law_785 : a_fetch 303 785 = some (.iload 3, 786) := by decide +kernel
theorem fL_law_786 : a_fetch 303 786 = some (.iconst 1, 787) := by decide +kernel
theorem fL_law_787 : a_fetch 303 787 = some (.iadd, 788) := by decide +kernel
theorem fL_law_788 : a_fetch 303 788 = some (.iaload, 789) := by decide +kernel
theorem fL_law_789 : a_fetch 303 789 = some (.invokevirtual 128, 792) := by decide +kernel
theorem fL_law_792 : a_fetch 303 792 = some (.aload 2, 793) := by decide +kernel
theorem fL_law_793 : a_fetch 303 793 = some (.aload 0, 794) := by decide +kernel
theorem fL_law_794 : a_fetch 303 794 = some (.iload 3, 795) := by decide +kernel
theorem fL_law_795 : a_fetch 303 795 = some (.iconst 1, 796) := by decide +kernel
theorem fL_law_796 : a_fetch 303 796 = some (.iadd, 797) := by decide +kernel
theorem fL_law_797 : a_fetch 303 797 = some (.iaload, 798) := by decide +kernel
theorem fL_law_798 : a_fetch 303 798 = some (.invokevirtual 241, 801) := by decide +kernel
theorem fL_law_801 : a_fetch 303 801 = some (.if_icmp .eq 1073, 804) := by decide +kernel
theorem fL_law_804 : a_fetch 303 804 = some (.iconst 0, 805) := by decide +kernel
theorem fL_law_805 : a_fetch 303 805 = some (.ireturn, 806) := by decide +kernel
theorem fL_law_806 : a_fetch 303 806 = some (.aload 1, 807) := by decide +kernel
theorem fL_law_807 : a_fetch 303 807 = some (.aload 0, 808) := by decide +kernel
theorem fL_law_808 : a_fetch 303 808 = some (.iload 3, 809) := by decide +kernel
theorem fL_law_809 : a_fetch 303 809 = some (.iconst 1, 810) := by decide +kernel
theorem fL_law_810 : a_fetch 303 810 = some (.iadd, 811) := by decide +kernel
theorem fL_law_811 : a_fetch 303 811 = some (.iaload, 812) := by decide +kernel
theorem fL_law_812 : a_fetch 303 812 = some (.aload 0, 813) := by decide +kernel
theorem fL_law_813 : a_fetch 303 813 = some (.iload 3, 814) := by decide +kernel
theorem fL_law_814 : a_fetch 303 814 = some (.iconst 2, 815) := by decide +kernel
theorem fL_law_815 : a_fetch 303 815 = some (.iadd, 816) := by decide +kernel
theorem fL_law_816 : a_fetch 303 816 = some (.iaload, 817) := by decide +kernel
theorem fL_law_817 : a_fetch 303 817 = some (.invokevirtual 129, 820) := by decide +kernel
theorem fL_law_820 : a_fetch 303 820 = some (.aload 2, 821) := by decide +kernel
theorem fL_law_821 : a_fetch 303 821 = some (.aload 0, 822) := by decide +kernel
theorem fL_law_822 : a_fetch 303 822 = some (.iload 3, 823) := by decide +kernel
theorem fL_law_823 : a_fetch 303 823 = some (.iconst 1, 824) := by decide +kernel
theorem fL_law_824 : a_fetch 303 824 = some (.iadd, 825) := by decide +kernel
theorem fL_law_825 : a_fetch 303 825 = some (.iaload, 826) := by decide +kernel
theorem fL_law_826 : a_fetch 303 826 = some (.aload 0, 827) := by decide +kernel
theorem fL_law_827 : a_fetch 303 827 = some (.iload 3, 828) := by decide +kernel
theorem fL_law_828 : a_fetch 303 828 = some (.iconst 2, 829) := by decide +kernel
theorem fL_law_829 : a_fetch 303 829 = some (.iadd, 830) := by decide +kernel
theorem fL_law_830 : a_fetch 303 830 = some (.iaload, 831) := by decide +kernel
theorem fL_law_831 : a_fetch 303 831 = some (.invokevirtual 242, 834) := by decide +kernel
theorem fL_law_834 : a_fetch 303 834 = some (.if_icmp .eq 1073, 837) := by decide +kernel
theorem fL_law_837 : a_fetch 303 837 = some (.iconst 0, 838) := by decide +kernel
theorem fL_law_838 : a_fetch 303 838 = some (.ireturn, 839) := by decide +kernel
theorem fL_law_839 : a_fetch 303 839 = some (.aload 1, 840) := by decide +kernel
theorem fL_law_840 : a_fetch 303 840 = some (.aload 0, 841) := by decide +kernel
theorem fL_law_841 : a_fetch 303 841 = some (.iload 3, 842) := by decide +kernel
theorem fL_law_842 : a_fetch 303 842 = some (.iconst 1, 843) := by decide +kernel
theorem fL_law_843 : a_fetch 303 843 = some (.iadd, 844) := by decide +kernel
theorem fL_law_844 : a_fetch 303 844 = some (.iaload, 845) := by decide +kernel
theorem fL_law_845 : a_fetch 303 845 = some (.aload 0, 846) := by decide +kernel
theorem fL_law_846 : a_fetch 303 846 = some (.iload 3, 847) := by decide +kernel
theorem fL_law_847 : a_fetch 303 847 = some (.iconst 2, 848) := by decide +kernel
theorem fL_law_848 : a_fetch 303 848 = some (.iadd, 849) := by decide +kernel
theorem fL_law_849 : a_fetch 303 849 = some (.iaload, 850) := by decide +kernel
theorem fL_law_850 : a_fetch 303 850 = some (.aload 0, 851) := by decide +kernel
theorem fL_law_851 : a_fetch 303 851 = some (.iload 3, 852) := by decide +kernel
theorem fL_law_852 : a_fetch 303 852 = some (.iconst 3, 853) := by decide +kernel
theorem fL_law_853 : a_fetch 303 853 = some (.iadd, 854) := by decide +kernel
theorem fL_law_854 : a_fetch 303 854 = some (.iaload, 855) := by decide +kernel
theorem fL_law_855 : a_fetch 303 855 = some (.invokevirtual 130, 858) := by decide +kernel
theorem fL_law_858 : a_fetch 303 858 = some (.aload 2, 859) := by decide +kernel
theorem fL_law_859 : a_fetch 303 859 = some (.aload 0, 860) := by decide +kernel
theorem fL_law_860 : a_fetch 303 860 = some (.iload 3, 861) := by decide +kernel
theorem fL_law_861 : a_fetch 303 861 = some (.iconst 1, 862) := by decide +kernel
theorem fL_law_862 : a_fetch 303 862 = some (.iadd, 863) := by decide +kernel
theorem fL_law_863 : a_fetch 303 863 = some (.iaload, 864) := by decide +kernel
theorem fL_law_864 : a_fetch 303 864 = some (.aload 0, 865) := by decide +kernel
theorem fL_law_865 : a_fetch 303 865 = some (.iload 3, 866) := by decide +kernel
theorem fL_law_866 : a_fetch 303 866 = some (.iconst 2, 867) := by decide +kernel
theorem fL_law_867 : a_fetch 303 867 = some (.iadd, 868) := by decide +kernel
theorem fL_law_868 : a_fetch 303 868 = some (.iaload, 869) := by decide +kernel
theorem fL_law_869 : a_fetch 303 869 = some (.aload 0, 870) := by decide +kernel
theorem fL_law_870 : a_fetch 303 870 = some (.iload 3, 871) := by decide +kernel
theorem fL_law_871 : a_fetch 303 871 = some (.iconst 3, 872) := by decide +kernel
theorem fL_law_872 : a_fetch 303 872 = some (.iadd, 873) := by decide +kernel
theorem fL_law_873 : a_fetch 303 873 = some (.iaload, 874) := by decide +kernel
theorem fL_law_874 : a_fetch 303 874 = some (.invokevirtual 243, 877) := by decide +kernel
theorem fL_law_877 : a_fetch 303 877 = some (.if_icmp .eq 1073, 880) := by decide +kernel
theorem fL_law_880 : a_fetch 303 880 = some (.iconst 0, 881) := by decide +kernel
theorem fL_law_881 : a_fetch 303 881 = some (.ireturn, 882) := by decide +kernel
theorem fL_law_882 : a_fetch 303 882 = some (.aload 1, 883) := by decide +kernel
theorem fL_law_883 : a_fetch 303 883 = some (.aload 0, 884) := by decide +kernel
theorem fL_law_884 : a_fetch 303 884 = some (.iload 3, 885) := by decide +kernel
theorem fL_law_885 : a_fetch 303 885 = some (.iconst 1, 886) := by decide +kernel
theorem fL_law_886 : a_fetch 303 886 = some (.iadd, 887) := by decide +kernel
theorem fL_law_887 : a_fetch 303 887 = some (.iaload, 888) := by decide +kernel
theorem fL_law_888 : a_fetch 303 888 = some (.invokevirtual 131, 891) := by decide +kernel
theorem fL_law_891 : a_fetch 303 891 = some (.aload 2, 892) := by decide +kernel
theorem fL_law_892 : a_fetch 303 892 = some (.aload 0, 893) := by decide +kernel
theorem fL_law_893 : a_fetch 303 893 = some (.iload 3, 894) := by decide +kernel
theorem fL_law_894 : a_fetch 303 894 = some (.iconst 1, 895) := by decide +kernel
theorem fL_law_895 : a_fetch 303 895 = some (.iadd, 896) := by decide +kernel
theorem fL_law_896 : a_fetch 303 896 = some (.iaload, 897) := by decide +kernel
theorem fL_law_897 : a_fetch 303 897 = some (.invokevirtual 248, 900) := by decide +kernel
theorem fL_law_900 : a_fetch 303 900 = some (.if_icmp .eq 1073, 903) := by decide +kernel
theorem fL_law_903 : a_fetch 303 903 = some (.iconst 0, 904) := by decide +kernel
theorem fL_law_904 : a_fetch 303 904 = some (.ireturn, 905) := by decide +kernel
theorem fL_law_905 : a_fetch 303 905 = some (.aload 1, 906) := by decide +kernel
theorem fL_law_906 : a_fetch 303 906 = some (.invokevirtual 132, 909) := by decide +kernel
theorem fL_law_909 : a_fetch 303 909 = some (.aload 2, 910) := by decide +kernel
theorem fL_law_910 : a_fetch 303 910 = some (.invokevirtual 238, 913) := by decide +kernel
theorem fL_law_913 : a_fetch 303 913 = some (.if_icmp .eq 1073, 916) := by decide +kernel
theorem fL_law_916 : a_fetch 303 916 = some (.iconst 0, 917) := by decide +kernel
theorem fL_law_917 : a_fetch 303 917 = some (.ireturn, 918) := by decide +kernel
theorem fL_law_918 : a_fetch 303 918 = some (.aload 1, 919) := by decide +kernel
theorem fL_law_919 : a_fetch 303 919 = some (.aload 0, 920) := by decide +kernel
theorem fL_law_920 : a_fetch 303 920 = some (.iload 3, 921) := by decide +kernel
theorem fL_law_921 : a_fetch 303 921 = some (.iconst 1, 922) := by decide +kernel
theorem fL_law_922 : a_fetch 303 922 = some (.iadd, 923) := by decide +kernel
theorem fL_law_923 : a_fetch 303 923 = some (.iaload, 924) := by decide +kernel
theorem fL_law_924 : a_fetch 303 924 = some (.invokevirtual 133, 927) := by decide +kernel
theorem fL_law_927 : a_fetch 303 927 = some (.aload 2, 928) := by decide +kernel
theorem fL_law_928 : a_fetch 303 928 = some (.aload 0, 929) := by decide +kernel
theorem fL_law_929 : a_fetch 303 929 = some (.iload 3, 930) := by decide +kernel
theorem fL_law_930 : a_fetch 303 930 = some (.iconst 1, 931) := by decide +kernel
theorem fL_law_931 : a_fetch 303 931 = some (.iadd, 932) := by decide +kernel
theorem fL_law_932 : a_fetch 303 932 = some (.iaload, 933) := by decide +kernel
theorem fL_law_933 : a_fetch 303 933 = some (.invokevirtual 244, 936) := by decide +kernel
theorem fL_law_936 : a_fetch 303 936 = some (.if_icmp .eq 1073, 939) := by decide +kernel
theorem fL_law_939 : a_fetch 303 939 = some (.iconst 0, 940) := by decide +kernel
theorem fL_law_940 : a_fetch 303 940 = some (.ireturn, 941) := by decide +kernel
theorem fL_law_941 : a_fetch 303 941 = some (.aload 1, 942) := by decide +kernel
theorem fL_law_942 : a_fetch 303 942 = some (.aload 0, 943) := by decide +kernel
theorem fL_law_943 : a_fetch 303 943 = some (.iload 3, 944) := by decide +kernel
theorem fL_law_944 : a_fetch 303 944 = some (.iconst 1, 945) := by decide +kernel
theorem fL_law_945 : a_fetch 303 945 = some (.iadd, 946) := by decide +kernel
theorem fL_law_946 : a_fetch 303 946 = some (.iaload, 947) := by decide +kernel
theorem fL_law_947 : a_fetch 303 947 = some (.invokevirtual 134, 950) := by decide +kernel
theorem fL_law_950 : a_fetch 303 950 = some (.aload 2, 951) := by decide +kernel
theorem fL_law_951 : a_fetch 303 951 = some (.aload 0, 952) := by decide +kernel
theorem fL_law_952 : a_fetch 303 952 = some (.iload 3, 953) := by decide +kernel
theorem fL_law_953 : a_fetch 303 953 = some (.iconst 1, 954) := by decide +kernel
theorem fL_law_954 : a_fetch 303 954 = some (.iadd, 955) := by decide +kernel
theorem fL_law_955 : a_fetch 303 955 = some (.iaload, 956) := by decide +kernel
theorem fL_law_956 : a_fetch 303 956 = some (.invokevirtual 249, 959) := by decide +kernel
theorem fL_law_959 : a_fetch 303 959 = some (.if_icmp .eq 1073, 962) := by decide +kernel
theorem fL_law_962 : a_fetch 303 962 = some (.iconst 0, 963) := by decide +kernel
theorem fL_law_963 : a_fetch 303 963 = some (.ireturn, 964) := by decide +kernel
theorem fL_law_964 : a_fetch 303 964 = some (.aload 1, 965) := by decide +kernel
theorem fL_law_965 : a_fetch 303 965 = some (.invokevirtual 135, 968) := by decide +kernel
theorem fL_law_968 : a_fetch 303 968 = some (.aload 2, 969) := by decide +kernel
theorem fL_law_969 : a_fetch 303 969 = some (.invokevirtual 251, 972) := by decide +kernel
theorem fL_law_972 : a_fetch 303 972 = some (.if_icmp .eq 1073, 975) := by decide +kernel
theorem fL_law_975 : a_fetch 303 975 = some (.iconst 0, 976) := by decide +kernel
theorem fL_law_976 : a_fetch 303 976 = some (.ireturn, 977) := by decide +kernel
theorem fL_law_977 : a_fetch 303 977 = some (.aload 1, 978) := by decide +kernel
theorem fL_law_978 : a_fetch 303 978 = some (.aload 0, 979) := by decide +kernel
theorem fL_law_979 : a_fetch 303 979 = some (.iload 3, 980) := by decide +kernel
theorem fL_law_980 : a_fetch 303 980 = some (.iconst 1, 981) := by decide +kernel
theorem fL_law_981 : a_fetch 303 981 = some (.iadd, 982) := by decide +kernel
theorem fL_law_982 : a_fetch 303 982 = some (.iaload, 983) := by decide +kernel
theorem fL_law_983 : a_fetch 303 983 = some (.invokevirtual 136, 986) := by decide +kernel
theorem fL_law_986 : a_fetch 303 986 = some (.aload 2, 987) := by decide +kernel
theorem fL_law_987 : a_fetch 303 987 = some (.aload 0, 988) := by decide +kernel
theorem fL_law_988 : a_fetch 303 988 = some (.iload 3, 989) := by decide +kernel
theorem fL_law_989 : a_fetch 303 989 = some (.iconst 1, 990) := by decide +kernel
theorem fL_law_990 : a_fetch 303 990 = some (.iadd, 991) := by decide +kernel
theorem fL_law_991 : a_fetch 303 991 = some (.iaload, 992) := by decide +kernel
theorem fL_law_992 : a_fetch 303 992 = some (.invokevirtual 280, 995) := by decide +kernel
theorem fL_law_995 : a_fetch 303 995 = some (.lcmp, 996) := by decide +kernel
theorem fL_law_996 : a_fetch 303 996 = some (.ifCond .eq 1073, 999) := by decide +kernel
theorem fL_law_999 : a_fetch 303 999 = some (.iconst 0, 1000) := by decide +kernel
theorem fL_law_1000 : a_fetch 303 1000 = some (.ireturn, 1001) := by decide +kernel
theorem fL_law_1001 : a_fetch 303 1001 = some (.aload 1, 1002) := by decide +kernel
theorem fL_law_1002 : a_fetch 303 1002 = some (.invokevirtual 137, 1005) := by decide +kernel
theorem fL_law_1005 : a_fetch 303 1005 = some (.aload 2, 1006) := by decide +kernel
theorem fL_law_1006 : a_fetch 303 1006 = some (.invokevirtual 283, 1009) := by decide +kernel
theorem fL_law_1009 : a_fetch 303 1009 = some (.if_icmp .eq 1073, 1012) := by decide +kernel
theorem fL_law_1012 : a_fetch 303 1012 = some (.iconst 0, 1013) := by decide +kernel
theorem fL_law_1013 : a_fetch 303 1013 = some (.ireturn, 1014) := by decide +kernel
theorem fL_law_1014 : a_fetch 303 1014 = some (.aload 1, 1015) := by decide +kernel
theorem fL_law_1015 : a_fetch 303 1015 = some (.aload 0, 1016) := by decide +kernel
theorem fL_law_1016 : a_fetch 303 1016 = some (.iload 3, 1017) := by decide +kernel
theorem fL_law_1017 : a_fetch 303 1017 = some (.iconst 1, 1018) := by decide +kernel
theorem fL_law_1018 : a_fetch 303 1018 = some (.iadd, 1019) := by decide +kernel
theorem fL_law_1019 : a_fetch 303 1019 = some (.iaload, 1020) := by decide +kernel
theorem fL_law_1020 : a_fetch 303 1020 = some (.invokevirtual 138, 1023) := by decide +kernel
theorem fL_law_1023 : a_fetch 303 1023 = some (.aload 2, 1024) := by decide +kernel
theorem fL_law_1024 : a_fetch 303 1024 = some (.aload 0, 1025) := by decide +kernel
theorem fL_law_1025 : a_fetch 303 1025 = some (.iload 3, 1026) := by decide +kernel
theorem fL_law_1026 : a_fetch 303 1026 = some (.iconst 1, 1027) := by decide +kernel
theorem fL_law_1027 : a_fetch 303 1027 = some (.iadd, 1028) := by decide +kernel
theorem fL_law_1028 : a_fetch 303 1028 = some (.iaload, 1029) := by decide +kernel
theorem fL_law_1029 : a_fetch 303 1029 = some (.invokevirtual 284, 1032) := by decide +kernel
theorem fL_law_1032 : a_fetch 303 1032 = some (.if_icmp .eq 1073, 1035) := by decide +kernel
theorem fL_law_1035 : a_fetch 303 1035 = some (.iconst 0, 1036) := by decide +kernel
theorem fL_law_1036 : a_fetch 303 1036 = some (.ireturn, 1037) := by decide +kernel
theorem fL_law_1037 : a_fetch 303 1037 = some (.aload 1, 1038) := by decide +kernel
theorem fL_law_1038 : a_fetch 303 1038 = some (.invokevirtual 139, 1041) := by decide +kernel
theorem fL_law_1041 : a_fetch 303 1041 = some (.aload 2, 1042) := by decide +kernel
theorem fL_law_1042 : a_fetch 303 1042 = some (.invokevirtual 287, 1045) := by decide +kernel
theorem fL_law_1045 : a_fetch 303 1045 = some (.if_icmp .eq 1073, 1048) := by decide +kernel
theorem fL_law_1048 : a_fetch 303 1048 = some (.iconst 0, 1049) := by decide +kernel
theorem fL_law_1049 : a_fetch 303 1049 = some (.ireturn, 1050) := by decide +kernel
theorem fL_law_1050 : a_fetch 303 1050 = some (.aload 1, 1051) := by decide +kernel
theorem fL_law_1051 : a_fetch 303 1051 = some (.aload 0, 1052) := by decide +kernel
theorem fL_law_1052 : a_fetch 303 1052 = some (.iload 3, 1053) := by decide +kernel
theorem fL_law_1053 : a_fetch 303 1053 = some (.iconst 1, 1054) := by decide +kernel
theorem fL_law_1054 : a_fetch 303 1054 = some (.iadd, 1055) := by decide +kernel
theorem fL_law_1055 : a_fetch 303 1055 = some (.iaload, 1056) := by decide +kernel
theorem fL_law_1056 : a_fetch 303 1056 = some (.invokevirtual 140, 1059) := by decide +kernel
theorem fL_law_1059 : a_fetch 303 1059 = some (.aload 2, 1060) := by decide +kernel
theorem fL_law_1060 : a_fetch 303 1060 = some (.aload 0, 1061) := by decide +kernel
theorem fL_law_1061 : a_fetch 303 1061 = some (.iload 3, 1062) := by decide +kernel
theorem fL_law_1062 : a_fetch 303 1062 = some (.iconst 1, 1063) := by decide +kernel
theorem fL_law_1063 : a_fetch 303 1063 = some (.iadd, 1064) := by decide +kernel
theorem fL_law_1064 : a_fetch 303 1064 = some (.iaload, 1065) := by decide +kernel
theorem fL_law_1065 : a_fetch 303 1065 = some (.invokevirtual 288, 1068) := by decide +kernel
theorem fL_law_1068 : a_fetch 303 1068 = some (.if_icmp .eq 1073, 1071) := by decide +kernel
theorem fL_law_1071 : a_fetch 303 1071 = some (.iconst 0, 1072) := by decide +kernel
theorem fL_law_1072 : a_fetch 303 1072 = some (.ireturn, 1073) := by decide +kernel
theorem fL_law_1073 : a_fetch 303 1073 = some (.iinc 3 6, 1076) := by decide +kernel
theorem fL_law_1076 : a_fetch 303 1076 = some (.goto 18, 1079) := by decide +kernel
theorem fL_law_1079 : a_fetch 303 1079 = some (.iconst 1, 1080) := by decide +kernel
theorem fL_law_1080 : a_fetch 303 1080 = some (.ireturn, 1081) := by decide +kernel
