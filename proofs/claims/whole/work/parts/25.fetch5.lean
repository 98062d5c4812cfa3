theorem fX10_laysChange_220 : a_fetch 233 220 = some (.return_, 221) := by decide +kernel
theorem fX10_change_0 : a_fetch 234 0 = some (.aload 0, 1) := by decide +kernel
theorem fX10_change_1 : a_fetch 234 1 = some (.invokevirtual 189, 4) := by decide +kernel
theorem fX10_change_4 : a_fetch 234 4 = some (.iconst 2, 5) := by decide +kernel
theorem fX10_change_5 : a_fetch 234 5 = some (.if_icmp .lt 21, 8) := by decide +kernel
theorem fX10_change_8 : a_fetch 234 8 = some (.iload 1, 9) := by decide +kernel
theorem fX10_change_9 : a_fetch 234 9 = some (.iconst (-1), 10) := by decide +kernel
theorem fX10_change_10 : a_fetch 234 10 = some (.if_icmp .eq 23, 13) := by decide +kernel
theorem fX10_change_13 : a_fetch 234 13 = some (.aload 0, 14) := by decide +kernel
theorem fX10_change_14 : a_fetch 234 14 = some (.iload 1, 15) := by decide +kernel
theorem fX10_change_15 : a_fetch 234 15 = some (.invokevirtual 191, 18) := by decide +kernel
theorem fX10_change_18 : a_fetch 234 18 = some (.ifCond .ne 23, 21) := by decide +kernel
theorem fX10_change_21 : a_fetch 234 21 = some (.iconst (-1), 22) := by decide +kernel
theorem fX10_change_22 : a_fetch 234 22 = some (.ireturn, 23) := by decide +kernel
theorem fX10_change_23 : a_fetch 234 23 = some (.aload 0, 24) := by decide +kernel
theorem fX10_change_24 : a_fetch 234 24 = some (.invokevirtual 233, 27) := by decide +kernel
theorem fX10_change_27 : a_fetch 234 27 = some (.iload 1, 28) := by decide +kernel
theorem fX10_change_28 : a_fetch 234 28 = some (.iconst (-1), 29) := by decide +kernel
theorem fX10_change_29 : a_fetch 234 29 = some (.if_icmp .ne 39, 32) := by decide +kernel
theorem fX10_change_32 : a_fetch 234 32 = some (.aload 0, 33) := by decide +kernel
theorem fX10_change_33 : a_fetch 234 33 = some (.invokeinterface 10 66, 36) := by decide +kernel
theorem fX10_change_36 : a_fetch 234 36 = some (.iconst 0, 37) := by decide +kernel
theorem fX10_change_37 : a_fetch 234 37 = some (.iaload, 38) := by decide +kernel
theorem fX10_change_38 : a_fetch 234 38 = some (.ireturn, 39) := by decide +kernel
theorem fX10_change_39 : a_fetch 234 39 = some (.iconst 0, 40) := by decide +kernel
theorem fX10_change_40 : a_fetch 234 40 = some (.istore 2, 41) := by decide +kernel
theorem fX10_change_41 : a_fetch 234 41 = some (.iconst (-1), 42) := by decide +kernel
theorem fX10_change_42 : a_fetch 234 42 = some (.istore 3, 43) := by decide +kernel
theorem fX10_change_43 : a_fetch 234 43 = some (.iconst 0, 44) := by decide +kernel
theorem fX10_change_44 : a_fetch 234 44 = some (.istore 4, 46) := by decide +kernel
theorem fX10_change_46 : a_fetch 234 46 = some (.iload 4, 48) := by decide +kernel
theorem fX10_change_48 : a_fetch 234 48 = some (.iload 1, 49) := by decide +kernel
theorem fX10_change_49 : a_fetch 234 49 = some (.if_icmp .gt 129, 52) := by decide +kernel
theorem fX10_change_52 : a_fetch 234 52 = some (.iconst 0, 53) := by decide +kernel
theorem fX10_change_53 : a_fetch 234 53 = some (.istore 3, 54) := by decide +kernel
theorem fX10_change_54 : a_fetch 234 54 = some (.iload 2, 55) := by decide +kernel
theorem fX10_change_55 : a_fetch 234 55 = some (.iload 3, 56) := by decide +kernel
theorem fX10_change_56 : a_fetch 234 56 = some (.ishr, 57) := by decide +kernel
theorem fX10_change_57 : a_fetch 234 57 = some (.iconst 1, 58) := by decide +kernel
theorem fX10_change_58 : a_fetch 234 58 = some (.iand, 59) := by decide +kernel
theorem fX10_change_59 : a_fetch 234 59 = some (.iconst 1, 60) := by decide +kernel
theorem fX10_change_60 : a_fetch 234 60 = some (.if_icmp .eq 111, 63) := by decide +kernel
theorem fX10_change_63 : a_fetch 234 63 = some (.aload 0, 64) := by decide +kernel
theorem fX10_change_64 : a_fetch 234 64 = some (.invokeinterface 10 67, 67) := by decide +kernel
theorem fX10_change_67 : a_fetch 234 67 = some (.iconst 10, 69) := by decide +kernel
theorem fX10_change_69 : a_fetch 234 69 = some (.iload 4, 71) := by decide +kernel
theorem fX10_change_71 : a_fetch 234 71 = some (.imul, 72) := by decide +kernel
theorem fX10_change_72 : a_fetch 234 72 = some (.iload 3, 73) := by decide +kernel
theorem fX10_change_73 : a_fetch 234 73 = some (.iadd, 74) := by decide +kernel
theorem fX10_change_74 : a_fetch 234 74 = some (.iaload, 75) := by decide +kernel
theorem fX10_change_75 : a_fetch 234 75 = some (.aload 0, 76) := by decide +kernel
theorem fX10_change_76 : a_fetch 234 76 = some (.invokeinterface 10 66, 79) := by decide +kernel
theorem fX10_change_79 : a_fetch 234 79 = some (.iconst 1024, 82) := by decide +kernel
theorem fX10_change_82 : a_fetch 234 82 = some (.iload 4, 84) := by decide +kernel
theorem fX10_change_84 : a_fetch 234 84 = some (.iconst 1, 85) := by decide +kernel
theorem fX10_change_85 : a_fetch 234 85 = some (.iadd, 86) := by decide +kernel
theorem fX10_change_86 : a_fetch 234 86 = some (.imul, 87) := by decide +kernel
theorem fX10_change_87 : a_fetch 234 87 = some (.iload 2, 88) := by decide +kernel
theorem fX10_change_88 : a_fetch 234 88 = some (.iconst 1, 89) := by decide +kernel
theorem fX10_change_89 : a_fetch 234 89 = some (.iload 3, 90) := by decide +kernel
theorem fX10_change_90 : a_fetch 234 90 = some (.ishl, 91) := by decide +kernel
theorem fX10_change_91 : a_fetch 234 91 = some (.ior, 92) := by decide +kernel
theorem fX10_change_92 : a_fetch 234 92 = some (.iadd, 93) := by decide +kernel
theorem fX10_change_93 : a_fetch 234 93 = some (.iaload, 94) := by decide +kernel
theorem fX10_change_94 : a_fetch 234 94 = some (.iadd, 95) := by decide +kernel
theorem fX10_change_95 : a_fetch 234 95 = some (.aload 0, 96) := by decide +kernel
theorem fX10_change_96 : a_fetch 234 96 = some (.invokeinterface 10 66, 99) := by decide +kernel
theorem fX10_change_99 : a_fetch 234 99 = some (.iconst 1024, 102) := by decide +kernel
theorem fX10_change_102 : a_fetch 234 102 = some (.iload 4, 104) := by decide +kernel
theorem fX10_change_104 : a_fetch 234 104 = some (.imul, 105) := by decide +kernel
theorem fX10_change_105 : a_fetch 234 105 = some (.iload 2, 106) := by decide +kernel
theorem fX10_change_106 : a_fetch 234 106 = some (.iadd, 107) := by decide +kernel
theorem fX10_change_107 : a_fetch 234 107 = some (.iaload, 108) := by decide +kernel
theorem fX10_change_108 : a_fetch 234 108 = some (.if_icmp .eq 117, 111) := by decide +kernel
theorem fX10_change_111 : a_fetch 234 111 = some (.iinc 3 1, 114) := by decide +kernel
theorem fX10_change_114 : a_fetch 234 114 = some (.goto 54, 117) := by decide +kernel
theorem fX10_change_117 : a_fetch 234 117 = some (.iload 2, 118) := by decide +kernel
theorem fX10_change_118 : a_fetch 234 118 = some (.iconst 1, 119) := by decide +kernel
theorem fX10_change_119 : a_fetch 234 119 = some (.iload 3, 120) := by decide +kernel
theorem fX10_change_120 : a_fetch 234 120 = some (.ishl, 121) := by decide +kernel
theorem fX10_change_121 : a_fetch 234 121 = some (.ior, 122) := by decide +kernel
theorem fX10_change_122 : a_fetch 234 122 = some (.istore 2, 123) := by decide +kernel
theorem fX10_change_123 : a_fetch 234 123 = some (.iinc 4 1, 126) := by decide +kernel
theorem fX10_change_126 : a_fetch 234 126 = some (.goto 46, 129) := by decide +kernel
theorem fX10_change_129 : a_fetch 234 129 = some (.iload 3, 130) := by decide +kernel
theorem fX10_change_130 : a_fetch 234 130 = some (.ireturn, 131) := by decide +kernel
theorem fX10_ring_0 : a_fetch 235 0 = some (.aload 0, 1) := by decide +kernel
theorem fX10_ring_1 : a_fetch 235 1 = some (.iload 1, 2) := by decide +kernel
theorem fX10_ring_2 : a_fetch 235 2 = some (.invokevirtual 191, 5) := by decide +kernel
theorem fX10_ring_5 : a_fetch 235 5 = some (.ifCond .ne 10, 8) := by decide +kernel
theorem fX10_ring_8 : a_fetch 235 8 = some (.iconst (-1), 9) := by decide +kernel
theorem fX10_ring_9 : a_fetch 235 9 = some (.ireturn, 10) := by decide +kernel
theorem fX10_ring_10 : a_fetch 235 10 = some (.iconst 1, 11) := by decide +kernel
theorem fX10_ring_11 : a_fetch 235 11 = some (.istore 2, 12) := by decide +kernel
theorem fX10_ring_12 : a_fetch 235 12 = some (.aload 0, 13) := by decide +kernel
theorem fX10_ring_13 : a_fetch 235 13 = some (.invokeinterface 10 40, 16) := by decide +kernel
theorem fX10_ring_16 : a_fetch 235 16 = some (.iconst 10, 18) := by decide +kernel
theorem fX10_ring_18 : a_fetch 235 18 = some (.iload 1, 19) := by decide +kernel
theorem fX10_ring_19 : a_fetch 235 19 = some (.iadd, 20) := by decide +kernel
theorem fX10_ring_20 : a_fetch 235 20 = some (.iaload, 21) := by decide +kernel
theorem fX10_ring_21 : a_fetch 235 21 = some (.istore 3, 22) := by decide +kernel
theorem fX10_ring_22 : a_fetch 235 22 = some (.iload 3, 23) := by decide +kernel
theorem fX10_ring_23 : a_fetch 235 23 = some (.iconst (-1), 24) := by decide +kernel
theorem fX10_ring_24 : a_fetch 235 24 = some (.if_icmp .eq 54, 27) := by decide +kernel
theorem fX10_ring_27 : a_fetch 235 27 = some (.iload 3, 28) := by decide +kernel
theorem fX10_ring_28 : a_fetch 235 28 = some (.iload 1, 29) := by decide +kernel
theorem fX10_ring_29 : a_fetch 235 29 = some (.if_icmp .eq 54, 32) := by decide +kernel
theorem fX10_ring_32 : a_fetch 235 32 = some (.iload 2, 33) := by decide +kernel
theorem fX10_ring_33 : a_fetch 235 33 = some (.iconst 10, 35) := by decide +kernel
theorem fX10_ring_35 : a_fetch 235 35 = some (.if_icmp .gt 54, 38) := by decide +kernel
theorem fX10_ring_38 : a_fetch 235 38 = some (.aload 0, 39) := by decide +kernel
theorem fX10_ring_39 : a_fetch 235 39 = some (.invokeinterface 10 40, 42) := by decide +kernel
theorem fX10_ring_42 : a_fetch 235 42 = some (.iconst 10, 44) := by decide +kernel
theorem fX10_ring_44 : a_fetch 235 44 = some (.iload 3, 45) := by decide +kernel
theorem fX10_ring_45 : a_fetch 235 45 = some (.iadd, 46) := by decide +kernel
theorem fX10_ring_46 : a_fetch 235 46 = some (.iaload, 47) := by decide +kernel
theorem fX10_ring_47 : a_fetch 235 47 = some (.istore 3, 48) := by decide +kernel
theorem fX10_ring_48 : a_fetch 235 48 = some (.iinc 2 1, 51) := by decide +kernel
theorem fX10_ring_51 : a_fetch 235 51 = some (.goto 22, 54) := by decide +kernel
theorem fX10_ring_54 : a_fetch 235 54 = some (.iload 3, 55) := by decide +kernel
theorem fX10_ring_55 : a_fetch 235 55 = some (.iload 1, 56) := by decide +kernel
theorem fX10_ring_56 : a_fetch 235 56 = some (.if_icmp .ne 63, 59) := by decide +kernel
theorem fX10_ring_59 : a_fetch 235 59 = some (.iload 2, 60) := by decide +kernel
theorem fX10_ring_60 : a_fetch 235 60 = some (.goto 64, 63) := by decide +kernel
theorem fX10_ring_63 : a_fetch 235 63 = some (.iconst 0, 64) := by decide +kernel
theorem fX10_ring_64 : a_fetch 235 64 = some (.ireturn, 65) := by decide +kernel
theorem fX10_odds_0 : a_fetch 236 0 = some (.aload 0, 1) := by decide +kernel
theorem fX10_odds_1 : a_fetch 236 1 = some (.iload 1, 2) := by decide +kernel
theorem fX10_odds_2 : a_fetch 236 2 = some (.invokevirtual 191, 5) := by decide +kernel
theorem fX10_odds_5 : a_fetch 236 5 = some (.ifCond .eq 33, 8) := by decide +kernel
theorem fX10_odds_8 : a_fetch 236 8 = some (.aload 0, 9) := by decide +kernel
theorem fX10_odds_9 : a_fetch 236 9 = some (.iload 2, 10) := by decide +kernel
theorem fX10_odds_10 : a_fetch 236 10 = some (.invokevirtual 191, 13) := by decide +kernel
theorem fX10_odds_13 : a_fetch 236 13 = some (.ifCond .eq 33, 16) := by decide +kernel
theorem fX10_odds_16 : a_fetch 236 16 = some (.iload 1, 17) := by decide +kernel
theorem fX10_odds_17 : a_fetch 236 17 = some (.iload 2, 18) := by decide +kernel
theorem fX10_odds_18 : a_fetch 236 18 = some (.if_icmp .eq 33, 21) := by decide +kernel
theorem fX10_odds_21 : a_fetch 236 21 = some (.iload 3, 22) := by decide +kernel
theorem fX10_odds_22 : a_fetch 236 22 = some (.i2l, 23) := by decide +kernel
theorem fX10_odds_23 : a_fetch 236 23 = some (.jsr_w 0, 24) := by decide +kernel
theorem fX10_odds_24 : a_fetch 236 24 = some (.jsr_w 4, 27) := by decide +kernel
theorem fX10_odds_27 : a_fetch 236 27 = some (.invokestatic 159, 30) := by decide +kernel
theorem fX10_odds_30 : a_fetch 236 30 = some (.ifCond .ne 35, 33) := by decide +kernel
theorem fX10_odds_33 : a_fetch 236 33 = some (.iconst (-1), 34) := by decide +kernel
theorem fX10_odds_34 : a_fetch 236 34 = some (.ireturn, 35) := by decide +kernel
theorem fX10_odds_35 : a_fetch 236 35 = some (.iconst 0, 36) := by decide +kernel
theorem fX10_odds_36 : a_fetch 236 36 = some (.istore 4, 38) := by decide +kernel
theorem fX10_odds_38 : a_fetch 236 38 = some (.aload 0, 39) := by decide +kernel
theorem fX10_odds_39 : a_fetch 236 39 = some (.invokevirtual 201, 42) := by decide +kernel
theorem fX10_odds_42 : a_fetch 236 42 = some (.iconst 0, 43) := by decide +kernel
theorem fX10_odds_43 : a_fetch 236 43 = some (.istore 5, 45) := by decide +kernel
theorem fX10_odds_45 : a_fetch 236 45 = some (.iload 5, 47) := by decide +kernel
theorem fX10_odds_47 : a_fetch 236 47 = some (.aload 0, 48) := by decide +kernel
theorem fX10_odds_48 : a_fetch 236 48 = some (.invokevirtual 189, 51) := by decide +kernel
theorem fX10_odds_51 : a_fetch 236 51 = some (.if_icmp .ge 104, 54) := by decide +kernel
theorem fX10_odds_54 : a_fetch 236 54 = some (.iconst 0, 55) := by decide +kernel
theorem fX10_odds_55 : a_fetch 236 55 = some (.istore 6, 57) := by decide +kernel
theorem fX10_odds_57 : a_fetch 236 57 = some (.iload 6, 59) := by decide +kernel
theorem fX10_odds_59 : a_fetch 236 59 = some (.aload 0, 60) := by decide +kernel
theorem fX10_odds_60 : a_fetch 236 60 = some (.invokevirtual 189, 63) := by decide +kernel
theorem fX10_odds_63 : a_fetch 236 63 = some (.if_icmp .ge 80, 66) := by decide +kernel
theorem fX10_odds_66 : a_fetch 236 66 = some (.aload 0, 67) := by decide +kernel
theorem fX10_odds_67 : a_fetch 236 67 = some (.iload 6, 69) := by decide +kernel
theorem fX10_odds_69 : a_fetch 236 69 = some (.iload 6, 71) := by decide +kernel
theorem fX10_odds_71 : a_fetch 236 71 = some (.invokevirtual 196, 74) := by decide +kernel
theorem fX10_odds_74 : a_fetch 236 74 = some (.iinc 6 1, 77) := by decide +kernel
theorem fX10_odds_77 : a_fetch 236 77 = some (.goto 57, 80) := by decide +kernel
theorem fX10_odds_80 : a_fetch 236 80 = some (.aload 0, 81) := by decide +kernel
theorem fX10_odds_81 : a_fetch 236 81 = some (.iload 5, 83) := by decide +kernel
theorem fX10_odds_83 : a_fetch 236 83 = some (.invokevirtual 215, 86) := by decide +kernel
theorem fX10_odds_86 : a_fetch 236 86 = some (.aload 0, 87) := by decide +kernel
theorem fX10_odds_87 : a_fetch 236 87 = some (.iload 1, 88) := by decide +kernel
theorem fX10_odds_88 : a_fetch 236 88 = some (.invokevirtual 195, 91) := by decide +kernel
theorem fX10_odds_91 : a_fetch 236 91 = some (.iload 2, 92) := by decide +kernel
theorem fX10_odds_92 : a_fetch 236 92 = some (.if_icmp .ne 98, 95) := by decide +kernel
theorem fX10_odds_95 : a_fetch 236 95 = some (.iinc 4 1, 98) := by decide +kernel
theorem fX10_odds_98 : a_fetch 236 98 = some (.iinc 5 1, 101) := by decide +kernel
theorem fX10_odds_101 : a_fetch 236 101 = some (.goto 45, 104) := by decide +kernel
theorem fX10_odds_104 : a_fetch 236 104 = some (.aload 0, 105) := by decide +kernel
theorem fX10_odds_105 : a_fetch 236 105 = some (.invokevirtual 202, 108) := by decide +kernel
theorem fX10_odds_108 : a_fetch 236 108 = some (.jsr_w 1, 109) := by decide +kernel
theorem fX10_odds_109 : a_fetch 236 109 = some (.lstore 5, 111) := by decide +kernel
theorem fX10_odds_111 : a_fetch 236 111 = some (.jsr_w 1, 112) := by decide +kernel
theorem fX10_odds_112 : a_fetch 236 112 = some (.lstore 7, 114) := by decide +kernel
theorem fX10_odds_114 : a_fetch 236 114 = some (.iconst 0, 115) := by decide +kernel
theorem fX10_odds_115 : a_fetch 236 115 = some (.istore 9, 117) := by decide +kernel
theorem fX10_odds_117 : a_fetch 236 117 = some (.iload 9, 119) := by decide +kernel
theorem fX10_odds_119 : a_fetch 236 119 = some (.iload 3, 120) := by decide +kernel
theorem fX10_odds_120 : a_fetch 236 120 = some (.if_icmp .ge 152, 123) := by decide +kernel
theorem fX10_odds_123 : a_fetch 236 123 = some (.lload 5, 125) := by decide +kernel
theorem fX10_odds_125 : a_fetch 236 125 = some (.aload 0, 126) := by decide +kernel
theorem fX10_odds_126 : a_fetch 236 126 = some (.invokevirtual 189, 129) := by decide +kernel
theorem fX10_odds_129 : a_fetch 236 129 = some (.i2l, 130) := by decide +kernel
theorem fX10_odds_130 : a_fetch 236 130 = some (.lmul, 131) := by decide +kernel
theorem fX10_odds_131 : a_fetch 236 131 = some (.lstore 5, 133) := by decide +kernel
theorem fX10_odds_133 : a_fetch 236 133 = some (.lload 7, 135) := by decide +kernel
theorem fX10_odds_135 : a_fetch 236 135 = some (.aload 0, 136) := by decide +kernel
theorem fX10_odds_136 : a_fetch 236 136 = some (.invokevirtual 189, 139) := by decide +kernel
theorem fX10_odds_139 : a_fetch 236 139 = some (.iload 4, 141) := by decide +kernel
theorem fX10_odds_141 : a_fetch 236 141 = some (.isub, 142) := by decide +kernel
theorem fX10_odds_142 : a_fetch 236 142 = some (.i2l, 143) := by decide +kernel
theorem fX10_odds_143 : a_fetch 236 143 = some (.lmul, 144) := by decide +kernel
theorem fX10_odds_144 : a_fetch 236 144 = some (.lstore 7, 146) := by decide +kernel
theorem fX10_odds_146 : a_fetch 236 146 = some (.iinc 9 1, 149) := by decide +kernel
theorem fX10_odds_149 : a_fetch 236 149 = some (.goto 117, 152) := by decide +kernel
theorem fX10_odds_152 : a_fetch 236 152 = some (.jsr_w 1000, 155) := by decide +kernel
theorem fX10_odds_155 : a_fetch 236 155 = some (.lload 5, 157) := by decide +kernel
theorem fX10_odds_157 : a_fetch 236 157 = some (.lload 7, 159) := by decide +kernel
theorem fX10_odds_159 : a_fetch 236 159 = some (.lsub, 160) := by decide +kernel
theorem fX10_odds_160 : a_fetch 236 160 = some (.lmul, 161) := by decide +kernel
theorem fX10_odds_161 : a_fetch 236 161 = some (.lload 5, 163) := by decide +kernel
theorem fX10_odds_163 : a_fetch 236 163 = some (.ldiv, 164) := by decide +kernel
theorem fX10_odds_164 : a_fetch 236 164 = some (.l2i, 165) := by decide +kernel
theorem fX10_odds_165 : a_fetch 236 165 = some (.ireturn, 166) := by decide +kernel
theorem fX10_keeps_0 : a_fetch 237 0 = some (.aload 0, 1) := by decide +kernel
theorem fX10_keeps_1 : a_fetch 237 1 = some (.aload 0, 2) := by decide +kernel
theorem fX10_keeps_2 : a_fetch 237 2 = some (.invokeinterface 10 70, 5) := by decide +kernel
theorem fX10_keeps_5 : a_fetch 237 5 = some (.iconst 1, 6) := by decide +kernel
theorem fX10_keeps_6 : a_fetch 237 6 = some (.iadd, 7) := by decide +kernel
theorem fX10_keeps_7 : a_fetch 237 7 = some (.iconst 20, 9) := by decide +kernel
theorem fX10_keeps_9 : a_fetch 237 9 = some (.irem, 10) := by decide +kernel
theorem fX10_keeps_10 : a_fetch 237 10 = some (.multianewarray 10 70, 13) := by decide +kernel
theorem fX10_keeps_13 : a_fetch 237 13 = some (.iconst 0, 14) := by decide +kernel
theorem fX10_keeps_14 : a_fetch 237 14 = some (.istore 1, 15) := by decide +kernel
theorem fX10_keeps_15 : a_fetch 237 15 = some (.iload 1, 16) := by decide +kernel
theorem fX10_keeps_16 : a_fetch 237 16 = some (.iconst 282, 19) := by decide +kernel
theorem fX10_keeps_19 : a_fetch 237 19 = some (.if_icmp .ge 49, 22) := by decide +kernel
theorem fX10_keeps_22 : a_fetch 237 22 = some (.aload 0, 23) := by decide +kernel
theorem fX10_keeps_23 : a_fetch 237 23 = some (.invokeinterface 10 68, 26) := by decide +kernel
theorem fX10_keeps_26 : a_fetch 237 26 = some (.iconst 282, 29) := by decide +kernel
theorem fX10_keeps_29 : a_fetch 237 29 = some (.aload 0, 30) := by decide +kernel
theorem fX10_keeps_30 : a_fetch 237 30 = some (.invokeinterface 10 70, 33) := by decide +kernel
theorem fX10_keeps_33 : a_fetch 237 33 = some (.imul, 34) := by decide +kernel
theorem fX10_keeps_34 : a_fetch 237 34 = some (.iload 1, 35) := by decide +kernel
theorem fX10_keeps_35 : a_fetch 237 35 = some (.iadd, 36) := by decide +kernel
theorem fX10_keeps_36 : a_fetch 237 36 = some (.aload 0, 37) := by decide +kernel
theorem fX10_keeps_37 : a_fetch 237 37 = some (.invokeinterface 10 49, 40) := by decide +kernel
theorem fX10_keeps_40 : a_fetch 237 40 = some (.iload 1, 41) := by decide +kernel
theorem fX10_keeps_41 : a_fetch 237 41 = some (.iaload, 42) := by decide +kernel
theorem fX10_keeps_42 : a_fetch 237 42 = some (.iastore, 43) := by decide +kernel
theorem fX10_keeps_43 : a_fetch 237 43 = some (.iinc 1 1, 46) := by decide +kernel
theorem fX10_keeps_46 : a_fetch 237 46 = some (.goto 15, 49) := by decide +kernel
theorem fX10_keeps_49 : a_fetch 237 49 = some (.aload 0, 50) := by decide +kernel
theorem fX10_keeps_50 : a_fetch 237 50 = some (.invokeinterface 10 69, 53) := by decide +kernel
theorem fX10_keeps_53 : a_fetch 237 53 = some (.iconst 20, 55) := by decide +kernel
theorem fX10_keeps_55 : a_fetch 237 55 = some (.if_icmp .ge 68, 58) := by decide +kernel
theorem fX10_keeps_58 : a_fetch 237 58 = some (.aload 0, 59) := by decide +kernel
theorem fX10_keeps_59 : a_fetch 237 59 = some (.dup, 60) := by decide +kernel
theorem fX10_keeps_60 : a_fetch 237 60 = some (.invokeinterface 10 69, 63) := by decide +kernel
theorem fX10_keeps_63 : a_fetch 237 63 = some (.iconst 1, 64) := by decide +kernel
theorem fX10_keeps_64 : a_fetch 237 64 = some (.iadd, 65) := by decide +kernel
theorem fX10_keeps_65 : a_fetch 237 65 = some (.multianewarray 10 69, 68) := by decide +kernel
theorem fX10_keeps_68 : a_fetch 237 68 = some (.return_, 69) := by decide +kernel
theorem fX10_undo_0 : a_fetch 238 0 = some (.aload 0, 1) := by decide +kernel
theorem fX10_undo_1 : a_fetch 238 1 = some (.invokeinterface 10 69, 4) := by decide +kernel
theorem fX10_undo_4 : a_fetch 238 4 = some (.ifCond .ne 19, 7) := by decide +kernel
theorem fX10_undo_7 : a_fetch 238 7 = some (.aload 0, 8) := by decide +kernel
theorem fX10_undo_8 : a_fetch 238 8 = some (.invokeinterface 10 9, 11) := by decide +kernel
theorem fX10_undo_11 : a_fetch 238 11 = some (.iconst 4, 12) := by decide +kernel
theorem fX10_undo_12 : a_fetch 238 12 = some (.dup2, 13) := by decide +kernel
theorem fX10_undo_13 : a_fetch 238 13 = some (.iaload, 14) := by decide +kernel
theorem fX10_undo_14 : a_fetch 238 14 = some (.iconst 1, 15) := by decide +kernel
theorem fX10_undo_15 : a_fetch 238 15 = some (.iadd, 16) := by decide +kernel
theorem fX10_undo_16 : a_fetch 238 16 = some (.iastore, 17) := by decide +kernel
theorem fX10_undo_17 : a_fetch 238 17 = some (.iconst 0, 18) := by decide +kernel
theorem fX10_undo_18 : a_fetch 238 18 = some (.ireturn, 19) := by decide +kernel
theorem fX10_undo_19 : a_fetch 238 19 = some (.iconst 0, 20) := by decide +kernel
theorem fX10_undo_20 : a_fetch 238 20 = some (.istore 1, 21) := by decide +kernel
theorem fX10_undo_21 : a_fetch 238 21 = some (.iload 1, 22) := by decide +kernel
theorem fX10_undo_22 : a_fetch 238 22 = some (.iconst 282, 25) := by decide +kernel
theorem fX10_undo_25 : a_fetch 238 25 = some (.if_icmp .ge 55, 28) := by decide +kernel
theorem fX10_undo_28 : a_fetch 238 28 = some (.aload 0, 29) := by decide +kernel
theorem fX10_undo_29 : a_fetch 238 29 = some (.invokeinterface 10 49, 32) := by decide +kernel
theorem fX10_undo_32 : a_fetch 238 32 = some (.iload 1, 33) := by decide +kernel
theorem fX10_undo_33 : a_fetch 238 33 = some (.aload 0, 34) := by decide +kernel
theorem fX10_undo_34 : a_fetch 238 34 = some (.invokeinterface 10 68, 37) := by decide +kernel
theorem fX10_undo_37 : a_fetch 238 37 = some (.iconst 282, 40) := by decide +kernel
theorem fX10_undo_40 : a_fetch 238 40 = some (.aload 0, 41) := by decide +kernel
theorem fX10_undo_41 : a_fetch 238 41 = some (.invokeinterface 10 70, 44) := by decide +kernel
theorem fX10_undo_44 : a_fetch 238 44 = some (.imul, 45) := by decide +kernel
theorem fX10_undo_45 : a_fetch 238 45 = some (.iload 1, 46) := by decide +kernel
theorem fX10_undo_46 : a_fetch 238 46 = some (.iadd, 47) := by decide +kernel
theorem fX10_undo_47 : a_fetch 238 47 = some (.iaload, 48) := by decide +kernel
theorem fX10_undo_48 : a_fetch 238 48 = some (.iastore, 49) := by decide +kernel
theorem fX10_undo_49 : a_fetch 238 49 = some (.iinc 1 1, 52) := by decide +kernel
theorem fX10_undo_52 : a_fetch 238 52 = some (.goto 21, 55) := by decide +kernel
theorem fX10_undo_55 : a_fetch 238 55 = some (.aload 0, 56) := by decide +kernel
theorem fX10_undo_56 : a_fetch 238 56 = some (.aload 0, 57) := by decide +kernel
theorem fX10_undo_57 : a_fetch 238 57 = some (.invokeinterface 10 70, 60) := by decide +kernel
theorem fX10_undo_60 : a_fetch 238 60 = some (.iconst 20, 62) := by decide +kernel
theorem fX10_undo_62 : a_fetch 238 62 = some (.iadd, 63) := by decide +kernel
theorem fX10_undo_63 : a_fetch 238 63 = some (.iconst 1, 64) := by decide +kernel
theorem fX10_undo_64 : a_fetch 238 64 = some (.isub, 65) := by decide +kernel
theorem fX10_undo_65 : a_fetch 238 65 = some (.iconst 20, 67) := by decide +kernel
theorem fX10_undo_67 : a_fetch 238 67 = some (.irem, 68) := by decide +kernel
theorem fX10_undo_68 : a_fetch 238 68 = some (.multianewarray 10 70, 71) := by decide +kernel
theorem fX10_undo_71 : a_fetch 238 71 = some (.aload 0, 72) := by decide +kernel
theorem fX10_undo_72 : a_fetch 238 72 = some (.dup, 73) := by decide +kernel
theorem fX10_undo_73 : a_fetch 238 73 = some (.invokeinterface 10 69, 76) := by decide +kernel
theorem fX10_undo_76 : a_fetch 238 76 = some (.iconst 1, 77) := by decide +kernel
theorem fX10_undo_77 : a_fetch 238 77 = some (.isub, 78) := by decide +kernel
theorem fX10_undo_78 : a_fetch 238 78 = some (.multianewarray 10 69, 81) := by decide +kernel
theorem fX10_undo_81 : a_fetch 238 81 = some (.iconst 1, 82) := by decide +kernel
theorem fX10_undo_82 : a_fetch 238 82 = some (.ireturn, 83) := by decide +kernel
theorem fX10_refuses_0 : a_fetch 239 0 = some (.aload 0, 1) := by decide +kernel
theorem fX10_refuses_1 : a_fetch 239 1 = some (.invokeinterface 10 9, 4) := by decide +kernel
theorem fX10_refuses_4 : a_fetch 239 4 = some (.iload 1, 5) := by decide +kernel
theorem fX10_refuses_5 : a_fetch 239 5 = some (.dup2, 6) := by decide +kernel
theorem fX10_refuses_6 : a_fetch 239 6 = some (.iaload, 7) := by decide +kernel
theorem fX10_refuses_7 : a_fetch 239 7 = some (.iconst 1, 8) := by decide +kernel
theorem fX10_refuses_8 : a_fetch 239 8 = some (.iadd, 9) := by decide +kernel
theorem fX10_refuses_9 : a_fetch 239 9 = some (.iastore, 10) := by decide +kernel
theorem fX10_refuses_10 : a_fetch 239 10 = some (.iconst (-1), 11) := by decide +kernel
theorem fX10_refuses_11 : a_fetch 239 11 = some (.ireturn, 12) := by decide +kernel
theorem fX10_go_0 : a_fetch 240 0 = some (.iload 1, 1) := by decide +kernel
theorem fX10_go_1 : a_fetch 240 1 = some (.i2l, 2) := by decide +kernel
theorem fX10_go_2 : a_fetch 240 2 = some (.jsr_w 1, 3) := by decide +kernel
theorem fX10_go_3 : a_fetch 240 3 = some (.jsr_w 500, 6) := by decide +kernel
theorem fX10_go_6 : a_fetch 240 6 = some (.invokestatic 159, 9) := by decide +kernel
theorem fX10_go_9 : a_fetch 240 9 = some (.ifCond .eq 26, 12) := by decide +kernel
theorem fX10_go_12 : a_fetch 240 12 = some (.aload 0, 13) := by decide +kernel
theorem fX10_go_13 : a_fetch 240 13 = some (.invokeinterface 10 49, 16) := by decide +kernel
theorem fX10_go_16 : a_fetch 240 16 = some (.iconst 0, 17) := by decide +kernel
theorem fX10_go_17 : a_fetch 240 17 = some (.iaload, 18) := by decide +kernel
theorem fX10_go_18 : a_fetch 240 18 = some (.iload 1, 19) := by decide +kernel
theorem fX10_go_19 : a_fetch 240 19 = some (.iadd, 20) := by decide +kernel
theorem fX10_go_20 : a_fetch 240 20 = some (.iconst 9999, 23) := by decide +kernel
theorem fX10_go_23 : a_fetch 240 23 = some (.if_icmp .le 32, 26) := by decide +kernel
theorem fX10_go_26 : a_fetch 240 26 = some (.aload 0, 27) := by decide +kernel
theorem fX10_go_27 : a_fetch 240 27 = some (.iconst 2, 28) := by decide +kernel
theorem fX10_go_28 : a_fetch 240 28 = some (.invokevirtual 239, 31) := by decide +kernel
theorem fX10_go_31 : a_fetch 240 31 = some (.ireturn, 32) := by decide +kernel
theorem fX10_go_32 : a_fetch 240 32 = some (.aload 0, 33) := by decide +kernel
theorem fX10_go_33 : a_fetch 240 33 = some (.invokevirtual 237, 36) := by decide +kernel
theorem fX10_go_36 : a_fetch 240 36 = some (.aload 0, 37) := by decide +kernel
theorem fX10_go_37 : a_fetch 240 37 = some (.iload 1, 38) := by decide +kernel
theorem fX10_go_38 : a_fetch 240 38 = some (.invokevirtual 214, 41) := by decide +kernel
theorem fX10_go_41 : a_fetch 240 41 = some (.aload 0, 42) := by decide +kernel
theorem fX10_go_42 : a_fetch 240 42 = some (.invokeinterface 10 49, 45) := by decide +kernel
theorem fX10_go_45 : a_fetch 240 45 = some (.iconst 0, 46) := by decide +kernel
theorem fX10_go_46 : a_fetch 240 46 = some (.iaload, 47) := by decide +kernel
theorem fX10_go_47 : a_fetch 240 47 = some (.ireturn, 48) := by decide +kernel
theorem fX10_call_0 : a_fetch 241 0 = some (.aload 0, 1) := by decide +kernel
theorem fX10_call_1 : a_fetch 241 1 = some (.iload 1, 2) := by decide +kernel
theorem fX10_call_2 : a_fetch 241 2 = some (.invokevirtual 225, 5) := by decide +kernel
theorem fX10_call_5 : a_fetch 241 5 = some (.ifCond .ne 14, 8) := by decide +kernel
theorem fX10_call_8 : a_fetch 241 8 = some (.aload 0, 9) := by decide +kernel
theorem fX10_call_9 : a_fetch 241 9 = some (.iconst 2, 10) := by decide +kernel
theorem fX10_call_10 : a_fetch 241 10 = some (.invokevirtual 239, 13) := by decide +kernel
theorem fX10_call_13 : a_fetch 241 13 = some (.ireturn, 14) := by decide +kernel
theorem fX10_call_14 : a_fetch 241 14 = some (.aload 0, 15) := by decide +kernel
theorem fX10_call_15 : a_fetch 241 15 = some (.invokevirtual 237, 18) := by decide +kernel
theorem fX10_call_18 : a_fetch 241 18 = some (.aload 0, 19) := by decide +kernel
theorem fX10_call_19 : a_fetch 241 19 = some (.iload 1, 20) := by decide +kernel
theorem fX10_call_20 : a_fetch 241 20 = some (.invokevirtual 215, 23) := by decide +kernel
theorem fX10_call_23 : a_fetch 241 23 = some (.aload 0, 24) := by decide +kernel
theorem fX10_call_24 : a_fetch 241 24 = some (.invokeinterface 10 64, 27) := by decide +kernel
theorem fX10_call_27 : a_fetch 241 27 = some (.ireturn, 28) := by decide +kernel
theorem fX10_watch_0 : a_fetch 242 0 = some (.aload 0, 1) := by decide +kernel
theorem fX10_watch_1 : a_fetch 242 1 = some (.iload 1, 2) := by decide +kernel
theorem fX10_watch_2 : a_fetch 242 2 = some (.invokevirtual 191, 5) := by decide +kernel
theorem fX10_watch_5 : a_fetch 242 5 = some (.ifCond .eq 35, 8) := by decide +kernel
theorem fX10_watch_8 : a_fetch 242 8 = some (.iload 2, 9) := by decide +kernel
theorem fX10_watch_9 : a_fetch 242 9 = some (.iconst (-1), 10) := by decide +kernel
theorem fX10_watch_10 : a_fetch 242 10 = some (.if_icmp .eq 21, 13) := by decide +kernel
theorem fX10_watch_13 : a_fetch 242 13 = some (.aload 0, 14) := by decide +kernel
theorem fX10_watch_14 : a_fetch 242 14 = some (.iload 2, 15) := by decide +kernel
theorem fX10_watch_15 : a_fetch 242 15 = some (.invokevirtual 191, 18) := by decide +kernel
theorem fX10_watch_18 : a_fetch 242 18 = some (.ifCond .eq 35, 21) := by decide +kernel
theorem fX10_watch_21 : a_fetch 242 21 = some (.iload 1, 22) := by decide +kernel
theorem fX10_watch_22 : a_fetch 242 22 = some (.iload 2, 23) := by decide +kernel
theorem fX10_watch_23 : a_fetch 242 23 = some (.if_icmp .eq 35, 26) := by decide +kernel
theorem fX10_watch_26 : a_fetch 242 26 = some (.aload 0, 27) := by decide +kernel
theorem fX10_watch_27 : a_fetch 242 27 = some (.iload 1, 28) := by decide +kernel
theorem fX10_watch_28 : a_fetch 242 28 = some (.invokevirtual 197, 31) := by decide +kernel
theorem fX10_watch_31 : a_fetch 242 31 = some (.iload 2, 32) := by decide +kernel
theorem fX10_watch_32 : a_fetch 242 32 = some (.if_icmp .ne 47, 35) := by decide +kernel
theorem fX10_watch_35 : a_fetch 242 35 = some (.aload 0, 36) := by decide +kernel
theorem fX10_watch_36 : a_fetch 242 36 = some (.invokeinterface 10 9, 39) := by decide +kernel
theorem fX10_watch_39 : a_fetch 242 39 = some (.iconst 3, 40) := by decide +kernel
theorem fX10_watch_40 : a_fetch 242 40 = some (.dup2, 41) := by decide +kernel
theorem fX10_watch_41 : a_fetch 242 41 = some (.iaload, 42) := by decide +kernel
theorem fX10_watch_42 : a_fetch 242 42 = some (.iconst 1, 43) := by decide +kernel
theorem fX10_watch_43 : a_fetch 242 43 = some (.iadd, 44) := by decide +kernel
theorem fX10_watch_44 : a_fetch 242 44 = some (.iastore, 45) := by decide +kernel
theorem fX10_watch_45 : a_fetch 242 45 = some (.iconst 0, 46) := by decide +kernel
theorem fX10_watch_46 : a_fetch 242 46 = some (.ireturn, 47) := by decide +kernel
theorem fX10_watch_47 : a_fetch 242 47 = some (.aload 0, 48) := by decide +kernel
theorem fX10_watch_48 : a_fetch 242 48 = some (.invokevirtual 237, 51) := by decide +kernel
theorem fX10_watch_51 : a_fetch 242 51 = some (.aload 0, 52) := by decide +kernel
theorem fX10_watch_52 : a_fetch 242 52 = some (.invokeinterface 10 49, 55) := by decide +kernel
theorem fX10_watch_55 : a_fetch 242 55 = some (.iconst 2, 56) := by decide +kernel
theorem fX10_watch_56 : a_fetch 242 56 = some (.iconst 12, 58) := by decide +kernel
theorem fX10_watch_58 : a_fetch 242 58 = some (.iload 1, 59) := by decide +kernel
theorem fX10_watch_59 : a_fetch 242 59 = some (.imul, 60) := by decide +kernel
theorem fX10_watch_60 : a_fetch 242 60 = some (.iadd, 61) := by decide +kernel
theorem fX10_watch_61 : a_fetch 242 61 = some (.iload 2, 62) := by decide +kernel
theorem fX10_watch_62 : a_fetch 242 62 = some (.iastore, 63) := by decide +kernel
theorem fX10_watch_63 : a_fetch 242 63 = some (.iconst 1, 64) := by decide +kernel
theorem fX10_watch_64 : a_fetch 242 64 = some (.ireturn, 65) := by decide +kernel
theorem fX10_teach_0 : a_fetch 243 0 = some (.aload 0, 1) := by decide +kernel
theorem fX10_teach_1 : a_fetch 243 1 = some (.iload 1, 2) := by decide +kernel
theorem fX10_teach_2 : a_fetch 243 2 = some (.invokevirtual 191, 5) := by decide +kernel
theorem fX10_teach_5 : a_fetch 243 5 = some (.ifCond .eq 33, 8) := by decide +kernel
theorem fX10_teach_8 : a_fetch 243 8 = some (.aload 0, 9) := by decide +kernel
theorem fX10_teach_9 : a_fetch 243 9 = some (.iload 2, 10) := by decide +kernel
theorem fX10_teach_10 : a_fetch 243 10 = some (.invokevirtual 191, 13) := by decide +kernel
theorem fX10_teach_13 : a_fetch 243 13 = some (.ifCond .eq 33, 16) := by decide +kernel
theorem fX10_teach_16 : a_fetch 243 16 = some (.iload 1, 17) := by decide +kernel
theorem fX10_teach_17 : a_fetch 243 17 = some (.iload 2, 18) := by decide +kernel
theorem fX10_teach_18 : a_fetch 243 18 = some (.if_icmp .eq 33, 21) := by decide +kernel
theorem fX10_teach_21 : a_fetch 243 21 = some (.iload 3, 22) := by decide +kernel
theorem fX10_teach_22 : a_fetch 243 22 = some (.i2l, 23) := by decide +kernel
theorem fX10_teach_23 : a_fetch 243 23 = some (.jsr_w 0, 24) := by decide +kernel
theorem fX10_teach_24 : a_fetch 243 24 = some (.jsr_w 99, 27) := by decide +kernel
theorem fX10_teach_27 : a_fetch 243 27 = some (.invokestatic 159, 30) := by decide +kernel
theorem fX10_teach_30 : a_fetch 243 30 = some (.ifCond .ne 39, 33) := by decide +kernel
theorem fX10_teach_33 : a_fetch 243 33 = some (.aload 0, 34) := by decide +kernel
theorem fX10_teach_34 : a_fetch 243 34 = some (.iconst 3, 35) := by decide +kernel
theorem fX10_teach_35 : a_fetch 243 35 = some (.invokevirtual 239, 38) := by decide +kernel
theorem fX10_teach_38 : a_fetch 243 38 = some (.ireturn, 39) := by decide +kernel
theorem fX10_teach_39 : a_fetch 243 39 = some (.aload 0, 40) := by decide +kernel
theorem fX10_teach_40 : a_fetch 243 40 = some (.invokevirtual 237, 43) := by decide +kernel
theorem fX10_teach_43 : a_fetch 243 43 = some (.aload 0, 44) := by decide +kernel
theorem fX10_teach_44 : a_fetch 243 44 = some (.iload 1, 45) := by decide +kernel
theorem fX10_teach_45 : a_fetch 243 45 = some (.iload 2, 46) := by decide +kernel
theorem fX10_teach_46 : a_fetch 243 46 = some (.invokevirtual 198, 49) := by decide +kernel
theorem fX10_teach_49 : a_fetch 243 49 = some (.istore 4, 51) := by decide +kernel
theorem fX10_teach_51 : a_fetch 243 51 = some (.aload 0, 52) := by decide +kernel
theorem fX10_teach_52 : a_fetch 243 52 = some (.iload 1, 53) := by decide +kernel
theorem fX10_teach_53 : a_fetch 243 53 = some (.iload 2, 54) := by decide +kernel
theorem fX10_teach_54 : a_fetch 243 54 = some (.iload 3, 55) := by decide +kernel
theorem fX10_teach_55 : a_fetch 243 55 = some (.invokevirtual 199, 58) := by decide +kernel
theorem fX10_teach_58 : a_fetch 243 58 = some (.iload 4, 60) := by decide +kernel
theorem fX10_teach_60 : a_fetch 243 60 = some (.ireturn, 61) := by decide +kernel
theorem fX10_seed_0 : a_fetch 244 0 = some (.iload 1, 1) := by decide +kernel
theorem fX10_seed_1 : a_fetch 244 1 = some (.ifCond .ge 16, 4) := by decide +kernel
theorem fX10_seed_4 : a_fetch 244 4 = some (.aload 0, 5) := by decide +kernel
theorem fX10_seed_5 : a_fetch 244 5 = some (.invokeinterface 10 9, 8) := by decide +kernel
theorem fX10_seed_8 : a_fetch 244 8 = some (.iconst 5, 9) := by decide +kernel
theorem fX10_seed_9 : a_fetch 244 9 = some (.dup2, 10) := by decide +kernel
theorem fX10_seed_10 : a_fetch 244 10 = some (.iaload, 11) := by decide +kernel
theorem fX10_seed_11 : a_fetch 244 11 = some (.iconst 1, 12) := by decide +kernel
theorem fX10_seed_12 : a_fetch 244 12 = some (.iadd, 13) := by decide +kernel
theorem fX10_seed_13 : a_fetch 244 13 = some (.iastore, 14) := by decide +kernel
theorem fX10_seed_14 : a_fetch 244 14 = some (.iconst 0, 15) := by decide +kernel
theorem fX10_seed_15 : a_fetch 244 15 = some (.ireturn, 16) := by decide +kernel
theorem fX10_seed_16 : a_fetch 244 16 = some (.aload 0, 17) := by decide +kernel
theorem fX10_seed_17 : a_fetch 244 17 = some (.iload 1, 18) := by decide +kernel
theorem fX10_seed_18 : a_fetch 244 18 = some (.i2l, 19) := by decide +kernel
theorem fX10_seed_19 : a_fetch 244 19 = some (.multianewarray 10 71, 22) := by decide +kernel
theorem fX10_seed_22 : a_fetch 244 22 = some (.iconst 1, 23) := by decide +kernel
theorem fX10_seed_23 : a_fetch 244 23 = some (.ireturn, 24) := by decide +kernel
theorem fX10_drawOf_0 : a_fetch 245 0 = some (.aload 0, 1) := by decide +kernel
theorem fX10_drawOf_1 : a_fetch 245 1 = some (.jsr_w 1103515245, 4) := by decide +kernel
theorem fX10_drawOf_4 : a_fetch 245 4 = some (.aload 0, 5) := by decide +kernel
theorem fX10_drawOf_5 : a_fetch 245 5 = some (.invokeinterface 10 71, 8) := by decide +kernel
theorem fX10_drawOf_8 : a_fetch 245 8 = some (.lmul, 9) := by decide +kernel
theorem fX10_drawOf_9 : a_fetch 245 9 = some (.jsr_w 12345, 12) := by decide +kernel
theorem fX10_drawOf_12 : a_fetch 245 12 = some (.ladd, 13) := by decide +kernel
theorem fX10_drawOf_13 : a_fetch 245 13 = some (.jsr_w 2147483648, 16) := by decide +kernel
theorem fX10_drawOf_16 : a_fetch 245 16 = some (.lrem, 17) := by decide +kernel
theorem fX10_drawOf_17 : a_fetch 245 17 = some (.multianewarray 10 71, 20) := by decide +kernel
theorem fX10_drawOf_20 : a_fetch 245 20 = some (.aload 0, 21) := by decide +kernel
theorem fX10_drawOf_21 : a_fetch 245 21 = some (.invokeinterface 10 71, 24) := by decide +kernel
theorem fX10_drawOf_24 : a_fetch 245 24 = some (.jsr_w 64, 27) := by decide +kernel
theorem fX10_drawOf_27 : a_fetch 245 27 = some (.ldiv, 28) := by decide +kernel
theorem fX10_drawOf_28 : a_fetch 245 28 = some (.iload 1, 29) := by decide +kernel
theorem fX10_drawOf_29 : a_fetch 245 29 = some (.i2l, 30) := by decide +kernel
theorem fX10_drawOf_30 : a_fetch 245 30 = some (.lrem, 31) := by decide +kernel
theorem fX10_drawOf_31 : a_fetch 245 31 = some (.l2i, 32) := by decide +kernel
theorem fX10_drawOf_32 : a_fetch 245 32 = some (.ireturn, 33) := by decide +kernel
theorem fX10_bellRings_0 : a_fetch 246 0 = some (.aload 0, 1) := by decide +kernel
theorem fX10_bellRings_1 : a_fetch 246 1 = some (.invokevirtual 189, 4) := by decide +kernel
theorem fX10_bellRings_4 : a_fetch 246 4 = some (.ifCond .ne 8, 7) := by decide +kernel
theorem fX10_bellRings_7 : a_fetch 246 7 = some (.return_, 8) := by decide +kernel
theorem fX10_bellRings_8 : a_fetch 246 8 = some (.aload 0, 9) := by decide +kernel
theorem fX10_bellRings_9 : a_fetch 246 9 = some (.aload 0, 10) := by decide +kernel
theorem fX10_bellRings_10 : a_fetch 246 10 = some (.invokevirtual 189, 13) := by decide +kernel
theorem fX10_bellRings_13 : a_fetch 246 13 = some (.invokevirtual 245, 16) := by decide +kernel
theorem fX10_bellRings_16 : a_fetch 246 16 = some (.istore 1, 17) := by decide +kernel
theorem fX10_bellRings_17 : a_fetch 246 17 = some (.aload 0, 18) := by decide +kernel
theorem fX10_bellRings_18 : a_fetch 246 18 = some (.iload 1, 19) := by decide +kernel
theorem fX10_bellRings_19 : a_fetch 246 19 = some (.invokevirtual 195, 22) := by decide +kernel
theorem fX10_bellRings_22 : a_fetch 246 22 = some (.iconst (-1), 23) := by decide +kernel
theorem fX10_bellRings_23 : a_fetch 246 23 = some (.if_icmp .eq 31, 26) := by decide +kernel
theorem fX10_bellRings_26 : a_fetch 246 26 = some (.aload 0, 27) := by decide +kernel
theorem fX10_bellRings_27 : a_fetch 246 27 = some (.iload 1, 28) := by decide +kernel
theorem fX10_bellRings_28 : a_fetch 246 28 = some (.invokevirtual 215, 31) := by decide +kernel
theorem fX10_bellRings_31 : a_fetch 246 31 = some (.return_, 32) := by decide +kernel
theorem fX10_tillNoon_0 : a_fetch 247 0 = some (.iconst 12, 2) := by decide +kernel
theorem fX10_tillNoon_2 : a_fetch 247 2 = some (.aload 0, 3) := by decide +kernel
theorem fX10_tillNoon_3 : a_fetch 247 3 = some (.invokeinterface 10 49, 6) := by decide +kernel
theorem fX10_tillNoon_6 : a_fetch 247 6 = some (.iconst 0, 7) := by decide +kernel
theorem fX10_tillNoon_7 : a_fetch 247 7 = some (.iaload, 8) := by decide +kernel
theorem fX10_tillNoon_8 : a_fetch 247 8 = some (.iconst 24, 10) := by decide +kernel
theorem fX10_tillNoon_10 : a_fetch 247 10 = some (.irem, 11) := by decide +kernel
theorem fX10_tillNoon_11 : a_fetch 247 11 = some (.isub, 12) := by decide +kernel
theorem fX10_tillNoon_12 : a_fetch 247 12 = some (.iconst 23, 14) := by decide +kernel
theorem fX10_tillNoon_14 : a_fetch 247 14 = some (.iadd, 15) := by decide +kernel
theorem fX10_tillNoon_15 : a_fetch 247 15 = some (.iconst 24, 17) := by decide +kernel
theorem fX10_tillNoon_17 : a_fetch 247 17 = some (.irem, 18) := by decide +kernel
theorem fX10_tillNoon_18 : a_fetch 247 18 = some (.iconst 1, 19) := by decide +kernel
theorem fX10_tillNoon_19 : a_fetch 247 19 = some (.iadd, 20) := by decide +kernel
theorem fX10_tillNoon_20 : a_fetch 247 20 = some (.ireturn, 21) := by decide +kernel
theorem fX10_bells_0 : a_fetch 248 0 = some (.iload 1, 1) := by decide +kernel
theorem fX10_bells_1 : a_fetch 248 1 = some (.i2l, 2) := by decide +kernel
theorem fX10_bells_2 : a_fetch 248 2 = some (.jsr_w 1, 3) := by decide +kernel
theorem fX10_bells_3 : a_fetch 248 3 = some (.jsr_w 20, 6) := by decide +kernel
theorem fX10_bells_6 : a_fetch 248 6 = some (.invokestatic 159, 9) := by decide +kernel
theorem fX10_bells_9 : a_fetch 248 9 = some (.ifCond .eq 37, 12) := by decide +kernel
theorem fX10_bells_12 : a_fetch 248 12 = some (.aload 0, 13) := by decide +kernel
theorem fX10_bells_13 : a_fetch 248 13 = some (.invokeinterface 10 49, 16) := by decide +kernel
theorem fX10_bells_16 : a_fetch 248 16 = some (.iconst 0, 17) := by decide +kernel
theorem fX10_bells_17 : a_fetch 248 17 = some (.iaload, 18) := by decide +kernel
theorem fX10_bells_18 : a_fetch 248 18 = some (.aload 0, 19) := by decide +kernel
theorem fX10_bells_19 : a_fetch 248 19 = some (.invokevirtual 247, 22) := by decide +kernel
theorem fX10_bells_22 : a_fetch 248 22 = some (.iadd, 23) := by decide +kernel
theorem fX10_bells_23 : a_fetch 248 23 = some (.iconst 24, 25) := by decide +kernel
theorem fX10_bells_25 : a_fetch 248 25 = some (.iload 1, 26) := by decide +kernel
theorem fX10_bells_26 : a_fetch 248 26 = some (.imul, 27) := by decide +kernel
theorem fX10_bells_27 : a_fetch 248 27 = some (.iadd, 28) := by decide +kernel
theorem fX10_bells_28 : a_fetch 248 28 = some (.iconst 12, 30) := by decide +kernel
theorem fX10_bells_30 : a_fetch 248 30 = some (.isub, 31) := by decide +kernel
theorem fX10_bells_31 : a_fetch 248 31 = some (.iconst 9999, 34) := by decide +kernel
theorem fX10_bells_34 : a_fetch 248 34 = some (.if_icmp .le 43, 37) := by decide +kernel
theorem fX10_bells_37 : a_fetch 248 37 = some (.aload 0, 38) := by decide +kernel
theorem fX10_bells_38 : a_fetch 248 38 = some (.iconst 2, 39) := by decide +kernel
theorem fX10_bells_39 : a_fetch 248 39 = some (.invokevirtual 239, 42) := by decide +kernel
theorem fX10_bells_42 : a_fetch 248 42 = some (.ireturn, 43) := by decide +kernel
theorem fX10_bells_43 : a_fetch 248 43 = some (.aload 0, 44) := by decide +kernel
theorem fX10_bells_44 : a_fetch 248 44 = some (.invokevirtual 237, 47) := by decide +kernel
theorem fX10_bells_47 : a_fetch 248 47 = some (.iconst 0, 48) := by decide +kernel
theorem fX10_bells_48 : a_fetch 248 48 = some (.istore 2, 49) := by decide +kernel
theorem fX10_bells_49 : a_fetch 248 49 = some (.iload 2, 50) := by decide +kernel
theorem fX10_bells_50 : a_fetch 248 50 = some (.iload 1, 51) := by decide +kernel
theorem fX10_bells_51 : a_fetch 248 51 = some (.if_icmp .ge 78, 54) := by decide +kernel
theorem fX10_bells_54 : a_fetch 248 54 = some (.aload 0, 55) := by decide +kernel
theorem fX10_bells_55 : a_fetch 248 55 = some (.aload 0, 56) := by decide +kernel
theorem fX10_bells_56 : a_fetch 248 56 = some (.invokevirtual 247, 59) := by decide +kernel
theorem fX10_bells_59 : a_fetch 248 59 = some (.invokevirtual 214, 62) := by decide +kernel
theorem fX10_bells_62 : a_fetch 248 62 = some (.aload 0, 63) := by decide +kernel
theorem fX10_bells_63 : a_fetch 248 63 = some (.invokevirtual 246, 66) := by decide +kernel
theorem fX10_bells_66 : a_fetch 248 66 = some (.aload 0, 67) := by decide +kernel
theorem fX10_bells_67 : a_fetch 248 67 = some (.iconst 12, 69) := by decide +kernel
theorem fX10_bells_69 : a_fetch 248 69 = some (.invokevirtual 214, 72) := by decide +kernel
theorem fX10_bells_72 : a_fetch 248 72 = some (.iinc 2 1, 75) := by decide +kernel
theorem fX10_bells_75 : a_fetch 248 75 = some (.goto 49, 78) := by decide +kernel
theorem fX10_bells_78 : a_fetch 248 78 = some (.aload 0, 79) := by decide +kernel
theorem fX10_bells_79 : a_fetch 248 79 = some (.invokeinterface 10 49, 82) := by decide +kernel
theorem fX10_bells_82 : a_fetch 248 82 = some (.iconst 0, 83) := by decide +kernel
theorem fX10_bells_83 : a_fetch 248 83 = some (.iaload, 84) := by decide +kernel
theorem fX10_bells_84 : a_fetch 248 84 = some (.ireturn, 85) := by decide +kernel
theorem fX10_slips_0 : a_fetch 249 0 = some (.aload 0, 1) := by decide +kernel
theorem fX10_slips_1 : a_fetch 249 1 = some (.invokeinterface 10 1, 4) := by decide +kernel
theorem fX10_slips_4 : a_fetch 249 4 = some (.istore 2, 5) := by decide +kernel
theorem fX10_slips_5 : a_fetch 249 5 = some (.aload 0, 6) := by decide +kernel
theorem fX10_slips_6 : a_fetch 249 6 = some (.iconst 0, 7) := by decide +kernel
theorem fX10_slips_7 : a_fetch 249 7 = some (.multianewarray 10 1, 10) := by decide +kernel
theorem fX10_slips_10 : a_fetch 249 10 = some (.aload 0, 11) := by decide +kernel
theorem fX10_slips_11 : a_fetch 249 11 = some (.iload 1, 12) := by decide +kernel
theorem fX10_slips_12 : a_fetch 249 12 = some (.invokevirtual 191, 15) := by decide +kernel
theorem fX10_slips_15 : a_fetch 249 15 = some (.ifCond .eq 40, 18) := by decide +kernel
theorem fX10_slips_18 : a_fetch 249 18 = some (.iload 2, 19) := by decide +kernel
theorem fX10_slips_19 : a_fetch 249 19 = some (.ifCond .le 40, 22) := by decide +kernel
theorem fX10_slips_22 : a_fetch 249 22 = some (.iload 2, 23) := by decide +kernel
theorem fX10_slips_23 : a_fetch 249 23 = some (.iconst 3, 24) := by decide +kernel
theorem fX10_slips_24 : a_fetch 249 24 = some (.irem, 25) := by decide +kernel
theorem fX10_slips_25 : a_fetch 249 25 = some (.ifCond .ne 40, 28) := by decide +kernel
theorem fX10_slips_28 : a_fetch 249 28 = some (.iload 2, 29) := by decide +kernel
theorem fX10_slips_29 : a_fetch 249 29 = some (.iconst 3, 30) := by decide +kernel
theorem fX10_slips_30 : a_fetch 249 30 = some (.idiv, 31) := by decide +kernel
theorem fX10_slips_31 : a_fetch 249 31 = some (.iconst 20, 33) := by decide +kernel
theorem fX10_slips_33 : a_fetch 249 33 = some (.if_icmp .gt 40, 36) := by decide +kernel
theorem fX10_slips_36 : a_fetch 249 36 = some (.iconst 1, 37) := by decide +kernel
theorem fX10_slips_37 : a_fetch 249 37 = some (.goto 41, 40) := by decide +kernel
theorem fX10_slips_40 : a_fetch 249 40 = some (.iconst 0, 41) := by decide +kernel
theorem fX10_slips_41 : a_fetch 249 41 = some (.istore 3, 42) := by decide +kernel
theorem fX10_slips_42 : a_fetch 249 42 = some (.iconst 0, 43) := by decide +kernel
theorem fX10_slips_43 : a_fetch 249 43 = some (.istore 4, 45) := by decide +kernel
theorem fX10_slips_45 : a_fetch 249 45 = some (.iload 4, 47) := by decide +kernel
theorem fX10_slips_47 : a_fetch 249 47 = some (.iload 2, 48) := by decide +kernel
theorem fX10_slips_48 : a_fetch 249 48 = some (.if_icmp .ge 108, 51) := by decide +kernel
theorem fX10_slips_51 : a_fetch 249 51 = some (.iload 3, 52) := by decide +kernel
theorem fX10_slips_52 : a_fetch 249 52 = some (.ifCond .eq 108, 55) := by decide +kernel
theorem fX10_slips_55 : a_fetch 249 55 = some (.aload 0, 56) := by decide +kernel
theorem fX10_slips_56 : a_fetch 249 56 = some (.invokeinterface 10 0, 59) := by decide +kernel
theorem fX10_slips_59 : a_fetch 249 59 = some (.iload 4, 61) := by decide +kernel
theorem fX10_slips_61 : a_fetch 249 61 = some (.iaload, 62) := by decide +kernel
theorem fX10_slips_62 : a_fetch 249 62 = some (.iconst 24, 64) := by decide +kernel
theorem fX10_slips_64 : a_fetch 249 64 = some (.if_icmp .ge 100, 67) := by decide +kernel
theorem fX10_slips_67 : a_fetch 249 67 = some (.aload 0, 68) := by decide +kernel
theorem fX10_slips_68 : a_fetch 249 68 = some (.aload 0, 69) := by decide +kernel
theorem fX10_slips_69 : a_fetch 249 69 = some (.invokeinterface 10 0, 72) := by decide +kernel
theorem fX10_slips_72 : a_fetch 249 72 = some (.iload 4, 74) := by decide +kernel
theorem fX10_slips_74 : a_fetch 249 74 = some (.iconst 1, 75) := by decide +kernel
theorem fX10_slips_75 : a_fetch 249 75 = some (.iadd, 76) := by decide +kernel
theorem fX10_slips_76 : a_fetch 249 76 = some (.iaload, 77) := by decide +kernel
theorem fX10_slips_77 : a_fetch 249 77 = some (.invokevirtual 222, 80) := by decide +kernel
theorem fX10_slips_80 : a_fetch 249 80 = some (.ifCond .eq 100, 83) := by decide +kernel
theorem fX10_slips_83 : a_fetch 249 83 = some (.aload 0, 84) := by decide +kernel
theorem fX10_slips_84 : a_fetch 249 84 = some (.invokeinterface 10 0, 87) := by decide +kernel
theorem fX10_slips_87 : a_fetch 249 87 = some (.iload 4, 89) := by decide +kernel
theorem fX10_slips_89 : a_fetch 249 89 = some (.iconst 2, 90) := by decide +kernel
theorem fX10_slips_90 : a_fetch 249 90 = some (.iadd, 91) := by decide +kernel
theorem fX10_slips_91 : a_fetch 249 91 = some (.iaload, 92) := by decide +kernel
theorem fX10_slips_92 : a_fetch 249 92 = some (.iconst 2, 93) := by decide +kernel
theorem fX10_slips_93 : a_fetch 249 93 = some (.if_icmp .ge 100, 96) := by decide +kernel
theorem fX10_slips_96 : a_fetch 249 96 = some (.iconst 1, 97) := by decide +kernel
theorem fX10_slips_97 : a_fetch 249 97 = some (.goto 101, 100) := by decide +kernel
theorem fX10_slips_100 : a_fetch 249 100 = some (.iconst 0, 101) := by decide +kernel
theorem fX10_slips_101 : a_fetch 249 101 = some (.istore 3, 102) := by decide +kernel
theorem fX10_slips_102 : a_fetch 249 102 = some (.iinc 4 3, 105) := by decide +kernel
theorem fX10_slips_105 : a_fetch 249 105 = some (.goto 45, 108) := by decide +kernel
theorem fX10_slips_108 : a_fetch 249 108 = some (.iload 3, 109) := by decide +kernel
theorem fX10_slips_109 : a_fetch 249 109 = some (.ifCond .ne 118, 112) := by decide +kernel
theorem fX10_slips_112 : a_fetch 249 112 = some (.aload 0, 113) := by decide +kernel
theorem fX10_slips_113 : a_fetch 249 113 = some (.iconst 1, 114) := by decide +kernel
theorem fX10_slips_114 : a_fetch 249 114 = some (.invokevirtual 239, 117) := by decide +kernel
theorem fX10_slips_117 : a_fetch 249 117 = some (.ireturn, 118) := by decide +kernel
theorem fX10_slips_118 : a_fetch 249 118 = some (.iconst 0, 119) := by decide +kernel
theorem fX10_slips_119 : a_fetch 249 119 = some (.istore 4, 121) := by decide +kernel
theorem fX10_slips_121 : a_fetch 249 121 = some (.iload 4, 123) := by decide +kernel
theorem fX10_slips_123 : a_fetch 249 123 = some (.iload 2, 124) := by decide +kernel
theorem fX10_slips_124 : a_fetch 249 124 = some (.if_icmp .ge 147, 127) := by decide +kernel
theorem fX10_slips_127 : a_fetch 249 127 = some (.aload 0, 128) := by decide +kernel
theorem fX10_slips_128 : a_fetch 249 128 = some (.invokeinterface 10 74, 131) := by decide +kernel
theorem fX10_slips_131 : a_fetch 249 131 = some (.iload 4, 133) := by decide +kernel
theorem fX10_slips_133 : a_fetch 249 133 = some (.aload 0, 134) := by decide +kernel
theorem fX10_slips_134 : a_fetch 249 134 = some (.invokeinterface 10 0, 137) := by decide +kernel
theorem fX10_slips_137 : a_fetch 249 137 = some (.iload 4, 139) := by decide +kernel
theorem fX10_slips_139 : a_fetch 249 139 = some (.iaload, 140) := by decide +kernel
theorem fX10_slips_140 : a_fetch 249 140 = some (.iastore, 141) := by decide +kernel
theorem fX10_slips_141 : a_fetch 249 141 = some (.iinc 4 1, 144) := by decide +kernel
theorem fX10_slips_144 : a_fetch 249 144 = some (.goto 121, 147) := by decide +kernel
theorem fX10_slips_147 : a_fetch 249 147 = some (.aload 0, 148) := by decide +kernel
theorem fX10_slips_148 : a_fetch 249 148 = some (.iload 2, 149) := by decide +kernel
theorem fX10_slips_149 : a_fetch 249 149 = some (.iconst 3, 150) := by decide +kernel
theorem fX10_slips_150 : a_fetch 249 150 = some (.idiv, 151) := by decide +kernel
theorem fX10_slips_151 : a_fetch 249 151 = some (.multianewarray 10 72, 154) := by decide +kernel
theorem fX10_slips_154 : a_fetch 249 154 = some (.aload 0, 155) := by decide +kernel
theorem fX10_slips_155 : a_fetch 249 155 = some (.iload 1, 156) := by decide +kernel
theorem fX10_slips_156 : a_fetch 249 156 = some (.multianewarray 10 73, 159) := by decide +kernel
theorem fX10_slips_159 : a_fetch 249 159 = some (.aload 0, 160) := by decide +kernel
theorem fX10_slips_160 : a_fetch 249 160 = some (.invokeinterface 10 72, 163) := by decide +kernel
theorem fX10_slips_163 : a_fetch 249 163 = some (.ireturn, 164) := by decide +kernel
theorem fX10_isAsSlips_0 : a_fetch 250 0 = some (.iconst 0, 1) := by decide +kernel
theorem fX10_isAsSlips_1 : a_fetch 250 1 = some (.istore 2, 2) := by decide +kernel
theorem fX10_isAsSlips_2 : a_fetch 250 2 = some (.iload 2, 3) := by decide +kernel
theorem fX10_isAsSlips_3 : a_fetch 250 3 = some (.iconst 3, 4) := by decide +kernel
theorem fX10_isAsSlips_4 : a_fetch 250 4 = some (.aload 0, 5) := by decide +kernel
theorem fX10_isAsSlips_5 : a_fetch 250 5 = some (.invokeinterface 10 72, 8) := by decide +kernel
theorem fX10_isAsSlips_8 : a_fetch 250 8 = some (.imul, 9) := by decide +kernel
theorem fX10_isAsSlips_9 : a_fetch 250 9 = some (.if_icmp .ge 63, 12) := by decide +kernel
theorem fX10_isAsSlips_12 : a_fetch 250 12 = some (.aload 0, 13) := by decide +kernel
theorem fX10_isAsSlips_13 : a_fetch 250 13 = some (.iload 1, 14) := by decide +kernel
theorem fX10_isAsSlips_14 : a_fetch 250 14 = some (.aload 0, 15) := by decide +kernel
theorem fX10_isAsSlips_15 : a_fetch 250 15 = some (.invokeinterface 10 73, 18) := by decide +kernel
theorem fX10_isAsSlips_18 : a_fetch 250 18 = some (.aload 0, 19) := by decide +kernel
theorem fX10_isAsSlips_19 : a_fetch 250 19 = some (.invokeinterface 10 74, 22) := by decide +kernel
theorem fX10_isAsSlips_22 : a_fetch 250 22 = some (.iload 2, 23) := by decide +kernel
theorem fX10_isAsSlips_23 : a_fetch 250 23 = some (.iconst 1, 24) := by decide +kernel
theorem fX10_isAsSlips_24 : a_fetch 250 24 = some (.iadd, 25) := by decide +kernel
theorem fX10_isAsSlips_25 : a_fetch 250 25 = some (.iaload, 26) := by decide +kernel
theorem fX10_isAsSlips_26 : a_fetch 250 26 = some (.aload 0, 27) := by decide +kernel
theorem fX10_isAsSlips_27 : a_fetch 250 27 = some (.invokeinterface 10 74, 30) := by decide +kernel
theorem fX10_isAsSlips_30 : a_fetch 250 30 = some (.iload 2, 31) := by decide +kernel
theorem fX10_isAsSlips_31 : a_fetch 250 31 = some (.iaload, 32) := by decide +kernel
theorem fX10_isAsSlips_32 : a_fetch 250 32 = some (.invokevirtual 206, 35) := by decide +kernel
theorem fX10_isAsSlips_35 : a_fetch 250 35 = some (.aload 0, 36) := by decide +kernel
theorem fX10_isAsSlips_36 : a_fetch 250 36 = some (.invokeinterface 10 74, 39) := by decide +kernel
theorem fX10_isAsSlips_39 : a_fetch 250 39 = some (.iload 2, 40) := by decide +kernel
theorem fX10_isAsSlips_40 : a_fetch 250 40 = some (.iconst 2, 41) := by decide +kernel
theorem fX10_isAsSlips_41 : a_fetch 250 41 = some (.iadd, 42) := by decide +kernel
theorem fX10_isAsSlips_42 : a_fetch 250 42 = some (.iaload, 43) := by decide +kernel
theorem fX10_isAsSlips_43 : a_fetch 250 43 = some (.iconst 1, 44) := by decide +kernel
theorem fX10_isAsSlips_44 : a_fetch 250 44 = some (.if_icmp .ne 51, 47) := by decide +kernel
theorem fX10_isAsSlips_47 : a_fetch 250 47 = some (.iconst 1, 48) := by decide +kernel
theorem fX10_isAsSlips_48 : a_fetch 250 48 = some (.goto 52, 51) := by decide +kernel
theorem fX10_isAsSlips_51 : a_fetch 250 51 = some (.iconst 0, 52) := by decide +kernel
theorem fX10_isAsSlips_52 : a_fetch 250 52 = some (.if_icmp .eq 57, 55) := by decide +kernel
theorem fX10_isAsSlips_55 : a_fetch 250 55 = some (.iconst 0, 56) := by decide +kernel
theorem fX10_isAsSlips_56 : a_fetch 250 56 = some (.ireturn, 57) := by decide +kernel
theorem fX10_isAsSlips_57 : a_fetch 250 57 = some (.iinc 2 3, 60) := by decide +kernel
theorem fX10_isAsSlips_60 : a_fetch 250 60 = some (.goto 2, 63) := by decide +kernel
theorem fX10_isAsSlips_63 : a_fetch 250 63 = some (.iconst 1, 64) := by decide +kernel
theorem fX10_isAsSlips_64 : a_fetch 250 64 = some (.ireturn, 65) := by decide +kernel
theorem fX10_who_0 : a_fetch 251 0 = some (.aload 0, 1) := by decide +kernel
theorem fX10_who_1 : a_fetch 251 1 = some (.invokeinterface 10 72, 4) := by decide +kernel
theorem fX10_who_4 : a_fetch 251 4 = some (.ifCond .ne 9, 7) := by decide +kernel
theorem fX10_who_7 : a_fetch 251 7 = some (.iconst (-1), 8) := by decide +kernel
theorem fX10_who_8 : a_fetch 251 8 = some (.ireturn, 9) := by decide +kernel
theorem fX10_who_9 : a_fetch 251 9 = some (.iconst 0, 10) := by decide +kernel
theorem fX10_who_10 : a_fetch 251 10 = some (.istore 1, 11) := by decide +kernel
theorem fX10_who_11 : a_fetch 251 11 = some (.iconst 0, 12) := by decide +kernel
theorem fX10_who_12 : a_fetch 251 12 = some (.istore 2, 13) := by decide +kernel
theorem fX10_who_13 : a_fetch 251 13 = some (.iload 2, 14) := by decide +kernel
theorem fX10_who_14 : a_fetch 251 14 = some (.aload 0, 15) := by decide +kernel
theorem fX10_who_15 : a_fetch 251 15 = some (.invokevirtual 189, 18) := by decide +kernel
theorem fX10_who_18 : a_fetch 251 18 = some (.if_icmp .ge 41, 21) := by decide +kernel
theorem fX10_who_21 : a_fetch 251 21 = some (.aload 0, 22) := by decide +kernel
theorem fX10_who_22 : a_fetch 251 22 = some (.iload 2, 23) := by decide +kernel
theorem fX10_who_23 : a_fetch 251 23 = some (.invokevirtual 250, 26) := by decide +kernel
theorem fX10_who_26 : a_fetch 251 26 = some (.ifCond .eq 35, 29) := by decide +kernel
theorem fX10_who_29 : a_fetch 251 29 = some (.iload 1, 30) := by decide +kernel
theorem fX10_who_30 : a_fetch 251 30 = some (.iconst 1, 31) := by decide +kernel
theorem fX10_who_31 : a_fetch 251 31 = some (.iload 2, 32) := by decide +kernel
theorem fX10_who_32 : a_fetch 251 32 = some (.ishl, 33) := by decide +kernel
theorem fX10_who_33 : a_fetch 251 33 = some (.ior, 34) := by decide +kernel
theorem fX10_who_34 : a_fetch 251 34 = some (.istore 1, 35) := by decide +kernel
theorem fX10_who_35 : a_fetch 251 35 = some (.iinc 2 1, 38) := by decide +kernel
theorem fX10_who_38 : a_fetch 251 38 = some (.goto 13, 41) := by decide +kernel
theorem fX10_who_41 : a_fetch 251 41 = some (.iload 1, 42) := by decide +kernel
theorem fX10_who_42 : a_fetch 251 42 = some (.ireturn, 43) := by decide +kernel
theorem fX10_qCode_0 : a_fetch 252 0 = some (.aload 0, 1) := by decide +kernel
theorem fX10_qCode_1 : a_fetch 252 1 = some (.invokeinterface 10 97, 4) := by decide +kernel
theorem fX10_qCode_4 : a_fetch 252 4 = some (.aload 0, 5) := by decide +kernel
theorem fX10_qCode_5 : a_fetch 252 5 = some (.invokeinterface 10 98, 8) := by decide +kernel
theorem fX10_qCode_8 : a_fetch 252 8 = some (.iload 1, 9) := by decide +kernel
theorem fX10_qCode_9 : a_fetch 252 9 = some (.iastore, 10) := by decide +kernel
theorem fX10_qCode_10 : a_fetch 252 10 = some (.aload 0, 11) := by decide +kernel
theorem fX10_qCode_11 : a_fetch 252 11 = some (.dup, 12) := by decide +kernel
theorem fX10_qCode_12 : a_fetch 252 12 = some (.invokeinterface 10 98, 15) := by decide +kernel
theorem fX10_qCode_15 : a_fetch 252 15 = some (.iconst 1, 16) := by decide +kernel
theorem fX10_qCode_16 : a_fetch 252 16 = some (.iadd, 17) := by decide +kernel
theorem fX10_qCode_17 : a_fetch 252 17 = some (.multianewarray 10 98, 20) := by decide +kernel
theorem fX10_qCode_20 : a_fetch 252 20 = some (.return_, 21) := by decide +kernel
theorem fX10_qOpens_0 : a_fetch 253 0 = some (.aload 0, 1) := by decide +kernel
theorem fX10_qOpens_1 : a_fetch 253 1 = some (.invokeinterface 10 5, 4) := by decide +kernel
theorem fX10_qOpens_4 : a_fetch 253 4 = some (.ifCond .eq 8, 7) := by decide +kernel
theorem fX10_qOpens_7 : a_fetch 253 7 = some (.return_, 8) := by decide +kernel
theorem fX10_qOpens_8 : a_fetch 253 8 = some (.aload 0, 9) := by decide +kernel
theorem fX10_qOpens_9 : a_fetch 253 9 = some (.invokeinterface 10 101, 12) := by decide +kernel
theorem fX10_qOpens_12 : a_fetch 253 12 = some (.iconst 6, 14) := by decide +kernel
theorem fX10_qOpens_14 : a_fetch 253 14 = some (.if_icmp .ne 24, 17) := by decide +kernel
theorem fX10_qOpens_17 : a_fetch 253 17 = some (.aload 0, 18) := by decide +kernel
theorem fX10_qOpens_18 : a_fetch 253 18 = some (.iconst 4, 19) := by decide +kernel
theorem fX10_qOpens_19 : a_fetch 253 19 = some (.iload 2, 20) := by decide +kernel
theorem fX10_qOpens_20 : a_fetch 253 20 = some (.invokevirtual 162, 23) := by decide +kernel
theorem fX10_qOpens_23 : a_fetch 253 23 = some (.return_, 24) := by decide +kernel
theorem fX10_qOpens_24 : a_fetch 253 24 = some (.aload 0, 25) := by decide +kernel
theorem fX10_qOpens_25 : a_fetch 253 25 = some (.dup, 26) := by decide +kernel
theorem fX10_qOpens_26 : a_fetch 253 26 = some (.invokeinterface 10 101, 29) := by decide +kernel
theorem fX10_qOpens_29 : a_fetch 253 29 = some (.iconst 1, 30) := by decide +kernel
theorem fX10_qOpens_30 : a_fetch 253 30 = some (.iadd, 31) := by decide +kernel
theorem fX10_qOpens_31 : a_fetch 253 31 = some (.multianewarray 10 101, 34) := by decide +kernel
theorem fX10_qOpens_34 : a_fetch 253 34 = some (.aload 0, 35) := by decide +kernel
theorem fX10_qOpens_35 : a_fetch 253 35 = some (.invokeinterface 10 99, 38) := by decide +kernel
theorem fX10_qOpens_38 : a_fetch 253 38 = some (.aload 0, 39) := by decide +kernel
theorem fX10_qOpens_39 : a_fetch 253 39 = some (.invokeinterface 10 100, 42) := by decide +kernel
theorem fX10_qOpens_42 : a_fetch 253 42 = some (.iload 1, 43) := by decide +kernel
theorem fX10_qOpens_43 : a_fetch 253 43 = some (.iastore, 44) := by decide +kernel
theorem fX10_qOpens_44 : a_fetch 253 44 = some (.aload 0, 45) := by decide +kernel
theorem fX10_qOpens_45 : a_fetch 253 45 = some (.dup, 46) := by decide +kernel
theorem fX10_qOpens_46 : a_fetch 253 46 = some (.invokeinterface 10 100, 49) := by decide +kernel
theorem fX10_qOpens_49 : a_fetch 253 49 = some (.iconst 1, 50) := by decide +kernel
theorem fX10_qOpens_50 : a_fetch 253 50 = some (.iadd, 51) := by decide +kernel
theorem fX10_qOpens_51 : a_fetch 253 51 = some (.multianewarray 10 100, 54) := by decide +kernel
theorem fX10_qOpens_54 : a_fetch 253 54 = some (.return_, 55) := by decide +kernel
theorem fX10_qIsOn_0 : a_fetch 254 0 = some (.aload 0, 1) := by decide +kernel
theorem fX10_qIsOn_1 : a_fetch 254 1 = some (.invokeinterface 10 100, 4) := by decide +kernel
theorem fX10_qIsOn_4 : a_fetch 254 4 = some (.ifCond .le 26, 7) := by decide +kernel
theorem fX10_qIsOn_7 : a_fetch 254 7 = some (.aload 0, 8) := by decide +kernel
theorem fX10_qIsOn_8 : a_fetch 254 8 = some (.invokeinterface 10 99, 11) := by decide +kernel
theorem fX10_qIsOn_11 : a_fetch 254 11 = some (.aload 0, 12) := by decide +kernel
theorem fX10_qIsOn_12 : a_fetch 254 12 = some (.invokeinterface 10 100, 15) := by decide +kernel
theorem fX10_qIsOn_15 : a_fetch 254 15 = some (.iconst 1, 16) := by decide +kernel
theorem fX10_qIsOn_16 : a_fetch 254 16 = some (.isub, 17) := by decide +kernel
theorem fX10_qIsOn_17 : a_fetch 254 17 = some (.iaload, 18) := by decide +kernel
theorem fX10_qIsOn_18 : a_fetch 254 18 = some (.iload 1, 19) := by decide +kernel
theorem fX10_qIsOn_19 : a_fetch 254 19 = some (.if_icmp .ne 26, 22) := by decide +kernel
theorem fX10_qIsOn_22 : a_fetch 254 22 = some (.iconst 1, 23) := by decide +kernel
theorem fX10_qIsOn_23 : a_fetch 254 23 = some (.goto 27, 26) := by decide +kernel
theorem fX10_qIsOn_26 : a_fetch 254 26 = some (.iconst 0, 27) := by decide +kernel
theorem fX10_qIsOn_27 : a_fetch 254 27 = some (.ireturn, 28) := by decide +kernel
theorem fX10_qDrops_0 : a_fetch 255 0 = some (.aload 0, 1) := by decide +kernel
theorem fX10_qDrops_1 : a_fetch 255 1 = some (.dup, 2) := by decide +kernel
theorem fX10_qDrops_2 : a_fetch 255 2 = some (.invokeinterface 10 100, 5) := by decide +kernel
theorem fX10_qDrops_5 : a_fetch 255 5 = some (.iconst 1, 6) := by decide +kernel
theorem fX10_qDrops_6 : a_fetch 255 6 = some (.isub, 7) := by decide +kernel
theorem fX10_qDrops_7 : a_fetch 255 7 = some (.multianewarray 10 100, 10) := by decide +kernel
theorem fX10_qDrops_10 : a_fetch 255 10 = some (.aload 0, 11) := by decide +kernel
theorem fX10_qDrops_11 : a_fetch 255 11 = some (.aload 0, 12) := by decide +kernel
theorem fX10_qDrops_12 : a_fetch 255 12 = some (.invokeinterface 10 99, 15) := by decide +kernel
theorem fX10_qDrops_15 : a_fetch 255 15 = some (.aload 0, 16) := by decide +kernel
theorem fX10_qDrops_16 : a_fetch 255 16 = some (.invokeinterface 10 100, 19) := by decide +kernel
theorem fX10_qDrops_19 : a_fetch 255 19 = some (.iaload, 20) := by decide +kernel
theorem fX10_qDrops_20 : a_fetch 255 20 = some (.invokevirtual 252, 23) := by decide +kernel
theorem fX10_qDrops_23 : a_fetch 255 23 = some (.return_, 24) := by decide +kernel
theorem fX10_qIsBracket_0 : a_fetch 256 0 = some (.iload 0, 1) := by decide +kernel
theorem fX10_qIsBracket_1 : a_fetch 256 1 = some (.iconst 20, 3) := by decide +kernel
theorem fX10_qIsBracket_3 : a_fetch 256 3 = some (.if_icmp .lt 16, 6) := by decide +kernel
theorem fX10_qIsBracket_6 : a_fetch 256 6 = some (.iload 0, 7) := by decide +kernel
theorem fX10_qIsBracket_7 : a_fetch 256 7 = some (.iconst 24, 9) := by decide +kernel
theorem fX10_qIsBracket_9 : a_fetch 256 9 = some (.if_icmp .gt 16, 12) := by decide +kernel
theorem fX10_qIsBracket_12 : a_fetch 256 12 = some (.iconst 1, 13) := by decide +kernel
theorem fX10_qIsBracket_13 : a_fetch 256 13 = some (.goto 17, 16) := by decide +kernel
theorem fX10_qIsBracket_16 : a_fetch 256 16 = some (.iconst 0, 17) := by decide +kernel
theorem fX10_qIsBracket_17 : a_fetch 256 17 = some (.ireturn, 18) := by decide +kernel
theorem fX10_qBracket_0 : a_fetch 257 0 = some (.aload 0, 1) := by decide +kernel
theorem fX10_qBracket_1 : a_fetch 257 1 = some (.invokeinterface 10 100, 4) := by decide +kernel
theorem fX10_qBracket_4 : a_fetch 257 4 = some (.iconst 1, 5) := by decide +kernel
theorem fX10_qBracket_5 : a_fetch 257 5 = some (.isub, 6) := by decide +kernel
theorem fX10_qBracket_6 : a_fetch 257 6 = some (.istore 1, 7) := by decide +kernel
theorem fX10_qBracket_7 : a_fetch 257 7 = some (.iload 1, 8) := by decide +kernel
theorem fX10_qBracket_8 : a_fetch 257 8 = some (.aload 0, 9) := by decide +kernel
theorem fX10_qBracket_9 : a_fetch 257 9 = some (.invokeinterface 10 102, 12) := by decide +kernel
theorem fX10_qBracket_12 : a_fetch 257 12 = some (.if_icmp .lt 33, 15) := by decide +kernel
theorem fX10_qBracket_15 : a_fetch 257 15 = some (.aload 0, 16) := by decide +kernel
theorem fX10_qBracket_16 : a_fetch 257 16 = some (.invokeinterface 10 99, 19) := by decide +kernel
theorem fX10_qBracket_19 : a_fetch 257 19 = some (.iload 1, 20) := by decide +kernel
theorem fX10_qBracket_20 : a_fetch 257 20 = some (.iaload, 21) := by decide +kernel
theorem fX10_qBracket_21 : a_fetch 257 21 = some (.invokestatic 256, 24) := by decide +kernel
theorem fX10_qBracket_24 : a_fetch 257 24 = some (.ifCond .ne 33, 27) := by decide +kernel
theorem fX10_qBracket_27 : a_fetch 257 27 = some (.iinc 1 (-1), 30) := by decide +kernel
theorem fX10_qBracket_30 : a_fetch 257 30 = some (.goto 7, 33) := by decide +kernel
theorem fX10_qBracket_33 : a_fetch 257 33 = some (.iload 1, 34) := by decide +kernel
theorem fX10_qBracket_34 : a_fetch 257 34 = some (.aload 0, 35) := by decide +kernel
theorem fX10_qBracket_35 : a_fetch 257 35 = some (.invokeinterface 10 102, 38) := by decide +kernel
theorem fX10_qBracket_38 : a_fetch 257 38 = some (.if_icmp .lt 50, 41) := by decide +kernel
theorem fX10_qBracket_41 : a_fetch 257 41 = some (.aload 0, 42) := by decide +kernel
theorem fX10_qBracket_42 : a_fetch 257 42 = some (.invokeinterface 10 99, 45) := by decide +kernel
theorem fX10_qBracket_45 : a_fetch 257 45 = some (.iload 1, 46) := by decide +kernel
theorem fX10_qBracket_46 : a_fetch 257 46 = some (.iaload, 47) := by decide +kernel
theorem fX10_qBracket_47 : a_fetch 257 47 = some (.goto 51, 50) := by decide +kernel
theorem fX10_qBracket_50 : a_fetch 257 50 = some (.iconst (-1), 51) := by decide +kernel
theorem fX10_qBracket_51 : a_fetch 257 51 = some (.ireturn, 52) := by decide +kernel
theorem fX10_qDropsToBracket_0 : a_fetch 258 0 = some (.aload 0, 1) := by decide +kernel
theorem fX10_qDropsToBracket_1 : a_fetch 258 1 = some (.invokeinterface 10 100, 4) := by decide +kernel
theorem fX10_qDropsToBracket_4 : a_fetch 258 4 = some (.aload 0, 5) := by decide +kernel
theorem fX10_qDropsToBracket_5 : a_fetch 258 5 = some (.invokeinterface 10 102, 8) := by decide +kernel
theorem fX10_qDropsToBracket_8 : a_fetch 258 8 = some (.if_icmp .le 35, 11) := by decide +kernel
theorem fX10_qDropsToBracket_11 : a_fetch 258 11 = some (.aload 0, 12) := by decide +kernel
theorem fX10_qDropsToBracket_12 : a_fetch 258 12 = some (.invokeinterface 10 99, 15) := by decide +kernel
theorem fX10_qDropsToBracket_15 : a_fetch 258 15 = some (.aload 0, 16) := by decide +kernel
theorem fX10_qDropsToBracket_16 : a_fetch 258 16 = some (.invokeinterface 10 100, 19) := by decide +kernel
theorem fX10_qDropsToBracket_19 : a_fetch 258 19 = some (.iconst 1, 20) := by decide +kernel
theorem fX10_qDropsToBracket_20 : a_fetch 258 20 = some (.isub, 21) := by decide +kernel
theorem fX10_qDropsToBracket_21 : a_fetch 258 21 = some (.iaload, 22) := by decide +kernel
theorem fX10_qDropsToBracket_22 : a_fetch 258 22 = some (.invokestatic 256, 25) := by decide +kernel
theorem fX10_qDropsToBracket_25 : a_fetch 258 25 = some (.ifCond .ne 35, 28) := by decide +kernel
theorem fX10_qDropsToBracket_28 : a_fetch 258 28 = some (.aload 0, 29) := by decide +kernel
theorem fX10_qDropsToBracket_29 : a_fetch 258 29 = some (.invokevirtual 255, 32) := by decide +kernel
theorem fX10_qDropsToBracket_32 : a_fetch 258 32 = some (.goto 0, 35) := by decide +kernel
theorem fX10_qDropsToBracket_35 : a_fetch 258 35 = some (.return_, 36) := by decide +kernel
theorem fX10_qWordHere_0 : a_fetch 259 0 = some (.aload 0, 1) := by decide +kernel
theorem fX10_qWordHere_1 : a_fetch 259 1 = some (.aload 0, 2) := by decide +kernel
theorem fX10_qWordHere_2 : a_fetch 259 2 = some (.invokeinterface 10 87, 5) := by decide +kernel
theorem fX10_qWordHere_5 : a_fetch 259 5 = some (.invokevirtual 166, 8) := by decide +kernel
theorem fX10_qWordHere_8 : a_fetch 259 8 = some (.ifCond .eq 13, 11) := by decide +kernel
theorem fX10_qWordHere_11 : a_fetch 259 11 = some (.iconst 0, 12) := by decide +kernel
theorem fX10_qWordHere_12 : a_fetch 259 12 = some (.ireturn, 13) := by decide +kernel
theorem fX10_qWordHere_13 : a_fetch 259 13 = some (.aload 0, 14) := by decide +kernel
theorem fX10_qWordHere_14 : a_fetch 259 14 = some (.aload 0, 15) := by decide +kernel
theorem fX10_qWordHere_15 : a_fetch 259 15 = some (.invokeinterface 10 88, 18) := by decide +kernel
theorem fX10_qWordHere_18 : a_fetch 259 18 = some (.invokevirtual 166, 21) := by decide +kernel
theorem fX10_qWordHere_21 : a_fetch 259 21 = some (.ifCond .eq 26, 24) := by decide +kernel
theorem fX10_qWordHere_24 : a_fetch 259 24 = some (.iconst 1, 25) := by decide +kernel
theorem fX10_qWordHere_25 : a_fetch 259 25 = some (.ireturn, 26) := by decide +kernel
theorem fX10_qWordHere_26 : a_fetch 259 26 = some (.aload 0, 27) := by decide +kernel
theorem fX10_qWordHere_27 : a_fetch 259 27 = some (.aload 0, 28) := by decide +kernel
theorem fX10_qWordHere_28 : a_fetch 259 28 = some (.invokeinterface 10 89, 31) := by decide +kernel
theorem fX10_qWordHere_31 : a_fetch 259 31 = some (.invokevirtual 166, 34) := by decide +kernel
theorem fX10_qWordHere_34 : a_fetch 259 34 = some (.ifCond .eq 52, 37) := by decide +kernel
theorem fX10_qWordHere_37 : a_fetch 259 37 = some (.aload 0, 38) := by decide +kernel
theorem fX10_qWordHere_38 : a_fetch 259 38 = some (.invokeinterface 10 48, 41) := by decide +kernel
theorem fX10_qWordHere_41 : a_fetch 259 41 = some (.iconst 3, 42) := by decide +kernel
theorem fX10_qWordHere_42 : a_fetch 259 42 = some (.if_icmp .ne 50, 45) := by decide +kernel
theorem fX10_qWordHere_45 : a_fetch 259 45 = some (.iconst 10, 47) := by decide +kernel
theorem fX10_qWordHere_47 : a_fetch 259 47 = some (.goto 51, 50) := by decide +kernel
theorem fX10_qWordHere_50 : a_fetch 259 50 = some (.iconst 2, 51) := by decide +kernel
theorem fX10_qWordHere_51 : a_fetch 259 51 = some (.ireturn, 52) := by decide +kernel
theorem fX10_qWordHere_52 : a_fetch 259 52 = some (.aload 0, 53) := by decide +kernel
theorem fX10_qWordHere_53 : a_fetch 259 53 = some (.aload 0, 54) := by decide +kernel
theorem fX10_qWordHere_54 : a_fetch 259 54 = some (.invokeinterface 10 90, 57) := by decide +kernel
theorem fX10_qWordHere_57 : a_fetch 259 57 = some (.invokevirtual 166, 60) := by decide +kernel
theorem fX10_qWordHere_60 : a_fetch 259 60 = some (.ifCond .eq 65, 63) := by decide +kernel
theorem fX10_qWordHere_63 : a_fetch 259 63 = some (.iconst 3, 64) := by decide +kernel
theorem fX10_qWordHere_64 : a_fetch 259 64 = some (.ireturn, 65) := by decide +kernel
theorem fX10_qWordHere_65 : a_fetch 259 65 = some (.aload 0, 66) := by decide +kernel
theorem fX10_qWordHere_66 : a_fetch 259 66 = some (.aload 0, 67) := by decide +kernel
theorem fX10_qWordHere_67 : a_fetch 259 67 = some (.invokeinterface 10 91, 70) := by decide +kernel
theorem fX10_qWordHere_70 : a_fetch 259 70 = some (.invokevirtual 166, 73) := by decide +kernel
theorem fX10_qWordHere_73 : a_fetch 259 73 = some (.ifCond .eq 78, 76) := by decide +kernel
theorem fX10_qWordHere_76 : a_fetch 259 76 = some (.iconst 4, 77) := by decide +kernel
theorem fX10_qWordHere_77 : a_fetch 259 77 = some (.ireturn, 78) := by decide +kernel
theorem fX10_qWordHere_78 : a_fetch 259 78 = some (.aload 0, 79) := by decide +kernel
theorem fX10_qWordHere_79 : a_fetch 259 79 = some (.aload 0, 80) := by decide +kernel
theorem fX10_qWordHere_80 : a_fetch 259 80 = some (.invokeinterface 10 92, 83) := by decide +kernel
theorem fX10_qWordHere_83 : a_fetch 259 83 = some (.invokevirtual 166, 86) := by decide +kernel
theorem fX10_qWordHere_86 : a_fetch 259 86 = some (.ifCond .eq 91, 89) := by decide +kernel
theorem fX10_qWordHere_89 : a_fetch 259 89 = some (.iconst 5, 90) := by decide +kernel
theorem fX10_qWordHere_90 : a_fetch 259 90 = some (.ireturn, 91) := by decide +kernel
theorem fX10_qWordHere_91 : a_fetch 259 91 = some (.aload 0, 92) := by decide +kernel
theorem fX10_qWordHere_92 : a_fetch 259 92 = some (.aload 0, 93) := by decide +kernel
theorem fX10_qWordHere_93 : a_fetch 259 93 = some (.invokeinterface 10 93, 96) := by decide +kernel
theorem fX10_qWordHere_96 : a_fetch 259 96 = some (.invokevirtual 166, 99) := by decide +kernel
theorem fX10_qWordHere_99 : a_fetch 259 99 = some (.ifCond .eq 105, 102) := by decide +kernel
theorem fX10_qWordHere_102 : a_fetch 259 102 = some (.iconst 6, 104) := by decide +kernel
theorem fX10_qWordHere_104 : a_fetch 259 104 = some (.ireturn, 105) := by decide +kernel
theorem fX10_qWordHere_105 : a_fetch 259 105 = some (.aload 0, 106) := by decide +kernel
theorem fX10_qWordHere_106 : a_fetch 259 106 = some (.aload 0, 107) := by decide +kernel
theorem fX10_qWordHere_107 : a_fetch 259 107 = some (.invokeinterface 10 94, 110) := by decide +kernel
theorem fX10_qWordHere_110 : a_fetch 259 110 = some (.invokevirtual 166, 113) := by decide +kernel
theorem fX10_qWordHere_113 : a_fetch 259 113 = some (.ifCond .eq 119, 116) := by decide +kernel
theorem fX10_qWordHere_116 : a_fetch 259 116 = some (.iconst 7, 118) := by decide +kernel
theorem fX10_qWordHere_118 : a_fetch 259 118 = some (.ireturn, 119) := by decide +kernel
theorem fX10_qWordHere_119 : a_fetch 259 119 = some (.aload 0, 120) := by decide +kernel
theorem fX10_qWordHere_120 : a_fetch 259 120 = some (.aload 0, 121) := by decide +kernel
theorem fX10_qWordHere_121 : a_fetch 259 121 = some (.invokeinterface 10 95, 124) := by decide +kernel
theorem fX10_qWordHere_124 : a_fetch 259 124 = some (.invokevirtual 166, 127) := by decide +kernel
theorem fX10_qWordHere_127 : a_fetch 259 127 = some (.ifCond .eq 133, 130) := by decide +kernel
theorem fX10_qWordHere_130 : a_fetch 259 130 = some (.iconst 8, 132) := by decide +kernel
theorem fX10_qWordHere_132 : a_fetch 259 132 = some (.ireturn, 133) := by decide +kernel
theorem fX10_qWordHere_133 : a_fetch 259 133 = some (.aload 0, 134) := by decide +kernel
theorem fX10_qWordHere_134 : a_fetch 259 134 = some (.aload 0, 135) := by decide +kernel
theorem fX10_qWordHere_135 : a_fetch 259 135 = some (.invokeinterface 10 96, 138) := by decide +kernel
theorem fX10_qWordHere_138 : a_fetch 259 138 = some (.invokevirtual 166, 141) := by decide +kernel
theorem fX10_qWordHere_141 : a_fetch 259 141 = some (.ifCond .eq 147, 144) := by decide +kernel
theorem fX10_qWordHere_144 : a_fetch 259 144 = some (.iconst 9, 146) := by decide +kernel
theorem fX10_qWordHere_146 : a_fetch 259 146 = some (.ireturn, 147) := by decide +kernel
theorem fX10_qWordHere_147 : a_fetch 259 147 = some (.iconst (-1), 148) := by decide +kernel
theorem fX10_qWordHere_148 : a_fetch 259 148 = some (.ireturn, 149) := by decide +kernel
theorem fX10_qWordOf_0 : a_fetch 260 0 = some (.aload 0, 1) := by decide +kernel
theorem fX10_qWordOf_1 : a_fetch 260 1 = some (.invokevirtual 259, 4) := by decide +kernel
theorem fX10_qWordOf_4 : a_fetch 260 4 = some (.istore 3, 5) := by decide +kernel
theorem fX10_qWordOf_5 : a_fetch 260 5 = some (.iload 3, 6) := by decide +kernel
theorem fX10_qWordOf_6 : a_fetch 260 6 = some (.iload 1, 7) := by decide +kernel
theorem fX10_qWordOf_7 : a_fetch 260 7 = some (.if_icmp .lt 27, 10) := by decide +kernel
theorem fX10_qWordOf_10 : a_fetch 260 10 = some (.iload 3, 11) := by decide +kernel
theorem fX10_qWordOf_11 : a_fetch 260 11 = some (.iload 2, 12) := by decide +kernel
theorem fX10_qWordOf_12 : a_fetch 260 12 = some (.if_icmp .ge 27, 15) := by decide +kernel
theorem fX10_qWordOf_15 : a_fetch 260 15 = some (.aload 0, 16) := by decide +kernel
theorem fX10_qWordOf_16 : a_fetch 260 16 = some (.iload 3, 17) := by decide +kernel
theorem fX10_qWordOf_17 : a_fetch 260 17 = some (.invokevirtual 174, 20) := by decide +kernel
theorem fX10_qWordOf_20 : a_fetch 260 20 = some (.ifCond .eq 27, 23) := by decide +kernel
theorem fX10_qWordOf_23 : a_fetch 260 23 = some (.iload 3, 24) := by decide +kernel
theorem fX10_qWordOf_24 : a_fetch 260 24 = some (.goto 28, 27) := by decide +kernel
theorem fX10_qWordOf_27 : a_fetch 260 27 = some (.iconst (-1), 28) := by decide +kernel
theorem fX10_qWordOf_28 : a_fetch 260 28 = some (.ireturn, 29) := by decide +kernel
theorem fX10_qAsksWord_0 : a_fetch 261 0 = some (.iload 1, 1) := by decide +kernel
theorem fX10_qAsksWord_1 : a_fetch 261 1 = some (.tableswitch 166 0 9 #[56, 67, 78, 89, 100, 111, 122, 133, 144, 155], 56) := by decide +kernel
theorem fX10_qAsksWord_56 : a_fetch 261 56 = some (.aload 0, 57) := by decide +kernel
theorem fX10_qAsksWord_57 : a_fetch 261 57 = some (.aload 0, 58) := by decide +kernel
theorem fX10_qAsksWord_58 : a_fetch 261 58 = some (.invokeinterface 10 87, 61) := by decide +kernel
theorem fX10_qAsksWord_61 : a_fetch 261 61 = some (.invokevirtual 168, 64) := by decide +kernel
theorem fX10_qAsksWord_64 : a_fetch 261 64 = some (.goto 174, 67) := by decide +kernel
theorem fX10_qAsksWord_67 : a_fetch 261 67 = some (.aload 0, 68) := by decide +kernel
theorem fX10_qAsksWord_68 : a_fetch 261 68 = some (.aload 0, 69) := by decide +kernel
theorem fX10_qAsksWord_69 : a_fetch 261 69 = some (.invokeinterface 10 88, 72) := by decide +kernel
theorem fX10_qAsksWord_72 : a_fetch 261 72 = some (.invokevirtual 168, 75) := by decide +kernel
theorem fX10_qAsksWord_75 : a_fetch 261 75 = some (.goto 174, 78) := by decide +kernel
theorem fX10_qAsksWord_78 : a_fetch 261 78 = some (.aload 0, 79) := by decide +kernel
theorem fX10_qAsksWord_79 : a_fetch 261 79 = some (.aload 0, 80) := by decide +kernel
theorem fX10_qAsksWord_80 : a_fetch 261 80 = some (.invokeinterface 10 89, 83) := by decide +kernel
theorem fX10_qAsksWord_83 : a_fetch 261 83 = some (.invokevirtual 168, 86) := by decide +kernel
theorem fX10_qAsksWord_86 : a_fetch 261 86 = some (.goto 174, 89) := by decide +kernel
theorem fX10_qAsksWord_89 : a_fetch 261 89 = some (.aload 0, 90) := by decide +kernel
theorem fX10_qAsksWord_90 : a_fetch 261 90 = some (.aload 0, 91) := by decide +kernel
theorem fX10_qAsksWord_91 : a_fetch 261 91 = some (.invokeinterface 10 90, 94) := by decide +kernel
theorem fX10_qAsksWord_94 : a_fetch 261 94 = some (.invokevirtual 168, 97) := by decide +kernel
theorem fX10_qAsksWord_97 : a_fetch 261 97 = some (.goto 174, 100) := by decide +kernel
theorem fX10_qAsksWord_100 : a_fetch 261 100 = some (.aload 0, 101) := by decide +kernel
theorem fX10_qAsksWord_101 : a_fetch 261 101 = some (.aload 0, 102) := by decide +kernel
theorem fX10_qAsksWord_102 : a_fetch 261 102 = some (.invokeinterface 10 91, 105) := by decide +kernel
theorem fX10_qAsksWord_105 : a_fetch 261 105 = some (.invokevirtual 168, 108) := by decide +kernel
theorem fX10_qAsksWord_108 : a_fetch 261 108 = some (.goto 174, 111) := by decide +kernel
theorem fX10_qAsksWord_111 : a_fetch 261 111 = some (.aload 0, 112) := by decide +kernel
theorem fX10_qAsksWord_112 : a_fetch 261 112 = some (.aload 0, 113) := by decide +kernel
theorem fX10_qAsksWord_113 : a_fetch 261 113 = some (.invokeinterface 10 92, 116) := by decide +kernel
theorem fX10_qAsksWord_116 : a_fetch 261 116 = some (.invokevirtual 168, 119) := by decide +kernel
theorem fX10_qAsksWord_119 : a_fetch 261 119 = some (.goto 174, 122) := by decide +kernel
theorem fX10_qAsksWord_122 : a_fetch 261 122 = some (.aload 0, 123) := by decide +kernel
theorem fX10_qAsksWord_123 : a_fetch 261 123 = some (.aload 0, 124) := by decide +kernel
theorem fX10_qAsksWord_124 : a_fetch 261 124 = some (.invokeinterface 10 93, 127) := by decide +kernel
theorem fX10_qAsksWord_127 : a_fetch 261 127 = some (.invokevirtual 168, 130) := by decide +kernel
theorem fX10_qAsksWord_130 : a_fetch 261 130 = some (.goto 174, 133) := by decide +kernel
theorem fX10_qAsksWord_133 : a_fetch 261 133 = some (.aload 0, 134) := by decide +kernel
theorem fX10_qAsksWord_134 : a_fetch 261 134 = some (.aload 0, 135) := by decide +kernel
theorem fX10_qAsksWord_135 : a_fetch 261 135 = some (.invokeinterface 10 94, 138) := by decide +kernel
theorem fX10_qAsksWord_138 : a_fetch 261 138 = some (.invokevirtual 168, 141) := by decide +kernel
theorem fX10_qAsksWord_141 : a_fetch 261 141 = some (.goto 174, 144) := by decide +kernel
theorem fX10_qAsksWord_144 : a_fetch 261 144 = some (.aload 0, 145) := by decide +kernel
theorem fX10_qAsksWord_145 : a_fetch 261 145 = some (.aload 0, 146) := by decide +kernel
theorem fX10_qAsksWord_146 : a_fetch 261 146 = some (.invokeinterface 10 95, 149) := by decide +kernel
theorem fX10_qAsksWord_149 : a_fetch 261 149 = some (.invokevirtual 168, 152) := by decide +kernel
theorem fX10_qAsksWord_152 : a_fetch 261 152 = some (.goto 174, 155) := by decide +kernel
theorem fX10_qAsksWord_155 : a_fetch 261 155 = some (.aload 0, 156) := by decide +kernel
theorem fX10_qAsksWord_156 : a_fetch 261 156 = some (.aload 0, 157) := by decide +kernel
theorem fX10_qAsksWord_157 : a_fetch 261 157 = some (.invokeinterface 10 96, 160) := by decide +kernel
theorem fX10_qAsksWord_160 : a_fetch 261 160 = some (.invokevirtual 168, 163) := by decide +kernel
theorem fX10_qAsksWord_163 : a_fetch 261 163 = some (.goto 174, 166) := by decide +kernel
theorem fX10_qAsksWord_166 : a_fetch 261 166 = some (.aload 0, 167) := by decide +kernel
theorem fX10_qAsksWord_167 : a_fetch 261 167 = some (.aload 0, 168) := by decide +kernel
theorem fX10_qAsksWord_168 : a_fetch 261 168 = some (.invokeinterface 10 89, 171) := by decide +kernel
theorem fX10_qAsksWord_171 : a_fetch 261 171 = some (.invokevirtual 168, 174) := by decide +kernel
theorem fX10_qAsksWord_174 : a_fetch 261 174 = some (.return_, 175) := by decide +kernel
theorem fX10_qEndsPart_0 : a_fetch 262 0 = some (.aload 0, 1) := by decide +kernel
theorem fX10_qEndsPart_1 : a_fetch 262 1 = some (.invokeinterface 10 5, 4) := by decide +kernel
theorem fX10_qEndsPart_4 : a_fetch 262 4 = some (.ifCond .ne 51, 7) := by decide +kernel
theorem fX10_qEndsPart_7 : a_fetch 262 7 = some (.aload 0, 8) := by decide +kernel
theorem fX10_qEndsPart_8 : a_fetch 262 8 = some (.invokeinterface 10 100, 11) := by decide +kernel
theorem fX10_qEndsPart_11 : a_fetch 262 11 = some (.aload 0, 12) := by decide +kernel
theorem fX10_qEndsPart_12 : a_fetch 262 12 = some (.invokeinterface 10 102, 15) := by decide +kernel
theorem fX10_qEndsPart_15 : a_fetch 262 15 = some (.if_icmp .le 51, 18) := by decide +kernel
theorem fX10_qEndsPart_18 : a_fetch 262 18 = some (.aload 0, 19) := by decide +kernel
theorem fX10_qEndsPart_19 : a_fetch 262 19 = some (.invokeinterface 10 99, 22) := by decide +kernel
theorem fX10_qEndsPart_22 : a_fetch 262 22 = some (.aload 0, 23) := by decide +kernel
theorem fX10_qEndsPart_23 : a_fetch 262 23 = some (.invokeinterface 10 100, 26) := by decide +kernel
theorem fX10_qEndsPart_26 : a_fetch 262 26 = some (.iconst 1, 27) := by decide +kernel
theorem fX10_qEndsPart_27 : a_fetch 262 27 = some (.isub, 28) := by decide +kernel
theorem fX10_qEndsPart_28 : a_fetch 262 28 = some (.iaload, 29) := by decide +kernel
theorem fX10_qEndsPart_29 : a_fetch 262 29 = some (.iconst 60, 31) := by decide +kernel
theorem fX10_qEndsPart_31 : a_fetch 262 31 = some (.if_icmp .lt 51, 34) := by decide +kernel
theorem fX10_qEndsPart_34 : a_fetch 262 34 = some (.aload 0, 35) := by decide +kernel
theorem fX10_qEndsPart_35 : a_fetch 262 35 = some (.dup, 36) := by decide +kernel
theorem fX10_qEndsPart_36 : a_fetch 262 36 = some (.invokeinterface 10 101, 39) := by decide +kernel
theorem fX10_qEndsPart_39 : a_fetch 262 39 = some (.iconst 1, 40) := by decide +kernel
theorem fX10_qEndsPart_40 : a_fetch 262 40 = some (.isub, 41) := by decide +kernel
theorem fX10_qEndsPart_41 : a_fetch 262 41 = some (.multianewarray 10 101, 44) := by decide +kernel
theorem fX10_qEndsPart_44 : a_fetch 262 44 = some (.aload 0, 45) := by decide +kernel
theorem fX10_qEndsPart_45 : a_fetch 262 45 = some (.invokevirtual 255, 48) := by decide +kernel
theorem fX10_qEndsPart_48 : a_fetch 262 48 = some (.goto 0, 51) := by decide +kernel
theorem fX10_qEndsPart_51 : a_fetch 262 51 = some (.return_, 52) := by decide +kernel
theorem fX10_qPartTold_0 : a_fetch 263 0 = some (.iconst 1, 1) := by decide +kernel
theorem fX10_qPartTold_1 : a_fetch 263 1 = some (.istore 1, 2) := by decide +kernel
theorem fX10_qPartTold_2 : a_fetch 263 2 = some (.iload 1, 3) := by decide +kernel
theorem fX10_qPartTold_3 : a_fetch 263 3 = some (.ifCond .eq 186, 6) := by decide +kernel
theorem fX10_qPartTold_6 : a_fetch 263 6 = some (.aload 0, 7) := by decide +kernel
theorem fX10_qPartTold_7 : a_fetch 263 7 = some (.invokeinterface 10 5, 10) := by decide +kernel
theorem fX10_qPartTold_10 : a_fetch 263 10 = some (.ifCond .ne 186, 13) := by decide +kernel
theorem fX10_qPartTold_13 : a_fetch 263 13 = some (.aload 0, 14) := by decide +kernel
theorem fX10_qPartTold_14 : a_fetch 263 14 = some (.invokevirtual 165, 17) := by decide +kernel
theorem fX10_qPartTold_17 : a_fetch 263 17 = some (.istore 2, 18) := by decide +kernel
theorem fX10_qPartTold_18 : a_fetch 263 18 = some (.aload 0, 19) := by decide +kernel
theorem fX10_qPartTold_19 : a_fetch 263 19 = some (.iconst 10, 21) := by decide +kernel
theorem fX10_qPartTold_21 : a_fetch 263 21 = some (.iconst 11, 23) := by decide +kernel
theorem fX10_qPartTold_23 : a_fetch 263 23 = some (.invokevirtual 260, 26) := by decide +kernel
theorem fX10_qPartTold_26 : a_fetch 263 26 = some (.istore 3, 27) := by decide +kernel
theorem fX10_qPartTold_27 : a_fetch 263 27 = some (.iload 2, 28) := by decide +kernel
theorem fX10_qPartTold_28 : a_fetch 263 28 = some (.iconst 40, 30) := by decide +kernel
theorem fX10_qPartTold_30 : a_fetch 263 30 = some (.if_icmp .ne 56, 33) := by decide +kernel
theorem fX10_qPartTold_33 : a_fetch 263 33 = some (.aload 0, 34) := by decide +kernel
theorem fX10_qPartTold_34 : a_fetch 263 34 = some (.iconst 20, 36) := by decide +kernel
theorem fX10_qPartTold_36 : a_fetch 263 36 = some (.aload 0, 37) := by decide +kernel
theorem fX10_qPartTold_37 : a_fetch 263 37 = some (.invokeinterface 10 2, 40) := by decide +kernel
theorem fX10_qPartTold_40 : a_fetch 263 40 = some (.invokevirtual 253, 43) := by decide +kernel
theorem fX10_qPartTold_43 : a_fetch 263 43 = some (.aload 0, 44) := by decide +kernel
theorem fX10_qPartTold_44 : a_fetch 263 44 = some (.dup, 45) := by decide +kernel
theorem fX10_qPartTold_45 : a_fetch 263 45 = some (.invokeinterface 10 2, 48) := by decide +kernel
theorem fX10_qPartTold_48 : a_fetch 263 48 = some (.iconst 1, 49) := by decide +kernel
theorem fX10_qPartTold_49 : a_fetch 263 49 = some (.iadd, 50) := by decide +kernel
theorem fX10_qPartTold_50 : a_fetch 263 50 = some (.multianewarray 10 2, 53) := by decide +kernel
theorem fX10_qPartTold_53 : a_fetch 263 53 = some (.goto 183, 56) := by decide +kernel
theorem fX10_qPartTold_56 : a_fetch 263 56 = some (.aload 0, 57) := by decide +kernel
theorem fX10_qPartTold_57 : a_fetch 263 57 = some (.aload 0, 58) := by decide +kernel
theorem fX10_qPartTold_58 : a_fetch 263 58 = some (.invokeinterface 10 85, 61) := by decide +kernel
theorem fX10_qPartTold_61 : a_fetch 263 61 = some (.invokevirtual 166, 64) := by decide +kernel
theorem fX10_qPartTold_64 : a_fetch 263 64 = some (.ifCond .ne 78, 67) := by decide +kernel
theorem fX10_qPartTold_67 : a_fetch 263 67 = some (.aload 0, 68) := by decide +kernel
theorem fX10_qPartTold_68 : a_fetch 263 68 = some (.aload 0, 69) := by decide +kernel
theorem fX10_qPartTold_69 : a_fetch 263 69 = some (.invokeinterface 10 86, 72) := by decide +kernel
theorem fX10_qPartTold_72 : a_fetch 263 72 = some (.invokevirtual 166, 75) := by decide +kernel
theorem fX10_qPartTold_75 : a_fetch 263 75 = some (.ifCond .eq 153, 78) := by decide +kernel
theorem fX10_qPartTold_78 : a_fetch 263 78 = some (.aload 0, 79) := by decide +kernel
theorem fX10_qPartTold_79 : a_fetch 263 79 = some (.aload 0, 80) := by decide +kernel
theorem fX10_qPartTold_80 : a_fetch 263 80 = some (.invokeinterface 10 85, 83) := by decide +kernel
theorem fX10_qPartTold_83 : a_fetch 263 83 = some (.invokevirtual 167, 86) := by decide +kernel
theorem fX10_qPartTold_86 : a_fetch 263 86 = some (.istore 4, 88) := by decide +kernel
theorem fX10_qPartTold_88 : a_fetch 263 88 = some (.iload 4, 90) := by decide +kernel
theorem fX10_qPartTold_90 : a_fetch 263 90 = some (.ifCond .ne 101, 93) := by decide +kernel
theorem fX10_qPartTold_93 : a_fetch 263 93 = some (.aload 0, 94) := by decide +kernel
theorem fX10_qPartTold_94 : a_fetch 263 94 = some (.aload 0, 95) := by decide +kernel
theorem fX10_qPartTold_95 : a_fetch 263 95 = some (.invokeinterface 10 86, 98) := by decide +kernel
theorem fX10_qPartTold_98 : a_fetch 263 98 = some (.invokevirtual 168, 101) := by decide +kernel
theorem fX10_qPartTold_101 : a_fetch 263 101 = some (.aload 0, 102) := by decide +kernel
theorem fX10_qPartTold_102 : a_fetch 263 102 = some (.invokevirtual 165, 105) := by decide +kernel
theorem fX10_qPartTold_105 : a_fetch 263 105 = some (.iconst 40, 107) := by decide +kernel
theorem fX10_qPartTold_107 : a_fetch 263 107 = some (.if_icmp .ne 117, 110) := by decide +kernel
theorem fX10_qPartTold_110 : a_fetch 263 110 = some (.aload 0, 111) := by decide +kernel
theorem fX10_qPartTold_111 : a_fetch 263 111 = some (.invokeinterface 10 2, 114) := by decide +kernel
theorem fX10_qPartTold_114 : a_fetch 263 114 = some (.goto 118, 117) := by decide +kernel
theorem fX10_qPartTold_117 : a_fetch 263 117 = some (.iconst (-1), 118) := by decide +kernel
theorem fX10_qPartTold_118 : a_fetch 263 118 = some (.istore 5, 120) := by decide +kernel
theorem fX10_qPartTold_120 : a_fetch 263 120 = some (.iload 5, 122) := by decide +kernel
theorem fX10_qPartTold_122 : a_fetch 263 122 = some (.iconst (-1), 123) := by decide +kernel
theorem fX10_qPartTold_123 : a_fetch 263 123 = some (.if_icmp .eq 144, 126) := by decide +kernel
theorem fX10_qPartTold_126 : a_fetch 263 126 = some (.aload 0, 127) := by decide +kernel
theorem fX10_qPartTold_127 : a_fetch 263 127 = some (.iload 4, 129) := by decide +kernel
theorem fX10_qPartTold_129 : a_fetch 263 129 = some (.ifCond .eq 137, 132) := by decide +kernel
theorem fX10_qPartTold_132 : a_fetch 263 132 = some (.iconst 21, 134) := by decide +kernel
theorem fX10_qPartTold_134 : a_fetch 263 134 = some (.goto 139, 137) := by decide +kernel
theorem fX10_qPartTold_137 : a_fetch 263 137 = some (.iconst 22, 139) := by decide +kernel
theorem fX10_qPartTold_139 : a_fetch 263 139 = some (.iload 5, 141) := by decide +kernel
theorem fX10_qPartTold_141 : a_fetch 263 141 = some (.invokevirtual 253, 144) := by decide +kernel
theorem fX10_qPartTold_144 : a_fetch 263 144 = some (.aload 0, 145) := by decide +kernel
theorem fX10_qPartTold_145 : a_fetch 263 145 = some (.iconst 40, 147) := by decide +kernel
theorem fX10_qPartTold_147 : a_fetch 263 147 = some (.invokevirtual 170, 150) := by decide +kernel
theorem fX10_qPartTold_150 : a_fetch 263 150 = some (.goto 183, 153) := by decide +kernel
theorem fX10_qPartTold_153 : a_fetch 263 153 = some (.iload 3, 154) := by decide +kernel
theorem fX10_qPartTold_154 : a_fetch 263 154 = some (.iconst (-1), 155) := by decide +kernel
theorem fX10_qPartTold_155 : a_fetch 263 155 = some (.if_icmp .eq 181, 158) := by decide +kernel
theorem fX10_qPartTold_158 : a_fetch 263 158 = some (.aload 0, 159) := by decide +kernel
theorem fX10_qPartTold_159 : a_fetch 263 159 = some (.iconst 60, 161) := by decide +kernel
theorem fX10_qPartTold_161 : a_fetch 263 161 = some (.iload 3, 162) := by decide +kernel
theorem fX10_qPartTold_162 : a_fetch 263 162 = some (.iadd, 163) := by decide +kernel
theorem fX10_qPartTold_163 : a_fetch 263 163 = some (.iconst 10, 165) := by decide +kernel
theorem fX10_qPartTold_165 : a_fetch 263 165 = some (.isub, 166) := by decide +kernel
theorem fX10_qPartTold_166 : a_fetch 263 166 = some (.aload 0, 167) := by decide +kernel
theorem fX10_qPartTold_167 : a_fetch 263 167 = some (.invokeinterface 10 2, 170) := by decide +kernel
theorem fX10_qPartTold_170 : a_fetch 263 170 = some (.invokevirtual 253, 173) := by decide +kernel
theorem fX10_qPartTold_173 : a_fetch 263 173 = some (.aload 0, 174) := by decide +kernel
theorem fX10_qPartTold_174 : a_fetch 263 174 = some (.iload 3, 175) := by decide +kernel
theorem fX10_qPartTold_175 : a_fetch 263 175 = some (.invokevirtual 261, 178) := by decide +kernel
theorem fX10_qPartTold_178 : a_fetch 263 178 = some (.goto 183, 181) := by decide +kernel
theorem fX10_qPartTold_181 : a_fetch 263 181 = some (.iconst 0, 182) := by decide +kernel
theorem fX10_qPartTold_182 : a_fetch 263 182 = some (.istore 1, 183) := by decide +kernel
theorem fX10_qPartTold_183 : a_fetch 263 183 = some (.goto 2, 186) := by decide +kernel
theorem fX10_qPartTold_186 : a_fetch 263 186 = some (.aload 0, 187) := by decide +kernel
theorem fX10_qPartTold_187 : a_fetch 263 187 = some (.invokeinterface 10 5, 190) := by decide +kernel
theorem fX10_qPartTold_190 : a_fetch 263 190 = some (.ifCond .eq 194, 193) := by decide +kernel
theorem fX10_qPartTold_193 : a_fetch 263 193 = some (.return_, 194) := by decide +kernel
theorem fX10_qPartTold_194 : a_fetch 263 194 = some (.aload 0, 195) := by decide +kernel
theorem fX10_qPartTold_195 : a_fetch 263 195 = some (.iconst 0, 196) := by decide +kernel
theorem fX10_qPartTold_196 : a_fetch 263 196 = some (.iconst 10, 198) := by decide +kernel
theorem fX10_qPartTold_198 : a_fetch 263 198 = some (.invokevirtual 260, 201) := by decide +kernel
theorem fX10_qPartTold_201 : a_fetch 263 201 = some (.istore 2, 202) := by decide +kernel
theorem fX10_qPartTold_202 : a_fetch 263 202 = some (.iload 2, 203) := by decide +kernel
theorem fX10_qPartTold_203 : a_fetch 263 203 = some (.iconst (-1), 204) := by decide +kernel
theorem fX10_qPartTold_204 : a_fetch 263 204 = some (.if_icmp .eq 212, 207) := by decide +kernel
theorem fX10_qPartTold_207 : a_fetch 263 207 = some (.aload 0, 208) := by decide +kernel
theorem fX10_qPartTold_208 : a_fetch 263 208 = some (.iload 2, 209) := by decide +kernel
theorem fX10_qPartTold_209 : a_fetch 263 209 = some (.invokevirtual 261, 212) := by decide +kernel
theorem fX10_qPartTold_212 : a_fetch 263 212 = some (.aload 0, 213) := by decide +kernel
theorem fX10_qPartTold_213 : a_fetch 263 213 = some (.iload 2, 214) := by decide +kernel
theorem fX10_qPartTold_214 : a_fetch 263 214 = some (.iconst (-1), 215) := by decide +kernel
theorem fX10_qPartTold_215 : a_fetch 263 215 = some (.if_icmp .eq 225, 218) := by decide +kernel
theorem fX10_qPartTold_218 : a_fetch 263 218 = some (.iconst 40, 220) := by decide +kernel
theorem fX10_qPartTold_220 : a_fetch 263 220 = some (.iload 2, 221) := by decide +kernel
theorem fX10_qPartTold_221 : a_fetch 263 221 = some (.iadd, 222) := by decide +kernel
theorem fX10_qPartTold_222 : a_fetch 263 222 = some (.goto 237, 225) := by decide +kernel
theorem fX10_qPartTold_225 : a_fetch 263 225 = some (.iconst 1000, 228) := by decide +kernel
theorem fX10_qPartTold_228 : a_fetch 263 228 = some (.aload 0, 229) := by decide +kernel
theorem fX10_qPartTold_229 : a_fetch 263 229 = some (.iconst 0, 230) := by decide +kernel
theorem fX10_qPartTold_230 : a_fetch 263 230 = some (.iconst 9999, 233) := by decide +kernel
theorem fX10_qPartTold_233 : a_fetch 263 233 = some (.invokevirtual 171, 236) := by decide +kernel
theorem fX10_qPartTold_236 : a_fetch 263 236 = some (.iadd, 237) := by decide +kernel
theorem fX10_qPartTold_237 : a_fetch 263 237 = some (.invokevirtual 252, 240) := by decide +kernel
theorem fX10_qPartTold_240 : a_fetch 263 240 = some (.aload 0, 241) := by decide +kernel
theorem fX10_qPartTold_241 : a_fetch 263 241 = some (.invokevirtual 262, 244) := by decide +kernel
theorem fX10_qPartTold_244 : a_fetch 263 244 = some (.return_, 245) := by decide +kernel
theorem fX10_qGoesOn_0 : a_fetch 264 0 = some (.aload 0, 1) := by decide +kernel
theorem fX10_qGoesOn_1 : a_fetch 264 1 = some (.invokeinterface 10 5, 4) := by decide +kernel
theorem fX10_qGoesOn_4 : a_fetch 264 4 = some (.ifCond .ne 122, 7) := by decide +kernel
theorem fX10_qGoesOn_7 : a_fetch 264 7 = some (.aload 0, 8) := by decide +kernel
theorem fX10_qGoesOn_8 : a_fetch 264 8 = some (.invokevirtual 165, 11) := by decide +kernel
theorem fX10_qGoesOn_11 : a_fetch 264 11 = some (.iconst 41, 13) := by decide +kernel
theorem fX10_qGoesOn_13 : a_fetch 264 13 = some (.if_icmp .ne 122, 16) := by decide +kernel
theorem fX10_qGoesOn_16 : a_fetch 264 16 = some (.aload 0, 17) := by decide +kernel
theorem fX10_qGoesOn_17 : a_fetch 264 17 = some (.invokevirtual 257, 20) := by decide +kernel
theorem fX10_qGoesOn_20 : a_fetch 264 20 = some (.iconst 20, 22) := by decide +kernel
theorem fX10_qGoesOn_22 : a_fetch 264 22 = some (.if_icmp .eq 43, 25) := by decide +kernel
theorem fX10_qGoesOn_25 : a_fetch 264 25 = some (.aload 0, 26) := by decide +kernel
theorem fX10_qGoesOn_26 : a_fetch 264 26 = some (.invokevirtual 257, 29) := by decide +kernel
theorem fX10_qGoesOn_29 : a_fetch 264 29 = some (.iconst 23, 31) := by decide +kernel
theorem fX10_qGoesOn_31 : a_fetch 264 31 = some (.if_icmp .eq 43, 34) := by decide +kernel
theorem fX10_qGoesOn_34 : a_fetch 264 34 = some (.aload 0, 35) := by decide +kernel
theorem fX10_qGoesOn_35 : a_fetch 264 35 = some (.invokevirtual 257, 38) := by decide +kernel
theorem fX10_qGoesOn_38 : a_fetch 264 38 = some (.iconst 24, 40) := by decide +kernel
theorem fX10_qGoesOn_40 : a_fetch 264 40 = some (.if_icmp .ne 122, 43) := by decide +kernel
theorem fX10_qGoesOn_43 : a_fetch 264 43 = some (.aload 0, 44) := by decide +kernel
theorem fX10_qGoesOn_44 : a_fetch 264 44 = some (.dup, 45) := by decide +kernel
theorem fX10_qGoesOn_45 : a_fetch 264 45 = some (.invokeinterface 10 2, 48) := by decide +kernel
theorem fX10_qGoesOn_48 : a_fetch 264 48 = some (.iconst 1, 49) := by decide +kernel
theorem fX10_qGoesOn_49 : a_fetch 264 49 = some (.iadd, 50) := by decide +kernel
theorem fX10_qGoesOn_50 : a_fetch 264 50 = some (.multianewarray 10 2, 53) := by decide +kernel
theorem fX10_qGoesOn_53 : a_fetch 264 53 = some (.aload 0, 54) := by decide +kernel
theorem fX10_qGoesOn_54 : a_fetch 264 54 = some (.invokevirtual 258, 57) := by decide +kernel
theorem fX10_qGoesOn_57 : a_fetch 264 57 = some (.aload 0, 58) := by decide +kernel
theorem fX10_qGoesOn_58 : a_fetch 264 58 = some (.dup, 59) := by decide +kernel
theorem fX10_qGoesOn_59 : a_fetch 264 59 = some (.invokeinterface 10 100, 62) := by decide +kernel
theorem fX10_qGoesOn_62 : a_fetch 264 62 = some (.iconst 1, 63) := by decide +kernel
theorem fX10_qGoesOn_63 : a_fetch 264 63 = some (.isub, 64) := by decide +kernel
theorem fX10_qGoesOn_64 : a_fetch 264 64 = some (.multianewarray 10 100, 67) := by decide +kernel
theorem fX10_qGoesOn_67 : a_fetch 264 67 = some (.aload 0, 68) := by decide +kernel
theorem fX10_qGoesOn_68 : a_fetch 264 68 = some (.dup, 69) := by decide +kernel
theorem fX10_qGoesOn_69 : a_fetch 264 69 = some (.invokeinterface 10 101, 72) := by decide +kernel
theorem fX10_qGoesOn_72 : a_fetch 264 72 = some (.iconst 1, 73) := by decide +kernel
theorem fX10_qGoesOn_73 : a_fetch 264 73 = some (.isub, 74) := by decide +kernel
theorem fX10_qGoesOn_74 : a_fetch 264 74 = some (.multianewarray 10 101, 77) := by decide +kernel
theorem fX10_qGoesOn_77 : a_fetch 264 77 = some (.aload 0, 78) := by decide +kernel
theorem fX10_qGoesOn_78 : a_fetch 264 78 = some (.invokeinterface 10 99, 81) := by decide +kernel
theorem fX10_qGoesOn_81 : a_fetch 264 81 = some (.aload 0, 82) := by decide +kernel
theorem fX10_qGoesOn_82 : a_fetch 264 82 = some (.invokeinterface 10 100, 85) := by decide +kernel
theorem fX10_qGoesOn_85 : a_fetch 264 85 = some (.iaload, 86) := by decide +kernel
theorem fX10_qGoesOn_86 : a_fetch 264 86 = some (.iconst 20, 88) := by decide +kernel
theorem fX10_qGoesOn_88 : a_fetch 264 88 = some (.if_icmp .eq 115, 91) := by decide +kernel
theorem fX10_qGoesOn_91 : a_fetch 264 91 = some (.aload 0, 92) := by decide +kernel
theorem fX10_qGoesOn_92 : a_fetch 264 92 = some (.aload 0, 93) := by decide +kernel
theorem fX10_qGoesOn_93 : a_fetch 264 93 = some (.invokeinterface 10 99, 96) := by decide +kernel
theorem fX10_qGoesOn_96 : a_fetch 264 96 = some (.aload 0, 97) := by decide +kernel
theorem fX10_qGoesOn_97 : a_fetch 264 97 = some (.invokeinterface 10 100, 100) := by decide +kernel
theorem fX10_qGoesOn_100 : a_fetch 264 100 = some (.iaload, 101) := by decide +kernel
theorem fX10_qGoesOn_101 : a_fetch 264 101 = some (.iconst 23, 103) := by decide +kernel
theorem fX10_qGoesOn_103 : a_fetch 264 103 = some (.if_icmp .ne 110, 106) := by decide +kernel
theorem fX10_qGoesOn_106 : a_fetch 264 106 = some (.iconst 5, 107) := by decide +kernel
theorem fX10_qGoesOn_107 : a_fetch 264 107 = some (.goto 112, 110) := by decide +kernel
theorem fX10_qGoesOn_110 : a_fetch 264 110 = some (.iconst 6, 112) := by decide +kernel
theorem fX10_qGoesOn_112 : a_fetch 264 112 = some (.invokevirtual 252, 115) := by decide +kernel
theorem fX10_qGoesOn_115 : a_fetch 264 115 = some (.aload 0, 116) := by decide +kernel
theorem fX10_qGoesOn_116 : a_fetch 264 116 = some (.invokevirtual 262, 119) := by decide +kernel
theorem fX10_qGoesOn_119 : a_fetch 264 119 = some (.goto 0, 122) := by decide +kernel
theorem fX10_qGoesOn_122 : a_fetch 264 122 = some (.aload 0, 123) := by decide +kernel
theorem fX10_qGoesOn_123 : a_fetch 264 123 = some (.iconst 42, 125) := by decide +kernel
theorem fX10_qGoesOn_125 : a_fetch 264 125 = some (.invokevirtual 169, 128) := by decide +kernel
theorem fX10_qGoesOn_128 : a_fetch 264 128 = some (.ifCond .ne 140, 131) := by decide +kernel
theorem fX10_qGoesOn_131 : a_fetch 264 131 = some (.aload 0, 132) := by decide +kernel
theorem fX10_qGoesOn_132 : a_fetch 264 132 = some (.iconst 47, 134) := by decide +kernel
theorem fX10_qGoesOn_134 : a_fetch 264 134 = some (.invokevirtual 169, 137) := by decide +kernel
theorem fX10_qGoesOn_137 : a_fetch 264 137 = some (.ifCond .eq 207, 140) := by decide +kernel
theorem fX10_qGoesOn_140 : a_fetch 264 140 = some (.aload 0, 141) := by decide +kernel
theorem fX10_qGoesOn_141 : a_fetch 264 141 = some (.invokeinterface 10 0, 144) := by decide +kernel
theorem fX10_qGoesOn_144 : a_fetch 264 144 = some (.aload 0, 145) := by decide +kernel
theorem fX10_qGoesOn_145 : a_fetch 264 145 = some (.invokeinterface 10 2, 148) := by decide +kernel
theorem fX10_qGoesOn_148 : a_fetch 264 148 = some (.iconst 1, 149) := by decide +kernel
theorem fX10_qGoesOn_149 : a_fetch 264 149 = some (.isub, 150) := by decide +kernel
theorem fX10_qGoesOn_150 : a_fetch 264 150 = some (.iaload, 151) := by decide +kernel
theorem fX10_qGoesOn_151 : a_fetch 264 151 = some (.iconst 42, 153) := by decide +kernel
theorem fX10_qGoesOn_153 : a_fetch 264 153 = some (.if_icmp .ne 160, 156) := by decide +kernel
theorem fX10_qGoesOn_156 : a_fetch 264 156 = some (.iconst 3, 157) := by decide +kernel
theorem fX10_qGoesOn_157 : a_fetch 264 157 = some (.goto 161, 160) := by decide +kernel
theorem fX10_qGoesOn_160 : a_fetch 264 160 = some (.iconst 4, 161) := by decide +kernel
theorem fX10_qGoesOn_161 : a_fetch 264 161 = some (.istore 1, 162) := by decide +kernel
theorem fX10_qGoesOn_162 : a_fetch 264 162 = some (.aload 0, 163) := by decide +kernel
theorem fX10_qGoesOn_163 : a_fetch 264 163 = some (.iconst 3, 164) := by decide +kernel
theorem fX10_qGoesOn_164 : a_fetch 264 164 = some (.invokevirtual 254, 167) := by decide +kernel
theorem fX10_qGoesOn_167 : a_fetch 264 167 = some (.ifCond .ne 178, 170) := by decide +kernel
theorem fX10_qGoesOn_170 : a_fetch 264 170 = some (.aload 0, 171) := by decide +kernel
theorem fX10_qGoesOn_171 : a_fetch 264 171 = some (.iconst 4, 172) := by decide +kernel
theorem fX10_qGoesOn_172 : a_fetch 264 172 = some (.invokevirtual 254, 175) := by decide +kernel
theorem fX10_qGoesOn_175 : a_fetch 264 175 = some (.ifCond .eq 185, 178) := by decide +kernel
theorem fX10_qGoesOn_178 : a_fetch 264 178 = some (.aload 0, 179) := by decide +kernel
theorem fX10_qGoesOn_179 : a_fetch 264 179 = some (.invokevirtual 255, 182) := by decide +kernel
theorem fX10_qGoesOn_182 : a_fetch 264 182 = some (.goto 162, 185) := by decide +kernel
theorem fX10_qGoesOn_185 : a_fetch 264 185 = some (.aload 0, 186) := by decide +kernel
theorem fX10_qGoesOn_186 : a_fetch 264 186 = some (.invokeinterface 10 99, 189) := by decide +kernel
theorem fX10_qGoesOn_189 : a_fetch 264 189 = some (.aload 0, 190) := by decide +kernel
theorem fX10_qGoesOn_190 : a_fetch 264 190 = some (.invokeinterface 10 100, 193) := by decide +kernel
theorem fX10_qGoesOn_193 : a_fetch 264 193 = some (.iload 1, 194) := by decide +kernel
theorem fX10_qGoesOn_194 : a_fetch 264 194 = some (.iastore, 195) := by decide +kernel
theorem fX10_qGoesOn_195 : a_fetch 264 195 = some (.aload 0, 196) := by decide +kernel
theorem fX10_qGoesOn_196 : a_fetch 264 196 = some (.dup, 197) := by decide +kernel
theorem fX10_qGoesOn_197 : a_fetch 264 197 = some (.invokeinterface 10 100, 200) := by decide +kernel
theorem fX10_qGoesOn_200 : a_fetch 264 200 = some (.iconst 1, 201) := by decide +kernel
theorem fX10_qGoesOn_201 : a_fetch 264 201 = some (.iadd, 202) := by decide +kernel
theorem fX10_qGoesOn_202 : a_fetch 264 202 = some (.multianewarray 10 100, 205) := by decide +kernel
theorem fX10_qGoesOn_205 : a_fetch 264 205 = some (.iconst 1, 206) := by decide +kernel
theorem fX10_qGoesOn_206 : a_fetch 264 206 = some (.ireturn, 207) := by decide +kernel
theorem fX10_qGoesOn_207 : a_fetch 264 207 = some (.aload 0, 208) := by decide +kernel
theorem fX10_qGoesOn_208 : a_fetch 264 208 = some (.iconst 43, 210) := by decide +kernel
theorem fX10_qGoesOn_210 : a_fetch 264 210 = some (.invokevirtual 169, 213) := by decide +kernel
theorem fX10_qGoesOn_213 : a_fetch 264 213 = some (.ifCond .ne 225, 216) := by decide +kernel
theorem fX10_qGoesOn_216 : a_fetch 264 216 = some (.aload 0, 217) := by decide +kernel
theorem fX10_qGoesOn_217 : a_fetch 264 217 = some (.iconst 45, 219) := by decide +kernel
theorem fX10_qGoesOn_219 : a_fetch 264 219 = some (.invokevirtual 169, 222) := by decide +kernel
theorem fX10_qGoesOn_222 : a_fetch 264 222 = some (.ifCond .eq 308, 225) := by decide +kernel
theorem fX10_qGoesOn_225 : a_fetch 264 225 = some (.aload 0, 226) := by decide +kernel
theorem fX10_qGoesOn_226 : a_fetch 264 226 = some (.invokeinterface 10 0, 229) := by decide +kernel
theorem fX10_qGoesOn_229 : a_fetch 264 229 = some (.aload 0, 230) := by decide +kernel
theorem fX10_qGoesOn_230 : a_fetch 264 230 = some (.invokeinterface 10 2, 233) := by decide +kernel
theorem fX10_qGoesOn_233 : a_fetch 264 233 = some (.iconst 1, 234) := by decide +kernel
theorem fX10_qGoesOn_234 : a_fetch 264 234 = some (.isub, 235) := by decide +kernel
theorem fX10_qGoesOn_235 : a_fetch 264 235 = some (.iaload, 236) := by decide +kernel
theorem fX10_qGoesOn_236 : a_fetch 264 236 = some (.iconst 43, 238) := by decide +kernel
theorem fX10_qGoesOn_238 : a_fetch 264 238 = some (.if_icmp .ne 245, 241) := by decide +kernel
theorem fX10_qGoesOn_241 : a_fetch 264 241 = some (.iconst 1, 242) := by decide +kernel
theorem fX10_qGoesOn_242 : a_fetch 264 242 = some (.goto 246, 245) := by decide +kernel
theorem fX10_qGoesOn_245 : a_fetch 264 245 = some (.iconst 2, 246) := by decide +kernel
theorem fX10_qGoesOn_246 : a_fetch 264 246 = some (.istore 1, 247) := by decide +kernel
theorem fX10_qGoesOn_247 : a_fetch 264 247 = some (.aload 0, 248) := by decide +kernel
theorem fX10_qGoesOn_248 : a_fetch 264 248 = some (.iconst 3, 249) := by decide +kernel
theorem fX10_qGoesOn_249 : a_fetch 264 249 = some (.invokevirtual 254, 252) := by decide +kernel
theorem fX10_qGoesOn_252 : a_fetch 264 252 = some (.ifCond .ne 279, 255) := by decide +kernel
theorem fX10_qGoesOn_255 : a_fetch 264 255 = some (.aload 0, 256) := by decide +kernel
theorem fX10_qGoesOn_256 : a_fetch 264 256 = some (.iconst 4, 257) := by decide +kernel
theorem fX10_qGoesOn_257 : a_fetch 264 257 = some (.invokevirtual 254, 260) := by decide +kernel
theorem fX10_qGoesOn_260 : a_fetch 264 260 = some (.ifCond .ne 279, 263) := by decide +kernel
theorem fX10_qGoesOn_263 : a_fetch 264 263 = some (.aload 0, 264) := by decide +kernel
theorem fX10_qGoesOn_264 : a_fetch 264 264 = some (.iconst 1, 265) := by decide +kernel
theorem fX10_qGoesOn_265 : a_fetch 264 265 = some (.invokevirtual 254, 268) := by decide +kernel
theorem fX10_qGoesOn_268 : a_fetch 264 268 = some (.ifCond .ne 279, 271) := by decide +kernel
theorem fX10_qGoesOn_271 : a_fetch 264 271 = some (.aload 0, 272) := by decide +kernel
theorem fX10_qGoesOn_272 : a_fetch 264 272 = some (.iconst 2, 273) := by decide +kernel
theorem fX10_qGoesOn_273 : a_fetch 264 273 = some (.invokevirtual 254, 276) := by decide +kernel
theorem fX10_qGoesOn_276 : a_fetch 264 276 = some (.ifCond .eq 286, 279) := by decide +kernel
theorem fX10_qGoesOn_279 : a_fetch 264 279 = some (.aload 0, 280) := by decide +kernel
theorem fX10_qGoesOn_280 : a_fetch 264 280 = some (.invokevirtual 255, 283) := by decide +kernel
theorem fX10_qGoesOn_283 : a_fetch 264 283 = some (.goto 247, 286) := by decide +kernel
theorem fX10_qGoesOn_286 : a_fetch 264 286 = some (.aload 0, 287) := by decide +kernel
theorem fX10_qGoesOn_287 : a_fetch 264 287 = some (.invokeinterface 10 99, 290) := by decide +kernel
theorem fX10_qGoesOn_290 : a_fetch 264 290 = some (.aload 0, 291) := by decide +kernel
theorem fX10_qGoesOn_291 : a_fetch 264 291 = some (.invokeinterface 10 100, 294) := by decide +kernel
theorem fX10_qGoesOn_294 : a_fetch 264 294 = some (.iload 1, 295) := by decide +kernel
theorem fX10_qGoesOn_295 : a_fetch 264 295 = some (.iastore, 296) := by decide +kernel
theorem fX10_qGoesOn_296 : a_fetch 264 296 = some (.aload 0, 297) := by decide +kernel
theorem fX10_qGoesOn_297 : a_fetch 264 297 = some (.dup, 298) := by decide +kernel
theorem fX10_qGoesOn_298 : a_fetch 264 298 = some (.invokeinterface 10 100, 301) := by decide +kernel
theorem fX10_qGoesOn_301 : a_fetch 264 301 = some (.iconst 1, 302) := by decide +kernel
theorem fX10_qGoesOn_302 : a_fetch 264 302 = some (.iadd, 303) := by decide +kernel
theorem fX10_qGoesOn_303 : a_fetch 264 303 = some (.multianewarray 10 100, 306) := by decide +kernel
theorem fX10_qGoesOn_306 : a_fetch 264 306 = some (.iconst 1, 307) := by decide +kernel
theorem fX10_qGoesOn_307 : a_fetch 264 307 = some (.ireturn, 308) := by decide +kernel
theorem fX10_qGoesOn_308 : a_fetch 264 308 = some (.aload 0, 309) := by decide +kernel
theorem fX10_qGoesOn_309 : a_fetch 264 309 = some (.invokevirtual 257, 312) := by decide +kernel
theorem fX10_qGoesOn_312 : a_fetch 264 312 = some (.iconst 21, 314) := by decide +kernel
theorem fX10_qGoesOn_314 : a_fetch 264 314 = some (.if_icmp .eq 326, 317) := by decide +kernel
theorem fX10_qGoesOn_317 : a_fetch 264 317 = some (.aload 0, 318) := by decide +kernel
theorem fX10_qGoesOn_318 : a_fetch 264 318 = some (.invokevirtual 257, 321) := by decide +kernel
theorem fX10_qGoesOn_321 : a_fetch 264 321 = some (.iconst 22, 323) := by decide +kernel
theorem fX10_qGoesOn_323 : a_fetch 264 323 = some (.if_icmp .ne 362, 326) := by decide +kernel
theorem fX10_qGoesOn_326 : a_fetch 264 326 = some (.aload 0, 327) := by decide +kernel
theorem fX10_qGoesOn_327 : a_fetch 264 327 = some (.iconst 44, 329) := by decide +kernel
theorem fX10_qGoesOn_329 : a_fetch 264 329 = some (.invokevirtual 170, 332) := by decide +kernel
theorem fX10_qGoesOn_332 : a_fetch 264 332 = some (.aload 0, 333) := by decide +kernel
theorem fX10_qGoesOn_333 : a_fetch 264 333 = some (.invokeinterface 10 5, 336) := by decide +kernel
theorem fX10_qGoesOn_336 : a_fetch 264 336 = some (.ifCond .eq 341, 339) := by decide +kernel
theorem fX10_qGoesOn_339 : a_fetch 264 339 = some (.iconst 0, 340) := by decide +kernel
theorem fX10_qGoesOn_340 : a_fetch 264 340 = some (.ireturn, 341) := by decide +kernel
theorem fX10_qGoesOn_341 : a_fetch 264 341 = some (.aload 0, 342) := by decide +kernel
theorem fX10_qGoesOn_342 : a_fetch 264 342 = some (.invokevirtual 258, 345) := by decide +kernel
theorem fX10_qGoesOn_345 : a_fetch 264 345 = some (.aload 0, 346) := by decide +kernel
theorem fX10_qGoesOn_346 : a_fetch 264 346 = some (.invokeinterface 10 99, 349) := by decide +kernel
theorem fX10_qGoesOn_349 : a_fetch 264 349 = some (.aload 0, 350) := by decide +kernel
theorem fX10_qGoesOn_350 : a_fetch 264 350 = some (.invokeinterface 10 100, 353) := by decide +kernel
theorem fX10_qGoesOn_353 : a_fetch 264 353 = some (.iconst 1, 354) := by decide +kernel
theorem fX10_qGoesOn_354 : a_fetch 264 354 = some (.isub, 355) := by decide +kernel
theorem fX10_qGoesOn_355 : a_fetch 264 355 = some (.dup2, 356) := by decide +kernel
theorem fX10_qGoesOn_356 : a_fetch 264 356 = some (.iaload, 357) := by decide +kernel
theorem fX10_qGoesOn_357 : a_fetch 264 357 = some (.iconst 2, 358) := by decide +kernel
theorem fX10_qGoesOn_358 : a_fetch 264 358 = some (.iadd, 359) := by decide +kernel
theorem fX10_qGoesOn_359 : a_fetch 264 359 = some (.iastore, 360) := by decide +kernel
theorem fX10_qGoesOn_360 : a_fetch 264 360 = some (.iconst 1, 361) := by decide +kernel
theorem fX10_qGoesOn_361 : a_fetch 264 361 = some (.ireturn, 362) := by decide +kernel
theorem fX10_qGoesOn_362 : a_fetch 264 362 = some (.aload 0, 363) := by decide +kernel
theorem fX10_qGoesOn_363 : a_fetch 264 363 = some (.invokevirtual 257, 366) := by decide +kernel
theorem fX10_qGoesOn_366 : a_fetch 264 366 = some (.iconst (-1), 367) := by decide +kernel
theorem fX10_qGoesOn_367 : a_fetch 264 367 = some (.if_icmp .eq 386, 370) := by decide +kernel
theorem fX10_qGoesOn_370 : a_fetch 264 370 = some (.aload 0, 371) := by decide +kernel
theorem fX10_qGoesOn_371 : a_fetch 264 371 = some (.invokeinterface 10 5, 374) := by decide +kernel
theorem fX10_qGoesOn_374 : a_fetch 264 374 = some (.ifCond .ne 386, 377) := by decide +kernel
theorem fX10_qGoesOn_377 : a_fetch 264 377 = some (.aload 0, 378) := by decide +kernel
theorem fX10_qGoesOn_378 : a_fetch 264 378 = some (.iconst 1, 379) := by decide +kernel
theorem fX10_qGoesOn_379 : a_fetch 264 379 = some (.aload 0, 380) := by decide +kernel
theorem fX10_qGoesOn_380 : a_fetch 264 380 = some (.invokeinterface 10 2, 383) := by decide +kernel
theorem fX10_qGoesOn_383 : a_fetch 264 383 = some (.invokevirtual 162, 386) := by decide +kernel
theorem fX10_qGoesOn_386 : a_fetch 264 386 = some (.iconst 0, 387) := by decide +kernel
theorem fX10_qGoesOn_387 : a_fetch 264 387 = some (.ireturn, 388) := by decide +kernel
theorem fX10_qSums_0 : a_fetch 265 0 = some (.aload 0, 1) := by decide +kernel
theorem fX10_qSums_1 : a_fetch 265 1 = some (.invokeinterface 10 102, 4) := by decide +kernel
theorem fX10_qSums_4 : a_fetch 265 4 = some (.istore 1, 5) := by decide +kernel
theorem fX10_qSums_5 : a_fetch 265 5 = some (.aload 0, 6) := by decide +kernel
theorem fX10_qSums_6 : a_fetch 265 6 = some (.aload 0, 7) := by decide +kernel
theorem fX10_qSums_7 : a_fetch 265 7 = some (.invokeinterface 10 100, 10) := by decide +kernel
theorem fX10_qSums_10 : a_fetch 265 10 = some (.multianewarray 10 102, 13) := by decide +kernel
theorem fX10_qSums_13 : a_fetch 265 13 = some (.iconst 1, 14) := by decide +kernel
theorem fX10_qSums_14 : a_fetch 265 14 = some (.istore 2, 15) := by decide +kernel
theorem fX10_qSums_15 : a_fetch 265 15 = some (.iload 2, 16) := by decide +kernel
theorem fX10_qSums_16 : a_fetch 265 16 = some (.ifCond .eq 53, 19) := by decide +kernel
theorem fX10_qSums_19 : a_fetch 265 19 = some (.aload 0, 20) := by decide +kernel
theorem fX10_qSums_20 : a_fetch 265 20 = some (.invokeinterface 10 5, 23) := by decide +kernel
theorem fX10_qSums_23 : a_fetch 265 23 = some (.ifCond .ne 53, 26) := by decide +kernel
theorem fX10_qSums_26 : a_fetch 265 26 = some (.aload 0, 27) := by decide +kernel
theorem fX10_qSums_27 : a_fetch 265 27 = some (.invokevirtual 263, 30) := by decide +kernel
theorem fX10_qSums_30 : a_fetch 265 30 = some (.aload 0, 31) := by decide +kernel
theorem fX10_qSums_31 : a_fetch 265 31 = some (.invokeinterface 10 5, 34) := by decide +kernel
theorem fX10_qSums_34 : a_fetch 265 34 = some (.ifCond .ne 48, 37) := by decide +kernel
theorem fX10_qSums_37 : a_fetch 265 37 = some (.aload 0, 38) := by decide +kernel
theorem fX10_qSums_38 : a_fetch 265 38 = some (.invokevirtual 264, 41) := by decide +kernel
theorem fX10_qSums_41 : a_fetch 265 41 = some (.ifCond .eq 48, 44) := by decide +kernel
theorem fX10_qSums_44 : a_fetch 265 44 = some (.iconst 1, 45) := by decide +kernel
theorem fX10_qSums_45 : a_fetch 265 45 = some (.goto 49, 48) := by decide +kernel
theorem fX10_qSums_48 : a_fetch 265 48 = some (.iconst 0, 49) := by decide +kernel
theorem fX10_qSums_49 : a_fetch 265 49 = some (.istore 2, 50) := by decide +kernel
theorem fX10_qSums_50 : a_fetch 265 50 = some (.goto 15, 53) := by decide +kernel
theorem fX10_qSums_53 : a_fetch 265 53 = some (.aload 0, 54) := by decide +kernel
theorem fX10_qSums_54 : a_fetch 265 54 = some (.invokeinterface 10 5, 57) := by decide +kernel
theorem fX10_qSums_57 : a_fetch 265 57 = some (.ifCond .ne 78, 60) := by decide +kernel
theorem fX10_qSums_60 : a_fetch 265 60 = some (.aload 0, 61) := by decide +kernel
theorem fX10_qSums_61 : a_fetch 265 61 = some (.invokeinterface 10 100, 64) := by decide +kernel
theorem fX10_qSums_64 : a_fetch 265 64 = some (.aload 0, 65) := by decide +kernel
theorem fX10_qSums_65 : a_fetch 265 65 = some (.invokeinterface 10 102, 68) := by decide +kernel
theorem fX10_qSums_68 : a_fetch 265 68 = some (.if_icmp .le 78, 71) := by decide +kernel
theorem fX10_qSums_71 : a_fetch 265 71 = some (.aload 0, 72) := by decide +kernel
theorem fX10_qSums_72 : a_fetch 265 72 = some (.invokevirtual 255, 75) := by decide +kernel
theorem fX10_qSums_75 : a_fetch 265 75 = some (.goto 53, 78) := by decide +kernel
theorem fX10_qSums_78 : a_fetch 265 78 = some (.aload 0, 79) := by decide +kernel
theorem fX10_qSums_79 : a_fetch 265 79 = some (.iload 1, 80) := by decide +kernel
theorem fX10_qSums_80 : a_fetch 265 80 = some (.multianewarray 10 102, 83) := by decide +kernel
theorem fX10_qSums_83 : a_fetch 265 83 = some (.return_, 84) := by decide +kernel
theorem fX10_qFact_0 : a_fetch 266 0 = some (.aload 0, 1) := by decide +kernel
theorem fX10_qFact_1 : a_fetch 266 1 = some (.aload 0, 2) := by decide +kernel
theorem fX10_qFact_2 : a_fetch 266 2 = some (.invokeinterface 10 84, 5) := by decide +kernel
theorem fX10_qFact_5 : a_fetch 266 5 = some (.invokevirtual 167, 8) := by decide +kernel
theorem fX10_qFact_8 : a_fetch 266 8 = some (.ifCond .eq 18, 11) := by decide +kernel
theorem fX10_qFact_11 : a_fetch 266 11 = some (.aload 0, 12) := by decide +kernel
theorem fX10_qFact_12 : a_fetch 266 12 = some (.iconst 13, 14) := by decide +kernel
theorem fX10_qFact_14 : a_fetch 266 14 = some (.invokevirtual 252, 17) := by decide +kernel
theorem fX10_qFact_17 : a_fetch 266 17 = some (.return_, 18) := by decide +kernel
theorem fX10_qFact_18 : a_fetch 266 18 = some (.aload 0, 19) := by decide +kernel
theorem fX10_qFact_19 : a_fetch 266 19 = some (.invokevirtual 265, 22) := by decide +kernel
theorem fX10_qFact_22 : a_fetch 266 22 = some (.aload 0, 23) := by decide +kernel
theorem fX10_qFact_23 : a_fetch 266 23 = some (.invokeinterface 10 5, 26) := by decide +kernel
theorem fX10_qFact_26 : a_fetch 266 26 = some (.ifCond .eq 30, 29) := by decide +kernel
theorem fX10_qFact_29 : a_fetch 266 29 = some (.return_, 30) := by decide +kernel
theorem fX10_qFact_30 : a_fetch 266 30 = some (.aload 0, 31) := by decide +kernel
theorem fX10_qFact_31 : a_fetch 266 31 = some (.invokevirtual 165, 34) := by decide +kernel
theorem fX10_qFact_34 : a_fetch 266 34 = some (.istore 1, 35) := by decide +kernel
theorem fX10_qFact_35 : a_fetch 266 35 = some (.iload 1, 36) := by decide +kernel
theorem fX10_qFact_36 : a_fetch 266 36 = some (.iconst 60, 38) := by decide +kernel
theorem fX10_qFact_38 : a_fetch 266 38 = some (.if_icmp .eq 63, 41) := by decide +kernel
theorem fX10_qFact_41 : a_fetch 266 41 = some (.iload 1, 42) := by decide +kernel
theorem fX10_qFact_42 : a_fetch 266 42 = some (.iconst 62, 44) := by decide +kernel
theorem fX10_qFact_44 : a_fetch 266 44 = some (.if_icmp .eq 63, 47) := by decide +kernel
theorem fX10_qFact_47 : a_fetch 266 47 = some (.iload 1, 48) := by decide +kernel
theorem fX10_qFact_48 : a_fetch 266 48 = some (.iconst 61, 50) := by decide +kernel
theorem fX10_qFact_50 : a_fetch 266 50 = some (.if_icmp .eq 63, 53) := by decide +kernel
theorem fX10_qFact_53 : a_fetch 266 53 = some (.aload 0, 54) := by decide +kernel
theorem fX10_qFact_54 : a_fetch 266 54 = some (.iconst 1, 55) := by decide +kernel
theorem fX10_qFact_55 : a_fetch 266 55 = some (.aload 0, 56) := by decide +kernel
theorem fX10_qFact_56 : a_fetch 266 56 = some (.invokeinterface 10 2, 59) := by decide +kernel
theorem fX10_qFact_59 : a_fetch 266 59 = some (.invokevirtual 162, 62) := by decide +kernel
theorem fX10_qFact_62 : a_fetch 266 62 = some (.return_, 63) := by decide +kernel
theorem fX10_qFact_63 : a_fetch 266 63 = some (.aload 0, 64) := by decide +kernel
theorem fX10_qFact_64 : a_fetch 266 64 = some (.dup, 65) := by decide +kernel
theorem fX10_qFact_65 : a_fetch 266 65 = some (.invokeinterface 10 2, 68) := by decide +kernel
theorem fX10_qFact_68 : a_fetch 266 68 = some (.iconst 1, 69) := by decide +kernel
theorem fX10_qFact_69 : a_fetch 266 69 = some (.iadd, 70) := by decide +kernel
theorem fX10_qFact_70 : a_fetch 266 70 = some (.multianewarray 10 2, 73) := by decide +kernel
theorem fX10_qFact_73 : a_fetch 266 73 = some (.aload 0, 74) := by decide +kernel
theorem fX10_qFact_74 : a_fetch 266 74 = some (.invokevirtual 265, 77) := by decide +kernel
theorem fX10_qFact_77 : a_fetch 266 77 = some (.aload 0, 78) := by decide +kernel
theorem fX10_qFact_78 : a_fetch 266 78 = some (.iload 1, 79) := by decide +kernel
theorem fX10_qFact_79 : a_fetch 266 79 = some (.iconst 60, 81) := by decide +kernel
theorem fX10_qFact_81 : a_fetch 266 81 = some (.if_icmp .ne 89, 84) := by decide +kernel
theorem fX10_qFact_84 : a_fetch 266 84 = some (.iconst 7, 86) := by decide +kernel
theorem fX10_qFact_86 : a_fetch 266 86 = some (.goto 102, 89) := by decide +kernel
theorem fX10_qFact_89 : a_fetch 266 89 = some (.iload 1, 90) := by decide +kernel
theorem fX10_qFact_90 : a_fetch 266 90 = some (.iconst 62, 92) := by decide +kernel
theorem fX10_qFact_92 : a_fetch 266 92 = some (.if_icmp .ne 100, 95) := by decide +kernel
theorem fX10_qFact_95 : a_fetch 266 95 = some (.iconst 8, 97) := by decide +kernel
theorem fX10_qFact_97 : a_fetch 266 97 = some (.goto 102, 100) := by decide +kernel
theorem fX10_qFact_100 : a_fetch 266 100 = some (.iconst 9, 102) := by decide +kernel
theorem fX10_qFact_102 : a_fetch 266 102 = some (.invokevirtual 252, 105) := by decide +kernel
theorem fX10_qFact_105 : a_fetch 266 105 = some (.return_, 106) := by decide +kernel
theorem fX10_qHasSquare_0 : a_fetch 267 0 = some (.iconst 0, 1) := by decide +kernel
theorem fX10_qHasSquare_1 : a_fetch 267 1 = some (.istore 1, 2) := by decide +kernel
theorem fX10_qHasSquare_2 : a_fetch 267 2 = some (.iload 1, 3) := by decide +kernel
theorem fX10_qHasSquare_3 : a_fetch 267 3 = some (.aload 0, 4) := by decide +kernel
theorem fX10_qHasSquare_4 : a_fetch 267 4 = some (.invokeinterface 10 100, 7) := by decide +kernel
theorem fX10_qHasSquare_7 : a_fetch 267 7 = some (.if_icmp .ge 29, 10) := by decide +kernel
theorem fX10_qHasSquare_10 : a_fetch 267 10 = some (.aload 0, 11) := by decide +kernel
theorem fX10_qHasSquare_11 : a_fetch 267 11 = some (.invokeinterface 10 99, 14) := by decide +kernel
theorem fX10_qHasSquare_14 : a_fetch 267 14 = some (.iload 1, 15) := by decide +kernel
theorem fX10_qHasSquare_15 : a_fetch 267 15 = some (.iaload, 16) := by decide +kernel
theorem fX10_qHasSquare_16 : a_fetch 267 16 = some (.iconst 25, 18) := by decide +kernel
theorem fX10_qHasSquare_18 : a_fetch 267 18 = some (.if_icmp .ne 23, 21) := by decide +kernel
theorem fX10_qHasSquare_21 : a_fetch 267 21 = some (.iconst 1, 22) := by decide +kernel
theorem fX10_qHasSquare_22 : a_fetch 267 22 = some (.ireturn, 23) := by decide +kernel
theorem fX10_qHasSquare_23 : a_fetch 267 23 = some (.iinc 1 1, 26) := by decide +kernel
theorem fX10_qHasSquare_26 : a_fetch 267 26 = some (.goto 2, 29) := by decide +kernel
theorem fX10_qHasSquare_29 : a_fetch 267 29 = some (.iconst 0, 30) := by decide +kernel
theorem fX10_qHasSquare_30 : a_fetch 267 30 = some (.ireturn, 31) := by decide +kernel
theorem fX10_qDropsNots_0 : a_fetch 268 0 = some (.aload 0, 1) := by decide +kernel
theorem fX10_qDropsNots_1 : a_fetch 268 1 = some (.invokeinterface 10 5, 4) := by decide +kernel
theorem fX10_qDropsNots_4 : a_fetch 268 4 = some (.ifCond .ne 33, 7) := by decide +kernel
theorem fX10_qDropsNots_7 : a_fetch 268 7 = some (.aload 0, 8) := by decide +kernel
theorem fX10_qDropsNots_8 : a_fetch 268 8 = some (.iconst 12, 10) := by decide +kernel
theorem fX10_qDropsNots_10 : a_fetch 268 10 = some (.invokevirtual 254, 13) := by decide +kernel
theorem fX10_qDropsNots_13 : a_fetch 268 13 = some (.ifCond .eq 33, 16) := by decide +kernel
theorem fX10_qDropsNots_16 : a_fetch 268 16 = some (.aload 0, 17) := by decide +kernel
theorem fX10_qDropsNots_17 : a_fetch 268 17 = some (.dup, 18) := by decide +kernel
theorem fX10_qDropsNots_18 : a_fetch 268 18 = some (.invokeinterface 10 101, 21) := by decide +kernel
theorem fX10_qDropsNots_21 : a_fetch 268 21 = some (.iconst 1, 22) := by decide +kernel
theorem fX10_qDropsNots_22 : a_fetch 268 22 = some (.isub, 23) := by decide +kernel
theorem fX10_qDropsNots_23 : a_fetch 268 23 = some (.multianewarray 10 101, 26) := by decide +kernel
theorem fX10_qDropsNots_26 : a_fetch 268 26 = some (.aload 0, 27) := by decide +kernel
theorem fX10_qDropsNots_27 : a_fetch 268 27 = some (.invokevirtual 255, 30) := by decide +kernel
theorem fX10_qDropsNots_30 : a_fetch 268 30 = some (.goto 0, 33) := by decide +kernel
theorem fX10_qDropsNots_33 : a_fetch 268 33 = some (.return_, 34) := by decide +kernel
theorem fX10_qTest_0 : a_fetch 269 0 = some (.iconst 1, 1) := by decide +kernel
theorem fX10_qTest_1 : a_fetch 269 1 = some (.istore 1, 2) := by decide +kernel
theorem fX10_qTest_2 : a_fetch 269 2 = some (.iload 1, 3) := by decide +kernel
theorem fX10_qTest_3 : a_fetch 269 3 = some (.ifCond .eq 110, 6) := by decide +kernel
theorem fX10_qTest_6 : a_fetch 269 6 = some (.aload 0, 7) := by decide +kernel
theorem fX10_qTest_7 : a_fetch 269 7 = some (.invokeinterface 10 5, 10) := by decide +kernel
theorem fX10_qTest_10 : a_fetch 269 10 = some (.ifCond .ne 110, 13) := by decide +kernel
theorem fX10_qTest_13 : a_fetch 269 13 = some (.aload 0, 14) := by decide +kernel
theorem fX10_qTest_14 : a_fetch 269 14 = some (.invokevirtual 165, 17) := by decide +kernel
theorem fX10_qTest_17 : a_fetch 269 17 = some (.istore 2, 18) := by decide +kernel
theorem fX10_qTest_18 : a_fetch 269 18 = some (.iload 2, 19) := by decide +kernel
theorem fX10_qTest_19 : a_fetch 269 19 = some (.iconst 91, 21) := by decide +kernel
theorem fX10_qTest_21 : a_fetch 269 21 = some (.if_icmp .ne 47, 24) := by decide +kernel
theorem fX10_qTest_24 : a_fetch 269 24 = some (.aload 0, 25) := by decide +kernel
theorem fX10_qTest_25 : a_fetch 269 25 = some (.iconst 25, 27) := by decide +kernel
theorem fX10_qTest_27 : a_fetch 269 27 = some (.aload 0, 28) := by decide +kernel
theorem fX10_qTest_28 : a_fetch 269 28 = some (.invokeinterface 10 2, 31) := by decide +kernel
theorem fX10_qTest_31 : a_fetch 269 31 = some (.invokevirtual 253, 34) := by decide +kernel
theorem fX10_qTest_34 : a_fetch 269 34 = some (.aload 0, 35) := by decide +kernel
theorem fX10_qTest_35 : a_fetch 269 35 = some (.dup, 36) := by decide +kernel
theorem fX10_qTest_36 : a_fetch 269 36 = some (.invokeinterface 10 2, 39) := by decide +kernel
theorem fX10_qTest_39 : a_fetch 269 39 = some (.iconst 1, 40) := by decide +kernel
theorem fX10_qTest_40 : a_fetch 269 40 = some (.iadd, 41) := by decide +kernel
theorem fX10_qTest_41 : a_fetch 269 41 = some (.multianewarray 10 2, 44) := by decide +kernel
theorem fX10_qTest_44 : a_fetch 269 44 = some (.goto 2, 47) := by decide +kernel
theorem fX10_qTest_47 : a_fetch 269 47 = some (.aload 0, 48) := by decide +kernel
theorem fX10_qTest_48 : a_fetch 269 48 = some (.aload 0, 49) := by decide +kernel
theorem fX10_qTest_49 : a_fetch 269 49 = some (.invokeinterface 10 81, 52) := by decide +kernel
theorem fX10_qTest_52 : a_fetch 269 52 = some (.invokevirtual 166, 55) := by decide +kernel
theorem fX10_qTest_55 : a_fetch 269 55 = some (.ifCond .eq 79, 58) := by decide +kernel
theorem fX10_qTest_58 : a_fetch 269 58 = some (.aload 0, 59) := by decide +kernel
theorem fX10_qTest_59 : a_fetch 269 59 = some (.iconst 12, 61) := by decide +kernel
theorem fX10_qTest_61 : a_fetch 269 61 = some (.aload 0, 62) := by decide +kernel
theorem fX10_qTest_62 : a_fetch 269 62 = some (.invokeinterface 10 2, 65) := by decide +kernel
theorem fX10_qTest_65 : a_fetch 269 65 = some (.invokevirtual 253, 68) := by decide +kernel
theorem fX10_qTest_68 : a_fetch 269 68 = some (.aload 0, 69) := by decide +kernel
theorem fX10_qTest_69 : a_fetch 269 69 = some (.aload 0, 70) := by decide +kernel
theorem fX10_qTest_70 : a_fetch 269 70 = some (.invokeinterface 10 81, 73) := by decide +kernel
theorem fX10_qTest_73 : a_fetch 269 73 = some (.invokevirtual 168, 76) := by decide +kernel
theorem fX10_qTest_76 : a_fetch 269 76 = some (.goto 2, 79) := by decide +kernel
theorem fX10_qTest_79 : a_fetch 269 79 = some (.aload 0, 80) := by decide +kernel
theorem fX10_qTest_80 : a_fetch 269 80 = some (.invokevirtual 266, 83) := by decide +kernel
theorem fX10_qTest_83 : a_fetch 269 83 = some (.aload 0, 84) := by decide +kernel
theorem fX10_qTest_84 : a_fetch 269 84 = some (.invokevirtual 268, 87) := by decide +kernel
theorem fX10_qTest_87 : a_fetch 269 87 = some (.aload 0, 88) := by decide +kernel
theorem fX10_qTest_88 : a_fetch 269 88 = some (.invokeinterface 10 5, 91) := by decide +kernel
theorem fX10_qTest_91 : a_fetch 269 91 = some (.ifCond .ne 105, 94) := by decide +kernel
theorem fX10_qTest_94 : a_fetch 269 94 = some (.aload 0, 95) := by decide +kernel
theorem fX10_qTest_95 : a_fetch 269 95 = some (.invokevirtual 270, 98) := by decide +kernel
theorem fX10_qTest_98 : a_fetch 269 98 = some (.ifCond .eq 105, 101) := by decide +kernel
theorem fX10_qTest_101 : a_fetch 269 101 = some (.iconst 1, 102) := by decide +kernel
theorem fX10_qTest_102 : a_fetch 269 102 = some (.goto 106, 105) := by decide +kernel
theorem fX10_qTest_105 : a_fetch 269 105 = some (.iconst 0, 106) := by decide +kernel
theorem fX10_qTest_106 : a_fetch 269 106 = some (.istore 1, 107) := by decide +kernel
theorem fX10_qTest_107 : a_fetch 269 107 = some (.goto 2, 110) := by decide +kernel
theorem fX10_qTest_110 : a_fetch 269 110 = some (.aload 0, 111) := by decide +kernel
theorem fX10_qTest_111 : a_fetch 269 111 = some (.invokeinterface 10 5, 114) := by decide +kernel
theorem fX10_qTest_114 : a_fetch 269 114 = some (.ifCond .ne 131, 117) := by decide +kernel
theorem fX10_qTest_117 : a_fetch 269 117 = some (.aload 0, 118) := by decide +kernel
theorem fX10_qTest_118 : a_fetch 269 118 = some (.invokeinterface 10 100, 121) := by decide +kernel
theorem fX10_qTest_121 : a_fetch 269 121 = some (.ifCond .le 131, 124) := by decide +kernel
theorem fX10_qTest_124 : a_fetch 269 124 = some (.aload 0, 125) := by decide +kernel
theorem fX10_qTest_125 : a_fetch 269 125 = some (.invokevirtual 255, 128) := by decide +kernel
theorem fX10_qTest_128 : a_fetch 269 128 = some (.goto 110, 131) := by decide +kernel
theorem fX10_qTest_131 : a_fetch 269 131 = some (.return_, 132) := by decide +kernel
theorem fX10_qGoesOnTest_0 : a_fetch 270 0 = some (.aload 0, 1) := by decide +kernel
theorem fX10_qGoesOnTest_1 : a_fetch 270 1 = some (.invokeinterface 10 5, 4) := by decide +kernel
theorem fX10_qGoesOnTest_4 : a_fetch 270 4 = some (.ifCond .ne 76, 7) := by decide +kernel
theorem fX10_qGoesOnTest_7 : a_fetch 270 7 = some (.aload 0, 8) := by decide +kernel
theorem fX10_qGoesOnTest_8 : a_fetch 270 8 = some (.invokevirtual 165, 11) := by decide +kernel
theorem fX10_qGoesOnTest_11 : a_fetch 270 11 = some (.iconst 93, 13) := by decide +kernel
theorem fX10_qGoesOnTest_13 : a_fetch 270 13 = some (.if_icmp .ne 76, 16) := by decide +kernel
theorem fX10_qGoesOnTest_16 : a_fetch 270 16 = some (.aload 0, 17) := by decide +kernel
theorem fX10_qGoesOnTest_17 : a_fetch 270 17 = some (.invokevirtual 267, 20) := by decide +kernel
theorem fX10_qGoesOnTest_20 : a_fetch 270 20 = some (.ifCond .eq 76, 23) := by decide +kernel
theorem fX10_qGoesOnTest_23 : a_fetch 270 23 = some (.aload 0, 24) := by decide +kernel
theorem fX10_qGoesOnTest_24 : a_fetch 270 24 = some (.dup, 25) := by decide +kernel
theorem fX10_qGoesOnTest_25 : a_fetch 270 25 = some (.invokeinterface 10 2, 28) := by decide +kernel
theorem fX10_qGoesOnTest_28 : a_fetch 270 28 = some (.iconst 1, 29) := by decide +kernel
theorem fX10_qGoesOnTest_29 : a_fetch 270 29 = some (.iadd, 30) := by decide +kernel
theorem fX10_qGoesOnTest_30 : a_fetch 270 30 = some (.multianewarray 10 2, 33) := by decide +kernel
theorem fX10_qGoesOnTest_33 : a_fetch 270 33 = some (.aload 0, 34) := by decide +kernel
theorem fX10_qGoesOnTest_34 : a_fetch 270 34 = some (.iconst 25, 36) := by decide +kernel
theorem fX10_qGoesOnTest_36 : a_fetch 270 36 = some (.invokevirtual 254, 39) := by decide +kernel
theorem fX10_qGoesOnTest_39 : a_fetch 270 39 = some (.ifCond .ne 49, 42) := by decide +kernel
theorem fX10_qGoesOnTest_42 : a_fetch 270 42 = some (.aload 0, 43) := by decide +kernel
theorem fX10_qGoesOnTest_43 : a_fetch 270 43 = some (.invokevirtual 255, 46) := by decide +kernel
theorem fX10_qGoesOnTest_46 : a_fetch 270 46 = some (.goto 33, 49) := by decide +kernel
theorem fX10_qGoesOnTest_49 : a_fetch 270 49 = some (.aload 0, 50) := by decide +kernel
theorem fX10_qGoesOnTest_50 : a_fetch 270 50 = some (.dup, 51) := by decide +kernel
theorem fX10_qGoesOnTest_51 : a_fetch 270 51 = some (.invokeinterface 10 100, 54) := by decide +kernel
theorem fX10_qGoesOnTest_54 : a_fetch 270 54 = some (.iconst 1, 55) := by decide +kernel
theorem fX10_qGoesOnTest_55 : a_fetch 270 55 = some (.isub, 56) := by decide +kernel
theorem fX10_qGoesOnTest_56 : a_fetch 270 56 = some (.multianewarray 10 100, 59) := by decide +kernel
theorem fX10_qGoesOnTest_59 : a_fetch 270 59 = some (.aload 0, 60) := by decide +kernel
theorem fX10_qGoesOnTest_60 : a_fetch 270 60 = some (.dup, 61) := by decide +kernel
theorem fX10_qGoesOnTest_61 : a_fetch 270 61 = some (.invokeinterface 10 101, 64) := by decide +kernel
theorem fX10_qGoesOnTest_64 : a_fetch 270 64 = some (.iconst 1, 65) := by decide +kernel
theorem fX10_qGoesOnTest_65 : a_fetch 270 65 = some (.isub, 66) := by decide +kernel
theorem fX10_qGoesOnTest_66 : a_fetch 270 66 = some (.multianewarray 10 101, 69) := by decide +kernel
theorem fX10_qGoesOnTest_69 : a_fetch 270 69 = some (.aload 0, 70) := by decide +kernel
theorem fX10_qGoesOnTest_70 : a_fetch 270 70 = some (.invokevirtual 268, 73) := by decide +kernel
theorem fX10_qGoesOnTest_73 : a_fetch 270 73 = some (.goto 0, 76) := by decide +kernel
theorem fX10_qGoesOnTest_76 : a_fetch 270 76 = some (.aload 0, 77) := by decide +kernel
theorem fX10_qGoesOnTest_77 : a_fetch 270 77 = some (.aload 0, 78) := by decide +kernel
theorem fX10_qGoesOnTest_78 : a_fetch 270 78 = some (.invokeinterface 10 82, 81) := by decide +kernel
theorem fX10_qGoesOnTest_81 : a_fetch 270 81 = some (.invokevirtual 167, 84) := by decide +kernel
theorem fX10_qGoesOnTest_84 : a_fetch 270 84 = some (.ifCond .eq 126, 87) := by decide +kernel
theorem fX10_qGoesOnTest_87 : a_fetch 270 87 = some (.aload 0, 88) := by decide +kernel
theorem fX10_qGoesOnTest_88 : a_fetch 270 88 = some (.iconst 10, 90) := by decide +kernel
theorem fX10_qGoesOnTest_90 : a_fetch 270 90 = some (.invokevirtual 254, 93) := by decide +kernel
theorem fX10_qGoesOnTest_93 : a_fetch 270 93 = some (.ifCond .eq 103, 96) := by decide +kernel
theorem fX10_qGoesOnTest_96 : a_fetch 270 96 = some (.aload 0, 97) := by decide +kernel
theorem fX10_qGoesOnTest_97 : a_fetch 270 97 = some (.invokevirtual 255, 100) := by decide +kernel
theorem fX10_qGoesOnTest_100 : a_fetch 270 100 = some (.goto 87, 103) := by decide +kernel
theorem fX10_qGoesOnTest_103 : a_fetch 270 103 = some (.aload 0, 104) := by decide +kernel
theorem fX10_qGoesOnTest_104 : a_fetch 270 104 = some (.invokeinterface 10 99, 107) := by decide +kernel
theorem fX10_qGoesOnTest_107 : a_fetch 270 107 = some (.aload 0, 108) := by decide +kernel
theorem fX10_qGoesOnTest_108 : a_fetch 270 108 = some (.invokeinterface 10 100, 111) := by decide +kernel
theorem fX10_qGoesOnTest_111 : a_fetch 270 111 = some (.iconst 10, 113) := by decide +kernel
theorem fX10_qGoesOnTest_113 : a_fetch 270 113 = some (.iastore, 114) := by decide +kernel
theorem fX10_qGoesOnTest_114 : a_fetch 270 114 = some (.aload 0, 115) := by decide +kernel
theorem fX10_qGoesOnTest_115 : a_fetch 270 115 = some (.dup, 116) := by decide +kernel
theorem fX10_qGoesOnTest_116 : a_fetch 270 116 = some (.invokeinterface 10 100, 119) := by decide +kernel
theorem fX10_qGoesOnTest_119 : a_fetch 270 119 = some (.iconst 1, 120) := by decide +kernel
theorem fX10_qGoesOnTest_120 : a_fetch 270 120 = some (.iadd, 121) := by decide +kernel
theorem fX10_qGoesOnTest_121 : a_fetch 270 121 = some (.multianewarray 10 100, 124) := by decide +kernel
theorem fX10_qGoesOnTest_124 : a_fetch 270 124 = some (.iconst 1, 125) := by decide +kernel
theorem fX10_qGoesOnTest_125 : a_fetch 270 125 = some (.ireturn, 126) := by decide +kernel
theorem fX10_qGoesOnTest_126 : a_fetch 270 126 = some (.aload 0, 127) := by decide +kernel
theorem fX10_qGoesOnTest_127 : a_fetch 270 127 = some (.aload 0, 128) := by decide +kernel
theorem fX10_qGoesOnTest_128 : a_fetch 270 128 = some (.invokeinterface 10 83, 131) := by decide +kernel
theorem fX10_qGoesOnTest_131 : a_fetch 270 131 = some (.invokevirtual 167, 134) := by decide +kernel
theorem fX10_qGoesOnTest_134 : a_fetch 270 134 = some (.ifCond .eq 185, 137) := by decide +kernel
theorem fX10_qGoesOnTest_137 : a_fetch 270 137 = some (.aload 0, 138) := by decide +kernel
theorem fX10_qGoesOnTest_138 : a_fetch 270 138 = some (.iconst 10, 140) := by decide +kernel
theorem fX10_qGoesOnTest_140 : a_fetch 270 140 = some (.invokevirtual 254, 143) := by decide +kernel
theorem fX10_qGoesOnTest_143 : a_fetch 270 143 = some (.ifCond .ne 155, 146) := by decide +kernel
theorem fX10_qGoesOnTest_146 : a_fetch 270 146 = some (.aload 0, 147) := by decide +kernel
theorem fX10_qGoesOnTest_147 : a_fetch 270 147 = some (.iconst 11, 149) := by decide +kernel
theorem fX10_qGoesOnTest_149 : a_fetch 270 149 = some (.invokevirtual 254, 152) := by decide +kernel
theorem fX10_qGoesOnTest_152 : a_fetch 270 152 = some (.ifCond .eq 162, 155) := by decide +kernel
theorem fX10_qGoesOnTest_155 : a_fetch 270 155 = some (.aload 0, 156) := by decide +kernel
theorem fX10_qGoesOnTest_156 : a_fetch 270 156 = some (.invokevirtual 255, 159) := by decide +kernel
theorem fX10_qGoesOnTest_159 : a_fetch 270 159 = some (.goto 137, 162) := by decide +kernel
theorem fX10_qGoesOnTest_162 : a_fetch 270 162 = some (.aload 0, 163) := by decide +kernel
theorem fX10_qGoesOnTest_163 : a_fetch 270 163 = some (.invokeinterface 10 99, 166) := by decide +kernel
theorem fX10_qGoesOnTest_166 : a_fetch 270 166 = some (.aload 0, 167) := by decide +kernel
theorem fX10_qGoesOnTest_167 : a_fetch 270 167 = some (.invokeinterface 10 100, 170) := by decide +kernel
theorem fX10_qGoesOnTest_170 : a_fetch 270 170 = some (.iconst 11, 172) := by decide +kernel
theorem fX10_qGoesOnTest_172 : a_fetch 270 172 = some (.iastore, 173) := by decide +kernel
theorem fX10_qGoesOnTest_173 : a_fetch 270 173 = some (.aload 0, 174) := by decide +kernel
theorem fX10_qGoesOnTest_174 : a_fetch 270 174 = some (.dup, 175) := by decide +kernel
theorem fX10_qGoesOnTest_175 : a_fetch 270 175 = some (.invokeinterface 10 100, 178) := by decide +kernel
theorem fX10_qGoesOnTest_178 : a_fetch 270 178 = some (.iconst 1, 179) := by decide +kernel
theorem fX10_qGoesOnTest_179 : a_fetch 270 179 = some (.iadd, 180) := by decide +kernel
theorem fX10_qGoesOnTest_180 : a_fetch 270 180 = some (.multianewarray 10 100, 183) := by decide +kernel
theorem fX10_qGoesOnTest_183 : a_fetch 270 183 = some (.iconst 1, 184) := by decide +kernel
theorem fX10_qGoesOnTest_184 : a_fetch 270 184 = some (.ireturn, 185) := by decide +kernel
theorem fX10_qGoesOnTest_185 : a_fetch 270 185 = some (.aload 0, 186) := by decide +kernel
theorem fX10_qGoesOnTest_186 : a_fetch 270 186 = some (.invokeinterface 10 5, 189) := by decide +kernel
theorem fX10_qGoesOnTest_189 : a_fetch 270 189 = some (.ifCond .ne 208, 192) := by decide +kernel
theorem fX10_qGoesOnTest_192 : a_fetch 270 192 = some (.aload 0, 193) := by decide +kernel
theorem fX10_qGoesOnTest_193 : a_fetch 270 193 = some (.invokevirtual 267, 196) := by decide +kernel
theorem fX10_qGoesOnTest_196 : a_fetch 270 196 = some (.ifCond .eq 208, 199) := by decide +kernel
theorem fX10_qGoesOnTest_199 : a_fetch 270 199 = some (.aload 0, 200) := by decide +kernel
theorem fX10_qGoesOnTest_200 : a_fetch 270 200 = some (.iconst 1, 201) := by decide +kernel
theorem fX10_qGoesOnTest_201 : a_fetch 270 201 = some (.aload 0, 202) := by decide +kernel
theorem fX10_qGoesOnTest_202 : a_fetch 270 202 = some (.invokeinterface 10 2, 205) := by decide +kernel
theorem fX10_qGoesOnTest_205 : a_fetch 270 205 = some (.invokevirtual 162, 208) := by decide +kernel
theorem fX10_qGoesOnTest_208 : a_fetch 270 208 = some (.iconst 0, 209) := by decide +kernel
theorem fX10_qGoesOnTest_209 : a_fetch 270 209 = some (.ireturn, 210) := by decide +kernel
theorem fX10_qClip_0 : a_fetch 271 0 = some (.lload 0, 1) := by decide +kernel
theorem fX10_qClip_1 : a_fetch 271 1 = some (.jsr_w 1000000, 4) := by decide +kernel
theorem fX10_qClip_4 : a_fetch 271 4 = some (.lcmp, 5) := by decide +kernel
theorem fX10_qClip_5 : a_fetch 271 5 = some (.ifCond .le 14, 8) := by decide +kernel
theorem fX10_qClip_8 : a_fetch 271 8 = some (.jsr_w 1000000, 11) := by decide +kernel
theorem fX10_qClip_11 : a_fetch 271 11 = some (.goto 29, 14) := by decide +kernel
theorem fX10_qClip_14 : a_fetch 271 14 = some (.lload 0, 15) := by decide +kernel
theorem fX10_qClip_15 : a_fetch 271 15 = some (.jsr_w (-1000000), 18) := by decide +kernel
theorem fX10_qClip_18 : a_fetch 271 18 = some (.lcmp, 19) := by decide +kernel
theorem fX10_qClip_19 : a_fetch 271 19 = some (.ifCond .ge 28, 22) := by decide +kernel
theorem fX10_qClip_22 : a_fetch 271 22 = some (.jsr_w (-1000000), 25) := by decide +kernel
theorem fX10_qClip_25 : a_fetch 271 25 = some (.goto 29, 28) := by decide +kernel
theorem fX10_qClip_28 : a_fetch 271 28 = some (.lload 0, 29) := by decide +kernel
theorem fX10_qClip_29 : a_fetch 271 29 = some (.lreturn, 30) := by decide +kernel
theorem fX10_qFloor_0 : a_fetch 272 0 = some (.lload 2, 1) := by decide +kernel
theorem fX10_qFloor_1 : a_fetch 272 1 = some (.jsr_w 0, 2) := by decide +kernel
theorem fX10_qFloor_2 : a_fetch 272 2 = some (.lcmp, 3) := by decide +kernel
theorem fX10_qFloor_3 : a_fetch 272 3 = some (.ifCond .ne 8, 6) := by decide +kernel
theorem fX10_qFloor_6 : a_fetch 272 6 = some (.jsr_w 0, 7) := by decide +kernel
theorem fX10_qFloor_7 : a_fetch 272 7 = some (.lreturn, 8) := by decide +kernel
theorem fX10_qFloor_8 : a_fetch 272 8 = some (.lload 0, 9) := by decide +kernel
theorem fX10_qFloor_9 : a_fetch 272 9 = some (.lload 2, 10) := by decide +kernel
theorem fX10_qFloor_10 : a_fetch 272 10 = some (.ldiv, 11) := by decide +kernel
theorem fX10_qFloor_11 : a_fetch 272 11 = some (.lstore 4, 13) := by decide +kernel
theorem fX10_qFloor_13 : a_fetch 272 13 = some (.lload 0, 14) := by decide +kernel
theorem fX10_qFloor_14 : a_fetch 272 14 = some (.lload 2, 15) := by decide +kernel
theorem fX10_qFloor_15 : a_fetch 272 15 = some (.lrem, 16) := by decide +kernel
theorem fX10_qFloor_16 : a_fetch 272 16 = some (.jsr_w 0, 17) := by decide +kernel
theorem fX10_qFloor_17 : a_fetch 272 17 = some (.lcmp, 18) := by decide +kernel
theorem fX10_qFloor_18 : a_fetch 272 18 = some (.ifCond .eq 53, 21) := by decide +kernel
theorem fX10_qFloor_21 : a_fetch 272 21 = some (.lload 0, 22) := by decide +kernel
theorem fX10_qFloor_22 : a_fetch 272 22 = some (.jsr_w 0, 23) := by decide +kernel
theorem fX10_qFloor_23 : a_fetch 272 23 = some (.lcmp, 24) := by decide +kernel
theorem fX10_qFloor_24 : a_fetch 272 24 = some (.ifCond .ge 31, 27) := by decide +kernel
theorem fX10_qFloor_27 : a_fetch 272 27 = some (.iconst 1, 28) := by decide +kernel
theorem fX10_qFloor_28 : a_fetch 272 28 = some (.goto 32, 31) := by decide +kernel
theorem fX10_qFloor_31 : a_fetch 272 31 = some (.iconst 0, 32) := by decide +kernel
theorem fX10_qFloor_32 : a_fetch 272 32 = some (.lload 2, 33) := by decide +kernel
theorem fX10_qFloor_33 : a_fetch 272 33 = some (.jsr_w 0, 34) := by decide +kernel
theorem fX10_qFloor_34 : a_fetch 272 34 = some (.lcmp, 35) := by decide +kernel
theorem fX10_qFloor_35 : a_fetch 272 35 = some (.ifCond .ge 42, 38) := by decide +kernel
theorem fX10_qFloor_38 : a_fetch 272 38 = some (.iconst 1, 39) := by decide +kernel
theorem fX10_qFloor_39 : a_fetch 272 39 = some (.goto 43, 42) := by decide +kernel
theorem fX10_qFloor_42 : a_fetch 272 42 = some (.iconst 0, 43) := by decide +kernel
theorem fX10_qFloor_43 : a_fetch 272 43 = some (.if_icmp .eq 53, 46) := by decide +kernel
theorem fX10_qFloor_46 : a_fetch 272 46 = some (.lload 4, 48) := by decide +kernel
theorem fX10_qFloor_48 : a_fetch 272 48 = some (.jsr_w 1, 49) := by decide +kernel
theorem fX10_qFloor_49 : a_fetch 272 49 = some (.lsub, 50) := by decide +kernel
theorem fX10_qFloor_50 : a_fetch 272 50 = some (.goto 55, 53) := by decide +kernel
theorem fX10_qFloor_53 : a_fetch 272 53 = some (.lload 4, 55) := by decide +kernel
theorem fX10_qFloor_55 : a_fetch 272 55 = some (.lreturn, 56) := by decide +kernel
theorem fX10_qPuts_0 : a_fetch 273 0 = some (.aload 0, 1) := by decide +kernel
theorem fX10_qPuts_1 : a_fetch 273 1 = some (.invokeinterface 10 103, 4) := by decide +kernel
theorem fX10_qPuts_4 : a_fetch 273 4 = some (.aload 0, 5) := by decide +kernel
theorem fX10_qPuts_5 : a_fetch 273 5 = some (.invokeinterface 10 104, 8) := by decide +kernel
theorem fX10_qPuts_8 : a_fetch 273 8 = some (.lload 1, 9) := by decide +kernel
theorem fX10_qPuts_9 : a_fetch 273 9 = some (.lastore, 10) := by decide +kernel
theorem fX10_qPuts_10 : a_fetch 273 10 = some (.aload 0, 11) := by decide +kernel
theorem fX10_qPuts_11 : a_fetch 273 11 = some (.dup, 12) := by decide +kernel
theorem fX10_qPuts_12 : a_fetch 273 12 = some (.invokeinterface 10 104, 15) := by decide +kernel
theorem fX10_qPuts_15 : a_fetch 273 15 = some (.iconst 1, 16) := by decide +kernel
theorem fX10_qPuts_16 : a_fetch 273 16 = some (.iadd, 17) := by decide +kernel
theorem fX10_qPuts_17 : a_fetch 273 17 = some (.multianewarray 10 104, 20) := by decide +kernel
theorem fX10_qPuts_20 : a_fetch 273 20 = some (.return_, 21) := by decide +kernel
theorem fX10_qJoins_0 : a_fetch 274 0 = some (.aload 0, 1) := by decide +kernel
theorem fX10_qJoins_1 : a_fetch 274 1 = some (.invokeinterface 10 103, 4) := by decide +kernel
theorem fX10_qJoins_4 : a_fetch 274 4 = some (.aload 0, 5) := by decide +kernel
theorem fX10_qJoins_5 : a_fetch 274 5 = some (.invokeinterface 10 104, 8) := by decide +kernel
theorem fX10_qJoins_8 : a_fetch 274 8 = some (.iconst 1, 9) := by decide +kernel
theorem fX10_qJoins_9 : a_fetch 274 9 = some (.isub, 10) := by decide +kernel
theorem fX10_qJoins_10 : a_fetch 274 10 = some (.laload, 11) := by decide +kernel
theorem fX10_qJoins_11 : a_fetch 274 11 = some (.lstore 2, 12) := by decide +kernel
theorem fX10_qJoins_12 : a_fetch 274 12 = some (.aload 0, 13) := by decide +kernel
theorem fX10_qJoins_13 : a_fetch 274 13 = some (.invokeinterface 10 103, 16) := by decide +kernel
theorem fX10_qJoins_16 : a_fetch 274 16 = some (.aload 0, 17) := by decide +kernel
theorem fX10_qJoins_17 : a_fetch 274 17 = some (.invokeinterface 10 104, 20) := by decide +kernel
theorem fX10_qJoins_20 : a_fetch 274 20 = some (.iconst 2, 21) := by decide +kernel
theorem fX10_qJoins_21 : a_fetch 274 21 = some (.isub, 22) := by decide +kernel
theorem fX10_qJoins_22 : a_fetch 274 22 = some (.laload, 23) := by decide +kernel
theorem fX10_qJoins_23 : a_fetch 274 23 = some (.lstore 4, 25) := by decide +kernel
theorem fX10_qJoins_25 : a_fetch 274 25 = some (.aload 0, 26) := by decide +kernel
theorem fX10_qJoins_26 : a_fetch 274 26 = some (.dup, 27) := by decide +kernel
theorem fX10_qJoins_27 : a_fetch 274 27 = some (.invokeinterface 10 104, 30) := by decide +kernel
theorem fX10_qJoins_30 : a_fetch 274 30 = some (.iconst 2, 31) := by decide +kernel
theorem fX10_qJoins_31 : a_fetch 274 31 = some (.isub, 32) := by decide +kernel
theorem fX10_qJoins_32 : a_fetch 274 32 = some (.multianewarray 10 104, 35) := by decide +kernel
theorem fX10_qJoins_35 : a_fetch 274 35 = some (.iload 1, 36) := by decide +kernel
theorem fX10_qJoins_36 : a_fetch 274 36 = some (.tableswitch 255 1 10 #[92, 106, 120, 134, 147, 167, 187, 206, 225, 244], 92) := by decide +kernel
theorem fX10_qJoins_92 : a_fetch 274 92 = some (.aload 0, 93) := by decide +kernel
theorem fX10_qJoins_93 : a_fetch 274 93 = some (.lload 4, 95) := by decide +kernel
theorem fX10_qJoins_95 : a_fetch 274 95 = some (.lload 2, 96) := by decide +kernel
theorem fX10_qJoins_96 : a_fetch 274 96 = some (.ladd, 97) := by decide +kernel
theorem fX10_qJoins_97 : a_fetch 274 97 = some (.invokestatic 271, 100) := by decide +kernel
theorem fX10_qJoins_100 : a_fetch 274 100 = some (.invokevirtual 273, 103) := by decide +kernel
theorem fX10_qJoins_103 : a_fetch 274 103 = some (.goto 273, 106) := by decide +kernel
theorem fX10_qJoins_106 : a_fetch 274 106 = some (.aload 0, 107) := by decide +kernel
theorem fX10_qJoins_107 : a_fetch 274 107 = some (.lload 4, 109) := by decide +kernel
theorem fX10_qJoins_109 : a_fetch 274 109 = some (.lload 2, 110) := by decide +kernel
theorem fX10_qJoins_110 : a_fetch 274 110 = some (.lsub, 111) := by decide +kernel
theorem fX10_qJoins_111 : a_fetch 274 111 = some (.invokestatic 271, 114) := by decide +kernel
theorem fX10_qJoins_114 : a_fetch 274 114 = some (.invokevirtual 273, 117) := by decide +kernel
theorem fX10_qJoins_117 : a_fetch 274 117 = some (.goto 273, 120) := by decide +kernel
theorem fX10_qJoins_120 : a_fetch 274 120 = some (.aload 0, 121) := by decide +kernel
theorem fX10_qJoins_121 : a_fetch 274 121 = some (.lload 4, 123) := by decide +kernel
theorem fX10_qJoins_123 : a_fetch 274 123 = some (.lload 2, 124) := by decide +kernel
theorem fX10_qJoins_124 : a_fetch 274 124 = some (.lmul, 125) := by decide +kernel
theorem fX10_qJoins_125 : a_fetch 274 125 = some (.invokestatic 271, 128) := by decide +kernel
theorem fX10_qJoins_128 : a_fetch 274 128 = some (.invokevirtual 273, 131) := by decide +kernel
theorem fX10_qJoins_131 : a_fetch 274 131 = some (.goto 273, 134) := by decide +kernel
theorem fX10_qJoins_134 : a_fetch 274 134 = some (.aload 0, 135) := by decide +kernel
theorem fX10_qJoins_135 : a_fetch 274 135 = some (.lload 4, 137) := by decide +kernel
theorem fX10_qJoins_137 : a_fetch 274 137 = some (.lload 2, 138) := by decide +kernel
theorem fX10_qJoins_138 : a_fetch 274 138 = some (.invokestatic 272, 141) := by decide +kernel
theorem fX10_qJoins_141 : a_fetch 274 141 = some (.invokevirtual 273, 144) := by decide +kernel
theorem fX10_qJoins_144 : a_fetch 274 144 = some (.goto 273, 147) := by decide +kernel
theorem fX10_qJoins_147 : a_fetch 274 147 = some (.aload 0, 148) := by decide +kernel
theorem fX10_qJoins_148 : a_fetch 274 148 = some (.lload 4, 150) := by decide +kernel
theorem fX10_qJoins_150 : a_fetch 274 150 = some (.lload 2, 151) := by decide +kernel
theorem fX10_qJoins_151 : a_fetch 274 151 = some (.lcmp, 152) := by decide +kernel
theorem fX10_qJoins_152 : a_fetch 274 152 = some (.ifCond .ge 160, 155) := by decide +kernel
theorem fX10_qJoins_155 : a_fetch 274 155 = some (.lload 4, 157) := by decide +kernel
theorem fX10_qJoins_157 : a_fetch 274 157 = some (.goto 161, 160) := by decide +kernel
theorem fX10_qJoins_160 : a_fetch 274 160 = some (.lload 2, 161) := by decide +kernel
theorem fX10_qJoins_161 : a_fetch 274 161 = some (.invokevirtual 273, 164) := by decide +kernel
theorem fX10_qJoins_164 : a_fetch 274 164 = some (.goto 273, 167) := by decide +kernel
theorem fX10_qJoins_167 : a_fetch 274 167 = some (.aload 0, 168) := by decide +kernel
theorem fX10_qJoins_168 : a_fetch 274 168 = some (.lload 4, 170) := by decide +kernel
theorem fX10_qJoins_170 : a_fetch 274 170 = some (.lload 2, 171) := by decide +kernel
theorem fX10_qJoins_171 : a_fetch 274 171 = some (.lcmp, 172) := by decide +kernel
theorem fX10_qJoins_172 : a_fetch 274 172 = some (.ifCond .le 180, 175) := by decide +kernel
theorem fX10_qJoins_175 : a_fetch 274 175 = some (.lload 4, 177) := by decide +kernel
theorem fX10_qJoins_177 : a_fetch 274 177 = some (.goto 181, 180) := by decide +kernel
theorem fX10_qJoins_180 : a_fetch 274 180 = some (.lload 2, 181) := by decide +kernel
theorem fX10_qJoins_181 : a_fetch 274 181 = some (.invokevirtual 273, 184) := by decide +kernel
theorem fX10_qJoins_184 : a_fetch 274 184 = some (.goto 273, 187) := by decide +kernel
theorem fX10_qJoins_187 : a_fetch 274 187 = some (.aload 0, 188) := by decide +kernel
theorem fX10_qJoins_188 : a_fetch 274 188 = some (.lload 4, 190) := by decide +kernel
theorem fX10_qJoins_190 : a_fetch 274 190 = some (.lload 2, 191) := by decide +kernel
theorem fX10_qJoins_191 : a_fetch 274 191 = some (.lcmp, 192) := by decide +kernel
theorem fX10_qJoins_192 : a_fetch 274 192 = some (.ifCond .ge 199, 195) := by decide +kernel
theorem fX10_qJoins_195 : a_fetch 274 195 = some (.jsr_w 1, 196) := by decide +kernel
theorem fX10_qJoins_196 : a_fetch 274 196 = some (.goto 200, 199) := by decide +kernel
theorem fX10_qJoins_199 : a_fetch 274 199 = some (.jsr_w 0, 200) := by decide +kernel
theorem fX10_qJoins_200 : a_fetch 274 200 = some (.invokevirtual 273, 203) := by decide +kernel
theorem fX10_qJoins_203 : a_fetch 274 203 = some (.goto 273, 206) := by decide +kernel
theorem fX10_qJoins_206 : a_fetch 274 206 = some (.aload 0, 207) := by decide +kernel
theorem fX10_qJoins_207 : a_fetch 274 207 = some (.lload 4, 209) := by decide +kernel
theorem fX10_qJoins_209 : a_fetch 274 209 = some (.lload 2, 210) := by decide +kernel
theorem fX10_qJoins_210 : a_fetch 274 210 = some (.lcmp, 211) := by decide +kernel
theorem fX10_qJoins_211 : a_fetch 274 211 = some (.ifCond .le 218, 214) := by decide +kernel
theorem fX10_qJoins_214 : a_fetch 274 214 = some (.jsr_w 1, 215) := by decide +kernel
theorem fX10_qJoins_215 : a_fetch 274 215 = some (.goto 219, 218) := by decide +kernel
theorem fX10_qJoins_218 : a_fetch 274 218 = some (.jsr_w 0, 219) := by decide +kernel
theorem fX10_qJoins_219 : a_fetch 274 219 = some (.invokevirtual 273, 222) := by decide +kernel
theorem fX10_qJoins_222 : a_fetch 274 222 = some (.goto 273, 225) := by decide +kernel
theorem fX10_qJoins_225 : a_fetch 274 225 = some (.aload 0, 226) := by decide +kernel
theorem fX10_qJoins_226 : a_fetch 274 226 = some (.lload 4, 228) := by decide +kernel
theorem fX10_qJoins_228 : a_fetch 274 228 = some (.lload 2, 229) := by decide +kernel
theorem fX10_qJoins_229 : a_fetch 274 229 = some (.lcmp, 230) := by decide +kernel
theorem fX10_qJoins_230 : a_fetch 274 230 = some (.ifCond .ne 237, 233) := by decide +kernel
theorem fX10_qJoins_233 : a_fetch 274 233 = some (.jsr_w 1, 234) := by decide +kernel
theorem fX10_qJoins_234 : a_fetch 274 234 = some (.goto 238, 237) := by decide +kernel
theorem fX10_qJoins_237 : a_fetch 274 237 = some (.jsr_w 0, 238) := by decide +kernel
theorem fX10_qJoins_238 : a_fetch 274 238 = some (.invokevirtual 273, 241) := by decide +kernel
theorem fX10_qJoins_241 : a_fetch 274 241 = some (.goto 273, 244) := by decide +kernel
theorem fX10_qJoins_244 : a_fetch 274 244 = some (.aload 0, 245) := by decide +kernel
theorem fX10_qJoins_245 : a_fetch 274 245 = some (.lload 4, 247) := by decide +kernel
theorem fX10_qJoins_247 : a_fetch 274 247 = some (.lload 2, 248) := by decide +kernel
theorem fX10_qJoins_248 : a_fetch 274 248 = some (.lmul, 249) := by decide +kernel
theorem fX10_qJoins_249 : a_fetch 274 249 = some (.invokevirtual 273, 252) := by decide +kernel
theorem fX10_qJoins_252 : a_fetch 274 252 = some (.goto 273, 255) := by decide +kernel
theorem fX10_qJoins_255 : a_fetch 274 255 = some (.aload 0, 256) := by decide +kernel
theorem fX10_qJoins_256 : a_fetch 274 256 = some (.lload 4, 258) := by decide +kernel
theorem fX10_qJoins_258 : a_fetch 274 258 = some (.lload 2, 259) := by decide +kernel
theorem fX10_qJoins_259 : a_fetch 274 259 = some (.ladd, 260) := by decide +kernel
theorem fX10_qJoins_260 : a_fetch 274 260 = some (.jsr_w 0, 261) := by decide +kernel
theorem fX10_qJoins_261 : a_fetch 274 261 = some (.lcmp, 262) := by decide +kernel
theorem fX10_qJoins_262 : a_fetch 274 262 = some (.ifCond .le 269, 265) := by decide +kernel
theorem fX10_qJoins_265 : a_fetch 274 265 = some (.jsr_w 1, 266) := by decide +kernel
theorem fX10_qJoins_266 : a_fetch 274 266 = some (.goto 270, 269) := by decide +kernel
theorem fX10_qJoins_269 : a_fetch 274 269 = some (.jsr_w 0, 270) := by decide +kernel
theorem fX10_qJoins_270 : a_fetch 274 270 = some (.invokevirtual 273, 273) := by decide +kernel
theorem fX10_qJoins_273 : a_fetch 274 273 = some (.return_, 274) := by decide +kernel
theorem fX10_qPartOf_0 : a_fetch 275 0 = some (.iload 1, 1) := by decide +kernel
theorem fX10_qPartOf_1 : a_fetch 275 1 = some (.tableswitch 123 0 8 #[52, 57, 62, 67, 72, 77, 82, 87, 95], 52) := by decide +kernel
theorem fX10_qPartOf_52 : a_fetch 275 52 = some (.aload 0, 53) := by decide +kernel
theorem fX10_qPartOf_53 : a_fetch 275 53 = some (.invokeinterface 10 51, 56) := by decide +kernel
theorem fX10_qPartOf_56 : a_fetch 275 56 = some (.lreturn, 57) := by decide +kernel
theorem fX10_qPartOf_57 : a_fetch 275 57 = some (.aload 0, 58) := by decide +kernel
theorem fX10_qPartOf_58 : a_fetch 275 58 = some (.invokeinterface 10 52, 61) := by decide +kernel
theorem fX10_qPartOf_61 : a_fetch 275 61 = some (.lreturn, 62) := by decide +kernel
theorem fX10_qPartOf_62 : a_fetch 275 62 = some (.aload 0, 63) := by decide +kernel
theorem fX10_qPartOf_63 : a_fetch 275 63 = some (.invokeinterface 10 53, 66) := by decide +kernel
theorem fX10_qPartOf_66 : a_fetch 275 66 = some (.lreturn, 67) := by decide +kernel
theorem fX10_qPartOf_67 : a_fetch 275 67 = some (.aload 0, 68) := by decide +kernel
theorem fX10_qPartOf_68 : a_fetch 275 68 = some (.invokeinterface 10 54, 71) := by decide +kernel
theorem fX10_qPartOf_71 : a_fetch 275 71 = some (.lreturn, 72) := by decide +kernel
theorem fX10_qPartOf_72 : a_fetch 275 72 = some (.aload 0, 73) := by decide +kernel
theorem fX10_qPartOf_73 : a_fetch 275 73 = some (.invokeinterface 10 55, 76) := by decide +kernel
theorem fX10_qPartOf_76 : a_fetch 275 76 = some (.lreturn, 77) := by decide +kernel
theorem fX10_qPartOf_77 : a_fetch 275 77 = some (.aload 0, 78) := by decide +kernel
theorem fX10_qPartOf_78 : a_fetch 275 78 = some (.invokeinterface 10 56, 81) := by decide +kernel
theorem fX10_qPartOf_81 : a_fetch 275 81 = some (.lreturn, 82) := by decide +kernel
theorem fX10_qPartOf_82 : a_fetch 275 82 = some (.aload 0, 83) := by decide +kernel
theorem fX10_qPartOf_83 : a_fetch 275 83 = some (.invokeinterface 10 57, 86) := by decide +kernel
theorem fX10_qPartOf_86 : a_fetch 275 86 = some (.lreturn, 87) := by decide +kernel
theorem fX10_qPartOf_87 : a_fetch 275 87 = some (.aload 0, 88) := by decide +kernel
theorem fX10_qPartOf_88 : a_fetch 275 88 = some (.invokeinterface 10 49, 91) := by decide +kernel
theorem fX10_qPartOf_91 : a_fetch 275 91 = some (.iconst 0, 92) := by decide +kernel
theorem fX10_qPartOf_92 : a_fetch 275 92 = some (.iaload, 93) := by decide +kernel
theorem fX10_qPartOf_93 : a_fetch 275 93 = some (.i2l, 94) := by decide +kernel
theorem fX10_qPartOf_94 : a_fetch 275 94 = some (.lreturn, 95) := by decide +kernel
theorem fX10_qPartOf_95 : a_fetch 275 95 = some (.aload 0, 96) := by decide +kernel
theorem fX10_qPartOf_96 : a_fetch 275 96 = some (.aload 0, 97) := by decide +kernel
theorem fX10_qPartOf_97 : a_fetch 275 97 = some (.invokeinterface 10 58, 100) := by decide +kernel
theorem fX10_qPartOf_100 : a_fetch 275 100 = some (.invokevirtual 195, 103) := by decide +kernel
theorem fX10_qPartOf_103 : a_fetch 275 103 = some (.iconst (-1), 104) := by decide +kernel
theorem fX10_qPartOf_104 : a_fetch 275 104 = some (.if_icmp .ne 113, 107) := by decide +kernel
theorem fX10_qPartOf_107 : a_fetch 275 107 = some (.jsr_w 99, 110) := by decide +kernel
theorem fX10_qPartOf_110 : a_fetch 275 110 = some (.goto 122, 113) := by decide +kernel
theorem fX10_qPartOf_113 : a_fetch 275 113 = some (.aload 0, 114) := by decide +kernel
theorem fX10_qPartOf_114 : a_fetch 275 114 = some (.aload 0, 115) := by decide +kernel
theorem fX10_qPartOf_115 : a_fetch 275 115 = some (.invokeinterface 10 58, 118) := by decide +kernel
theorem fX10_qPartOf_118 : a_fetch 275 118 = some (.invokevirtual 195, 121) := by decide +kernel
theorem fX10_qPartOf_121 : a_fetch 275 121 = some (.i2l, 122) := by decide +kernel
theorem fX10_qPartOf_122 : a_fetch 275 122 = some (.lreturn, 123) := by decide +kernel
theorem fX10_qPartOf_123 : a_fetch 275 123 = some (.aload 0, 124) := by decide +kernel
theorem fX10_qPartOf_124 : a_fetch 275 124 = some (.invokeinterface 10 60, 127) := by decide +kernel
theorem fX10_qPartOf_127 : a_fetch 275 127 = some (.aload 0, 128) := by decide +kernel
theorem fX10_qPartOf_128 : a_fetch 275 128 = some (.invokeinterface 10 58, 131) := by decide +kernel
theorem fX10_qPartOf_131 : a_fetch 275 131 = some (.iaload, 132) := by decide +kernel
theorem fX10_qPartOf_132 : a_fetch 275 132 = some (.i2l, 133) := by decide +kernel
theorem fX10_qPartOf_133 : a_fetch 275 133 = some (.lreturn, 134) := by decide +kernel
theorem fX10_qOf_0 : a_fetch 276 0 = some (.iload 1, 1) := by decide +kernel
theorem fX10_qOf_1 : a_fetch 276 1 = some (.lookupswitch 12 #[], 12) := by decide +kernel
theorem fX10_qOf_12 : a_fetch 276 12 = some (.lload 2, 13) := by decide +kernel
theorem fX10_qOf_13 : a_fetch 276 13 = some (.jsr_w 0, 14) := by decide +kernel
theorem fX10_qOf_14 : a_fetch 276 14 = some (.aload 0, 15) := by decide +kernel
theorem fX10_qOf_15 : a_fetch 276 15 = some (.invokevirtual 189, 18) := by decide +kernel
