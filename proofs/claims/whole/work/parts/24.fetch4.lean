theorem fX10_city_45 : a_fetch 186 45 = some (.iload 1, 46) := by decide +kernel
theorem fX10_city_46 : a_fetch 186 46 = some (.iconst 3, 47) := by decide +kernel
theorem fX10_city_47 : a_fetch 186 47 = some (.if_icmp .ge 63, 50) := by decide +kernel
theorem fX10_city_50 : a_fetch 186 50 = some (.aload 0, 51) := by decide +kernel
theorem fX10_city_51 : a_fetch 186 51 = some (.invokeinterface 10 36, 54) := by decide +kernel
theorem fX10_city_54 : a_fetch 186 54 = some (.iload 1, 55) := by decide +kernel
theorem fX10_city_55 : a_fetch 186 55 = some (.iconst 0, 56) := by decide +kernel
theorem fX10_city_56 : a_fetch 186 56 = some (.iastore, 57) := by decide +kernel
theorem fX10_city_57 : a_fetch 186 57 = some (.iinc 1 1, 60) := by decide +kernel
theorem fX10_city_60 : a_fetch 186 60 = some (.goto 45, 63) := by decide +kernel
theorem fX10_city_63 : a_fetch 186 63 = some (.iconst 0, 64) := by decide +kernel
theorem fX10_city_64 : a_fetch 186 64 = some (.istore 1, 65) := by decide +kernel
theorem fX10_city_65 : a_fetch 186 65 = some (.iload 1, 66) := by decide +kernel
theorem fX10_city_66 : a_fetch 186 66 = some (.iconst 4, 67) := by decide +kernel
theorem fX10_city_67 : a_fetch 186 67 = some (.if_icmp .ge 83, 70) := by decide +kernel
theorem fX10_city_70 : a_fetch 186 70 = some (.aload 0, 71) := by decide +kernel
theorem fX10_city_71 : a_fetch 186 71 = some (.invokeinterface 10 43, 74) := by decide +kernel
theorem fX10_city_74 : a_fetch 186 74 = some (.iload 1, 75) := by decide +kernel
theorem fX10_city_75 : a_fetch 186 75 = some (.iconst (-1), 76) := by decide +kernel
theorem fX10_city_76 : a_fetch 186 76 = some (.iastore, 77) := by decide +kernel
theorem fX10_city_77 : a_fetch 186 77 = some (.iinc 1 1, 80) := by decide +kernel
theorem fX10_city_80 : a_fetch 186 80 = some (.goto 65, 83) := by decide +kernel
theorem fX10_city_83 : a_fetch 186 83 = some (.aload 0, 84) := by decide +kernel
theorem fX10_city_84 : a_fetch 186 84 = some (.invokeinterface 10 5, 87) := by decide +kernel
theorem fX10_city_87 : a_fetch 186 87 = some (.ifCond .ne 105, 90) := by decide +kernel
theorem fX10_city_90 : a_fetch 186 90 = some (.aload 0, 91) := by decide +kernel
theorem fX10_city_91 : a_fetch 186 91 = some (.invokevirtual 165, 94) := by decide +kernel
theorem fX10_city_94 : a_fetch 186 94 = some (.iconst (-1), 95) := by decide +kernel
theorem fX10_city_95 : a_fetch 186 95 = some (.if_icmp .eq 105, 98) := by decide +kernel
theorem fX10_city_98 : a_fetch 186 98 = some (.aload 0, 99) := by decide +kernel
theorem fX10_city_99 : a_fetch 186 99 = some (.invokevirtual 185, 102) := by decide +kernel
theorem fX10_city_102 : a_fetch 186 102 = some (.goto 83, 105) := by decide +kernel
theorem fX10_city_105 : a_fetch 186 105 = some (.aload 0, 106) := by decide +kernel
theorem fX10_city_106 : a_fetch 186 106 = some (.aload 0, 107) := by decide +kernel
theorem fX10_city_107 : a_fetch 186 107 = some (.invokeinterface 10 5, 110) := by decide +kernel
theorem fX10_city_110 : a_fetch 186 110 = some (.multianewarray 10 7, 113) := by decide +kernel
theorem fX10_city_113 : a_fetch 186 113 = some (.aload 0, 114) := by decide +kernel
theorem fX10_city_114 : a_fetch 186 114 = some (.aload 0, 115) := by decide +kernel
theorem fX10_city_115 : a_fetch 186 115 = some (.invokeinterface 10 6, 118) := by decide +kernel
theorem fX10_city_118 : a_fetch 186 118 = some (.multianewarray 10 8, 121) := by decide +kernel
theorem fX10_city_121 : a_fetch 186 121 = some (.aload 0, 122) := by decide +kernel
theorem fX10_city_122 : a_fetch 186 122 = some (.invokeinterface 10 5, 125) := by decide +kernel
theorem fX10_city_125 : a_fetch 186 125 = some (.ifCond .eq 140, 128) := by decide +kernel
theorem fX10_city_128 : a_fetch 186 128 = some (.aload 0, 129) := by decide +kernel
theorem fX10_city_129 : a_fetch 186 129 = some (.invokeinterface 10 9, 132) := by decide +kernel
theorem fX10_city_132 : a_fetch 186 132 = some (.iconst 1, 133) := by decide +kernel
theorem fX10_city_133 : a_fetch 186 133 = some (.dup2, 134) := by decide +kernel
theorem fX10_city_134 : a_fetch 186 134 = some (.iaload, 135) := by decide +kernel
theorem fX10_city_135 : a_fetch 186 135 = some (.iconst 1, 136) := by decide +kernel
theorem fX10_city_136 : a_fetch 186 136 = some (.iadd, 137) := by decide +kernel
theorem fX10_city_137 : a_fetch 186 137 = some (.iastore, 138) := by decide +kernel
theorem fX10_city_138 : a_fetch 186 138 = some (.iconst (-1), 139) := by decide +kernel
theorem fX10_city_139 : a_fetch 186 139 = some (.ireturn, 140) := by decide +kernel
theorem fX10_city_140 : a_fetch 186 140 = some (.aload 0, 141) := by decide +kernel
theorem fX10_city_141 : a_fetch 186 141 = some (.invokevirtual 187, 144) := by decide +kernel
theorem fX10_city_144 : a_fetch 186 144 = some (.aload 0, 145) := by decide +kernel
theorem fX10_city_145 : a_fetch 186 145 = some (.invokeinterface 10 47, 148) := by decide +kernel
theorem fX10_city_148 : a_fetch 186 148 = some (.ireturn, 149) := by decide +kernel
theorem fX10_stands_0 : a_fetch 187 0 = some (.iconst 0, 1) := by decide +kernel
theorem fX10_stands_1 : a_fetch 187 1 = some (.istore 1, 2) := by decide +kernel
theorem fX10_stands_2 : a_fetch 187 2 = some (.iload 1, 3) := by decide +kernel
theorem fX10_stands_3 : a_fetch 187 3 = some (.iconst 3, 4) := by decide +kernel
theorem fX10_stands_4 : a_fetch 187 4 = some (.if_icmp .ge 27, 7) := by decide +kernel
theorem fX10_stands_7 : a_fetch 187 7 = some (.aload 0, 8) := by decide +kernel
theorem fX10_stands_8 : a_fetch 187 8 = some (.invokeinterface 10 36, 11) := by decide +kernel
theorem fX10_stands_11 : a_fetch 187 11 = some (.iconst 3, 12) := by decide +kernel
theorem fX10_stands_12 : a_fetch 187 12 = some (.iload 1, 13) := by decide +kernel
theorem fX10_stands_13 : a_fetch 187 13 = some (.iadd, 14) := by decide +kernel
theorem fX10_stands_14 : a_fetch 187 14 = some (.aload 0, 15) := by decide +kernel
theorem fX10_stands_15 : a_fetch 187 15 = some (.invokeinterface 10 36, 18) := by decide +kernel
theorem fX10_stands_18 : a_fetch 187 18 = some (.iload 1, 19) := by decide +kernel
theorem fX10_stands_19 : a_fetch 187 19 = some (.iaload, 20) := by decide +kernel
theorem fX10_stands_20 : a_fetch 187 20 = some (.iastore, 21) := by decide +kernel
theorem fX10_stands_21 : a_fetch 187 21 = some (.iinc 1 1, 24) := by decide +kernel
theorem fX10_stands_24 : a_fetch 187 24 = some (.goto 2, 27) := by decide +kernel
theorem fX10_stands_27 : a_fetch 187 27 = some (.iconst 0, 28) := by decide +kernel
theorem fX10_stands_28 : a_fetch 187 28 = some (.istore 1, 29) := by decide +kernel
theorem fX10_stands_29 : a_fetch 187 29 = some (.iload 1, 30) := by decide +kernel
theorem fX10_stands_30 : a_fetch 187 30 = some (.iconst 20, 32) := by decide +kernel
theorem fX10_stands_32 : a_fetch 187 32 = some (.if_icmp .ge 71, 35) := by decide +kernel
theorem fX10_stands_35 : a_fetch 187 35 = some (.aload 0, 36) := by decide +kernel
theorem fX10_stands_36 : a_fetch 187 36 = some (.invokeinterface 10 37, 39) := by decide +kernel
theorem fX10_stands_39 : a_fetch 187 39 = some (.iconst 20, 41) := by decide +kernel
theorem fX10_stands_41 : a_fetch 187 41 = some (.iload 1, 42) := by decide +kernel
theorem fX10_stands_42 : a_fetch 187 42 = some (.iadd, 43) := by decide +kernel
theorem fX10_stands_43 : a_fetch 187 43 = some (.aload 0, 44) := by decide +kernel
theorem fX10_stands_44 : a_fetch 187 44 = some (.invokeinterface 10 37, 47) := by decide +kernel
theorem fX10_stands_47 : a_fetch 187 47 = some (.iload 1, 48) := by decide +kernel
theorem fX10_stands_48 : a_fetch 187 48 = some (.laload, 49) := by decide +kernel
theorem fX10_stands_49 : a_fetch 187 49 = some (.lastore, 50) := by decide +kernel
theorem fX10_stands_50 : a_fetch 187 50 = some (.aload 0, 51) := by decide +kernel
theorem fX10_stands_51 : a_fetch 187 51 = some (.invokeinterface 10 38, 54) := by decide +kernel
theorem fX10_stands_54 : a_fetch 187 54 = some (.iconst 20, 56) := by decide +kernel
theorem fX10_stands_56 : a_fetch 187 56 = some (.iload 1, 57) := by decide +kernel
theorem fX10_stands_57 : a_fetch 187 57 = some (.iadd, 58) := by decide +kernel
theorem fX10_stands_58 : a_fetch 187 58 = some (.aload 0, 59) := by decide +kernel
theorem fX10_stands_59 : a_fetch 187 59 = some (.invokeinterface 10 38, 62) := by decide +kernel
theorem fX10_stands_62 : a_fetch 187 62 = some (.iload 1, 63) := by decide +kernel
theorem fX10_stands_63 : a_fetch 187 63 = some (.iaload, 64) := by decide +kernel
theorem fX10_stands_64 : a_fetch 187 64 = some (.iastore, 65) := by decide +kernel
theorem fX10_stands_65 : a_fetch 187 65 = some (.iinc 1 1, 68) := by decide +kernel
theorem fX10_stands_68 : a_fetch 187 68 = some (.goto 29, 71) := by decide +kernel
theorem fX10_stands_71 : a_fetch 187 71 = some (.iconst 0, 72) := by decide +kernel
theorem fX10_stands_72 : a_fetch 187 72 = some (.istore 1, 73) := by decide +kernel
theorem fX10_stands_73 : a_fetch 187 73 = some (.iload 1, 74) := by decide +kernel
theorem fX10_stands_74 : a_fetch 187 74 = some (.iconst 72, 76) := by decide +kernel
theorem fX10_stands_76 : a_fetch 187 76 = some (.if_icmp .ge 100, 79) := by decide +kernel
theorem fX10_stands_79 : a_fetch 187 79 = some (.aload 0, 80) := by decide +kernel
theorem fX10_stands_80 : a_fetch 187 80 = some (.invokeinterface 10 39, 83) := by decide +kernel
theorem fX10_stands_83 : a_fetch 187 83 = some (.iconst 72, 85) := by decide +kernel
theorem fX10_stands_85 : a_fetch 187 85 = some (.iload 1, 86) := by decide +kernel
theorem fX10_stands_86 : a_fetch 187 86 = some (.iadd, 87) := by decide +kernel
theorem fX10_stands_87 : a_fetch 187 87 = some (.aload 0, 88) := by decide +kernel
theorem fX10_stands_88 : a_fetch 187 88 = some (.invokeinterface 10 39, 91) := by decide +kernel
theorem fX10_stands_91 : a_fetch 187 91 = some (.iload 1, 92) := by decide +kernel
theorem fX10_stands_92 : a_fetch 187 92 = some (.iaload, 93) := by decide +kernel
theorem fX10_stands_93 : a_fetch 187 93 = some (.iastore, 94) := by decide +kernel
theorem fX10_stands_94 : a_fetch 187 94 = some (.iinc 1 1, 97) := by decide +kernel
theorem fX10_stands_97 : a_fetch 187 97 = some (.goto 73, 100) := by decide +kernel
theorem fX10_stands_100 : a_fetch 187 100 = some (.iconst 0, 101) := by decide +kernel
theorem fX10_stands_101 : a_fetch 187 101 = some (.istore 1, 102) := by decide +kernel
theorem fX10_stands_102 : a_fetch 187 102 = some (.iload 1, 103) := by decide +kernel
theorem fX10_stands_103 : a_fetch 187 103 = some (.iconst 10, 105) := by decide +kernel
theorem fX10_stands_105 : a_fetch 187 105 = some (.if_icmp .ge 144, 108) := by decide +kernel
theorem fX10_stands_108 : a_fetch 187 108 = some (.aload 0, 109) := by decide +kernel
theorem fX10_stands_109 : a_fetch 187 109 = some (.invokeinterface 10 40, 112) := by decide +kernel
theorem fX10_stands_112 : a_fetch 187 112 = some (.iconst 10, 114) := by decide +kernel
theorem fX10_stands_114 : a_fetch 187 114 = some (.iload 1, 115) := by decide +kernel
theorem fX10_stands_115 : a_fetch 187 115 = some (.iadd, 116) := by decide +kernel
theorem fX10_stands_116 : a_fetch 187 116 = some (.aload 0, 117) := by decide +kernel
theorem fX10_stands_117 : a_fetch 187 117 = some (.invokeinterface 10 40, 120) := by decide +kernel
theorem fX10_stands_120 : a_fetch 187 120 = some (.iload 1, 121) := by decide +kernel
theorem fX10_stands_121 : a_fetch 187 121 = some (.iaload, 122) := by decide +kernel
theorem fX10_stands_122 : a_fetch 187 122 = some (.iastore, 123) := by decide +kernel
theorem fX10_stands_123 : a_fetch 187 123 = some (.aload 0, 124) := by decide +kernel
theorem fX10_stands_124 : a_fetch 187 124 = some (.invokeinterface 10 41, 127) := by decide +kernel
theorem fX10_stands_127 : a_fetch 187 127 = some (.iconst 10, 129) := by decide +kernel
theorem fX10_stands_129 : a_fetch 187 129 = some (.iload 1, 130) := by decide +kernel
theorem fX10_stands_130 : a_fetch 187 130 = some (.iadd, 131) := by decide +kernel
theorem fX10_stands_131 : a_fetch 187 131 = some (.aload 0, 132) := by decide +kernel
theorem fX10_stands_132 : a_fetch 187 132 = some (.invokeinterface 10 41, 135) := by decide +kernel
theorem fX10_stands_135 : a_fetch 187 135 = some (.iload 1, 136) := by decide +kernel
theorem fX10_stands_136 : a_fetch 187 136 = some (.iaload, 137) := by decide +kernel
theorem fX10_stands_137 : a_fetch 187 137 = some (.iastore, 138) := by decide +kernel
theorem fX10_stands_138 : a_fetch 187 138 = some (.iinc 1 1, 141) := by decide +kernel
theorem fX10_stands_141 : a_fetch 187 141 = some (.goto 102, 144) := by decide +kernel
theorem fX10_stands_144 : a_fetch 187 144 = some (.iconst 0, 145) := by decide +kernel
theorem fX10_stands_145 : a_fetch 187 145 = some (.istore 1, 146) := by decide +kernel
theorem fX10_stands_146 : a_fetch 187 146 = some (.iload 1, 147) := by decide +kernel
theorem fX10_stands_147 : a_fetch 187 147 = some (.iconst 100, 149) := by decide +kernel
theorem fX10_stands_149 : a_fetch 187 149 = some (.if_icmp .ge 173, 152) := by decide +kernel
theorem fX10_stands_152 : a_fetch 187 152 = some (.aload 0, 153) := by decide +kernel
theorem fX10_stands_153 : a_fetch 187 153 = some (.invokeinterface 10 42, 156) := by decide +kernel
theorem fX10_stands_156 : a_fetch 187 156 = some (.iconst 100, 158) := by decide +kernel
theorem fX10_stands_158 : a_fetch 187 158 = some (.iload 1, 159) := by decide +kernel
theorem fX10_stands_159 : a_fetch 187 159 = some (.iadd, 160) := by decide +kernel
theorem fX10_stands_160 : a_fetch 187 160 = some (.aload 0, 161) := by decide +kernel
theorem fX10_stands_161 : a_fetch 187 161 = some (.invokeinterface 10 42, 164) := by decide +kernel
theorem fX10_stands_164 : a_fetch 187 164 = some (.iload 1, 165) := by decide +kernel
theorem fX10_stands_165 : a_fetch 187 165 = some (.iaload, 166) := by decide +kernel
theorem fX10_stands_166 : a_fetch 187 166 = some (.iastore, 167) := by decide +kernel
theorem fX10_stands_167 : a_fetch 187 167 = some (.iinc 1 1, 170) := by decide +kernel
theorem fX10_stands_170 : a_fetch 187 170 = some (.goto 146, 173) := by decide +kernel
theorem fX10_stands_173 : a_fetch 187 173 = some (.iconst 0, 174) := by decide +kernel
theorem fX10_stands_174 : a_fetch 187 174 = some (.istore 1, 175) := by decide +kernel
theorem fX10_stands_175 : a_fetch 187 175 = some (.iload 1, 176) := by decide +kernel
theorem fX10_stands_176 : a_fetch 187 176 = some (.iconst 4, 177) := by decide +kernel
theorem fX10_stands_177 : a_fetch 187 177 = some (.if_icmp .ge 214, 180) := by decide +kernel
theorem fX10_stands_180 : a_fetch 187 180 = some (.aload 0, 181) := by decide +kernel
theorem fX10_stands_181 : a_fetch 187 181 = some (.invokeinterface 10 43, 184) := by decide +kernel
theorem fX10_stands_184 : a_fetch 187 184 = some (.iconst 4, 185) := by decide +kernel
theorem fX10_stands_185 : a_fetch 187 185 = some (.iload 1, 186) := by decide +kernel
theorem fX10_stands_186 : a_fetch 187 186 = some (.iadd, 187) := by decide +kernel
theorem fX10_stands_187 : a_fetch 187 187 = some (.aload 0, 188) := by decide +kernel
theorem fX10_stands_188 : a_fetch 187 188 = some (.invokeinterface 10 43, 191) := by decide +kernel
theorem fX10_stands_191 : a_fetch 187 191 = some (.iload 1, 192) := by decide +kernel
theorem fX10_stands_192 : a_fetch 187 192 = some (.iaload, 193) := by decide +kernel
theorem fX10_stands_193 : a_fetch 187 193 = some (.iastore, 194) := by decide +kernel
theorem fX10_stands_194 : a_fetch 187 194 = some (.aload 0, 195) := by decide +kernel
theorem fX10_stands_195 : a_fetch 187 195 = some (.invokeinterface 10 44, 198) := by decide +kernel
theorem fX10_stands_198 : a_fetch 187 198 = some (.iconst 4, 199) := by decide +kernel
theorem fX10_stands_199 : a_fetch 187 199 = some (.iload 1, 200) := by decide +kernel
theorem fX10_stands_200 : a_fetch 187 200 = some (.iadd, 201) := by decide +kernel
theorem fX10_stands_201 : a_fetch 187 201 = some (.aload 0, 202) := by decide +kernel
theorem fX10_stands_202 : a_fetch 187 202 = some (.invokeinterface 10 44, 205) := by decide +kernel
theorem fX10_stands_205 : a_fetch 187 205 = some (.iload 1, 206) := by decide +kernel
theorem fX10_stands_206 : a_fetch 187 206 = some (.iaload, 207) := by decide +kernel
theorem fX10_stands_207 : a_fetch 187 207 = some (.iastore, 208) := by decide +kernel
theorem fX10_stands_208 : a_fetch 187 208 = some (.iinc 1 1, 211) := by decide +kernel
theorem fX10_stands_211 : a_fetch 187 211 = some (.goto 175, 214) := by decide +kernel
theorem fX10_stands_214 : a_fetch 187 214 = some (.iconst 0, 215) := by decide +kernel
theorem fX10_stands_215 : a_fetch 187 215 = some (.istore 1, 216) := by decide +kernel
theorem fX10_stands_216 : a_fetch 187 216 = some (.iload 1, 217) := by decide +kernel
theorem fX10_stands_217 : a_fetch 187 217 = some (.aload 0, 218) := by decide +kernel
theorem fX10_stands_218 : a_fetch 187 218 = some (.invokeinterface 10 46, 221) := by decide +kernel
theorem fX10_stands_221 : a_fetch 187 221 = some (.if_icmp .ge 246, 224) := by decide +kernel
theorem fX10_stands_224 : a_fetch 187 224 = some (.aload 0, 225) := by decide +kernel
theorem fX10_stands_225 : a_fetch 187 225 = some (.invokeinterface 10 45, 228) := by decide +kernel
theorem fX10_stands_228 : a_fetch 187 228 = some (.iconst 1600, 231) := by decide +kernel
theorem fX10_stands_231 : a_fetch 187 231 = some (.iload 1, 232) := by decide +kernel
theorem fX10_stands_232 : a_fetch 187 232 = some (.iadd, 233) := by decide +kernel
theorem fX10_stands_233 : a_fetch 187 233 = some (.aload 0, 234) := by decide +kernel
theorem fX10_stands_234 : a_fetch 187 234 = some (.invokeinterface 10 45, 237) := by decide +kernel
theorem fX10_stands_237 : a_fetch 187 237 = some (.iload 1, 238) := by decide +kernel
theorem fX10_stands_238 : a_fetch 187 238 = some (.iaload, 239) := by decide +kernel
theorem fX10_stands_239 : a_fetch 187 239 = some (.iastore, 240) := by decide +kernel
theorem fX10_stands_240 : a_fetch 187 240 = some (.iinc 1 1, 243) := by decide +kernel
theorem fX10_stands_243 : a_fetch 187 243 = some (.goto 216, 246) := by decide +kernel
theorem fX10_stands_246 : a_fetch 187 246 = some (.iconst 0, 247) := by decide +kernel
theorem fX10_stands_247 : a_fetch 187 247 = some (.istore 1, 248) := by decide +kernel
theorem fX10_stands_248 : a_fetch 187 248 = some (.iload 1, 249) := by decide +kernel
theorem fX10_stands_249 : a_fetch 187 249 = some (.iconst 282, 252) := by decide +kernel
theorem fX10_stands_252 : a_fetch 187 252 = some (.if_icmp .ge 268, 255) := by decide +kernel
theorem fX10_stands_255 : a_fetch 187 255 = some (.aload 0, 256) := by decide +kernel
theorem fX10_stands_256 : a_fetch 187 256 = some (.invokeinterface 10 49, 259) := by decide +kernel
theorem fX10_stands_259 : a_fetch 187 259 = some (.iload 1, 260) := by decide +kernel
theorem fX10_stands_260 : a_fetch 187 260 = some (.iconst 0, 261) := by decide +kernel
theorem fX10_stands_261 : a_fetch 187 261 = some (.iastore, 262) := by decide +kernel
theorem fX10_stands_262 : a_fetch 187 262 = some (.iinc 1 1, 265) := by decide +kernel
theorem fX10_stands_265 : a_fetch 187 265 = some (.goto 248, 268) := by decide +kernel
theorem fX10_stands_268 : a_fetch 187 268 = some (.iconst 0, 269) := by decide +kernel
theorem fX10_stands_269 : a_fetch 187 269 = some (.istore 1, 270) := by decide +kernel
theorem fX10_stands_270 : a_fetch 187 270 = some (.iload 1, 271) := by decide +kernel
theorem fX10_stands_271 : a_fetch 187 271 = some (.aload 0, 272) := by decide +kernel
theorem fX10_stands_272 : a_fetch 187 272 = some (.invokeinterface 10 36, 275) := by decide +kernel
theorem fX10_stands_275 : a_fetch 187 275 = some (.iconst 0, 276) := by decide +kernel
theorem fX10_stands_276 : a_fetch 187 276 = some (.iaload, 277) := by decide +kernel
theorem fX10_stands_277 : a_fetch 187 277 = some (.if_icmp .ge 352, 280) := by decide +kernel
theorem fX10_stands_280 : a_fetch 187 280 = some (.aload 0, 281) := by decide +kernel
theorem fX10_stands_281 : a_fetch 187 281 = some (.invokeinterface 10 49, 284) := by decide +kernel
theorem fX10_stands_284 : a_fetch 187 284 = some (.iconst 1, 285) := by decide +kernel
theorem fX10_stands_285 : a_fetch 187 285 = some (.iconst 12, 287) := by decide +kernel
theorem fX10_stands_287 : a_fetch 187 287 = some (.iload 1, 288) := by decide +kernel
theorem fX10_stands_288 : a_fetch 187 288 = some (.imul, 289) := by decide +kernel
theorem fX10_stands_289 : a_fetch 187 289 = some (.iadd, 290) := by decide +kernel
theorem fX10_stands_290 : a_fetch 187 290 = some (.iload 1, 291) := by decide +kernel
theorem fX10_stands_291 : a_fetch 187 291 = some (.iastore, 292) := by decide +kernel
theorem fX10_stands_292 : a_fetch 187 292 = some (.aload 0, 293) := by decide +kernel
theorem fX10_stands_293 : a_fetch 187 293 = some (.invokeinterface 10 49, 296) := by decide +kernel
theorem fX10_stands_296 : a_fetch 187 296 = some (.iconst 2, 297) := by decide +kernel
theorem fX10_stands_297 : a_fetch 187 297 = some (.iconst 12, 299) := by decide +kernel
theorem fX10_stands_299 : a_fetch 187 299 = some (.iload 1, 300) := by decide +kernel
theorem fX10_stands_300 : a_fetch 187 300 = some (.imul, 301) := by decide +kernel
theorem fX10_stands_301 : a_fetch 187 301 = some (.iadd, 302) := by decide +kernel
theorem fX10_stands_302 : a_fetch 187 302 = some (.iconst (-1), 303) := by decide +kernel
theorem fX10_stands_303 : a_fetch 187 303 = some (.iastore, 304) := by decide +kernel
theorem fX10_stands_304 : a_fetch 187 304 = some (.iconst 0, 305) := by decide +kernel
theorem fX10_stands_305 : a_fetch 187 305 = some (.istore 2, 306) := by decide +kernel
theorem fX10_stands_306 : a_fetch 187 306 = some (.iload 2, 307) := by decide +kernel
theorem fX10_stands_307 : a_fetch 187 307 = some (.aload 0, 308) := by decide +kernel
theorem fX10_stands_308 : a_fetch 187 308 = some (.invokeinterface 10 36, 311) := by decide +kernel
theorem fX10_stands_311 : a_fetch 187 311 = some (.iconst 0, 312) := by decide +kernel
theorem fX10_stands_312 : a_fetch 187 312 = some (.iaload, 313) := by decide +kernel
theorem fX10_stands_313 : a_fetch 187 313 = some (.if_icmp .ge 346, 316) := by decide +kernel
theorem fX10_stands_316 : a_fetch 187 316 = some (.aload 0, 317) := by decide +kernel
theorem fX10_stands_317 : a_fetch 187 317 = some (.invokeinterface 10 49, 320) := by decide +kernel
theorem fX10_stands_320 : a_fetch 187 320 = some (.iconst 3, 321) := by decide +kernel
theorem fX10_stands_321 : a_fetch 187 321 = some (.iconst 12, 323) := by decide +kernel
theorem fX10_stands_323 : a_fetch 187 323 = some (.iload 1, 324) := by decide +kernel
theorem fX10_stands_324 : a_fetch 187 324 = some (.imul, 325) := by decide +kernel
theorem fX10_stands_325 : a_fetch 187 325 = some (.iadd, 326) := by decide +kernel
theorem fX10_stands_326 : a_fetch 187 326 = some (.iload 2, 327) := by decide +kernel
theorem fX10_stands_327 : a_fetch 187 327 = some (.iadd, 328) := by decide +kernel
theorem fX10_stands_328 : a_fetch 187 328 = some (.aload 0, 329) := by decide +kernel
theorem fX10_stands_329 : a_fetch 187 329 = some (.invokeinterface 10 42, 332) := by decide +kernel
theorem fX10_stands_332 : a_fetch 187 332 = some (.iconst 10, 334) := by decide +kernel
theorem fX10_stands_334 : a_fetch 187 334 = some (.iload 1, 335) := by decide +kernel
theorem fX10_stands_335 : a_fetch 187 335 = some (.imul, 336) := by decide +kernel
theorem fX10_stands_336 : a_fetch 187 336 = some (.iload 2, 337) := by decide +kernel
theorem fX10_stands_337 : a_fetch 187 337 = some (.iadd, 338) := by decide +kernel
theorem fX10_stands_338 : a_fetch 187 338 = some (.iaload, 339) := by decide +kernel
theorem fX10_stands_339 : a_fetch 187 339 = some (.iastore, 340) := by decide +kernel
theorem fX10_stands_340 : a_fetch 187 340 = some (.iinc 2 1, 343) := by decide +kernel
theorem fX10_stands_343 : a_fetch 187 343 = some (.goto 306, 346) := by decide +kernel
theorem fX10_stands_346 : a_fetch 187 346 = some (.iinc 1 1, 349) := by decide +kernel
theorem fX10_stands_349 : a_fetch 187 349 = some (.goto 270, 352) := by decide +kernel
theorem fX10_stands_352 : a_fetch 187 352 = some (.aload 0, 353) := by decide +kernel
theorem fX10_stands_353 : a_fetch 187 353 = some (.iconst 0, 354) := by decide +kernel
theorem fX10_stands_354 : a_fetch 187 354 = some (.multianewarray 10 69, 357) := by decide +kernel
theorem fX10_stands_357 : a_fetch 187 357 = some (.aload 0, 358) := by decide +kernel
theorem fX10_stands_358 : a_fetch 187 358 = some (.iconst 0, 359) := by decide +kernel
theorem fX10_stands_359 : a_fetch 187 359 = some (.multianewarray 10 72, 362) := by decide +kernel
theorem fX10_stands_362 : a_fetch 187 362 = some (.return_, 363) := by decide +kernel
theorem fX10_fault_0 : a_fetch 188 0 = some (.iload 1, 1) := by decide +kernel
theorem fX10_fault_1 : a_fetch 188 1 = some (.ifCond .ne 11, 4) := by decide +kernel
theorem fX10_fault_4 : a_fetch 188 4 = some (.aload 0, 5) := by decide +kernel
theorem fX10_fault_5 : a_fetch 188 5 = some (.invokeinterface 10 7, 8) := by decide +kernel
theorem fX10_fault_8 : a_fetch 188 8 = some (.goto 24, 11) := by decide +kernel
theorem fX10_fault_11 : a_fetch 188 11 = some (.iload 1, 12) := by decide +kernel
theorem fX10_fault_12 : a_fetch 188 12 = some (.iconst 1, 13) := by decide +kernel
theorem fX10_fault_13 : a_fetch 188 13 = some (.if_icmp .ne 23, 16) := by decide +kernel
theorem fX10_fault_16 : a_fetch 188 16 = some (.aload 0, 17) := by decide +kernel
theorem fX10_fault_17 : a_fetch 188 17 = some (.invokeinterface 10 8, 20) := by decide +kernel
theorem fX10_fault_20 : a_fetch 188 20 = some (.goto 24, 23) := by decide +kernel
theorem fX10_fault_23 : a_fetch 188 23 = some (.iconst (-1), 24) := by decide +kernel
theorem fX10_fault_24 : a_fetch 188 24 = some (.ireturn, 25) := by decide +kernel
theorem fX10_peopleMany_0 : a_fetch 189 0 = some (.aload 0, 1) := by decide +kernel
theorem fX10_peopleMany_1 : a_fetch 189 1 = some (.invokeinterface 10 36, 4) := by decide +kernel
theorem fX10_peopleMany_4 : a_fetch 189 4 = some (.iconst 3, 5) := by decide +kernel
theorem fX10_peopleMany_5 : a_fetch 189 5 = some (.iaload, 6) := by decide +kernel
theorem fX10_peopleMany_6 : a_fetch 189 6 = some (.ireturn, 7) := by decide +kernel
theorem fX10_dutyMany_0 : a_fetch 190 0 = some (.aload 0, 1) := by decide +kernel
theorem fX10_dutyMany_1 : a_fetch 190 1 = some (.invokeinterface 10 36, 4) := by decide +kernel
theorem fX10_dutyMany_4 : a_fetch 190 4 = some (.iconst 5, 5) := by decide +kernel
theorem fX10_dutyMany_5 : a_fetch 190 5 = some (.iaload, 6) := by decide +kernel
theorem fX10_dutyMany_6 : a_fetch 190 6 = some (.ireturn, 7) := by decide +kernel
theorem fX10_isPerson_0 : a_fetch 191 0 = some (.iload 1, 1) := by decide +kernel
theorem fX10_isPerson_1 : a_fetch 191 1 = some (.i2l, 2) := by decide +kernel
theorem fX10_isPerson_2 : a_fetch 191 2 = some (.jsr_w 0, 3) := by decide +kernel
theorem fX10_isPerson_3 : a_fetch 191 3 = some (.aload 0, 4) := by decide +kernel
theorem fX10_isPerson_4 : a_fetch 191 4 = some (.invokevirtual 189, 7) := by decide +kernel
theorem fX10_isPerson_7 : a_fetch 191 7 = some (.iconst 1, 8) := by decide +kernel
theorem fX10_isPerson_8 : a_fetch 191 8 = some (.isub, 9) := by decide +kernel
theorem fX10_isPerson_9 : a_fetch 191 9 = some (.i2l, 10) := by decide +kernel
theorem fX10_isPerson_10 : a_fetch 191 10 = some (.invokestatic 159, 13) := by decide +kernel
theorem fX10_isPerson_13 : a_fetch 191 13 = some (.ireturn, 14) := by decide +kernel
theorem fX10_wardOf_0 : a_fetch 192 0 = some (.aload 0, 1) := by decide +kernel
theorem fX10_wardOf_1 : a_fetch 192 1 = some (.invokeinterface 10 38, 4) := by decide +kernel
theorem fX10_wardOf_4 : a_fetch 192 4 = some (.iconst 20, 6) := by decide +kernel
theorem fX10_wardOf_6 : a_fetch 192 6 = some (.iload 1, 7) := by decide +kernel
theorem fX10_wardOf_7 : a_fetch 192 7 = some (.iadd, 8) := by decide +kernel
theorem fX10_wardOf_8 : a_fetch 192 8 = some (.iaload, 9) := by decide +kernel
theorem fX10_wardOf_9 : a_fetch 192 9 = some (.ireturn, 10) := by decide +kernel
theorem fX10_hardOf_0 : a_fetch 193 0 = some (.aload 0, 1) := by decide +kernel
theorem fX10_hardOf_1 : a_fetch 193 1 = some (.invokeinterface 10 38, 4) := by decide +kernel
theorem fX10_hardOf_4 : a_fetch 193 4 = some (.iconst 30, 6) := by decide +kernel
theorem fX10_hardOf_6 : a_fetch 193 6 = some (.iload 1, 7) := by decide +kernel
theorem fX10_hardOf_7 : a_fetch 193 7 = some (.iadd, 8) := by decide +kernel
theorem fX10_hardOf_8 : a_fetch 193 8 = some (.iaload, 9) := by decide +kernel
theorem fX10_hardOf_9 : a_fetch 193 9 = some (.ireturn, 10) := by decide +kernel
theorem fX10_dutyOf_0 : a_fetch 194 0 = some (.aload 0, 1) := by decide +kernel
theorem fX10_dutyOf_1 : a_fetch 194 1 = some (.invokeinterface 10 39, 4) := by decide +kernel
theorem fX10_dutyOf_4 : a_fetch 194 4 = some (.iconst 72, 6) := by decide +kernel
theorem fX10_dutyOf_6 : a_fetch 194 6 = some (.iconst 3, 7) := by decide +kernel
theorem fX10_dutyOf_7 : a_fetch 194 7 = some (.iload 1, 8) := by decide +kernel
theorem fX10_dutyOf_8 : a_fetch 194 8 = some (.imul, 9) := by decide +kernel
theorem fX10_dutyOf_9 : a_fetch 194 9 = some (.iadd, 10) := by decide +kernel
theorem fX10_dutyOf_10 : a_fetch 194 10 = some (.iload 2, 11) := by decide +kernel
theorem fX10_dutyOf_11 : a_fetch 194 11 = some (.iadd, 12) := by decide +kernel
theorem fX10_dutyOf_12 : a_fetch 194 12 = some (.iaload, 13) := by decide +kernel
theorem fX10_dutyOf_13 : a_fetch 194 13 = some (.ireturn, 14) := by decide +kernel
theorem fX10_livesNow_0 : a_fetch 195 0 = some (.aload 0, 1) := by decide +kernel
theorem fX10_livesNow_1 : a_fetch 195 1 = some (.invokeinterface 10 49, 4) := by decide +kernel
theorem fX10_livesNow_4 : a_fetch 195 4 = some (.iconst 1, 5) := by decide +kernel
theorem fX10_livesNow_5 : a_fetch 195 5 = some (.iconst 12, 7) := by decide +kernel
theorem fX10_livesNow_7 : a_fetch 195 7 = some (.iload 1, 8) := by decide +kernel
theorem fX10_livesNow_8 : a_fetch 195 8 = some (.imul, 9) := by decide +kernel
theorem fX10_livesNow_9 : a_fetch 195 9 = some (.iadd, 10) := by decide +kernel
theorem fX10_livesNow_10 : a_fetch 195 10 = some (.iaload, 11) := by decide +kernel
theorem fX10_livesNow_11 : a_fetch 195 11 = some (.ireturn, 12) := by decide +kernel
theorem fX10_liveNow_0 : a_fetch 196 0 = some (.aload 0, 1) := by decide +kernel
theorem fX10_liveNow_1 : a_fetch 196 1 = some (.invokeinterface 10 49, 4) := by decide +kernel
theorem fX10_liveNow_4 : a_fetch 196 4 = some (.iconst 1, 5) := by decide +kernel
theorem fX10_liveNow_5 : a_fetch 196 5 = some (.iconst 12, 7) := by decide +kernel
theorem fX10_liveNow_7 : a_fetch 196 7 = some (.iload 1, 8) := by decide +kernel
theorem fX10_liveNow_8 : a_fetch 196 8 = some (.imul, 9) := by decide +kernel
theorem fX10_liveNow_9 : a_fetch 196 9 = some (.iadd, 10) := by decide +kernel
theorem fX10_liveNow_10 : a_fetch 196 10 = some (.iload 2, 11) := by decide +kernel
theorem fX10_liveNow_11 : a_fetch 196 11 = some (.iastore, 12) := by decide +kernel
theorem fX10_liveNow_12 : a_fetch 196 12 = some (.return_, 13) := by decide +kernel
theorem fX10_watches_0 : a_fetch 197 0 = some (.aload 0, 1) := by decide +kernel
theorem fX10_watches_1 : a_fetch 197 1 = some (.invokeinterface 10 49, 4) := by decide +kernel
theorem fX10_watches_4 : a_fetch 197 4 = some (.iconst 2, 5) := by decide +kernel
theorem fX10_watches_5 : a_fetch 197 5 = some (.iconst 12, 7) := by decide +kernel
theorem fX10_watches_7 : a_fetch 197 7 = some (.iload 1, 8) := by decide +kernel
theorem fX10_watches_8 : a_fetch 197 8 = some (.imul, 9) := by decide +kernel
theorem fX10_watches_9 : a_fetch 197 9 = some (.iadd, 10) := by decide +kernel
theorem fX10_watches_10 : a_fetch 197 10 = some (.iaload, 11) := by decide +kernel
theorem fX10_watches_11 : a_fetch 197 11 = some (.ireturn, 12) := by decide +kernel
theorem fX10_pointsOf_0 : a_fetch 198 0 = some (.aload 0, 1) := by decide +kernel
theorem fX10_pointsOf_1 : a_fetch 198 1 = some (.invokeinterface 10 49, 4) := by decide +kernel
theorem fX10_pointsOf_4 : a_fetch 198 4 = some (.iconst 3, 5) := by decide +kernel
theorem fX10_pointsOf_5 : a_fetch 198 5 = some (.iconst 12, 7) := by decide +kernel
theorem fX10_pointsOf_7 : a_fetch 198 7 = some (.iload 1, 8) := by decide +kernel
theorem fX10_pointsOf_8 : a_fetch 198 8 = some (.imul, 9) := by decide +kernel
theorem fX10_pointsOf_9 : a_fetch 198 9 = some (.iadd, 10) := by decide +kernel
theorem fX10_pointsOf_10 : a_fetch 198 10 = some (.iload 2, 11) := by decide +kernel
theorem fX10_pointsOf_11 : a_fetch 198 11 = some (.iadd, 12) := by decide +kernel
theorem fX10_pointsOf_12 : a_fetch 198 12 = some (.iaload, 13) := by decide +kernel
theorem fX10_pointsOf_13 : a_fetch 198 13 = some (.ireturn, 14) := by decide +kernel
theorem fX10_knowsNow_0 : a_fetch 199 0 = some (.aload 0, 1) := by decide +kernel
theorem fX10_knowsNow_1 : a_fetch 199 1 = some (.invokeinterface 10 49, 4) := by decide +kernel
theorem fX10_knowsNow_4 : a_fetch 199 4 = some (.iconst 3, 5) := by decide +kernel
theorem fX10_knowsNow_5 : a_fetch 199 5 = some (.iconst 12, 7) := by decide +kernel
theorem fX10_knowsNow_7 : a_fetch 199 7 = some (.iload 1, 8) := by decide +kernel
theorem fX10_knowsNow_8 : a_fetch 199 8 = some (.imul, 9) := by decide +kernel
theorem fX10_knowsNow_9 : a_fetch 199 9 = some (.iadd, 10) := by decide +kernel
theorem fX10_knowsNow_10 : a_fetch 199 10 = some (.iload 2, 11) := by decide +kernel
theorem fX10_knowsNow_11 : a_fetch 199 11 = some (.iadd, 12) := by decide +kernel
theorem fX10_knowsNow_12 : a_fetch 199 12 = some (.iload 3, 13) := by decide +kernel
theorem fX10_knowsNow_13 : a_fetch 199 13 = some (.iastore, 14) := by decide +kernel
theorem fX10_knowsNow_14 : a_fetch 199 14 = some (.return_, 15) := by decide +kernel
theorem fX10_whoLives_0 : a_fetch 200 0 = some (.iconst 0, 1) := by decide +kernel
theorem fX10_whoLives_1 : a_fetch 200 1 = some (.istore 2, 2) := by decide +kernel
theorem fX10_whoLives_2 : a_fetch 200 2 = some (.iload 2, 3) := by decide +kernel
theorem fX10_whoLives_3 : a_fetch 200 3 = some (.aload 0, 4) := by decide +kernel
theorem fX10_whoLives_4 : a_fetch 200 4 = some (.invokevirtual 189, 7) := by decide +kernel
theorem fX10_whoLives_7 : a_fetch 200 7 = some (.if_icmp .ge 27, 10) := by decide +kernel
theorem fX10_whoLives_10 : a_fetch 200 10 = some (.aload 0, 11) := by decide +kernel
theorem fX10_whoLives_11 : a_fetch 200 11 = some (.iload 2, 12) := by decide +kernel
theorem fX10_whoLives_12 : a_fetch 200 12 = some (.invokevirtual 195, 15) := by decide +kernel
theorem fX10_whoLives_15 : a_fetch 200 15 = some (.iload 1, 16) := by decide +kernel
theorem fX10_whoLives_16 : a_fetch 200 16 = some (.if_icmp .ne 21, 19) := by decide +kernel
theorem fX10_whoLives_19 : a_fetch 200 19 = some (.iload 2, 20) := by decide +kernel
theorem fX10_whoLives_20 : a_fetch 200 20 = some (.ireturn, 21) := by decide +kernel
theorem fX10_whoLives_21 : a_fetch 200 21 = some (.iinc 2 1, 24) := by decide +kernel
theorem fX10_whoLives_24 : a_fetch 200 24 = some (.goto 2, 27) := by decide +kernel
theorem fX10_whoLives_27 : a_fetch 200 27 = some (.iconst (-1), 28) := by decide +kernel
theorem fX10_whoLives_28 : a_fetch 200 28 = some (.ireturn, 29) := by decide +kernel
theorem fX10_putsAside_0 : a_fetch 201 0 = some (.iconst 0, 1) := by decide +kernel
theorem fX10_putsAside_1 : a_fetch 201 1 = some (.istore 1, 2) := by decide +kernel
theorem fX10_putsAside_2 : a_fetch 201 2 = some (.iload 1, 3) := by decide +kernel
theorem fX10_putsAside_3 : a_fetch 201 3 = some (.iconst 282, 6) := by decide +kernel
theorem fX10_putsAside_6 : a_fetch 201 6 = some (.if_icmp .ge 27, 9) := by decide +kernel
theorem fX10_putsAside_9 : a_fetch 201 9 = some (.aload 0, 10) := by decide +kernel
theorem fX10_putsAside_10 : a_fetch 201 10 = some (.invokeinterface 10 50, 13) := by decide +kernel
theorem fX10_putsAside_13 : a_fetch 201 13 = some (.iload 1, 14) := by decide +kernel
theorem fX10_putsAside_14 : a_fetch 201 14 = some (.aload 0, 15) := by decide +kernel
theorem fX10_putsAside_15 : a_fetch 201 15 = some (.invokeinterface 10 49, 18) := by decide +kernel
theorem fX10_putsAside_18 : a_fetch 201 18 = some (.iload 1, 19) := by decide +kernel
theorem fX10_putsAside_19 : a_fetch 201 19 = some (.iaload, 20) := by decide +kernel
theorem fX10_putsAside_20 : a_fetch 201 20 = some (.iastore, 21) := by decide +kernel
theorem fX10_putsAside_21 : a_fetch 201 21 = some (.iinc 1 1, 24) := by decide +kernel
theorem fX10_putsAside_24 : a_fetch 201 24 = some (.goto 2, 27) := by decide +kernel
theorem fX10_putsAside_27 : a_fetch 201 27 = some (.return_, 28) := by decide +kernel
theorem fX10_takesBack_0 : a_fetch 202 0 = some (.iconst 0, 1) := by decide +kernel
theorem fX10_takesBack_1 : a_fetch 202 1 = some (.istore 1, 2) := by decide +kernel
theorem fX10_takesBack_2 : a_fetch 202 2 = some (.iload 1, 3) := by decide +kernel
theorem fX10_takesBack_3 : a_fetch 202 3 = some (.iconst 282, 6) := by decide +kernel
theorem fX10_takesBack_6 : a_fetch 202 6 = some (.if_icmp .ge 27, 9) := by decide +kernel
theorem fX10_takesBack_9 : a_fetch 202 9 = some (.aload 0, 10) := by decide +kernel
theorem fX10_takesBack_10 : a_fetch 202 10 = some (.invokeinterface 10 49, 13) := by decide +kernel
theorem fX10_takesBack_13 : a_fetch 202 13 = some (.iload 1, 14) := by decide +kernel
theorem fX10_takesBack_14 : a_fetch 202 14 = some (.aload 0, 15) := by decide +kernel
theorem fX10_takesBack_15 : a_fetch 202 15 = some (.invokeinterface 10 50, 18) := by decide +kernel
theorem fX10_takesBack_18 : a_fetch 202 18 = some (.iload 1, 19) := by decide +kernel
theorem fX10_takesBack_19 : a_fetch 202 19 = some (.iaload, 20) := by decide +kernel
theorem fX10_takesBack_20 : a_fetch 202 20 = some (.iastore, 21) := by decide +kernel
theorem fX10_takesBack_21 : a_fetch 202 21 = some (.iinc 1 1, 24) := by decide +kernel
theorem fX10_takesBack_24 : a_fetch 202 24 = some (.goto 2, 27) := by decide +kernel
theorem fX10_takesBack_27 : a_fetch 202 27 = some (.return_, 28) := by decide +kernel
theorem fX10_codesTell_0 : a_fetch 203 0 = some (.aload 0, 1) := by decide +kernel
theorem fX10_codesTell_1 : a_fetch 203 1 = some (.iconst 0, 2) := by decide +kernel
theorem fX10_codesTell_2 : a_fetch 203 2 = some (.multianewarray 10 104, 5) := by decide +kernel
theorem fX10_codesTell_5 : a_fetch 203 5 = some (.aload 0, 6) := by decide +kernel
theorem fX10_codesTell_6 : a_fetch 203 6 = some (.invokeinterface 10 43, 9) := by decide +kernel
theorem fX10_codesTell_9 : a_fetch 203 9 = some (.iconst 4, 10) := by decide +kernel
theorem fX10_codesTell_10 : a_fetch 203 10 = some (.iload 1, 11) := by decide +kernel
theorem fX10_codesTell_11 : a_fetch 203 11 = some (.iadd, 12) := by decide +kernel
theorem fX10_codesTell_12 : a_fetch 203 12 = some (.iaload, 13) := by decide +kernel
theorem fX10_codesTell_13 : a_fetch 203 13 = some (.istore 2, 14) := by decide +kernel
theorem fX10_codesTell_14 : a_fetch 203 14 = some (.iload 2, 15) := by decide +kernel
theorem fX10_codesTell_15 : a_fetch 203 15 = some (.aload 0, 16) := by decide +kernel
theorem fX10_codesTell_16 : a_fetch 203 16 = some (.invokeinterface 10 44, 19) := by decide +kernel
theorem fX10_codesTell_19 : a_fetch 203 19 = some (.iconst 4, 20) := by decide +kernel
theorem fX10_codesTell_20 : a_fetch 203 20 = some (.iload 1, 21) := by decide +kernel
theorem fX10_codesTell_21 : a_fetch 203 21 = some (.iadd, 22) := by decide +kernel
theorem fX10_codesTell_22 : a_fetch 203 22 = some (.iaload, 23) := by decide +kernel
theorem fX10_codesTell_23 : a_fetch 203 23 = some (.if_icmp .ge 137, 26) := by decide +kernel
theorem fX10_codesTell_26 : a_fetch 203 26 = some (.aload 0, 27) := by decide +kernel
theorem fX10_codesTell_27 : a_fetch 203 27 = some (.invokeinterface 10 45, 30) := by decide +kernel
theorem fX10_codesTell_30 : a_fetch 203 30 = some (.iconst 1600, 33) := by decide +kernel
theorem fX10_codesTell_33 : a_fetch 203 33 = some (.iload 2, 34) := by decide +kernel
theorem fX10_codesTell_34 : a_fetch 203 34 = some (.iadd, 35) := by decide +kernel
theorem fX10_codesTell_35 : a_fetch 203 35 = some (.iaload, 36) := by decide +kernel
theorem fX10_codesTell_36 : a_fetch 203 36 = some (.istore 3, 37) := by decide +kernel
theorem fX10_codesTell_37 : a_fetch 203 37 = some (.iload 3, 38) := by decide +kernel
theorem fX10_codesTell_38 : a_fetch 203 38 = some (.iconst 1000, 41) := by decide +kernel
theorem fX10_codesTell_41 : a_fetch 203 41 = some (.if_icmp .lt 57, 44) := by decide +kernel
theorem fX10_codesTell_44 : a_fetch 203 44 = some (.aload 0, 45) := by decide +kernel
theorem fX10_codesTell_45 : a_fetch 203 45 = some (.iload 3, 46) := by decide +kernel
theorem fX10_codesTell_46 : a_fetch 203 46 = some (.iconst 1000, 49) := by decide +kernel
theorem fX10_codesTell_49 : a_fetch 203 49 = some (.isub, 50) := by decide +kernel
theorem fX10_codesTell_50 : a_fetch 203 50 = some (.i2l, 51) := by decide +kernel
theorem fX10_codesTell_51 : a_fetch 203 51 = some (.invokevirtual 273, 54) := by decide +kernel
theorem fX10_codesTell_54 : a_fetch 203 54 = some (.goto 131, 57) := by decide +kernel
theorem fX10_codesTell_57 : a_fetch 203 57 = some (.iload 3, 58) := by decide +kernel
theorem fX10_codesTell_58 : a_fetch 203 58 = some (.iconst 40, 60) := by decide +kernel
theorem fX10_codesTell_60 : a_fetch 203 60 = some (.if_icmp .lt 79, 63) := by decide +kernel
theorem fX10_codesTell_63 : a_fetch 203 63 = some (.aload 0, 64) := by decide +kernel
theorem fX10_codesTell_64 : a_fetch 203 64 = some (.aload 0, 65) := by decide +kernel
theorem fX10_codesTell_65 : a_fetch 203 65 = some (.iload 3, 66) := by decide +kernel
theorem fX10_codesTell_66 : a_fetch 203 66 = some (.iconst 40, 68) := by decide +kernel
theorem fX10_codesTell_68 : a_fetch 203 68 = some (.isub, 69) := by decide +kernel
theorem fX10_codesTell_69 : a_fetch 203 69 = some (.iconst 0, 70) := by decide +kernel
theorem fX10_codesTell_70 : a_fetch 203 70 = some (.invokevirtual 275, 73) := by decide +kernel
theorem fX10_codesTell_73 : a_fetch 203 73 = some (.invokevirtual 273, 76) := by decide +kernel
theorem fX10_codesTell_76 : a_fetch 203 76 = some (.goto 131, 79) := by decide +kernel
theorem fX10_codesTell_79 : a_fetch 203 79 = some (.iload 3, 80) := by decide +kernel
theorem fX10_codesTell_80 : a_fetch 203 80 = some (.iconst 13, 82) := by decide +kernel
theorem fX10_codesTell_82 : a_fetch 203 82 = some (.if_icmp .ne 93, 85) := by decide +kernel
theorem fX10_codesTell_85 : a_fetch 203 85 = some (.aload 0, 86) := by decide +kernel
theorem fX10_codesTell_86 : a_fetch 203 86 = some (.jsr_w 1, 87) := by decide +kernel
theorem fX10_codesTell_87 : a_fetch 203 87 = some (.invokevirtual 273, 90) := by decide +kernel
theorem fX10_codesTell_90 : a_fetch 203 90 = some (.goto 131, 93) := by decide +kernel
theorem fX10_codesTell_93 : a_fetch 203 93 = some (.iload 3, 94) := by decide +kernel
theorem fX10_codesTell_94 : a_fetch 203 94 = some (.iconst 12, 96) := by decide +kernel
theorem fX10_codesTell_96 : a_fetch 203 96 = some (.if_icmp .ne 126, 99) := by decide +kernel
theorem fX10_codesTell_99 : a_fetch 203 99 = some (.aload 0, 100) := by decide +kernel
theorem fX10_codesTell_100 : a_fetch 203 100 = some (.invokeinterface 10 103, 103) := by decide +kernel
theorem fX10_codesTell_103 : a_fetch 203 103 = some (.aload 0, 104) := by decide +kernel
theorem fX10_codesTell_104 : a_fetch 203 104 = some (.invokeinterface 10 104, 107) := by decide +kernel
theorem fX10_codesTell_107 : a_fetch 203 107 = some (.iconst 1, 108) := by decide +kernel
theorem fX10_codesTell_108 : a_fetch 203 108 = some (.isub, 109) := by decide +kernel
theorem fX10_codesTell_109 : a_fetch 203 109 = some (.jsr_w 1, 110) := by decide +kernel
theorem fX10_codesTell_110 : a_fetch 203 110 = some (.aload 0, 111) := by decide +kernel
theorem fX10_codesTell_111 : a_fetch 203 111 = some (.invokeinterface 10 103, 114) := by decide +kernel
theorem fX10_codesTell_114 : a_fetch 203 114 = some (.aload 0, 115) := by decide +kernel
theorem fX10_codesTell_115 : a_fetch 203 115 = some (.invokeinterface 10 104, 118) := by decide +kernel
theorem fX10_codesTell_118 : a_fetch 203 118 = some (.iconst 1, 119) := by decide +kernel
theorem fX10_codesTell_119 : a_fetch 203 119 = some (.isub, 120) := by decide +kernel
theorem fX10_codesTell_120 : a_fetch 203 120 = some (.laload, 121) := by decide +kernel
theorem fX10_codesTell_121 : a_fetch 203 121 = some (.lsub, 122) := by decide +kernel
theorem fX10_codesTell_122 : a_fetch 203 122 = some (.lastore, 123) := by decide +kernel
theorem fX10_codesTell_123 : a_fetch 203 123 = some (.goto 131, 126) := by decide +kernel
theorem fX10_codesTell_126 : a_fetch 203 126 = some (.aload 0, 127) := by decide +kernel
theorem fX10_codesTell_127 : a_fetch 203 127 = some (.iload 3, 128) := by decide +kernel
theorem fX10_codesTell_128 : a_fetch 203 128 = some (.invokevirtual 274, 131) := by decide +kernel
theorem fX10_codesTell_131 : a_fetch 203 131 = some (.iinc 2 1, 134) := by decide +kernel
theorem fX10_codesTell_134 : a_fetch 203 134 = some (.goto 14, 137) := by decide +kernel
theorem fX10_codesTell_137 : a_fetch 203 137 = some (.aload 0, 138) := by decide +kernel
theorem fX10_codesTell_138 : a_fetch 203 138 = some (.invokeinterface 10 103, 141) := by decide +kernel
theorem fX10_codesTell_141 : a_fetch 203 141 = some (.iconst 0, 142) := by decide +kernel
theorem fX10_codesTell_142 : a_fetch 203 142 = some (.laload, 143) := by decide +kernel
theorem fX10_codesTell_143 : a_fetch 203 143 = some (.lreturn, 144) := by decide +kernel
theorem fX10_made_0 : a_fetch 204 0 = some (.aload 0, 1) := by decide +kernel
theorem fX10_made_1 : a_fetch 204 1 = some (.invokeinterface 10 43, 4) := by decide +kernel
theorem fX10_made_4 : a_fetch 204 4 = some (.iconst 4, 5) := by decide +kernel
theorem fX10_made_5 : a_fetch 204 5 = some (.iload 1, 6) := by decide +kernel
theorem fX10_made_6 : a_fetch 204 6 = some (.iadd, 7) := by decide +kernel
theorem fX10_made_7 : a_fetch 204 7 = some (.iaload, 8) := by decide +kernel
theorem fX10_made_8 : a_fetch 204 8 = some (.iconst (-1), 9) := by decide +kernel
theorem fX10_made_9 : a_fetch 204 9 = some (.if_icmp .ne 15, 12) := by decide +kernel
theorem fX10_made_12 : a_fetch 204 12 = some (.iload 4, 14) := by decide +kernel
theorem fX10_made_14 : a_fetch 204 14 = some (.ireturn, 15) := by decide +kernel
theorem fX10_made_15 : a_fetch 204 15 = some (.aload 0, 16) := by decide +kernel
theorem fX10_made_16 : a_fetch 204 16 = some (.iload 5, 18) := by decide +kernel
theorem fX10_made_18 : a_fetch 204 18 = some (.i2l, 19) := by decide +kernel
theorem fX10_made_19 : a_fetch 204 19 = some (.multianewarray 10 51, 22) := by decide +kernel
theorem fX10_made_22 : a_fetch 204 22 = some (.aload 0, 23) := by decide +kernel
theorem fX10_made_23 : a_fetch 204 23 = some (.iload 6, 25) := by decide +kernel
theorem fX10_made_25 : a_fetch 204 25 = some (.i2l, 26) := by decide +kernel
theorem fX10_made_26 : a_fetch 204 26 = some (.multianewarray 10 52, 29) := by decide +kernel
theorem fX10_made_29 : a_fetch 204 29 = some (.aload 0, 30) := by decide +kernel
theorem fX10_made_30 : a_fetch 204 30 = some (.iload 4, 32) := by decide +kernel
theorem fX10_made_32 : a_fetch 204 32 = some (.i2l, 33) := by decide +kernel
theorem fX10_made_33 : a_fetch 204 33 = some (.multianewarray 10 53, 36) := by decide +kernel
theorem fX10_made_36 : a_fetch 204 36 = some (.aload 0, 37) := by decide +kernel
theorem fX10_made_37 : a_fetch 204 37 = some (.aload 0, 38) := by decide +kernel
theorem fX10_made_38 : a_fetch 204 38 = some (.iload 2, 39) := by decide +kernel
theorem fX10_made_39 : a_fetch 204 39 = some (.invokevirtual 192, 42) := by decide +kernel
theorem fX10_made_42 : a_fetch 204 42 = some (.aload 0, 43) := by decide +kernel
theorem fX10_made_43 : a_fetch 204 43 = some (.iload 3, 44) := by decide +kernel
theorem fX10_made_44 : a_fetch 204 44 = some (.invokevirtual 192, 47) := by decide +kernel
theorem fX10_made_47 : a_fetch 204 47 = some (.if_icmp .ne 54, 50) := by decide +kernel
theorem fX10_made_50 : a_fetch 204 50 = some (.jsr_w 1, 51) := by decide +kernel
theorem fX10_made_51 : a_fetch 204 51 = some (.goto 55, 54) := by decide +kernel
theorem fX10_made_54 : a_fetch 204 54 = some (.jsr_w 0, 55) := by decide +kernel
theorem fX10_made_55 : a_fetch 204 55 = some (.multianewarray 10 54, 58) := by decide +kernel
theorem fX10_made_58 : a_fetch 204 58 = some (.aload 0, 59) := by decide +kernel
theorem fX10_made_59 : a_fetch 204 59 = some (.iload 1, 60) := by decide +kernel
theorem fX10_made_60 : a_fetch 204 60 = some (.invokevirtual 203, 63) := by decide +kernel
theorem fX10_made_63 : a_fetch 204 63 = some (.lstore 7, 65) := by decide +kernel
theorem fX10_made_65 : a_fetch 204 65 = some (.lload 7, 67) := by decide +kernel
theorem fX10_made_67 : a_fetch 204 67 = some (.jsr_w 0, 68) := by decide +kernel
theorem fX10_made_68 : a_fetch 204 68 = some (.lcmp, 69) := by decide +kernel
theorem fX10_made_69 : a_fetch 204 69 = some (.ifCond .ge 76, 72) := by decide +kernel
theorem fX10_made_72 : a_fetch 204 72 = some (.iconst 0, 73) := by decide +kernel
theorem fX10_made_73 : a_fetch 204 73 = some (.goto 93, 76) := by decide +kernel
theorem fX10_made_76 : a_fetch 204 76 = some (.lload 7, 78) := by decide +kernel
theorem fX10_made_78 : a_fetch 204 78 = some (.jsr_w 99, 81) := by decide +kernel
theorem fX10_made_81 : a_fetch 204 81 = some (.lcmp, 82) := by decide +kernel
theorem fX10_made_82 : a_fetch 204 82 = some (.ifCond .le 90, 85) := by decide +kernel
theorem fX10_made_85 : a_fetch 204 85 = some (.iconst 99, 87) := by decide +kernel
theorem fX10_made_87 : a_fetch 204 87 = some (.goto 93, 90) := by decide +kernel
theorem fX10_made_90 : a_fetch 204 90 = some (.lload 7, 92) := by decide +kernel
theorem fX10_made_92 : a_fetch 204 92 = some (.l2i, 93) := by decide +kernel
theorem fX10_made_93 : a_fetch 204 93 = some (.ireturn, 94) := by decide +kernel
theorem fX10_canBy_0 : a_fetch 205 0 = some (.aload 0, 1) := by decide +kernel
theorem fX10_canBy_1 : a_fetch 205 1 = some (.invokeinterface 10 43, 4) := by decide +kernel
theorem fX10_canBy_4 : a_fetch 205 4 = some (.iconst 6, 6) := by decide +kernel
theorem fX10_canBy_6 : a_fetch 205 6 = some (.iaload, 7) := by decide +kernel
theorem fX10_canBy_7 : a_fetch 205 7 = some (.iconst (-1), 8) := by decide +kernel
theorem fX10_canBy_8 : a_fetch 205 8 = some (.if_icmp .ne 13, 11) := by decide +kernel
theorem fX10_canBy_11 : a_fetch 205 11 = some (.iconst 1, 12) := by decide +kernel
theorem fX10_canBy_12 : a_fetch 205 12 = some (.ireturn, 13) := by decide +kernel
theorem fX10_canBy_13 : a_fetch 205 13 = some (.aload 0, 14) := by decide +kernel
theorem fX10_canBy_14 : a_fetch 205 14 = some (.iload 4, 16) := by decide +kernel
theorem fX10_canBy_16 : a_fetch 205 16 = some (.i2l, 17) := by decide +kernel
theorem fX10_canBy_17 : a_fetch 205 17 = some (.multianewarray 10 51, 20) := by decide +kernel
theorem fX10_canBy_20 : a_fetch 205 20 = some (.aload 0, 21) := by decide +kernel
theorem fX10_canBy_21 : a_fetch 205 21 = some (.iload 5, 23) := by decide +kernel
theorem fX10_canBy_23 : a_fetch 205 23 = some (.i2l, 24) := by decide +kernel
theorem fX10_canBy_24 : a_fetch 205 24 = some (.multianewarray 10 52, 27) := by decide +kernel
theorem fX10_canBy_27 : a_fetch 205 27 = some (.aload 0, 28) := by decide +kernel
theorem fX10_canBy_28 : a_fetch 205 28 = some (.iload 1, 29) := by decide +kernel
theorem fX10_canBy_29 : a_fetch 205 29 = some (.i2l, 30) := by decide +kernel
theorem fX10_canBy_30 : a_fetch 205 30 = some (.multianewarray 10 53, 33) := by decide +kernel
theorem fX10_canBy_33 : a_fetch 205 33 = some (.aload 0, 34) := by decide +kernel
theorem fX10_canBy_34 : a_fetch 205 34 = some (.aload 0, 35) := by decide +kernel
theorem fX10_canBy_35 : a_fetch 205 35 = some (.iload 3, 36) := by decide +kernel
theorem fX10_canBy_36 : a_fetch 205 36 = some (.invokevirtual 193, 39) := by decide +kernel
theorem fX10_canBy_39 : a_fetch 205 39 = some (.i2l, 40) := by decide +kernel
theorem fX10_canBy_40 : a_fetch 205 40 = some (.multianewarray 10 55, 43) := by decide +kernel
theorem fX10_canBy_43 : a_fetch 205 43 = some (.aload 0, 44) := by decide +kernel
theorem fX10_canBy_44 : a_fetch 205 44 = some (.iload 2, 45) := by decide +kernel
theorem fX10_canBy_45 : a_fetch 205 45 = some (.ifCond .eq 52, 48) := by decide +kernel
theorem fX10_canBy_48 : a_fetch 205 48 = some (.jsr_w 1, 49) := by decide +kernel
theorem fX10_canBy_49 : a_fetch 205 49 = some (.goto 53, 52) := by decide +kernel
theorem fX10_canBy_52 : a_fetch 205 52 = some (.jsr_w 0, 53) := by decide +kernel
theorem fX10_canBy_53 : a_fetch 205 53 = some (.multianewarray 10 56, 56) := by decide +kernel
theorem fX10_canBy_56 : a_fetch 205 56 = some (.aload 0, 57) := by decide +kernel
theorem fX10_canBy_57 : a_fetch 205 57 = some (.iconst 2, 58) := by decide +kernel
theorem fX10_canBy_58 : a_fetch 205 58 = some (.invokevirtual 203, 61) := by decide +kernel
theorem fX10_canBy_61 : a_fetch 205 61 = some (.jsr_w 1, 62) := by decide +kernel
theorem fX10_canBy_62 : a_fetch 205 62 = some (.lcmp, 63) := by decide +kernel
theorem fX10_canBy_63 : a_fetch 205 63 = some (.ifCond .ne 70, 66) := by decide +kernel
theorem fX10_canBy_66 : a_fetch 205 66 = some (.iconst 1, 67) := by decide +kernel
theorem fX10_canBy_67 : a_fetch 205 67 = some (.goto 71, 70) := by decide +kernel
theorem fX10_canBy_70 : a_fetch 205 70 = some (.iconst 0, 71) := by decide +kernel
theorem fX10_canBy_71 : a_fetch 205 71 = some (.ireturn, 72) := by decide +kernel
theorem fX10_canDo_0 : a_fetch 206 0 = some (.aload 0, 1) := by decide +kernel
theorem fX10_canDo_1 : a_fetch 206 1 = some (.aload 0, 2) := by decide +kernel
theorem fX10_canDo_2 : a_fetch 206 2 = some (.iload 1, 3) := by decide +kernel
theorem fX10_canDo_3 : a_fetch 206 3 = some (.iload 2, 4) := by decide +kernel
theorem fX10_canDo_4 : a_fetch 206 4 = some (.invokevirtual 198, 7) := by decide +kernel
theorem fX10_canDo_7 : a_fetch 206 7 = some (.iload 1, 8) := by decide +kernel
theorem fX10_canDo_8 : a_fetch 206 8 = some (.iload 2, 9) := by decide +kernel
theorem fX10_canDo_9 : a_fetch 206 9 = some (.if_icmp .ne 16, 12) := by decide +kernel
theorem fX10_canDo_12 : a_fetch 206 12 = some (.iconst 1, 13) := by decide +kernel
theorem fX10_canDo_13 : a_fetch 206 13 = some (.goto 17, 16) := by decide +kernel
theorem fX10_canDo_16 : a_fetch 206 16 = some (.iconst 0, 17) := by decide +kernel
theorem fX10_canDo_17 : a_fetch 206 17 = some (.iload 3, 18) := by decide +kernel
theorem fX10_canDo_18 : a_fetch 206 18 = some (.iload 4, 20) := by decide +kernel
theorem fX10_canDo_20 : a_fetch 206 20 = some (.aload 0, 21) := by decide +kernel
theorem fX10_canDo_21 : a_fetch 206 21 = some (.invokeinterface 10 49, 24) := by decide +kernel
theorem fX10_canDo_24 : a_fetch 206 24 = some (.iconst 0, 25) := by decide +kernel
theorem fX10_canDo_25 : a_fetch 206 25 = some (.iaload, 26) := by decide +kernel
theorem fX10_canDo_26 : a_fetch 206 26 = some (.iconst 24, 28) := by decide +kernel
theorem fX10_canDo_28 : a_fetch 206 28 = some (.idiv, 29) := by decide +kernel
theorem fX10_canDo_29 : a_fetch 206 29 = some (.invokevirtual 205, 32) := by decide +kernel
theorem fX10_canDo_32 : a_fetch 206 32 = some (.ireturn, 33) := by decide +kernel
theorem fX10_notices_0 : a_fetch 207 0 = some (.aload 0, 1) := by decide +kernel
theorem fX10_notices_1 : a_fetch 207 1 = some (.invokeinterface 10 43, 4) := by decide +kernel
theorem fX10_notices_4 : a_fetch 207 4 = some (.iconst 7, 6) := by decide +kernel
theorem fX10_notices_6 : a_fetch 207 6 = some (.iaload, 7) := by decide +kernel
theorem fX10_notices_7 : a_fetch 207 7 = some (.iconst (-1), 8) := by decide +kernel
theorem fX10_notices_8 : a_fetch 207 8 = some (.if_icmp .ne 13, 11) := by decide +kernel
theorem fX10_notices_11 : a_fetch 207 11 = some (.iconst 0, 12) := by decide +kernel
theorem fX10_notices_12 : a_fetch 207 12 = some (.ireturn, 13) := by decide +kernel
theorem fX10_notices_13 : a_fetch 207 13 = some (.aload 0, 14) := by decide +kernel
theorem fX10_notices_14 : a_fetch 207 14 = some (.iload 4, 16) := by decide +kernel
theorem fX10_notices_16 : a_fetch 207 16 = some (.i2l, 17) := by decide +kernel
theorem fX10_notices_17 : a_fetch 207 17 = some (.multianewarray 10 51, 20) := by decide +kernel
theorem fX10_notices_20 : a_fetch 207 20 = some (.aload 0, 21) := by decide +kernel
theorem fX10_notices_21 : a_fetch 207 21 = some (.iload 5, 23) := by decide +kernel
theorem fX10_notices_23 : a_fetch 207 23 = some (.i2l, 24) := by decide +kernel
theorem fX10_notices_24 : a_fetch 207 24 = some (.multianewarray 10 52, 27) := by decide +kernel
theorem fX10_notices_27 : a_fetch 207 27 = some (.aload 0, 28) := by decide +kernel
theorem fX10_notices_28 : a_fetch 207 28 = some (.aload 0, 29) := by decide +kernel
theorem fX10_notices_29 : a_fetch 207 29 = some (.iload 2, 30) := by decide +kernel
theorem fX10_notices_30 : a_fetch 207 30 = some (.iload 3, 31) := by decide +kernel
theorem fX10_notices_31 : a_fetch 207 31 = some (.invokevirtual 198, 34) := by decide +kernel
theorem fX10_notices_34 : a_fetch 207 34 = some (.i2l, 35) := by decide +kernel
theorem fX10_notices_35 : a_fetch 207 35 = some (.multianewarray 10 53, 38) := by decide +kernel
theorem fX10_notices_38 : a_fetch 207 38 = some (.aload 0, 39) := by decide +kernel
theorem fX10_notices_39 : a_fetch 207 39 = some (.aload 0, 40) := by decide +kernel
theorem fX10_notices_40 : a_fetch 207 40 = some (.iload 1, 41) := by decide +kernel
theorem fX10_notices_41 : a_fetch 207 41 = some (.invokevirtual 192, 44) := by decide +kernel
theorem fX10_notices_44 : a_fetch 207 44 = some (.aload 0, 45) := by decide +kernel
theorem fX10_notices_45 : a_fetch 207 45 = some (.iload 3, 46) := by decide +kernel
theorem fX10_notices_46 : a_fetch 207 46 = some (.invokevirtual 192, 49) := by decide +kernel
theorem fX10_notices_49 : a_fetch 207 49 = some (.if_icmp .ne 56, 52) := by decide +kernel
theorem fX10_notices_52 : a_fetch 207 52 = some (.jsr_w 1, 53) := by decide +kernel
theorem fX10_notices_53 : a_fetch 207 53 = some (.goto 57, 56) := by decide +kernel
theorem fX10_notices_56 : a_fetch 207 56 = some (.jsr_w 0, 57) := by decide +kernel
theorem fX10_notices_57 : a_fetch 207 57 = some (.multianewarray 10 54, 60) := by decide +kernel
theorem fX10_notices_60 : a_fetch 207 60 = some (.aload 0, 61) := by decide +kernel
theorem fX10_notices_61 : a_fetch 207 61 = some (.aload 0, 62) := by decide +kernel
theorem fX10_notices_62 : a_fetch 207 62 = some (.iload 1, 63) := by decide +kernel
theorem fX10_notices_63 : a_fetch 207 63 = some (.iload 3, 64) := by decide +kernel
theorem fX10_notices_64 : a_fetch 207 64 = some (.invokevirtual 198, 67) := by decide +kernel
theorem fX10_notices_67 : a_fetch 207 67 = some (.i2l, 68) := by decide +kernel
theorem fX10_notices_68 : a_fetch 207 68 = some (.multianewarray 10 57, 71) := by decide +kernel
theorem fX10_notices_71 : a_fetch 207 71 = some (.aload 0, 72) := by decide +kernel
theorem fX10_notices_72 : a_fetch 207 72 = some (.iconst 3, 73) := by decide +kernel
theorem fX10_notices_73 : a_fetch 207 73 = some (.invokevirtual 203, 76) := by decide +kernel
theorem fX10_notices_76 : a_fetch 207 76 = some (.jsr_w 1, 77) := by decide +kernel
theorem fX10_notices_77 : a_fetch 207 77 = some (.lcmp, 78) := by decide +kernel
theorem fX10_notices_78 : a_fetch 207 78 = some (.ifCond .ne 85, 81) := by decide +kernel
theorem fX10_notices_81 : a_fetch 207 81 = some (.iconst 1, 82) := by decide +kernel
theorem fX10_notices_82 : a_fetch 207 82 = some (.goto 86, 85) := by decide +kernel
theorem fX10_notices_85 : a_fetch 207 85 = some (.iconst 0, 86) := by decide +kernel
theorem fX10_notices_86 : a_fetch 207 86 = some (.ireturn, 87) := by decide +kernel
theorem fX10_clearsDried_0 : a_fetch 208 0 = some (.iconst 0, 1) := by decide +kernel
theorem fX10_clearsDried_1 : a_fetch 208 1 = some (.istore 1, 2) := by decide +kernel
theorem fX10_clearsDried_2 : a_fetch 208 2 = some (.iload 1, 3) := by decide +kernel
theorem fX10_clearsDried_3 : a_fetch 208 3 = some (.iconst 3, 4) := by decide +kernel
theorem fX10_clearsDried_4 : a_fetch 208 4 = some (.if_icmp .ge 20, 7) := by decide +kernel
theorem fX10_clearsDried_7 : a_fetch 208 7 = some (.aload 0, 8) := by decide +kernel
theorem fX10_clearsDried_8 : a_fetch 208 8 = some (.invokeinterface 10 59, 11) := by decide +kernel
theorem fX10_clearsDried_11 : a_fetch 208 11 = some (.iload 1, 12) := by decide +kernel
theorem fX10_clearsDried_12 : a_fetch 208 12 = some (.iconst 0, 13) := by decide +kernel
theorem fX10_clearsDried_13 : a_fetch 208 13 = some (.iastore, 14) := by decide +kernel
theorem fX10_clearsDried_14 : a_fetch 208 14 = some (.iinc 1 1, 17) := by decide +kernel
theorem fX10_clearsDried_17 : a_fetch 208 17 = some (.goto 2, 20) := by decide +kernel
theorem fX10_clearsDried_20 : a_fetch 208 20 = some (.iconst 0, 21) := by decide +kernel
theorem fX10_clearsDried_21 : a_fetch 208 21 = some (.istore 1, 22) := by decide +kernel
theorem fX10_clearsDried_22 : a_fetch 208 22 = some (.iload 1, 23) := by decide +kernel
theorem fX10_clearsDried_23 : a_fetch 208 23 = some (.iconst 10, 25) := by decide +kernel
theorem fX10_clearsDried_25 : a_fetch 208 25 = some (.if_icmp .ge 41, 28) := by decide +kernel
theorem fX10_clearsDried_28 : a_fetch 208 28 = some (.aload 0, 29) := by decide +kernel
theorem fX10_clearsDried_29 : a_fetch 208 29 = some (.invokeinterface 10 60, 32) := by decide +kernel
theorem fX10_clearsDried_32 : a_fetch 208 32 = some (.iload 1, 33) := by decide +kernel
theorem fX10_clearsDried_33 : a_fetch 208 33 = some (.iconst 0, 34) := by decide +kernel
theorem fX10_clearsDried_34 : a_fetch 208 34 = some (.iastore, 35) := by decide +kernel
theorem fX10_clearsDried_35 : a_fetch 208 35 = some (.iinc 1 1, 38) := by decide +kernel
theorem fX10_clearsDried_38 : a_fetch 208 38 = some (.goto 22, 41) := by decide +kernel
theorem fX10_clearsDried_41 : a_fetch 208 41 = some (.aload 0, 42) := by decide +kernel
theorem fX10_clearsDried_42 : a_fetch 208 42 = some (.iconst (-1), 43) := by decide +kernel
theorem fX10_clearsDried_43 : a_fetch 208 43 = some (.multianewarray 10 61, 46) := by decide +kernel
theorem fX10_clearsDried_46 : a_fetch 208 46 = some (.aload 0, 47) := by decide +kernel
theorem fX10_clearsDried_47 : a_fetch 208 47 = some (.iconst (-1), 48) := by decide +kernel
theorem fX10_clearsDried_48 : a_fetch 208 48 = some (.multianewarray 10 62, 51) := by decide +kernel
theorem fX10_clearsDried_51 : a_fetch 208 51 = some (.return_, 52) := by decide +kernel
theorem fX10_happens_0 : a_fetch 209 0 = some (.aload 0, 1) := by decide +kernel
theorem fX10_happens_1 : a_fetch 209 1 = some (.invokeinterface 10 59, 4) := by decide +kernel
theorem fX10_happens_4 : a_fetch 209 4 = some (.iload 1, 5) := by decide +kernel
theorem fX10_happens_5 : a_fetch 209 5 = some (.dup2, 6) := by decide +kernel
theorem fX10_happens_6 : a_fetch 209 6 = some (.iaload, 7) := by decide +kernel
theorem fX10_happens_7 : a_fetch 209 7 = some (.iconst 1, 8) := by decide +kernel
theorem fX10_happens_8 : a_fetch 209 8 = some (.iadd, 9) := by decide +kernel
theorem fX10_happens_9 : a_fetch 209 9 = some (.iastore, 10) := by decide +kernel
theorem fX10_happens_10 : a_fetch 209 10 = some (.iload 1, 11) := by decide +kernel
theorem fX10_happens_11 : a_fetch 209 11 = some (.iconst 1, 12) := by decide +kernel
theorem fX10_happens_12 : a_fetch 209 12 = some (.if_icmp .ne 25, 15) := by decide +kernel
theorem fX10_happens_15 : a_fetch 209 15 = some (.aload 0, 16) := by decide +kernel
theorem fX10_happens_16 : a_fetch 209 16 = some (.invokeinterface 10 60, 19) := by decide +kernel
theorem fX10_happens_19 : a_fetch 209 19 = some (.iload 3, 20) := by decide +kernel
theorem fX10_happens_20 : a_fetch 209 20 = some (.dup2, 21) := by decide +kernel
theorem fX10_happens_21 : a_fetch 209 21 = some (.iaload, 22) := by decide +kernel
theorem fX10_happens_22 : a_fetch 209 22 = some (.iconst 1, 23) := by decide +kernel
theorem fX10_happens_23 : a_fetch 209 23 = some (.iadd, 24) := by decide +kernel
theorem fX10_happens_24 : a_fetch 209 24 = some (.iastore, 25) := by decide +kernel
theorem fX10_happens_25 : a_fetch 209 25 = some (.iload 1, 26) := by decide +kernel
theorem fX10_happens_26 : a_fetch 209 26 = some (.iconst 2, 27) := by decide +kernel
theorem fX10_happens_27 : a_fetch 209 27 = some (.if_icmp .ge 48, 30) := by decide +kernel
theorem fX10_happens_30 : a_fetch 209 30 = some (.aload 0, 31) := by decide +kernel
theorem fX10_happens_31 : a_fetch 209 31 = some (.invokeinterface 10 61, 34) := by decide +kernel
theorem fX10_happens_34 : a_fetch 209 34 = some (.iconst (-1), 35) := by decide +kernel
theorem fX10_happens_35 : a_fetch 209 35 = some (.if_icmp .ne 48, 38) := by decide +kernel
theorem fX10_happens_38 : a_fetch 209 38 = some (.aload 0, 39) := by decide +kernel
theorem fX10_happens_39 : a_fetch 209 39 = some (.iload 1, 40) := by decide +kernel
theorem fX10_happens_40 : a_fetch 209 40 = some (.multianewarray 10 61, 43) := by decide +kernel
theorem fX10_happens_43 : a_fetch 209 43 = some (.aload 0, 44) := by decide +kernel
theorem fX10_happens_44 : a_fetch 209 44 = some (.iload 2, 45) := by decide +kernel
theorem fX10_happens_45 : a_fetch 209 45 = some (.multianewarray 10 62, 48) := by decide +kernel
theorem fX10_happens_48 : a_fetch 209 48 = some (.aload 0, 49) := by decide +kernel
theorem fX10_happens_49 : a_fetch 209 49 = some (.invokeinterface 10 49, 52) := by decide +kernel
theorem fX10_happens_52 : a_fetch 209 52 = some (.iconst 121, 54) := by decide +kernel
theorem fX10_happens_54 : a_fetch 209 54 = some (.iaload, 55) := by decide +kernel
theorem fX10_happens_55 : a_fetch 209 55 = some (.iconst 40, 57) := by decide +kernel
theorem fX10_happens_57 : a_fetch 209 57 = some (.if_icmp .ne 97, 60) := by decide +kernel
theorem fX10_happens_60 : a_fetch 209 60 = some (.iconst 122, 62) := by decide +kernel
theorem fX10_happens_62 : a_fetch 209 62 = some (.istore 4, 64) := by decide +kernel
theorem fX10_happens_64 : a_fetch 209 64 = some (.iload 4, 66) := by decide +kernel
theorem fX10_happens_66 : a_fetch 209 66 = some (.iconst 278, 69) := by decide +kernel
theorem fX10_happens_69 : a_fetch 209 69 = some (.if_icmp .ge 94, 72) := by decide +kernel
theorem fX10_happens_72 : a_fetch 209 72 = some (.aload 0, 73) := by decide +kernel
theorem fX10_happens_73 : a_fetch 209 73 = some (.invokeinterface 10 49, 76) := by decide +kernel
theorem fX10_happens_76 : a_fetch 209 76 = some (.iload 4, 78) := by decide +kernel
theorem fX10_happens_78 : a_fetch 209 78 = some (.aload 0, 79) := by decide +kernel
theorem fX10_happens_79 : a_fetch 209 79 = some (.invokeinterface 10 49, 82) := by decide +kernel
theorem fX10_happens_82 : a_fetch 209 82 = some (.iload 4, 84) := by decide +kernel
theorem fX10_happens_84 : a_fetch 209 84 = some (.iconst 4, 85) := by decide +kernel
theorem fX10_happens_85 : a_fetch 209 85 = some (.iadd, 86) := by decide +kernel
theorem fX10_happens_86 : a_fetch 209 86 = some (.iaload, 87) := by decide +kernel
theorem fX10_happens_87 : a_fetch 209 87 = some (.iastore, 88) := by decide +kernel
theorem fX10_happens_88 : a_fetch 209 88 = some (.iinc 4 1, 91) := by decide +kernel
theorem fX10_happens_91 : a_fetch 209 91 = some (.goto 64, 94) := by decide +kernel
theorem fX10_happens_94 : a_fetch 209 94 = some (.goto 108, 97) := by decide +kernel
theorem fX10_happens_97 : a_fetch 209 97 = some (.aload 0, 98) := by decide +kernel
theorem fX10_happens_98 : a_fetch 209 98 = some (.invokeinterface 10 49, 101) := by decide +kernel
theorem fX10_happens_101 : a_fetch 209 101 = some (.iconst 121, 103) := by decide +kernel
theorem fX10_happens_103 : a_fetch 209 103 = some (.dup2, 104) := by decide +kernel
theorem fX10_happens_104 : a_fetch 209 104 = some (.iaload, 105) := by decide +kernel
theorem fX10_happens_105 : a_fetch 209 105 = some (.iconst 1, 106) := by decide +kernel
theorem fX10_happens_106 : a_fetch 209 106 = some (.iadd, 107) := by decide +kernel
theorem fX10_happens_107 : a_fetch 209 107 = some (.iastore, 108) := by decide +kernel
theorem fX10_happens_108 : a_fetch 209 108 = some (.iconst 122, 110) := by decide +kernel
theorem fX10_happens_110 : a_fetch 209 110 = some (.iconst 4, 111) := by decide +kernel
theorem fX10_happens_111 : a_fetch 209 111 = some (.aload 0, 112) := by decide +kernel
theorem fX10_happens_112 : a_fetch 209 112 = some (.invokeinterface 10 49, 115) := by decide +kernel
theorem fX10_happens_115 : a_fetch 209 115 = some (.iconst 121, 117) := by decide +kernel
theorem fX10_happens_117 : a_fetch 209 117 = some (.iaload, 118) := by decide +kernel
theorem fX10_happens_118 : a_fetch 209 118 = some (.imul, 119) := by decide +kernel
theorem fX10_happens_119 : a_fetch 209 119 = some (.iadd, 120) := by decide +kernel
theorem fX10_happens_120 : a_fetch 209 120 = some (.iconst 4, 121) := by decide +kernel
theorem fX10_happens_121 : a_fetch 209 121 = some (.isub, 122) := by decide +kernel
theorem fX10_happens_122 : a_fetch 209 122 = some (.istore 4, 124) := by decide +kernel
theorem fX10_happens_124 : a_fetch 209 124 = some (.aload 0, 125) := by decide +kernel
theorem fX10_happens_125 : a_fetch 209 125 = some (.invokeinterface 10 49, 128) := by decide +kernel
theorem fX10_happens_128 : a_fetch 209 128 = some (.iload 4, 130) := by decide +kernel
theorem fX10_happens_130 : a_fetch 209 130 = some (.aload 0, 131) := by decide +kernel
theorem fX10_happens_131 : a_fetch 209 131 = some (.invokeinterface 10 49, 134) := by decide +kernel
theorem fX10_happens_134 : a_fetch 209 134 = some (.iconst 0, 135) := by decide +kernel
theorem fX10_happens_135 : a_fetch 209 135 = some (.iaload, 136) := by decide +kernel
theorem fX10_happens_136 : a_fetch 209 136 = some (.iastore, 137) := by decide +kernel
theorem fX10_happens_137 : a_fetch 209 137 = some (.aload 0, 138) := by decide +kernel
theorem fX10_happens_138 : a_fetch 209 138 = some (.invokeinterface 10 49, 141) := by decide +kernel
theorem fX10_happens_141 : a_fetch 209 141 = some (.iload 4, 143) := by decide +kernel
theorem fX10_happens_143 : a_fetch 209 143 = some (.iconst 1, 144) := by decide +kernel
theorem fX10_happens_144 : a_fetch 209 144 = some (.iadd, 145) := by decide +kernel
theorem fX10_happens_145 : a_fetch 209 145 = some (.iload 1, 146) := by decide +kernel
theorem fX10_happens_146 : a_fetch 209 146 = some (.iastore, 147) := by decide +kernel
theorem fX10_happens_147 : a_fetch 209 147 = some (.aload 0, 148) := by decide +kernel
theorem fX10_happens_148 : a_fetch 209 148 = some (.invokeinterface 10 49, 151) := by decide +kernel
theorem fX10_happens_151 : a_fetch 209 151 = some (.iload 4, 153) := by decide +kernel
theorem fX10_happens_153 : a_fetch 209 153 = some (.iconst 2, 154) := by decide +kernel
theorem fX10_happens_154 : a_fetch 209 154 = some (.iadd, 155) := by decide +kernel
theorem fX10_happens_155 : a_fetch 209 155 = some (.iload 2, 156) := by decide +kernel
theorem fX10_happens_156 : a_fetch 209 156 = some (.iastore, 157) := by decide +kernel
theorem fX10_happens_157 : a_fetch 209 157 = some (.aload 0, 158) := by decide +kernel
theorem fX10_happens_158 : a_fetch 209 158 = some (.invokeinterface 10 49, 161) := by decide +kernel
theorem fX10_happens_161 : a_fetch 209 161 = some (.iload 4, 163) := by decide +kernel
theorem fX10_happens_163 : a_fetch 209 163 = some (.iconst 3, 164) := by decide +kernel
theorem fX10_happens_164 : a_fetch 209 164 = some (.iadd, 165) := by decide +kernel
theorem fX10_happens_165 : a_fetch 209 165 = some (.iload 3, 166) := by decide +kernel
theorem fX10_happens_166 : a_fetch 209 166 = some (.iastore, 167) := by decide +kernel
theorem fX10_happens_167 : a_fetch 209 167 = some (.return_, 168) := by decide +kernel
theorem fX10_nightComes_0 : a_fetch 210 0 = some (.iconst 0, 1) := by decide +kernel
theorem fX10_nightComes_1 : a_fetch 210 1 = some (.istore 1, 2) := by decide +kernel
theorem fX10_nightComes_2 : a_fetch 210 2 = some (.iload 1, 3) := by decide +kernel
theorem fX10_nightComes_3 : a_fetch 210 3 = some (.aload 0, 4) := by decide +kernel
theorem fX10_nightComes_4 : a_fetch 210 4 = some (.invokevirtual 189, 7) := by decide +kernel
theorem fX10_nightComes_7 : a_fetch 210 7 = some (.if_icmp .ge 22, 10) := by decide +kernel
theorem fX10_nightComes_10 : a_fetch 210 10 = some (.aload 0, 11) := by decide +kernel
theorem fX10_nightComes_11 : a_fetch 210 11 = some (.iload 1, 12) := by decide +kernel
theorem fX10_nightComes_12 : a_fetch 210 12 = some (.iload 1, 13) := by decide +kernel
theorem fX10_nightComes_13 : a_fetch 210 13 = some (.invokevirtual 196, 16) := by decide +kernel
theorem fX10_nightComes_16 : a_fetch 210 16 = some (.iinc 1 1, 19) := by decide +kernel
theorem fX10_nightComes_19 : a_fetch 210 19 = some (.goto 2, 22) := by decide +kernel
theorem fX10_nightComes_22 : a_fetch 210 22 = some (.iconst 0, 23) := by decide +kernel
theorem fX10_nightComes_23 : a_fetch 210 23 = some (.istore 1, 24) := by decide +kernel
theorem fX10_nightComes_24 : a_fetch 210 24 = some (.iload 1, 25) := by decide +kernel
theorem fX10_nightComes_25 : a_fetch 210 25 = some (.aload 0, 26) := by decide +kernel
theorem fX10_nightComes_26 : a_fetch 210 26 = some (.invokevirtual 189, 29) := by decide +kernel
theorem fX10_nightComes_29 : a_fetch 210 29 = some (.if_icmp .ge 88, 32) := by decide +kernel
theorem fX10_nightComes_32 : a_fetch 210 32 = some (.iconst 0, 33) := by decide +kernel
theorem fX10_nightComes_33 : a_fetch 210 33 = some (.istore 2, 34) := by decide +kernel
theorem fX10_nightComes_34 : a_fetch 210 34 = some (.iload 2, 35) := by decide +kernel
theorem fX10_nightComes_35 : a_fetch 210 35 = some (.aload 0, 36) := by decide +kernel
theorem fX10_nightComes_36 : a_fetch 210 36 = some (.invokevirtual 189, 39) := by decide +kernel
theorem fX10_nightComes_39 : a_fetch 210 39 = some (.if_icmp .ge 82, 42) := by decide +kernel
theorem fX10_nightComes_42 : a_fetch 210 42 = some (.iload 2, 43) := by decide +kernel
theorem fX10_nightComes_43 : a_fetch 210 43 = some (.iload 1, 44) := by decide +kernel
theorem fX10_nightComes_44 : a_fetch 210 44 = some (.if_icmp .eq 76, 47) := by decide +kernel
theorem fX10_nightComes_47 : a_fetch 210 47 = some (.aload 0, 48) := by decide +kernel
theorem fX10_nightComes_48 : a_fetch 210 48 = some (.iload 1, 49) := by decide +kernel
theorem fX10_nightComes_49 : a_fetch 210 49 = some (.iload 2, 50) := by decide +kernel
theorem fX10_nightComes_50 : a_fetch 210 50 = some (.aload 0, 51) := by decide +kernel
theorem fX10_nightComes_51 : a_fetch 210 51 = some (.iconst 1, 52) := by decide +kernel
theorem fX10_nightComes_52 : a_fetch 210 52 = some (.iload 1, 53) := by decide +kernel
theorem fX10_nightComes_53 : a_fetch 210 53 = some (.iload 2, 54) := by decide +kernel
theorem fX10_nightComes_54 : a_fetch 210 54 = some (.aload 0, 55) := by decide +kernel
theorem fX10_nightComes_55 : a_fetch 210 55 = some (.iload 1, 56) := by decide +kernel
theorem fX10_nightComes_56 : a_fetch 210 56 = some (.iload 2, 57) := by decide +kernel
theorem fX10_nightComes_57 : a_fetch 210 57 = some (.invokevirtual 198, 60) := by decide +kernel
theorem fX10_nightComes_60 : a_fetch 210 60 = some (.iconst 0, 61) := by decide +kernel
theorem fX10_nightComes_61 : a_fetch 210 61 = some (.aload 0, 62) := by decide +kernel
theorem fX10_nightComes_62 : a_fetch 210 62 = some (.invokeinterface 10 49, 65) := by decide +kernel
theorem fX10_nightComes_65 : a_fetch 210 65 = some (.iconst 0, 66) := by decide +kernel
theorem fX10_nightComes_66 : a_fetch 210 66 = some (.iaload, 67) := by decide +kernel
theorem fX10_nightComes_67 : a_fetch 210 67 = some (.iconst 24, 69) := by decide +kernel
theorem fX10_nightComes_69 : a_fetch 210 69 = some (.idiv, 70) := by decide +kernel
theorem fX10_nightComes_70 : a_fetch 210 70 = some (.invokevirtual 204, 73) := by decide +kernel
theorem fX10_nightComes_73 : a_fetch 210 73 = some (.invokevirtual 199, 76) := by decide +kernel
theorem fX10_nightComes_76 : a_fetch 210 76 = some (.iinc 2 1, 79) := by decide +kernel
theorem fX10_nightComes_79 : a_fetch 210 79 = some (.goto 34, 82) := by decide +kernel
theorem fX10_nightComes_82 : a_fetch 210 82 = some (.iinc 1 1, 85) := by decide +kernel
theorem fX10_nightComes_85 : a_fetch 210 85 = some (.goto 24, 88) := by decide +kernel
theorem fX10_nightComes_88 : a_fetch 210 88 = some (.return_, 89) := by decide +kernel
theorem fX10_dutyComes_0 : a_fetch 211 0 = some (.aload 0, 1) := by decide +kernel
theorem fX10_dutyComes_1 : a_fetch 211 1 = some (.iload 1, 2) := by decide +kernel
theorem fX10_dutyComes_2 : a_fetch 211 2 = some (.invokevirtual 200, 5) := by decide +kernel
theorem fX10_dutyComes_5 : a_fetch 211 5 = some (.istore 4, 7) := by decide +kernel
theorem fX10_dutyComes_7 : a_fetch 211 7 = some (.iload 4, 9) := by decide +kernel
theorem fX10_dutyComes_9 : a_fetch 211 9 = some (.iconst (-1), 10) := by decide +kernel
theorem fX10_dutyComes_10 : a_fetch 211 10 = some (.if_icmp .ne 21, 13) := by decide +kernel
theorem fX10_dutyComes_13 : a_fetch 211 13 = some (.aload 0, 14) := by decide +kernel
theorem fX10_dutyComes_14 : a_fetch 211 14 = some (.iconst 0, 15) := by decide +kernel
theorem fX10_dutyComes_15 : a_fetch 211 15 = some (.iload 1, 16) := by decide +kernel
theorem fX10_dutyComes_16 : a_fetch 211 16 = some (.iconst (-1), 17) := by decide +kernel
theorem fX10_dutyComes_17 : a_fetch 211 17 = some (.invokevirtual 209, 20) := by decide +kernel
theorem fX10_dutyComes_20 : a_fetch 211 20 = some (.return_, 21) := by decide +kernel
theorem fX10_dutyComes_21 : a_fetch 211 21 = some (.aload 0, 22) := by decide +kernel
theorem fX10_dutyComes_22 : a_fetch 211 22 = some (.iload 4, 24) := by decide +kernel
theorem fX10_dutyComes_24 : a_fetch 211 24 = some (.iload 1, 25) := by decide +kernel
theorem fX10_dutyComes_25 : a_fetch 211 25 = some (.iload 2, 26) := by decide +kernel
theorem fX10_dutyComes_26 : a_fetch 211 26 = some (.iload 3, 27) := by decide +kernel
theorem fX10_dutyComes_27 : a_fetch 211 27 = some (.invokevirtual 206, 30) := by decide +kernel
theorem fX10_dutyComes_30 : a_fetch 211 30 = some (.ifCond .ne 42, 33) := by decide +kernel
theorem fX10_dutyComes_33 : a_fetch 211 33 = some (.aload 0, 34) := by decide +kernel
theorem fX10_dutyComes_34 : a_fetch 211 34 = some (.iconst 1, 35) := by decide +kernel
theorem fX10_dutyComes_35 : a_fetch 211 35 = some (.iload 1, 36) := by decide +kernel
theorem fX10_dutyComes_36 : a_fetch 211 36 = some (.iload 4, 38) := by decide +kernel
theorem fX10_dutyComes_38 : a_fetch 211 38 = some (.invokevirtual 209, 41) := by decide +kernel
theorem fX10_dutyComes_41 : a_fetch 211 41 = some (.return_, 42) := by decide +kernel
theorem fX10_dutyComes_42 : a_fetch 211 42 = some (.iconst 0, 43) := by decide +kernel
theorem fX10_dutyComes_43 : a_fetch 211 43 = some (.istore 5, 45) := by decide +kernel
theorem fX10_dutyComes_45 : a_fetch 211 45 = some (.iload 5, 47) := by decide +kernel
theorem fX10_dutyComes_47 : a_fetch 211 47 = some (.aload 0, 48) := by decide +kernel
theorem fX10_dutyComes_48 : a_fetch 211 48 = some (.invokevirtual 189, 51) := by decide +kernel
theorem fX10_dutyComes_51 : a_fetch 211 51 = some (.if_icmp .ge 119, 54) := by decide +kernel
theorem fX10_dutyComes_54 : a_fetch 211 54 = some (.iload 4, 56) := by decide +kernel
theorem fX10_dutyComes_56 : a_fetch 211 56 = some (.iload 1, 57) := by decide +kernel
theorem fX10_dutyComes_57 : a_fetch 211 57 = some (.if_icmp .eq 119, 60) := by decide +kernel
theorem fX10_dutyComes_60 : a_fetch 211 60 = some (.iload 5, 62) := by decide +kernel
theorem fX10_dutyComes_62 : a_fetch 211 62 = some (.iload 4, 64) := by decide +kernel
theorem fX10_dutyComes_64 : a_fetch 211 64 = some (.if_icmp .eq 113, 67) := by decide +kernel
theorem fX10_dutyComes_67 : a_fetch 211 67 = some (.iload 5, 69) := by decide +kernel
theorem fX10_dutyComes_69 : a_fetch 211 69 = some (.iload 1, 70) := by decide +kernel
theorem fX10_dutyComes_70 : a_fetch 211 70 = some (.if_icmp .eq 113, 73) := by decide +kernel
theorem fX10_dutyComes_73 : a_fetch 211 73 = some (.aload 0, 74) := by decide +kernel
theorem fX10_dutyComes_74 : a_fetch 211 74 = some (.iload 5, 76) := by decide +kernel
theorem fX10_dutyComes_76 : a_fetch 211 76 = some (.invokevirtual 195, 79) := by decide +kernel
theorem fX10_dutyComes_79 : a_fetch 211 79 = some (.iconst (-1), 80) := by decide +kernel
theorem fX10_dutyComes_80 : a_fetch 211 80 = some (.if_icmp .eq 113, 83) := by decide +kernel
theorem fX10_dutyComes_83 : a_fetch 211 83 = some (.aload 0, 84) := by decide +kernel
theorem fX10_dutyComes_84 : a_fetch 211 84 = some (.iload 5, 86) := by decide +kernel
theorem fX10_dutyComes_86 : a_fetch 211 86 = some (.iload 4, 88) := by decide +kernel
theorem fX10_dutyComes_88 : a_fetch 211 88 = some (.iload 1, 89) := by decide +kernel
theorem fX10_dutyComes_89 : a_fetch 211 89 = some (.iload 3, 90) := by decide +kernel
theorem fX10_dutyComes_90 : a_fetch 211 90 = some (.aload 0, 91) := by decide +kernel
theorem fX10_dutyComes_91 : a_fetch 211 91 = some (.invokeinterface 10 49, 94) := by decide +kernel
theorem fX10_dutyComes_94 : a_fetch 211 94 = some (.iconst 0, 95) := by decide +kernel
theorem fX10_dutyComes_95 : a_fetch 211 95 = some (.iaload, 96) := by decide +kernel
theorem fX10_dutyComes_96 : a_fetch 211 96 = some (.iconst 24, 98) := by decide +kernel
theorem fX10_dutyComes_98 : a_fetch 211 98 = some (.idiv, 99) := by decide +kernel
theorem fX10_dutyComes_99 : a_fetch 211 99 = some (.invokevirtual 207, 102) := by decide +kernel
theorem fX10_dutyComes_102 : a_fetch 211 102 = some (.ifCond .eq 113, 105) := by decide +kernel
theorem fX10_dutyComes_105 : a_fetch 211 105 = some (.aload 0, 106) := by decide +kernel
theorem fX10_dutyComes_106 : a_fetch 211 106 = some (.iconst 2, 107) := by decide +kernel
theorem fX10_dutyComes_107 : a_fetch 211 107 = some (.iload 1, 108) := by decide +kernel
theorem fX10_dutyComes_108 : a_fetch 211 108 = some (.iload 5, 110) := by decide +kernel
theorem fX10_dutyComes_110 : a_fetch 211 110 = some (.invokevirtual 209, 113) := by decide +kernel
theorem fX10_dutyComes_113 : a_fetch 211 113 = some (.iinc 5 1, 116) := by decide +kernel
theorem fX10_dutyComes_116 : a_fetch 211 116 = some (.goto 45, 119) := by decide +kernel
theorem fX10_dutyComes_119 : a_fetch 211 119 = some (.return_, 120) := by decide +kernel
theorem fX10_hasDuty_0 : a_fetch 212 0 = some (.iconst 0, 1) := by decide +kernel
theorem fX10_hasDuty_1 : a_fetch 212 1 = some (.istore 3, 2) := by decide +kernel
theorem fX10_hasDuty_2 : a_fetch 212 2 = some (.iload 3, 3) := by decide +kernel
theorem fX10_hasDuty_3 : a_fetch 212 3 = some (.aload 0, 4) := by decide +kernel
theorem fX10_hasDuty_4 : a_fetch 212 4 = some (.invokevirtual 190, 7) := by decide +kernel
theorem fX10_hasDuty_7 : a_fetch 212 7 = some (.if_icmp .ge 38, 10) := by decide +kernel
theorem fX10_hasDuty_10 : a_fetch 212 10 = some (.aload 0, 11) := by decide +kernel
theorem fX10_hasDuty_11 : a_fetch 212 11 = some (.iload 3, 12) := by decide +kernel
theorem fX10_hasDuty_12 : a_fetch 212 12 = some (.iconst 0, 13) := by decide +kernel
theorem fX10_hasDuty_13 : a_fetch 212 13 = some (.invokevirtual 194, 16) := by decide +kernel
theorem fX10_hasDuty_16 : a_fetch 212 16 = some (.iload 1, 17) := by decide +kernel
theorem fX10_hasDuty_17 : a_fetch 212 17 = some (.if_icmp .ne 32, 20) := by decide +kernel
theorem fX10_hasDuty_20 : a_fetch 212 20 = some (.aload 0, 21) := by decide +kernel
theorem fX10_hasDuty_21 : a_fetch 212 21 = some (.iload 3, 22) := by decide +kernel
theorem fX10_hasDuty_22 : a_fetch 212 22 = some (.iconst 2, 23) := by decide +kernel
theorem fX10_hasDuty_23 : a_fetch 212 23 = some (.invokevirtual 194, 26) := by decide +kernel
theorem fX10_hasDuty_26 : a_fetch 212 26 = some (.iload 2, 27) := by decide +kernel
theorem fX10_hasDuty_27 : a_fetch 212 27 = some (.if_icmp .ne 32, 30) := by decide +kernel
theorem fX10_hasDuty_30 : a_fetch 212 30 = some (.iconst 1, 31) := by decide +kernel
theorem fX10_hasDuty_31 : a_fetch 212 31 = some (.ireturn, 32) := by decide +kernel
theorem fX10_hasDuty_32 : a_fetch 212 32 = some (.iinc 3 1, 35) := by decide +kernel
theorem fX10_hasDuty_35 : a_fetch 212 35 = some (.goto 2, 38) := by decide +kernel
theorem fX10_hasDuty_38 : a_fetch 212 38 = some (.iconst 0, 39) := by decide +kernel
theorem fX10_hasDuty_39 : a_fetch 212 39 = some (.ireturn, 40) := by decide +kernel
theorem fX10_hourComes_0 : a_fetch 213 0 = some (.aload 0, 1) := by decide +kernel
theorem fX10_hourComes_1 : a_fetch 213 1 = some (.invokeinterface 10 49, 4) := by decide +kernel
theorem fX10_hourComes_4 : a_fetch 213 4 = some (.iconst 0, 5) := by decide +kernel
theorem fX10_hourComes_5 : a_fetch 213 5 = some (.dup2, 6) := by decide +kernel
theorem fX10_hourComes_6 : a_fetch 213 6 = some (.iaload, 7) := by decide +kernel
theorem fX10_hourComes_7 : a_fetch 213 7 = some (.iconst 1, 8) := by decide +kernel
theorem fX10_hourComes_8 : a_fetch 213 8 = some (.iadd, 9) := by decide +kernel
theorem fX10_hourComes_9 : a_fetch 213 9 = some (.iastore, 10) := by decide +kernel
theorem fX10_hourComes_10 : a_fetch 213 10 = some (.aload 0, 11) := by decide +kernel
theorem fX10_hourComes_11 : a_fetch 213 11 = some (.invokeinterface 10 49, 14) := by decide +kernel
theorem fX10_hourComes_14 : a_fetch 213 14 = some (.iconst 0, 15) := by decide +kernel
theorem fX10_hourComes_15 : a_fetch 213 15 = some (.iaload, 16) := by decide +kernel
theorem fX10_hourComes_16 : a_fetch 213 16 = some (.iconst 24, 18) := by decide +kernel
theorem fX10_hourComes_18 : a_fetch 213 18 = some (.irem, 19) := by decide +kernel
theorem fX10_hourComes_19 : a_fetch 213 19 = some (.istore 1, 20) := by decide +kernel
theorem fX10_hourComes_20 : a_fetch 213 20 = some (.iload 1, 21) := by decide +kernel
theorem fX10_hourComes_21 : a_fetch 213 21 = some (.ifCond .ne 28, 24) := by decide +kernel
theorem fX10_hourComes_24 : a_fetch 213 24 = some (.aload 0, 25) := by decide +kernel
theorem fX10_hourComes_25 : a_fetch 213 25 = some (.invokevirtual 210, 28) := by decide +kernel
theorem fX10_hourComes_28 : a_fetch 213 28 = some (.iconst 0, 29) := by decide +kernel
theorem fX10_hourComes_29 : a_fetch 213 29 = some (.istore 2, 30) := by decide +kernel
theorem fX10_hourComes_30 : a_fetch 213 30 = some (.iload 2, 31) := by decide +kernel
theorem fX10_hourComes_31 : a_fetch 213 31 = some (.aload 0, 32) := by decide +kernel
theorem fX10_hourComes_32 : a_fetch 213 32 = some (.invokevirtual 189, 35) := by decide +kernel
theorem fX10_hourComes_35 : a_fetch 213 35 = some (.if_icmp .ge 92, 38) := by decide +kernel
theorem fX10_hourComes_38 : a_fetch 213 38 = some (.iconst 0, 39) := by decide +kernel
theorem fX10_hourComes_39 : a_fetch 213 39 = some (.istore 3, 40) := by decide +kernel
theorem fX10_hourComes_40 : a_fetch 213 40 = some (.iload 3, 41) := by decide +kernel
theorem fX10_hourComes_41 : a_fetch 213 41 = some (.aload 0, 42) := by decide +kernel
theorem fX10_hourComes_42 : a_fetch 213 42 = some (.invokevirtual 190, 45) := by decide +kernel
theorem fX10_hourComes_45 : a_fetch 213 45 = some (.if_icmp .ge 86, 48) := by decide +kernel
theorem fX10_hourComes_48 : a_fetch 213 48 = some (.aload 0, 49) := by decide +kernel
theorem fX10_hourComes_49 : a_fetch 213 49 = some (.iload 3, 50) := by decide +kernel
theorem fX10_hourComes_50 : a_fetch 213 50 = some (.iconst 0, 51) := by decide +kernel
theorem fX10_hourComes_51 : a_fetch 213 51 = some (.invokevirtual 194, 54) := by decide +kernel
theorem fX10_hourComes_54 : a_fetch 213 54 = some (.iload 2, 55) := by decide +kernel
theorem fX10_hourComes_55 : a_fetch 213 55 = some (.if_icmp .ne 80, 58) := by decide +kernel
theorem fX10_hourComes_58 : a_fetch 213 58 = some (.aload 0, 59) := by decide +kernel
theorem fX10_hourComes_59 : a_fetch 213 59 = some (.iload 3, 60) := by decide +kernel
theorem fX10_hourComes_60 : a_fetch 213 60 = some (.iconst 2, 61) := by decide +kernel
theorem fX10_hourComes_61 : a_fetch 213 61 = some (.invokevirtual 194, 64) := by decide +kernel
theorem fX10_hourComes_64 : a_fetch 213 64 = some (.iload 1, 65) := by decide +kernel
theorem fX10_hourComes_65 : a_fetch 213 65 = some (.if_icmp .ne 80, 68) := by decide +kernel
theorem fX10_hourComes_68 : a_fetch 213 68 = some (.aload 0, 69) := by decide +kernel
theorem fX10_hourComes_69 : a_fetch 213 69 = some (.iload 2, 70) := by decide +kernel
theorem fX10_hourComes_70 : a_fetch 213 70 = some (.aload 0, 71) := by decide +kernel
theorem fX10_hourComes_71 : a_fetch 213 71 = some (.iload 3, 72) := by decide +kernel
theorem fX10_hourComes_72 : a_fetch 213 72 = some (.iconst 1, 73) := by decide +kernel
theorem fX10_hourComes_73 : a_fetch 213 73 = some (.invokevirtual 194, 76) := by decide +kernel
theorem fX10_hourComes_76 : a_fetch 213 76 = some (.iload 1, 77) := by decide +kernel
theorem fX10_hourComes_77 : a_fetch 213 77 = some (.invokevirtual 211, 80) := by decide +kernel
theorem fX10_hourComes_80 : a_fetch 213 80 = some (.iinc 3 1, 83) := by decide +kernel
theorem fX10_hourComes_83 : a_fetch 213 83 = some (.goto 40, 86) := by decide +kernel
theorem fX10_hourComes_86 : a_fetch 213 86 = some (.iinc 2 1, 89) := by decide +kernel
theorem fX10_hourComes_89 : a_fetch 213 89 = some (.goto 30, 92) := by decide +kernel
theorem fX10_hourComes_92 : a_fetch 213 92 = some (.iconst 0, 93) := by decide +kernel
theorem fX10_hourComes_93 : a_fetch 213 93 = some (.istore 2, 94) := by decide +kernel
theorem fX10_hourComes_94 : a_fetch 213 94 = some (.iload 2, 95) := by decide +kernel
theorem fX10_hourComes_95 : a_fetch 213 95 = some (.aload 0, 96) := by decide +kernel
theorem fX10_hourComes_96 : a_fetch 213 96 = some (.invokevirtual 189, 99) := by decide +kernel
theorem fX10_hourComes_99 : a_fetch 213 99 = some (.if_icmp .ge 180, 102) := by decide +kernel
theorem fX10_hourComes_102 : a_fetch 213 102 = some (.aload 0, 103) := by decide +kernel
theorem fX10_hourComes_103 : a_fetch 213 103 = some (.iload 2, 104) := by decide +kernel
theorem fX10_hourComes_104 : a_fetch 213 104 = some (.invokevirtual 197, 107) := by decide +kernel
theorem fX10_hourComes_107 : a_fetch 213 107 = some (.iconst (-1), 108) := by decide +kernel
theorem fX10_hourComes_108 : a_fetch 213 108 = some (.if_icmp .eq 174, 111) := by decide +kernel
theorem fX10_hourComes_111 : a_fetch 213 111 = some (.aload 0, 112) := by decide +kernel
theorem fX10_hourComes_112 : a_fetch 213 112 = some (.iload 2, 113) := by decide +kernel
theorem fX10_hourComes_113 : a_fetch 213 113 = some (.invokevirtual 195, 116) := by decide +kernel
theorem fX10_hourComes_116 : a_fetch 213 116 = some (.iconst (-1), 117) := by decide +kernel
theorem fX10_hourComes_117 : a_fetch 213 117 = some (.if_icmp .eq 174, 120) := by decide +kernel
theorem fX10_hourComes_120 : a_fetch 213 120 = some (.aload 0, 121) := by decide +kernel
theorem fX10_hourComes_121 : a_fetch 213 121 = some (.aload 0, 122) := by decide +kernel
theorem fX10_hourComes_122 : a_fetch 213 122 = some (.iload 2, 123) := by decide +kernel
theorem fX10_hourComes_123 : a_fetch 213 123 = some (.invokevirtual 195, 126) := by decide +kernel
theorem fX10_hourComes_126 : a_fetch 213 126 = some (.iload 1, 127) := by decide +kernel
theorem fX10_hourComes_127 : a_fetch 213 127 = some (.invokevirtual 212, 130) := by decide +kernel
theorem fX10_hourComes_130 : a_fetch 213 130 = some (.ifCond .ne 174, 133) := by decide +kernel
theorem fX10_hourComes_133 : a_fetch 213 133 = some (.aload 0, 134) := by decide +kernel
theorem fX10_hourComes_134 : a_fetch 213 134 = some (.iload 2, 135) := by decide +kernel
theorem fX10_hourComes_135 : a_fetch 213 135 = some (.aload 0, 136) := by decide +kernel
theorem fX10_hourComes_136 : a_fetch 213 136 = some (.iload 2, 137) := by decide +kernel
theorem fX10_hourComes_137 : a_fetch 213 137 = some (.invokevirtual 197, 140) := by decide +kernel
theorem fX10_hourComes_140 : a_fetch 213 140 = some (.aload 0, 141) := by decide +kernel
theorem fX10_hourComes_141 : a_fetch 213 141 = some (.iconst 0, 142) := by decide +kernel
theorem fX10_hourComes_142 : a_fetch 213 142 = some (.iload 2, 143) := by decide +kernel
theorem fX10_hourComes_143 : a_fetch 213 143 = some (.aload 0, 144) := by decide +kernel
theorem fX10_hourComes_144 : a_fetch 213 144 = some (.iload 2, 145) := by decide +kernel
theorem fX10_hourComes_145 : a_fetch 213 145 = some (.invokevirtual 197, 148) := by decide +kernel
theorem fX10_hourComes_148 : a_fetch 213 148 = some (.aload 0, 149) := by decide +kernel
theorem fX10_hourComes_149 : a_fetch 213 149 = some (.iload 2, 150) := by decide +kernel
theorem fX10_hourComes_150 : a_fetch 213 150 = some (.aload 0, 151) := by decide +kernel
theorem fX10_hourComes_151 : a_fetch 213 151 = some (.iload 2, 152) := by decide +kernel
theorem fX10_hourComes_152 : a_fetch 213 152 = some (.invokevirtual 197, 155) := by decide +kernel
theorem fX10_hourComes_155 : a_fetch 213 155 = some (.invokevirtual 198, 158) := by decide +kernel
theorem fX10_hourComes_158 : a_fetch 213 158 = some (.iload 1, 159) := by decide +kernel
theorem fX10_hourComes_159 : a_fetch 213 159 = some (.aload 0, 160) := by decide +kernel
theorem fX10_hourComes_160 : a_fetch 213 160 = some (.invokeinterface 10 49, 163) := by decide +kernel
theorem fX10_hourComes_163 : a_fetch 213 163 = some (.iconst 0, 164) := by decide +kernel
theorem fX10_hourComes_164 : a_fetch 213 164 = some (.iaload, 165) := by decide +kernel
theorem fX10_hourComes_165 : a_fetch 213 165 = some (.iconst 24, 167) := by decide +kernel
theorem fX10_hourComes_167 : a_fetch 213 167 = some (.idiv, 168) := by decide +kernel
theorem fX10_hourComes_168 : a_fetch 213 168 = some (.invokevirtual 204, 171) := by decide +kernel
theorem fX10_hourComes_171 : a_fetch 213 171 = some (.invokevirtual 199, 174) := by decide +kernel
theorem fX10_hourComes_174 : a_fetch 213 174 = some (.iinc 2 1, 177) := by decide +kernel
theorem fX10_hourComes_177 : a_fetch 213 177 = some (.goto 94, 180) := by decide +kernel
theorem fX10_hourComes_180 : a_fetch 213 180 = some (.return_, 181) := by decide +kernel
theorem fX10_hoursCome_0 : a_fetch 214 0 = some (.iconst 0, 1) := by decide +kernel
theorem fX10_hoursCome_1 : a_fetch 214 1 = some (.istore 2, 2) := by decide +kernel
theorem fX10_hoursCome_2 : a_fetch 214 2 = some (.iload 2, 3) := by decide +kernel
theorem fX10_hoursCome_3 : a_fetch 214 3 = some (.iload 1, 4) := by decide +kernel
theorem fX10_hoursCome_4 : a_fetch 214 4 = some (.if_icmp .ge 17, 7) := by decide +kernel
theorem fX10_hoursCome_7 : a_fetch 214 7 = some (.aload 0, 8) := by decide +kernel
theorem fX10_hoursCome_8 : a_fetch 214 8 = some (.invokevirtual 213, 11) := by decide +kernel
theorem fX10_hoursCome_11 : a_fetch 214 11 = some (.iinc 2 1, 14) := by decide +kernel
theorem fX10_hoursCome_14 : a_fetch 214 14 = some (.goto 2, 17) := by decide +kernel
theorem fX10_hoursCome_17 : a_fetch 214 17 = some (.return_, 18) := by decide +kernel
theorem fX10_isCalled_0 : a_fetch 215 0 = some (.aload 0, 1) := by decide +kernel
theorem fX10_isCalled_1 : a_fetch 215 1 = some (.iload 1, 2) := by decide +kernel
theorem fX10_isCalled_2 : a_fetch 215 2 = some (.invokevirtual 195, 5) := by decide +kernel
theorem fX10_isCalled_5 : a_fetch 215 5 = some (.istore 2, 6) := by decide +kernel
theorem fX10_isCalled_6 : a_fetch 215 6 = some (.aload 0, 7) := by decide +kernel
theorem fX10_isCalled_7 : a_fetch 215 7 = some (.iload 1, 8) := by decide +kernel
theorem fX10_isCalled_8 : a_fetch 215 8 = some (.iconst (-1), 9) := by decide +kernel
theorem fX10_isCalled_9 : a_fetch 215 9 = some (.invokevirtual 196, 12) := by decide +kernel
theorem fX10_isCalled_12 : a_fetch 215 12 = some (.aload 0, 13) := by decide +kernel
theorem fX10_isCalled_13 : a_fetch 215 13 = some (.iconst 0, 14) := by decide +kernel
theorem fX10_isCalled_14 : a_fetch 215 14 = some (.multianewarray 10 64, 17) := by decide +kernel
theorem fX10_isCalled_17 : a_fetch 215 17 = some (.aload 0, 18) := by decide +kernel
theorem fX10_isCalled_18 : a_fetch 215 18 = some (.invokeinterface 10 41, 21) := by decide +kernel
theorem fX10_isCalled_21 : a_fetch 215 21 = some (.iconst 10, 23) := by decide +kernel
theorem fX10_isCalled_23 : a_fetch 215 23 = some (.iload 2, 24) := by decide +kernel
theorem fX10_isCalled_24 : a_fetch 215 24 = some (.iadd, 25) := by decide +kernel
theorem fX10_isCalled_25 : a_fetch 215 25 = some (.iaload, 26) := by decide +kernel
theorem fX10_isCalled_26 : a_fetch 215 26 = some (.istore 3, 27) := by decide +kernel
theorem fX10_isCalled_27 : a_fetch 215 27 = some (.iload 3, 28) := by decide +kernel
theorem fX10_isCalled_28 : a_fetch 215 28 = some (.iconst (-1), 29) := by decide +kernel
theorem fX10_isCalled_29 : a_fetch 215 29 = some (.if_icmp .eq 82, 32) := by decide +kernel
theorem fX10_isCalled_32 : a_fetch 215 32 = some (.aload 0, 33) := by decide +kernel
theorem fX10_isCalled_33 : a_fetch 215 33 = some (.iload 3, 34) := by decide +kernel
theorem fX10_isCalled_34 : a_fetch 215 34 = some (.invokevirtual 195, 37) := by decide +kernel
theorem fX10_isCalled_37 : a_fetch 215 37 = some (.iload 3, 38) := by decide +kernel
theorem fX10_isCalled_38 : a_fetch 215 38 = some (.if_icmp .ne 82, 41) := by decide +kernel
theorem fX10_isCalled_41 : a_fetch 215 41 = some (.aload 0, 42) := by decide +kernel
theorem fX10_isCalled_42 : a_fetch 215 42 = some (.iload 3, 43) := by decide +kernel
theorem fX10_isCalled_43 : a_fetch 215 43 = some (.iload 2, 44) := by decide +kernel
theorem fX10_isCalled_44 : a_fetch 215 44 = some (.invokevirtual 196, 47) := by decide +kernel
theorem fX10_isCalled_47 : a_fetch 215 47 = some (.aload 0, 48) := by decide +kernel
theorem fX10_isCalled_48 : a_fetch 215 48 = some (.invokeinterface 10 63, 51) := by decide +kernel
theorem fX10_isCalled_51 : a_fetch 215 51 = some (.aload 0, 52) := by decide +kernel
theorem fX10_isCalled_52 : a_fetch 215 52 = some (.invokeinterface 10 64, 55) := by decide +kernel
theorem fX10_isCalled_55 : a_fetch 215 55 = some (.iload 3, 56) := by decide +kernel
theorem fX10_isCalled_56 : a_fetch 215 56 = some (.iastore, 57) := by decide +kernel
theorem fX10_isCalled_57 : a_fetch 215 57 = some (.aload 0, 58) := by decide +kernel
theorem fX10_isCalled_58 : a_fetch 215 58 = some (.dup, 59) := by decide +kernel
theorem fX10_isCalled_59 : a_fetch 215 59 = some (.invokeinterface 10 64, 62) := by decide +kernel
theorem fX10_isCalled_62 : a_fetch 215 62 = some (.iconst 1, 63) := by decide +kernel
theorem fX10_isCalled_63 : a_fetch 215 63 = some (.iadd, 64) := by decide +kernel
theorem fX10_isCalled_64 : a_fetch 215 64 = some (.multianewarray 10 64, 67) := by decide +kernel
theorem fX10_isCalled_67 : a_fetch 215 67 = some (.iload 3, 68) := by decide +kernel
theorem fX10_isCalled_68 : a_fetch 215 68 = some (.istore 2, 69) := by decide +kernel
theorem fX10_isCalled_69 : a_fetch 215 69 = some (.aload 0, 70) := by decide +kernel
theorem fX10_isCalled_70 : a_fetch 215 70 = some (.invokeinterface 10 41, 73) := by decide +kernel
theorem fX10_isCalled_73 : a_fetch 215 73 = some (.iconst 10, 75) := by decide +kernel
theorem fX10_isCalled_75 : a_fetch 215 75 = some (.iload 2, 76) := by decide +kernel
theorem fX10_isCalled_76 : a_fetch 215 76 = some (.iadd, 77) := by decide +kernel
theorem fX10_isCalled_77 : a_fetch 215 77 = some (.iaload, 78) := by decide +kernel
theorem fX10_isCalled_78 : a_fetch 215 78 = some (.istore 3, 79) := by decide +kernel
theorem fX10_isCalled_79 : a_fetch 215 79 = some (.goto 27, 82) := by decide +kernel
theorem fX10_isCalled_82 : a_fetch 215 82 = some (.aload 0, 83) := by decide +kernel
theorem fX10_isCalled_83 : a_fetch 215 83 = some (.iload 2, 84) := by decide +kernel
theorem fX10_isCalled_84 : a_fetch 215 84 = some (.multianewarray 10 65, 87) := by decide +kernel
theorem fX10_isCalled_87 : a_fetch 215 87 = some (.return_, 88) := by decide +kernel
theorem fX10_countOf_0 : a_fetch 216 0 = some (.iconst 0, 1) := by decide +kernel
theorem fX10_countOf_1 : a_fetch 216 1 = some (.istore 2, 2) := by decide +kernel
theorem fX10_countOf_2 : a_fetch 216 2 = some (.iconst 0, 3) := by decide +kernel
theorem fX10_countOf_3 : a_fetch 216 3 = some (.istore 3, 4) := by decide +kernel
theorem fX10_countOf_4 : a_fetch 216 4 = some (.iload 3, 5) := by decide +kernel
theorem fX10_countOf_5 : a_fetch 216 5 = some (.aload 0, 6) := by decide +kernel
theorem fX10_countOf_6 : a_fetch 216 6 = some (.invokevirtual 189, 9) := by decide +kernel
theorem fX10_countOf_9 : a_fetch 216 9 = some (.if_icmp .ge 79, 12) := by decide +kernel
theorem fX10_countOf_12 : a_fetch 216 12 = some (.iload 1, 13) := by decide +kernel
theorem fX10_countOf_13 : a_fetch 216 13 = some (.iconst 4, 14) := by decide +kernel
theorem fX10_countOf_14 : a_fetch 216 14 = some (.if_icmp .ne 29, 17) := by decide +kernel
theorem fX10_countOf_17 : a_fetch 216 17 = some (.aload 0, 18) := by decide +kernel
theorem fX10_countOf_18 : a_fetch 216 18 = some (.iload 3, 19) := by decide +kernel
theorem fX10_countOf_19 : a_fetch 216 19 = some (.invokevirtual 195, 22) := by decide +kernel
theorem fX10_countOf_22 : a_fetch 216 22 = some (.iconst (-1), 23) := by decide +kernel
theorem fX10_countOf_23 : a_fetch 216 23 = some (.if_icmp .ne 29, 26) := by decide +kernel
theorem fX10_countOf_26 : a_fetch 216 26 = some (.iinc 2 1, 29) := by decide +kernel
theorem fX10_countOf_29 : a_fetch 216 29 = some (.iload 1, 30) := by decide +kernel
theorem fX10_countOf_30 : a_fetch 216 30 = some (.iconst 5, 31) := by decide +kernel
theorem fX10_countOf_31 : a_fetch 216 31 = some (.if_icmp .ne 46, 34) := by decide +kernel
theorem fX10_countOf_34 : a_fetch 216 34 = some (.aload 0, 35) := by decide +kernel
theorem fX10_countOf_35 : a_fetch 216 35 = some (.iload 3, 36) := by decide +kernel
theorem fX10_countOf_36 : a_fetch 216 36 = some (.invokevirtual 200, 39) := by decide +kernel
theorem fX10_countOf_39 : a_fetch 216 39 = some (.iconst (-1), 40) := by decide +kernel
theorem fX10_countOf_40 : a_fetch 216 40 = some (.if_icmp .ne 46, 43) := by decide +kernel
theorem fX10_countOf_43 : a_fetch 216 43 = some (.iinc 2 1, 46) := by decide +kernel
theorem fX10_countOf_46 : a_fetch 216 46 = some (.iload 1, 47) := by decide +kernel
theorem fX10_countOf_47 : a_fetch 216 47 = some (.iconst 6, 49) := by decide +kernel
theorem fX10_countOf_49 : a_fetch 216 49 = some (.if_icmp .ne 73, 52) := by decide +kernel
theorem fX10_countOf_52 : a_fetch 216 52 = some (.aload 0, 53) := by decide +kernel
theorem fX10_countOf_53 : a_fetch 216 53 = some (.iload 3, 54) := by decide +kernel
theorem fX10_countOf_54 : a_fetch 216 54 = some (.invokevirtual 195, 57) := by decide +kernel
theorem fX10_countOf_57 : a_fetch 216 57 = some (.iconst (-1), 58) := by decide +kernel
theorem fX10_countOf_58 : a_fetch 216 58 = some (.if_icmp .eq 73, 61) := by decide +kernel
theorem fX10_countOf_61 : a_fetch 216 61 = some (.aload 0, 62) := by decide +kernel
theorem fX10_countOf_62 : a_fetch 216 62 = some (.iload 3, 63) := by decide +kernel
theorem fX10_countOf_63 : a_fetch 216 63 = some (.invokevirtual 195, 66) := by decide +kernel
theorem fX10_countOf_66 : a_fetch 216 66 = some (.iload 3, 67) := by decide +kernel
theorem fX10_countOf_67 : a_fetch 216 67 = some (.if_icmp .eq 73, 70) := by decide +kernel
theorem fX10_countOf_70 : a_fetch 216 70 = some (.iinc 2 1, 73) := by decide +kernel
theorem fX10_countOf_73 : a_fetch 216 73 = some (.iinc 3 1, 76) := by decide +kernel
theorem fX10_countOf_76 : a_fetch 216 76 = some (.goto 4, 79) := by decide +kernel
theorem fX10_countOf_79 : a_fetch 216 79 = some (.iload 2, 80) := by decide +kernel
theorem fX10_countOf_80 : a_fetch 216 80 = some (.ireturn, 81) := by decide +kernel
theorem fX10_has_0 : a_fetch 217 0 = some (.iload 1, 1) := by decide +kernel
theorem fX10_has_1 : a_fetch 217 1 = some (.tableswitch 95 0 8 #[52, 57, 64, 69, 76, 76, 76, 82, 90], 52) := by decide +kernel
theorem fX10_has_52 : a_fetch 217 52 = some (.aload 0, 53) := by decide +kernel
theorem fX10_has_53 : a_fetch 217 53 = some (.invokevirtual 189, 56) := by decide +kernel
theorem fX10_has_56 : a_fetch 217 56 = some (.ireturn, 57) := by decide +kernel
theorem fX10_has_57 : a_fetch 217 57 = some (.aload 0, 58) := by decide +kernel
theorem fX10_has_58 : a_fetch 217 58 = some (.invokeinterface 10 36, 61) := by decide +kernel
theorem fX10_has_61 : a_fetch 217 61 = some (.iconst 4, 62) := by decide +kernel
theorem fX10_has_62 : a_fetch 217 62 = some (.iaload, 63) := by decide +kernel
theorem fX10_has_63 : a_fetch 217 63 = some (.ireturn, 64) := by decide +kernel
theorem fX10_has_64 : a_fetch 217 64 = some (.aload 0, 65) := by decide +kernel
theorem fX10_has_65 : a_fetch 217 65 = some (.invokevirtual 190, 68) := by decide +kernel
theorem fX10_has_68 : a_fetch 217 68 = some (.ireturn, 69) := by decide +kernel
theorem fX10_has_69 : a_fetch 217 69 = some (.aload 0, 70) := by decide +kernel
theorem fX10_has_70 : a_fetch 217 70 = some (.invokeinterface 10 49, 73) := by decide +kernel
theorem fX10_has_73 : a_fetch 217 73 = some (.iconst 0, 74) := by decide +kernel
theorem fX10_has_74 : a_fetch 217 74 = some (.iaload, 75) := by decide +kernel
theorem fX10_has_75 : a_fetch 217 75 = some (.ireturn, 76) := by decide +kernel
theorem fX10_has_76 : a_fetch 217 76 = some (.aload 0, 77) := by decide +kernel
theorem fX10_has_77 : a_fetch 217 77 = some (.iload 1, 78) := by decide +kernel
theorem fX10_has_78 : a_fetch 217 78 = some (.invokevirtual 216, 81) := by decide +kernel
theorem fX10_has_81 : a_fetch 217 81 = some (.ireturn, 82) := by decide +kernel
theorem fX10_has_82 : a_fetch 217 82 = some (.aload 0, 83) := by decide +kernel
theorem fX10_has_83 : a_fetch 217 83 = some (.invokeinterface 10 49, 86) := by decide +kernel
theorem fX10_has_86 : a_fetch 217 86 = some (.iconst 121, 88) := by decide +kernel
theorem fX10_has_88 : a_fetch 217 88 = some (.iaload, 89) := by decide +kernel
theorem fX10_has_89 : a_fetch 217 89 = some (.ireturn, 90) := by decide +kernel
theorem fX10_has_90 : a_fetch 217 90 = some (.aload 0, 91) := by decide +kernel
theorem fX10_has_91 : a_fetch 217 91 = some (.invokeinterface 10 69, 94) := by decide +kernel
theorem fX10_has_94 : a_fetch 217 94 = some (.ireturn, 95) := by decide +kernel
theorem fX10_has_95 : a_fetch 217 95 = some (.iconst (-1), 96) := by decide +kernel
theorem fX10_has_96 : a_fetch 217 96 = some (.ireturn, 97) := by decide +kernel
theorem fX10_letter_0 : a_fetch 218 0 = some (.iload 1, 1) := by decide +kernel
theorem fX10_letter_1 : a_fetch 218 1 = some (.i2l, 2) := by decide +kernel
theorem fX10_letter_2 : a_fetch 218 2 = some (.jsr_w 0, 3) := by decide +kernel
theorem fX10_letter_3 : a_fetch 218 3 = some (.jsr_w 1, 4) := by decide +kernel
theorem fX10_letter_4 : a_fetch 218 4 = some (.invokestatic 159, 7) := by decide +kernel
theorem fX10_letter_7 : a_fetch 218 7 = some (.ifCond .eq 42, 10) := by decide +kernel
theorem fX10_letter_10 : a_fetch 218 10 = some (.iload 2, 11) := by decide +kernel
theorem fX10_letter_11 : a_fetch 218 11 = some (.i2l, 12) := by decide +kernel
theorem fX10_letter_12 : a_fetch 218 12 = some (.jsr_w 0, 13) := by decide +kernel
theorem fX10_letter_13 : a_fetch 218 13 = some (.aload 0, 14) := by decide +kernel
theorem fX10_letter_14 : a_fetch 218 14 = some (.invokeinterface 10 36, 17) := by decide +kernel
theorem fX10_letter_17 : a_fetch 218 17 = some (.iconst 3, 18) := by decide +kernel
theorem fX10_letter_18 : a_fetch 218 18 = some (.iload 1, 19) := by decide +kernel
theorem fX10_letter_19 : a_fetch 218 19 = some (.iadd, 20) := by decide +kernel
theorem fX10_letter_20 : a_fetch 218 20 = some (.iaload, 21) := by decide +kernel
theorem fX10_letter_21 : a_fetch 218 21 = some (.iconst 1, 22) := by decide +kernel
theorem fX10_letter_22 : a_fetch 218 22 = some (.isub, 23) := by decide +kernel
theorem fX10_letter_23 : a_fetch 218 23 = some (.i2l, 24) := by decide +kernel
theorem fX10_letter_24 : a_fetch 218 24 = some (.invokestatic 159, 27) := by decide +kernel
theorem fX10_letter_27 : a_fetch 218 27 = some (.ifCond .eq 42, 30) := by decide +kernel
theorem fX10_letter_30 : a_fetch 218 30 = some (.iload 3, 31) := by decide +kernel
theorem fX10_letter_31 : a_fetch 218 31 = some (.i2l, 32) := by decide +kernel
theorem fX10_letter_32 : a_fetch 218 32 = some (.jsr_w 0, 33) := by decide +kernel
theorem fX10_letter_33 : a_fetch 218 33 = some (.jsr_w 5, 36) := by decide +kernel
theorem fX10_letter_36 : a_fetch 218 36 = some (.invokestatic 159, 39) := by decide +kernel
theorem fX10_letter_39 : a_fetch 218 39 = some (.ifCond .ne 44, 42) := by decide +kernel
theorem fX10_letter_42 : a_fetch 218 42 = some (.iconst (-1), 43) := by decide +kernel
theorem fX10_letter_43 : a_fetch 218 43 = some (.ireturn, 44) := by decide +kernel
theorem fX10_letter_44 : a_fetch 218 44 = some (.aload 0, 45) := by decide +kernel
theorem fX10_letter_45 : a_fetch 218 45 = some (.invokeinterface 10 37, 48) := by decide +kernel
theorem fX10_letter_48 : a_fetch 218 48 = some (.iconst 20, 50) := by decide +kernel
theorem fX10_letter_50 : a_fetch 218 50 = some (.iconst 10, 52) := by decide +kernel
theorem fX10_letter_52 : a_fetch 218 52 = some (.iload 1, 53) := by decide +kernel
theorem fX10_letter_53 : a_fetch 218 53 = some (.imul, 54) := by decide +kernel
theorem fX10_letter_54 : a_fetch 218 54 = some (.iadd, 55) := by decide +kernel
theorem fX10_letter_55 : a_fetch 218 55 = some (.iload 2, 56) := by decide +kernel
theorem fX10_letter_56 : a_fetch 218 56 = some (.iadd, 57) := by decide +kernel
theorem fX10_letter_57 : a_fetch 218 57 = some (.laload, 58) := by decide +kernel
theorem fX10_letter_58 : a_fetch 218 58 = some (.lstore 4, 60) := by decide +kernel
theorem fX10_letter_60 : a_fetch 218 60 = some (.iconst 0, 61) := by decide +kernel
theorem fX10_letter_61 : a_fetch 218 61 = some (.istore 6, 63) := by decide +kernel
theorem fX10_letter_63 : a_fetch 218 63 = some (.lload 4, 65) := by decide +kernel
theorem fX10_letter_65 : a_fetch 218 65 = some (.lstore 7, 67) := by decide +kernel
theorem fX10_letter_67 : a_fetch 218 67 = some (.lload 7, 69) := by decide +kernel
theorem fX10_letter_69 : a_fetch 218 69 = some (.jsr_w 0, 70) := by decide +kernel
theorem fX10_letter_70 : a_fetch 218 70 = some (.lcmp, 71) := by decide +kernel
theorem fX10_letter_71 : a_fetch 218 71 = some (.ifCond .le 88, 74) := by decide +kernel
theorem fX10_letter_74 : a_fetch 218 74 = some (.iinc 6 1, 77) := by decide +kernel
theorem fX10_letter_77 : a_fetch 218 77 = some (.lload 7, 79) := by decide +kernel
theorem fX10_letter_79 : a_fetch 218 79 = some (.jsr_w 27, 82) := by decide +kernel
theorem fX10_letter_82 : a_fetch 218 82 = some (.ldiv, 83) := by decide +kernel
theorem fX10_letter_83 : a_fetch 218 83 = some (.lstore 7, 85) := by decide +kernel
theorem fX10_letter_85 : a_fetch 218 85 = some (.goto 67, 88) := by decide +kernel
theorem fX10_letter_88 : a_fetch 218 88 = some (.iload 3, 89) := by decide +kernel
theorem fX10_letter_89 : a_fetch 218 89 = some (.iload 6, 91) := by decide +kernel
theorem fX10_letter_91 : a_fetch 218 91 = some (.if_icmp .lt 96, 94) := by decide +kernel
theorem fX10_letter_94 : a_fetch 218 94 = some (.iconst 0, 95) := by decide +kernel
theorem fX10_letter_95 : a_fetch 218 95 = some (.ireturn, 96) := by decide +kernel
theorem fX10_letter_96 : a_fetch 218 96 = some (.iload 6, 98) := by decide +kernel
theorem fX10_letter_98 : a_fetch 218 98 = some (.iconst 1, 99) := by decide +kernel
theorem fX10_letter_99 : a_fetch 218 99 = some (.isub, 100) := by decide +kernel
theorem fX10_letter_100 : a_fetch 218 100 = some (.istore 7, 102) := by decide +kernel
theorem fX10_letter_102 : a_fetch 218 102 = some (.iload 7, 104) := by decide +kernel
theorem fX10_letter_104 : a_fetch 218 104 = some (.iload 3, 105) := by decide +kernel
theorem fX10_letter_105 : a_fetch 218 105 = some (.if_icmp .le 122, 108) := by decide +kernel
theorem fX10_letter_108 : a_fetch 218 108 = some (.lload 4, 110) := by decide +kernel
theorem fX10_letter_110 : a_fetch 218 110 = some (.jsr_w 27, 113) := by decide +kernel
theorem fX10_letter_113 : a_fetch 218 113 = some (.ldiv, 114) := by decide +kernel
theorem fX10_letter_114 : a_fetch 218 114 = some (.lstore 4, 116) := by decide +kernel
theorem fX10_letter_116 : a_fetch 218 116 = some (.iinc 7 (-1), 119) := by decide +kernel
theorem fX10_letter_119 : a_fetch 218 119 = some (.goto 102, 122) := by decide +kernel
theorem fX10_letter_122 : a_fetch 218 122 = some (.lload 4, 124) := by decide +kernel
theorem fX10_letter_124 : a_fetch 218 124 = some (.jsr_w 27, 127) := by decide +kernel
theorem fX10_letter_127 : a_fetch 218 127 = some (.lrem, 128) := by decide +kernel
theorem fX10_letter_128 : a_fetch 218 128 = some (.l2i, 129) := by decide +kernel
theorem fX10_letter_129 : a_fetch 218 129 = some (.ireturn, 130) := by decide +kernel
theorem fX10_dutiesOf_0 : a_fetch 219 0 = some (.iconst 0, 1) := by decide +kernel
theorem fX10_dutiesOf_1 : a_fetch 219 1 = some (.istore 2, 2) := by decide +kernel
theorem fX10_dutiesOf_2 : a_fetch 219 2 = some (.iconst 0, 3) := by decide +kernel
theorem fX10_dutiesOf_3 : a_fetch 219 3 = some (.istore 3, 4) := by decide +kernel
theorem fX10_dutiesOf_4 : a_fetch 219 4 = some (.iload 3, 5) := by decide +kernel
theorem fX10_dutiesOf_5 : a_fetch 219 5 = some (.aload 0, 6) := by decide +kernel
theorem fX10_dutiesOf_6 : a_fetch 219 6 = some (.invokevirtual 190, 9) := by decide +kernel
theorem fX10_dutiesOf_9 : a_fetch 219 9 = some (.if_icmp .ge 31, 12) := by decide +kernel
theorem fX10_dutiesOf_12 : a_fetch 219 12 = some (.aload 0, 13) := by decide +kernel
theorem fX10_dutiesOf_13 : a_fetch 219 13 = some (.iload 3, 14) := by decide +kernel
theorem fX10_dutiesOf_14 : a_fetch 219 14 = some (.iconst 0, 15) := by decide +kernel
theorem fX10_dutiesOf_15 : a_fetch 219 15 = some (.invokevirtual 194, 18) := by decide +kernel
theorem fX10_dutiesOf_18 : a_fetch 219 18 = some (.iload 1, 19) := by decide +kernel
theorem fX10_dutiesOf_19 : a_fetch 219 19 = some (.if_icmp .ne 25, 22) := by decide +kernel
theorem fX10_dutiesOf_22 : a_fetch 219 22 = some (.iinc 2 1, 25) := by decide +kernel
theorem fX10_dutiesOf_25 : a_fetch 219 25 = some (.iinc 3 1, 28) := by decide +kernel
theorem fX10_dutiesOf_28 : a_fetch 219 28 = some (.goto 4, 31) := by decide +kernel
theorem fX10_dutiesOf_31 : a_fetch 219 31 = some (.iload 2, 32) := by decide +kernel
theorem fX10_dutiesOf_32 : a_fetch 219 32 = some (.ireturn, 33) := by decide +kernel
theorem fX10_person_0 : a_fetch 220 0 = some (.aload 0, 1) := by decide +kernel
theorem fX10_person_1 : a_fetch 220 1 = some (.iload 1, 2) := by decide +kernel
theorem fX10_person_2 : a_fetch 220 2 = some (.invokevirtual 191, 5) := by decide +kernel
theorem fX10_person_5 : a_fetch 220 5 = some (.ifCond .ne 10, 8) := by decide +kernel
theorem fX10_person_8 : a_fetch 220 8 = some (.iconst (-1), 9) := by decide +kernel
theorem fX10_person_9 : a_fetch 220 9 = some (.ireturn, 10) := by decide +kernel
theorem fX10_person_10 : a_fetch 220 10 = some (.iload 2, 11) := by decide +kernel
theorem fX10_person_11 : a_fetch 220 11 = some (.tableswitch 102 0 6 #[52, 58, 64, 70, 80, 90, 96], 52) := by decide +kernel
theorem fX10_person_52 : a_fetch 220 52 = some (.aload 0, 53) := by decide +kernel
theorem fX10_person_53 : a_fetch 220 53 = some (.iload 1, 54) := by decide +kernel
theorem fX10_person_54 : a_fetch 220 54 = some (.invokevirtual 192, 57) := by decide +kernel
theorem fX10_person_57 : a_fetch 220 57 = some (.ireturn, 58) := by decide +kernel
theorem fX10_person_58 : a_fetch 220 58 = some (.aload 0, 59) := by decide +kernel
theorem fX10_person_59 : a_fetch 220 59 = some (.iload 1, 60) := by decide +kernel
theorem fX10_person_60 : a_fetch 220 60 = some (.invokevirtual 195, 63) := by decide +kernel
theorem fX10_person_63 : a_fetch 220 63 = some (.ireturn, 64) := by decide +kernel
theorem fX10_person_64 : a_fetch 220 64 = some (.aload 0, 65) := by decide +kernel
theorem fX10_person_65 : a_fetch 220 65 = some (.iload 1, 66) := by decide +kernel
theorem fX10_person_66 : a_fetch 220 66 = some (.invokevirtual 197, 69) := by decide +kernel
theorem fX10_person_69 : a_fetch 220 69 = some (.ireturn, 70) := by decide +kernel
theorem fX10_person_70 : a_fetch 220 70 = some (.aload 0, 71) := by decide +kernel
theorem fX10_person_71 : a_fetch 220 71 = some (.invokeinterface 10 40, 74) := by decide +kernel
theorem fX10_person_74 : a_fetch 220 74 = some (.iconst 10, 76) := by decide +kernel
theorem fX10_person_76 : a_fetch 220 76 = some (.iload 1, 77) := by decide +kernel
theorem fX10_person_77 : a_fetch 220 77 = some (.iadd, 78) := by decide +kernel
theorem fX10_person_78 : a_fetch 220 78 = some (.iaload, 79) := by decide +kernel
theorem fX10_person_79 : a_fetch 220 79 = some (.ireturn, 80) := by decide +kernel
theorem fX10_person_80 : a_fetch 220 80 = some (.aload 0, 81) := by decide +kernel
theorem fX10_person_81 : a_fetch 220 81 = some (.invokeinterface 10 41, 84) := by decide +kernel
theorem fX10_person_84 : a_fetch 220 84 = some (.iconst 10, 86) := by decide +kernel
theorem fX10_person_86 : a_fetch 220 86 = some (.iload 1, 87) := by decide +kernel
theorem fX10_person_87 : a_fetch 220 87 = some (.iadd, 88) := by decide +kernel
theorem fX10_person_88 : a_fetch 220 88 = some (.iaload, 89) := by decide +kernel
theorem fX10_person_89 : a_fetch 220 89 = some (.ireturn, 90) := by decide +kernel
theorem fX10_person_90 : a_fetch 220 90 = some (.aload 0, 91) := by decide +kernel
theorem fX10_person_91 : a_fetch 220 91 = some (.iload 1, 92) := by decide +kernel
theorem fX10_person_92 : a_fetch 220 92 = some (.invokevirtual 219, 95) := by decide +kernel
theorem fX10_person_95 : a_fetch 220 95 = some (.ireturn, 96) := by decide +kernel
theorem fX10_person_96 : a_fetch 220 96 = some (.aload 0, 97) := by decide +kernel
theorem fX10_person_97 : a_fetch 220 97 = some (.iload 1, 98) := by decide +kernel
theorem fX10_person_98 : a_fetch 220 98 = some (.invokevirtual 200, 101) := by decide +kernel
theorem fX10_person_101 : a_fetch 220 101 = some (.ireturn, 102) := by decide +kernel
theorem fX10_person_102 : a_fetch 220 102 = some (.iconst (-1), 103) := by decide +kernel
theorem fX10_person_103 : a_fetch 220 103 = some (.ireturn, 104) := by decide +kernel
theorem fX10_points_0 : a_fetch 221 0 = some (.aload 0, 1) := by decide +kernel
theorem fX10_points_1 : a_fetch 221 1 = some (.iload 1, 2) := by decide +kernel
theorem fX10_points_2 : a_fetch 221 2 = some (.invokevirtual 191, 5) := by decide +kernel
theorem fX10_points_5 : a_fetch 221 5 = some (.ifCond .eq 25, 8) := by decide +kernel
theorem fX10_points_8 : a_fetch 221 8 = some (.aload 0, 9) := by decide +kernel
theorem fX10_points_9 : a_fetch 221 9 = some (.iload 2, 10) := by decide +kernel
theorem fX10_points_10 : a_fetch 221 10 = some (.invokevirtual 191, 13) := by decide +kernel
theorem fX10_points_13 : a_fetch 221 13 = some (.ifCond .eq 25, 16) := by decide +kernel
theorem fX10_points_16 : a_fetch 221 16 = some (.aload 0, 17) := by decide +kernel
theorem fX10_points_17 : a_fetch 221 17 = some (.iload 1, 18) := by decide +kernel
theorem fX10_points_18 : a_fetch 221 18 = some (.iload 2, 19) := by decide +kernel
theorem fX10_points_19 : a_fetch 221 19 = some (.invokevirtual 198, 22) := by decide +kernel
theorem fX10_points_22 : a_fetch 221 22 = some (.goto 26, 25) := by decide +kernel
theorem fX10_points_25 : a_fetch 221 25 = some (.iconst (-1), 26) := by decide +kernel
theorem fX10_points_26 : a_fetch 221 26 = some (.ireturn, 27) := by decide +kernel
theorem fX10_isTask_0 : a_fetch 222 0 = some (.iload 1, 1) := by decide +kernel
theorem fX10_isTask_1 : a_fetch 222 1 = some (.i2l, 2) := by decide +kernel
theorem fX10_isTask_2 : a_fetch 222 2 = some (.jsr_w 0, 3) := by decide +kernel
theorem fX10_isTask_3 : a_fetch 222 3 = some (.aload 0, 4) := by decide +kernel
theorem fX10_isTask_4 : a_fetch 222 4 = some (.invokeinterface 10 36, 7) := by decide +kernel
theorem fX10_isTask_7 : a_fetch 222 7 = some (.iconst 4, 8) := by decide +kernel
theorem fX10_isTask_8 : a_fetch 222 8 = some (.iaload, 9) := by decide +kernel
theorem fX10_isTask_9 : a_fetch 222 9 = some (.iconst 1, 10) := by decide +kernel
theorem fX10_isTask_10 : a_fetch 222 10 = some (.isub, 11) := by decide +kernel
theorem fX10_isTask_11 : a_fetch 222 11 = some (.i2l, 12) := by decide +kernel
theorem fX10_isTask_12 : a_fetch 222 12 = some (.invokestatic 159, 15) := by decide +kernel
theorem fX10_isTask_15 : a_fetch 222 15 = some (.ireturn, 16) := by decide +kernel
theorem fX10_could_0 : a_fetch 223 0 = some (.aload 0, 1) := by decide +kernel
theorem fX10_could_1 : a_fetch 223 1 = some (.iload 1, 2) := by decide +kernel
theorem fX10_could_2 : a_fetch 223 2 = some (.invokevirtual 191, 5) := by decide +kernel
theorem fX10_could_5 : a_fetch 223 5 = some (.ifCond .eq 37, 8) := by decide +kernel
theorem fX10_could_8 : a_fetch 223 8 = some (.aload 0, 9) := by decide +kernel
theorem fX10_could_9 : a_fetch 223 9 = some (.iload 2, 10) := by decide +kernel
theorem fX10_could_10 : a_fetch 223 10 = some (.invokevirtual 191, 13) := by decide +kernel
theorem fX10_could_13 : a_fetch 223 13 = some (.ifCond .eq 37, 16) := by decide +kernel
theorem fX10_could_16 : a_fetch 223 16 = some (.aload 0, 17) := by decide +kernel
theorem fX10_could_17 : a_fetch 223 17 = some (.iload 3, 18) := by decide +kernel
theorem fX10_could_18 : a_fetch 223 18 = some (.invokevirtual 222, 21) := by decide +kernel
theorem fX10_could_21 : a_fetch 223 21 = some (.ifCond .eq 37, 24) := by decide +kernel
theorem fX10_could_24 : a_fetch 223 24 = some (.iload 4, 26) := by decide +kernel
theorem fX10_could_26 : a_fetch 223 26 = some (.i2l, 27) := by decide +kernel
theorem fX10_could_27 : a_fetch 223 27 = some (.jsr_w 0, 28) := by decide +kernel
theorem fX10_could_28 : a_fetch 223 28 = some (.jsr_w 23, 31) := by decide +kernel
theorem fX10_could_31 : a_fetch 223 31 = some (.invokestatic 159, 34) := by decide +kernel
theorem fX10_could_34 : a_fetch 223 34 = some (.ifCond .ne 39, 37) := by decide +kernel
theorem fX10_could_37 : a_fetch 223 37 = some (.iconst (-1), 38) := by decide +kernel
theorem fX10_could_38 : a_fetch 223 38 = some (.ireturn, 39) := by decide +kernel
theorem fX10_could_39 : a_fetch 223 39 = some (.aload 0, 40) := by decide +kernel
theorem fX10_could_40 : a_fetch 223 40 = some (.iload 1, 41) := by decide +kernel
theorem fX10_could_41 : a_fetch 223 41 = some (.iload 2, 42) := by decide +kernel
theorem fX10_could_42 : a_fetch 223 42 = some (.iload 3, 43) := by decide +kernel
theorem fX10_could_43 : a_fetch 223 43 = some (.iload 4, 45) := by decide +kernel
theorem fX10_could_45 : a_fetch 223 45 = some (.invokevirtual 206, 48) := by decide +kernel
theorem fX10_could_48 : a_fetch 223 48 = some (.ifCond .eq 55, 51) := by decide +kernel
theorem fX10_could_51 : a_fetch 223 51 = some (.iconst 1, 52) := by decide +kernel
theorem fX10_could_52 : a_fetch 223 52 = some (.goto 56, 55) := by decide +kernel
theorem fX10_could_55 : a_fetch 223 55 = some (.iconst 0, 56) := by decide +kernel
theorem fX10_could_56 : a_fetch 223 56 = some (.ireturn, 57) := by decide +kernel
theorem fX10_kept_0 : a_fetch 224 0 = some (.iload 1, 1) := by decide +kernel
theorem fX10_kept_1 : a_fetch 224 1 = some (.i2l, 2) := by decide +kernel
theorem fX10_kept_2 : a_fetch 224 2 = some (.jsr_w 0, 3) := by decide +kernel
theorem fX10_kept_3 : a_fetch 224 3 = some (.aload 0, 4) := by decide +kernel
theorem fX10_kept_4 : a_fetch 224 4 = some (.invokeinterface 10 49, 7) := by decide +kernel
theorem fX10_kept_7 : a_fetch 224 7 = some (.iconst 121, 9) := by decide +kernel
theorem fX10_kept_9 : a_fetch 224 9 = some (.iaload, 10) := by decide +kernel
theorem fX10_kept_10 : a_fetch 224 10 = some (.iconst 1, 11) := by decide +kernel
theorem fX10_kept_11 : a_fetch 224 11 = some (.isub, 12) := by decide +kernel
theorem fX10_kept_12 : a_fetch 224 12 = some (.i2l, 13) := by decide +kernel
theorem fX10_kept_13 : a_fetch 224 13 = some (.invokestatic 159, 16) := by decide +kernel
theorem fX10_kept_16 : a_fetch 224 16 = some (.ifCond .eq 47, 19) := by decide +kernel
theorem fX10_kept_19 : a_fetch 224 19 = some (.iload 2, 20) := by decide +kernel
theorem fX10_kept_20 : a_fetch 224 20 = some (.i2l, 21) := by decide +kernel
theorem fX10_kept_21 : a_fetch 224 21 = some (.jsr_w 0, 22) := by decide +kernel
theorem fX10_kept_22 : a_fetch 224 22 = some (.jsr_w 3, 25) := by decide +kernel
theorem fX10_kept_25 : a_fetch 224 25 = some (.invokestatic 159, 28) := by decide +kernel
theorem fX10_kept_28 : a_fetch 224 28 = some (.ifCond .eq 47, 31) := by decide +kernel
theorem fX10_kept_31 : a_fetch 224 31 = some (.aload 0, 32) := by decide +kernel
theorem fX10_kept_32 : a_fetch 224 32 = some (.invokeinterface 10 49, 35) := by decide +kernel
theorem fX10_kept_35 : a_fetch 224 35 = some (.iconst 122, 37) := by decide +kernel
theorem fX10_kept_37 : a_fetch 224 37 = some (.iconst 4, 38) := by decide +kernel
theorem fX10_kept_38 : a_fetch 224 38 = some (.iload 1, 39) := by decide +kernel
theorem fX10_kept_39 : a_fetch 224 39 = some (.imul, 40) := by decide +kernel
theorem fX10_kept_40 : a_fetch 224 40 = some (.iadd, 41) := by decide +kernel
theorem fX10_kept_41 : a_fetch 224 41 = some (.iload 2, 42) := by decide +kernel
theorem fX10_kept_42 : a_fetch 224 42 = some (.iadd, 43) := by decide +kernel
theorem fX10_kept_43 : a_fetch 224 43 = some (.iaload, 44) := by decide +kernel
theorem fX10_kept_44 : a_fetch 224 44 = some (.goto 48, 47) := by decide +kernel
theorem fX10_kept_47 : a_fetch 224 47 = some (.iconst (-1), 48) := by decide +kernel
theorem fX10_kept_48 : a_fetch 224 48 = some (.ireturn, 49) := by decide +kernel
theorem fX10_isHere0_0 : a_fetch 225 0 = some (.aload 0, 1) := by decide +kernel
theorem fX10_isHere0_1 : a_fetch 225 1 = some (.iload 1, 2) := by decide +kernel
theorem fX10_isHere0_2 : a_fetch 225 2 = some (.invokevirtual 191, 5) := by decide +kernel
theorem fX10_isHere0_5 : a_fetch 225 5 = some (.ifCond .eq 21, 8) := by decide +kernel
theorem fX10_isHere0_8 : a_fetch 225 8 = some (.aload 0, 9) := by decide +kernel
theorem fX10_isHere0_9 : a_fetch 225 9 = some (.iload 1, 10) := by decide +kernel
theorem fX10_isHere0_10 : a_fetch 225 10 = some (.invokevirtual 195, 13) := by decide +kernel
theorem fX10_isHere0_13 : a_fetch 225 13 = some (.iconst (-1), 14) := by decide +kernel
theorem fX10_isHere0_14 : a_fetch 225 14 = some (.if_icmp .eq 21, 17) := by decide +kernel
theorem fX10_isHere0_17 : a_fetch 225 17 = some (.iconst 1, 18) := by decide +kernel
theorem fX10_isHere0_18 : a_fetch 225 18 = some (.goto 22, 21) := by decide +kernel
theorem fX10_isHere0_21 : a_fetch 225 21 = some (.iconst 0, 22) := by decide +kernel
theorem fX10_isHere0_22 : a_fetch 225 22 = some (.ireturn, 23) := by decide +kernel
theorem fX10_wave_0 : a_fetch 226 0 = some (.aload 0, 1) := by decide +kernel
theorem fX10_wave_1 : a_fetch 226 1 = some (.iload 1, 2) := by decide +kernel
theorem fX10_wave_2 : a_fetch 226 2 = some (.invokevirtual 225, 5) := by decide +kernel
theorem fX10_wave_5 : a_fetch 226 5 = some (.ifCond .ne 10, 8) := by decide +kernel
theorem fX10_wave_8 : a_fetch 226 8 = some (.iconst (-1), 9) := by decide +kernel
theorem fX10_wave_9 : a_fetch 226 9 = some (.ireturn, 10) := by decide +kernel
theorem fX10_wave_10 : a_fetch 226 10 = some (.aload 0, 11) := by decide +kernel
theorem fX10_wave_11 : a_fetch 226 11 = some (.invokevirtual 201, 14) := by decide +kernel
theorem fX10_wave_14 : a_fetch 226 14 = some (.aload 0, 15) := by decide +kernel
theorem fX10_wave_15 : a_fetch 226 15 = some (.iload 1, 16) := by decide +kernel
theorem fX10_wave_16 : a_fetch 226 16 = some (.invokevirtual 215, 19) := by decide +kernel
theorem fX10_wave_19 : a_fetch 226 19 = some (.aload 0, 20) := by decide +kernel
theorem fX10_wave_20 : a_fetch 226 20 = some (.invokevirtual 202, 23) := by decide +kernel
theorem fX10_wave_23 : a_fetch 226 23 = some (.iload 2, 24) := by decide +kernel
theorem fX10_wave_24 : a_fetch 226 24 = some (.iconst (-1), 25) := by decide +kernel
theorem fX10_wave_25 : a_fetch 226 25 = some (.if_icmp .ne 35, 28) := by decide +kernel
theorem fX10_wave_28 : a_fetch 226 28 = some (.aload 0, 29) := by decide +kernel
theorem fX10_wave_29 : a_fetch 226 29 = some (.invokeinterface 10 64, 32) := by decide +kernel
theorem fX10_wave_32 : a_fetch 226 32 = some (.goto 74, 35) := by decide +kernel
theorem fX10_wave_35 : a_fetch 226 35 = some (.iload 2, 36) := by decide +kernel
theorem fX10_wave_36 : a_fetch 226 36 = some (.iconst 20, 38) := by decide +kernel
theorem fX10_wave_38 : a_fetch 226 38 = some (.if_icmp .ne 48, 41) := by decide +kernel
theorem fX10_wave_41 : a_fetch 226 41 = some (.aload 0, 42) := by decide +kernel
theorem fX10_wave_42 : a_fetch 226 42 = some (.invokeinterface 10 65, 45) := by decide +kernel
theorem fX10_wave_45 : a_fetch 226 45 = some (.goto 74, 48) := by decide +kernel
theorem fX10_wave_48 : a_fetch 226 48 = some (.iload 2, 49) := by decide +kernel
theorem fX10_wave_49 : a_fetch 226 49 = some (.i2l, 50) := by decide +kernel
theorem fX10_wave_50 : a_fetch 226 50 = some (.jsr_w 0, 51) := by decide +kernel
theorem fX10_wave_51 : a_fetch 226 51 = some (.aload 0, 52) := by decide +kernel
theorem fX10_wave_52 : a_fetch 226 52 = some (.invokeinterface 10 64, 55) := by decide +kernel
theorem fX10_wave_55 : a_fetch 226 55 = some (.iconst 1, 56) := by decide +kernel
theorem fX10_wave_56 : a_fetch 226 56 = some (.isub, 57) := by decide +kernel
theorem fX10_wave_57 : a_fetch 226 57 = some (.i2l, 58) := by decide +kernel
theorem fX10_wave_58 : a_fetch 226 58 = some (.invokestatic 159, 61) := by decide +kernel
theorem fX10_wave_61 : a_fetch 226 61 = some (.ifCond .eq 73, 64) := by decide +kernel
theorem fX10_wave_64 : a_fetch 226 64 = some (.aload 0, 65) := by decide +kernel
theorem fX10_wave_65 : a_fetch 226 65 = some (.invokeinterface 10 63, 68) := by decide +kernel
theorem fX10_wave_68 : a_fetch 226 68 = some (.iload 2, 69) := by decide +kernel
theorem fX10_wave_69 : a_fetch 226 69 = some (.iaload, 70) := by decide +kernel
theorem fX10_wave_70 : a_fetch 226 70 = some (.goto 74, 73) := by decide +kernel
theorem fX10_wave_73 : a_fetch 226 73 = some (.iconst (-1), 74) := by decide +kernel
theorem fX10_wave_74 : a_fetch 226 74 = some (.ireturn, 75) := by decide +kernel
theorem fX10_least_0 : a_fetch 227 0 = some (.iload 0, 1) := by decide +kernel
theorem fX10_least_1 : a_fetch 227 1 = some (.iload 1, 2) := by decide +kernel
theorem fX10_least_2 : a_fetch 227 2 = some (.if_icmp .ge 9, 5) := by decide +kernel
theorem fX10_least_5 : a_fetch 227 5 = some (.iload 0, 6) := by decide +kernel
theorem fX10_least_6 : a_fetch 227 6 = some (.goto 10, 9) := by decide +kernel
theorem fX10_least_9 : a_fetch 227 9 = some (.iload 1, 10) := by decide +kernel
theorem fX10_least_10 : a_fetch 227 10 = some (.ireturn, 11) := by decide +kernel
theorem fX10_would_0 : a_fetch 228 0 = some (.aload 0, 1) := by decide +kernel
theorem fX10_would_1 : a_fetch 228 1 = some (.iload 1, 2) := by decide +kernel
theorem fX10_would_2 : a_fetch 228 2 = some (.invokevirtual 225, 5) := by decide +kernel
theorem fX10_would_5 : a_fetch 228 5 = some (.ifCond .eq 18, 8) := by decide +kernel
theorem fX10_would_8 : a_fetch 228 8 = some (.iload 2, 9) := by decide +kernel
theorem fX10_would_9 : a_fetch 228 9 = some (.i2l, 10) := by decide +kernel
theorem fX10_would_10 : a_fetch 228 10 = some (.jsr_w 0, 11) := by decide +kernel
theorem fX10_would_11 : a_fetch 228 11 = some (.jsr_w 1, 12) := by decide +kernel
theorem fX10_would_12 : a_fetch 228 12 = some (.invokestatic 159, 15) := by decide +kernel
theorem fX10_would_15 : a_fetch 228 15 = some (.ifCond .ne 20, 18) := by decide +kernel
theorem fX10_would_18 : a_fetch 228 18 = some (.iconst (-1), 19) := by decide +kernel
theorem fX10_would_19 : a_fetch 228 19 = some (.ireturn, 20) := by decide +kernel
theorem fX10_would_20 : a_fetch 228 20 = some (.aload 0, 21) := by decide +kernel
theorem fX10_would_21 : a_fetch 228 21 = some (.invokevirtual 201, 24) := by decide +kernel
theorem fX10_would_24 : a_fetch 228 24 = some (.aload 0, 25) := by decide +kernel
theorem fX10_would_25 : a_fetch 228 25 = some (.iload 1, 26) := by decide +kernel
theorem fX10_would_26 : a_fetch 228 26 = some (.invokevirtual 215, 29) := by decide +kernel
theorem fX10_would_29 : a_fetch 228 29 = some (.aload 0, 30) := by decide +kernel
theorem fX10_would_30 : a_fetch 228 30 = some (.invokevirtual 208, 33) := by decide +kernel
theorem fX10_would_33 : a_fetch 228 33 = some (.aload 0, 34) := by decide +kernel
theorem fX10_would_34 : a_fetch 228 34 = some (.iconst 23, 36) := by decide +kernel
theorem fX10_would_36 : a_fetch 228 36 = some (.aload 0, 37) := by decide +kernel
theorem fX10_would_37 : a_fetch 228 37 = some (.invokeinterface 10 49, 40) := by decide +kernel
theorem fX10_would_40 : a_fetch 228 40 = some (.iconst 0, 41) := by decide +kernel
theorem fX10_would_41 : a_fetch 228 41 = some (.iaload, 42) := by decide +kernel
theorem fX10_would_42 : a_fetch 228 42 = some (.iconst 24, 44) := by decide +kernel
theorem fX10_would_44 : a_fetch 228 44 = some (.irem, 45) := by decide +kernel
theorem fX10_would_45 : a_fetch 228 45 = some (.isub, 46) := by decide +kernel
theorem fX10_would_46 : a_fetch 228 46 = some (.iconst 9999, 49) := by decide +kernel
theorem fX10_would_49 : a_fetch 228 49 = some (.aload 0, 50) := by decide +kernel
theorem fX10_would_50 : a_fetch 228 50 = some (.invokeinterface 10 49, 53) := by decide +kernel
theorem fX10_would_53 : a_fetch 228 53 = some (.iconst 0, 54) := by decide +kernel
theorem fX10_would_54 : a_fetch 228 54 = some (.iaload, 55) := by decide +kernel
theorem fX10_would_55 : a_fetch 228 55 = some (.isub, 56) := by decide +kernel
theorem fX10_would_56 : a_fetch 228 56 = some (.invokestatic 227, 59) := by decide +kernel
theorem fX10_would_59 : a_fetch 228 59 = some (.invokevirtual 214, 62) := by decide +kernel
theorem fX10_would_62 : a_fetch 228 62 = some (.aload 0, 63) := by decide +kernel
theorem fX10_would_63 : a_fetch 228 63 = some (.invokevirtual 202, 66) := by decide +kernel
theorem fX10_would_66 : a_fetch 228 66 = some (.aload 0, 67) := by decide +kernel
theorem fX10_would_67 : a_fetch 228 67 = some (.invokeinterface 10 59, 70) := by decide +kernel
theorem fX10_would_70 : a_fetch 228 70 = some (.iload 2, 71) := by decide +kernel
theorem fX10_would_71 : a_fetch 228 71 = some (.iaload, 72) := by decide +kernel
theorem fX10_would_72 : a_fetch 228 72 = some (.ireturn, 73) := by decide +kernel
theorem fX10_first_0 : a_fetch 229 0 = some (.iload 1, 1) := by decide +kernel
theorem fX10_first_1 : a_fetch 229 1 = some (.i2l, 2) := by decide +kernel
theorem fX10_first_2 : a_fetch 229 2 = some (.jsr_w 0, 3) := by decide +kernel
theorem fX10_first_3 : a_fetch 229 3 = some (.jsr_w 2, 6) := by decide +kernel
theorem fX10_first_6 : a_fetch 229 6 = some (.invokestatic 159, 9) := by decide +kernel
theorem fX10_first_9 : a_fetch 229 9 = some (.ifCond .ne 14, 12) := by decide +kernel
theorem fX10_first_12 : a_fetch 229 12 = some (.iconst (-1), 13) := by decide +kernel
theorem fX10_first_13 : a_fetch 229 13 = some (.ireturn, 14) := by decide +kernel
theorem fX10_first_14 : a_fetch 229 14 = some (.aload 0, 15) := by decide +kernel
theorem fX10_first_15 : a_fetch 229 15 = some (.invokevirtual 201, 18) := by decide +kernel
theorem fX10_first_18 : a_fetch 229 18 = some (.aload 0, 19) := by decide +kernel
theorem fX10_first_19 : a_fetch 229 19 = some (.invokevirtual 208, 22) := by decide +kernel
theorem fX10_first_22 : a_fetch 229 22 = some (.aload 0, 23) := by decide +kernel
theorem fX10_first_23 : a_fetch 229 23 = some (.invokeinterface 10 61, 26) := by decide +kernel
theorem fX10_first_26 : a_fetch 229 26 = some (.iconst (-1), 27) := by decide +kernel
theorem fX10_first_27 : a_fetch 229 27 = some (.if_icmp .ne 67, 30) := by decide +kernel
theorem fX10_first_30 : a_fetch 229 30 = some (.aload 0, 31) := by decide +kernel
theorem fX10_first_31 : a_fetch 229 31 = some (.invokeinterface 10 49, 34) := by decide +kernel
theorem fX10_first_34 : a_fetch 229 34 = some (.iconst 0, 35) := by decide +kernel
theorem fX10_first_35 : a_fetch 229 35 = some (.iaload, 36) := by decide +kernel
theorem fX10_first_36 : a_fetch 229 36 = some (.iconst 9999, 39) := by decide +kernel
theorem fX10_first_39 : a_fetch 229 39 = some (.if_icmp .ge 67, 42) := by decide +kernel
theorem fX10_first_42 : a_fetch 229 42 = some (.aload 0, 43) := by decide +kernel
theorem fX10_first_43 : a_fetch 229 43 = some (.invokeinterface 10 49, 46) := by decide +kernel
theorem fX10_first_46 : a_fetch 229 46 = some (.iconst 0, 47) := by decide +kernel
theorem fX10_first_47 : a_fetch 229 47 = some (.iaload, 48) := by decide +kernel
theorem fX10_first_48 : a_fetch 229 48 = some (.aload 0, 49) := by decide +kernel
theorem fX10_first_49 : a_fetch 229 49 = some (.invokeinterface 10 50, 52) := by decide +kernel
theorem fX10_first_52 : a_fetch 229 52 = some (.iconst 0, 53) := by decide +kernel
theorem fX10_first_53 : a_fetch 229 53 = some (.iaload, 54) := by decide +kernel
theorem fX10_first_54 : a_fetch 229 54 = some (.isub, 55) := by decide +kernel
theorem fX10_first_55 : a_fetch 229 55 = some (.iconst 72, 57) := by decide +kernel
theorem fX10_first_57 : a_fetch 229 57 = some (.if_icmp .ge 67, 60) := by decide +kernel
theorem fX10_first_60 : a_fetch 229 60 = some (.aload 0, 61) := by decide +kernel
theorem fX10_first_61 : a_fetch 229 61 = some (.invokevirtual 213, 64) := by decide +kernel
theorem fX10_first_64 : a_fetch 229 64 = some (.goto 22, 67) := by decide +kernel
theorem fX10_first_67 : a_fetch 229 67 = some (.aload 0, 68) := by decide +kernel
theorem fX10_first_68 : a_fetch 229 68 = some (.invokeinterface 10 49, 71) := by decide +kernel
theorem fX10_first_71 : a_fetch 229 71 = some (.iconst 0, 72) := by decide +kernel
theorem fX10_first_72 : a_fetch 229 72 = some (.iaload, 73) := by decide +kernel
theorem fX10_first_73 : a_fetch 229 73 = some (.istore 2, 74) := by decide +kernel
theorem fX10_first_74 : a_fetch 229 74 = some (.aload 0, 75) := by decide +kernel
theorem fX10_first_75 : a_fetch 229 75 = some (.invokevirtual 202, 78) := by decide +kernel
theorem fX10_first_78 : a_fetch 229 78 = some (.aload 0, 79) := by decide +kernel
theorem fX10_first_79 : a_fetch 229 79 = some (.invokeinterface 10 61, 82) := by decide +kernel
theorem fX10_first_82 : a_fetch 229 82 = some (.iconst (-1), 83) := by decide +kernel
theorem fX10_first_83 : a_fetch 229 83 = some (.if_icmp .ne 90, 86) := by decide +kernel
theorem fX10_first_86 : a_fetch 229 86 = some (.iconst (-1), 87) := by decide +kernel
theorem fX10_first_87 : a_fetch 229 87 = some (.goto 114, 90) := by decide +kernel
theorem fX10_first_90 : a_fetch 229 90 = some (.iload 1, 91) := by decide +kernel
theorem fX10_first_91 : a_fetch 229 91 = some (.ifCond .ne 98, 94) := by decide +kernel
theorem fX10_first_94 : a_fetch 229 94 = some (.iload 2, 95) := by decide +kernel
theorem fX10_first_95 : a_fetch 229 95 = some (.goto 114, 98) := by decide +kernel
theorem fX10_first_98 : a_fetch 229 98 = some (.iload 1, 99) := by decide +kernel
theorem fX10_first_99 : a_fetch 229 99 = some (.iconst 1, 100) := by decide +kernel
theorem fX10_first_100 : a_fetch 229 100 = some (.if_icmp .ne 110, 103) := by decide +kernel
theorem fX10_first_103 : a_fetch 229 103 = some (.aload 0, 104) := by decide +kernel
theorem fX10_first_104 : a_fetch 229 104 = some (.invokeinterface 10 61, 107) := by decide +kernel
theorem fX10_first_107 : a_fetch 229 107 = some (.goto 114, 110) := by decide +kernel
theorem fX10_first_110 : a_fetch 229 110 = some (.aload 0, 111) := by decide +kernel
theorem fX10_first_111 : a_fetch 229 111 = some (.invokeinterface 10 62, 114) := by decide +kernel
theorem fX10_first_114 : a_fetch 229 114 = some (.ireturn, 115) := by decide +kernel
theorem fX10_doable_0 : a_fetch 230 0 = some (.iconst 0, 1) := by decide +kernel
theorem fX10_doable_1 : a_fetch 230 1 = some (.istore 4, 3) := by decide +kernel
theorem fX10_doable_3 : a_fetch 230 3 = some (.iconst 0, 4) := by decide +kernel
theorem fX10_doable_4 : a_fetch 230 4 = some (.istore 5, 6) := by decide +kernel
theorem fX10_doable_6 : a_fetch 230 6 = some (.iload 5, 8) := by decide +kernel
theorem fX10_doable_8 : a_fetch 230 8 = some (.aload 0, 9) := by decide +kernel
theorem fX10_doable_9 : a_fetch 230 9 = some (.invokevirtual 190, 12) := by decide +kernel
theorem fX10_doable_12 : a_fetch 230 12 = some (.if_icmp .ge 76, 15) := by decide +kernel
theorem fX10_doable_15 : a_fetch 230 15 = some (.aload 0, 16) := by decide +kernel
theorem fX10_doable_16 : a_fetch 230 16 = some (.iload 5, 18) := by decide +kernel
theorem fX10_doable_18 : a_fetch 230 18 = some (.iconst 0, 19) := by decide +kernel
theorem fX10_doable_19 : a_fetch 230 19 = some (.invokevirtual 194, 22) := by decide +kernel
theorem fX10_doable_22 : a_fetch 230 22 = some (.iload 2, 23) := by decide +kernel
theorem fX10_doable_23 : a_fetch 230 23 = some (.if_icmp .ne 70, 26) := by decide +kernel
theorem fX10_doable_26 : a_fetch 230 26 = some (.aload 0, 27) := by decide +kernel
theorem fX10_doable_27 : a_fetch 230 27 = some (.iload 3, 28) := by decide +kernel
theorem fX10_doable_28 : a_fetch 230 28 = some (.iload 1, 29) := by decide +kernel
theorem fX10_doable_29 : a_fetch 230 29 = some (.iload 2, 30) := by decide +kernel
theorem fX10_doable_30 : a_fetch 230 30 = some (.if_icmp .ne 37, 33) := by decide +kernel
theorem fX10_doable_33 : a_fetch 230 33 = some (.iconst 1, 34) := by decide +kernel
theorem fX10_doable_34 : a_fetch 230 34 = some (.goto 38, 37) := by decide +kernel
theorem fX10_doable_37 : a_fetch 230 37 = some (.iconst 0, 38) := by decide +kernel
theorem fX10_doable_38 : a_fetch 230 38 = some (.aload 0, 39) := by decide +kernel
theorem fX10_doable_39 : a_fetch 230 39 = some (.iload 5, 41) := by decide +kernel
theorem fX10_doable_41 : a_fetch 230 41 = some (.iconst 1, 42) := by decide +kernel
theorem fX10_doable_42 : a_fetch 230 42 = some (.invokevirtual 194, 45) := by decide +kernel
theorem fX10_doable_45 : a_fetch 230 45 = some (.aload 0, 46) := by decide +kernel
theorem fX10_doable_46 : a_fetch 230 46 = some (.iload 5, 48) := by decide +kernel
theorem fX10_doable_48 : a_fetch 230 48 = some (.iconst 2, 49) := by decide +kernel
theorem fX10_doable_49 : a_fetch 230 49 = some (.invokevirtual 194, 52) := by decide +kernel
theorem fX10_doable_52 : a_fetch 230 52 = some (.aload 0, 53) := by decide +kernel
theorem fX10_doable_53 : a_fetch 230 53 = some (.invokeinterface 10 49, 56) := by decide +kernel
theorem fX10_doable_56 : a_fetch 230 56 = some (.iconst 0, 57) := by decide +kernel
theorem fX10_doable_57 : a_fetch 230 57 = some (.iaload, 58) := by decide +kernel
theorem fX10_doable_58 : a_fetch 230 58 = some (.iconst 24, 60) := by decide +kernel
theorem fX10_doable_60 : a_fetch 230 60 = some (.idiv, 61) := by decide +kernel
theorem fX10_doable_61 : a_fetch 230 61 = some (.invokevirtual 205, 64) := by decide +kernel
theorem fX10_doable_64 : a_fetch 230 64 = some (.ifCond .eq 70, 67) := by decide +kernel
theorem fX10_doable_67 : a_fetch 230 67 = some (.iinc 4 1, 70) := by decide +kernel
theorem fX10_doable_70 : a_fetch 230 70 = some (.iinc 5 1, 73) := by decide +kernel
theorem fX10_doable_73 : a_fetch 230 73 = some (.goto 6, 76) := by decide +kernel
theorem fX10_doable_76 : a_fetch 230 76 = some (.iload 4, 78) := by decide +kernel
theorem fX10_doable_78 : a_fetch 230 78 = some (.ireturn, 79) := by decide +kernel
theorem fX10_best_0 : a_fetch 231 0 = some (.aload 0, 1) := by decide +kernel
theorem fX10_best_1 : a_fetch 231 1 = some (.iload 1, 2) := by decide +kernel
theorem fX10_best_2 : a_fetch 231 2 = some (.invokevirtual 191, 5) := by decide +kernel
theorem fX10_best_5 : a_fetch 231 5 = some (.ifCond .eq 18, 8) := by decide +kernel
theorem fX10_best_8 : a_fetch 231 8 = some (.iload 2, 9) := by decide +kernel
theorem fX10_best_9 : a_fetch 231 9 = some (.i2l, 10) := by decide +kernel
theorem fX10_best_10 : a_fetch 231 10 = some (.jsr_w 0, 11) := by decide +kernel
theorem fX10_best_11 : a_fetch 231 11 = some (.jsr_w 1, 12) := by decide +kernel
theorem fX10_best_12 : a_fetch 231 12 = some (.invokestatic 159, 15) := by decide +kernel
theorem fX10_best_15 : a_fetch 231 15 = some (.ifCond .ne 20, 18) := by decide +kernel
theorem fX10_best_18 : a_fetch 231 18 = some (.iconst (-1), 19) := by decide +kernel
theorem fX10_best_19 : a_fetch 231 19 = some (.ireturn, 20) := by decide +kernel
theorem fX10_best_20 : a_fetch 231 20 = some (.iconst (-1), 21) := by decide +kernel
theorem fX10_best_21 : a_fetch 231 21 = some (.istore 3, 22) := by decide +kernel
theorem fX10_best_22 : a_fetch 231 22 = some (.iconst (-1), 23) := by decide +kernel
theorem fX10_best_23 : a_fetch 231 23 = some (.istore 4, 25) := by decide +kernel
theorem fX10_best_25 : a_fetch 231 25 = some (.iconst 0, 26) := by decide +kernel
theorem fX10_best_26 : a_fetch 231 26 = some (.istore 5, 28) := by decide +kernel
theorem fX10_best_28 : a_fetch 231 28 = some (.iload 5, 30) := by decide +kernel
theorem fX10_best_30 : a_fetch 231 30 = some (.aload 0, 31) := by decide +kernel
theorem fX10_best_31 : a_fetch 231 31 = some (.invokevirtual 189, 34) := by decide +kernel
theorem fX10_best_34 : a_fetch 231 34 = some (.if_icmp .ge 85, 37) := by decide +kernel
theorem fX10_best_37 : a_fetch 231 37 = some (.iload 5, 39) := by decide +kernel
theorem fX10_best_39 : a_fetch 231 39 = some (.iload 1, 40) := by decide +kernel
theorem fX10_best_40 : a_fetch 231 40 = some (.if_icmp .ne 46, 43) := by decide +kernel
theorem fX10_best_43 : a_fetch 231 43 = some (.goto 79, 46) := by decide +kernel
theorem fX10_best_46 : a_fetch 231 46 = some (.aload 0, 47) := by decide +kernel
theorem fX10_best_47 : a_fetch 231 47 = some (.iload 5, 49) := by decide +kernel
theorem fX10_best_49 : a_fetch 231 49 = some (.iload 1, 50) := by decide +kernel
theorem fX10_best_50 : a_fetch 231 50 = some (.aload 0, 51) := by decide +kernel
theorem fX10_best_51 : a_fetch 231 51 = some (.iload 5, 53) := by decide +kernel
theorem fX10_best_53 : a_fetch 231 53 = some (.iload 1, 54) := by decide +kernel
theorem fX10_best_54 : a_fetch 231 54 = some (.invokevirtual 198, 57) := by decide +kernel
theorem fX10_best_57 : a_fetch 231 57 = some (.invokevirtual 230, 60) := by decide +kernel
theorem fX10_best_60 : a_fetch 231 60 = some (.istore 6, 62) := by decide +kernel
theorem fX10_best_62 : a_fetch 231 62 = some (.iload 6, 64) := by decide +kernel
theorem fX10_best_64 : a_fetch 231 64 = some (.iload 4, 66) := by decide +kernel
theorem fX10_best_66 : a_fetch 231 66 = some (.if_icmp .gt 72, 69) := by decide +kernel
theorem fX10_best_69 : a_fetch 231 69 = some (.goto 79, 72) := by decide +kernel
theorem fX10_best_72 : a_fetch 231 72 = some (.iload 6, 74) := by decide +kernel
theorem fX10_best_74 : a_fetch 231 74 = some (.istore 4, 76) := by decide +kernel
theorem fX10_best_76 : a_fetch 231 76 = some (.iload 5, 78) := by decide +kernel
theorem fX10_best_78 : a_fetch 231 78 = some (.istore 3, 79) := by decide +kernel
theorem fX10_best_79 : a_fetch 231 79 = some (.iinc 5 1, 82) := by decide +kernel
theorem fX10_best_82 : a_fetch 231 82 = some (.goto 28, 85) := by decide +kernel
theorem fX10_best_85 : a_fetch 231 85 = some (.iload 2, 86) := by decide +kernel
theorem fX10_best_86 : a_fetch 231 86 = some (.ifCond .ne 93, 89) := by decide +kernel
theorem fX10_best_89 : a_fetch 231 89 = some (.iload 3, 90) := by decide +kernel
theorem fX10_best_90 : a_fetch 231 90 = some (.goto 95, 93) := by decide +kernel
theorem fX10_best_93 : a_fetch 231 93 = some (.iload 4, 95) := by decide +kernel
theorem fX10_best_95 : a_fetch 231 95 = some (.ireturn, 96) := by decide +kernel
theorem fX10_study_0 : a_fetch 232 0 = some (.aload 0, 1) := by decide +kernel
theorem fX10_study_1 : a_fetch 232 1 = some (.iload 1, 2) := by decide +kernel
theorem fX10_study_2 : a_fetch 232 2 = some (.invokevirtual 191, 5) := by decide +kernel
theorem fX10_study_5 : a_fetch 232 5 = some (.ifCond .eq 21, 8) := by decide +kernel
theorem fX10_study_8 : a_fetch 232 8 = some (.aload 0, 9) := by decide +kernel
theorem fX10_study_9 : a_fetch 232 9 = some (.iload 2, 10) := by decide +kernel
theorem fX10_study_10 : a_fetch 232 10 = some (.invokevirtual 191, 13) := by decide +kernel
theorem fX10_study_13 : a_fetch 232 13 = some (.ifCond .eq 21, 16) := by decide +kernel
theorem fX10_study_16 : a_fetch 232 16 = some (.iload 1, 17) := by decide +kernel
theorem fX10_study_17 : a_fetch 232 17 = some (.iload 2, 18) := by decide +kernel
theorem fX10_study_18 : a_fetch 232 18 = some (.if_icmp .ne 23, 21) := by decide +kernel
theorem fX10_study_21 : a_fetch 232 21 = some (.iconst (-1), 22) := by decide +kernel
theorem fX10_study_22 : a_fetch 232 22 = some (.ireturn, 23) := by decide +kernel
theorem fX10_study_23 : a_fetch 232 23 = some (.aload 0, 24) := by decide +kernel
theorem fX10_study_24 : a_fetch 232 24 = some (.iload 1, 25) := by decide +kernel
theorem fX10_study_25 : a_fetch 232 25 = some (.iload 2, 26) := by decide +kernel
theorem fX10_study_26 : a_fetch 232 26 = some (.invokevirtual 198, 29) := by decide +kernel
theorem fX10_study_29 : a_fetch 232 29 = some (.istore 3, 30) := by decide +kernel
theorem fX10_study_30 : a_fetch 232 30 = some (.iconst 0, 31) := by decide +kernel
theorem fX10_study_31 : a_fetch 232 31 = some (.istore 4, 33) := by decide +kernel
theorem fX10_study_33 : a_fetch 232 33 = some (.iload 4, 35) := by decide +kernel
theorem fX10_study_35 : a_fetch 232 35 = some (.iconst 99, 37) := by decide +kernel
theorem fX10_study_37 : a_fetch 232 37 = some (.if_icmp .gt 91, 40) := by decide +kernel
theorem fX10_study_40 : a_fetch 232 40 = some (.aload 0, 41) := by decide +kernel
theorem fX10_study_41 : a_fetch 232 41 = some (.iload 1, 42) := by decide +kernel
theorem fX10_study_42 : a_fetch 232 42 = some (.iload 2, 43) := by decide +kernel
theorem fX10_study_43 : a_fetch 232 43 = some (.iload 3, 44) := by decide +kernel
theorem fX10_study_44 : a_fetch 232 44 = some (.invokevirtual 230, 47) := by decide +kernel
theorem fX10_study_47 : a_fetch 232 47 = some (.aload 0, 48) := by decide +kernel
theorem fX10_study_48 : a_fetch 232 48 = some (.iload 2, 49) := by decide +kernel
theorem fX10_study_49 : a_fetch 232 49 = some (.invokevirtual 219, 52) := by decide +kernel
theorem fX10_study_52 : a_fetch 232 52 = some (.if_icmp .ne 58, 55) := by decide +kernel
theorem fX10_study_55 : a_fetch 232 55 = some (.iload 4, 57) := by decide +kernel
theorem fX10_study_57 : a_fetch 232 57 = some (.ireturn, 58) := by decide +kernel
theorem fX10_study_58 : a_fetch 232 58 = some (.aload 0, 59) := by decide +kernel
theorem fX10_study_59 : a_fetch 232 59 = some (.iconst 0, 60) := by decide +kernel
theorem fX10_study_60 : a_fetch 232 60 = some (.iload 1, 61) := by decide +kernel
theorem fX10_study_61 : a_fetch 232 61 = some (.iload 2, 62) := by decide +kernel
theorem fX10_study_62 : a_fetch 232 62 = some (.iload 3, 63) := by decide +kernel
theorem fX10_study_63 : a_fetch 232 63 = some (.aload 0, 64) := by decide +kernel
theorem fX10_study_64 : a_fetch 232 64 = some (.invokeinterface 10 49, 67) := by decide +kernel
theorem fX10_study_67 : a_fetch 232 67 = some (.iconst 0, 68) := by decide +kernel
theorem fX10_study_68 : a_fetch 232 68 = some (.iaload, 69) := by decide +kernel
theorem fX10_study_69 : a_fetch 232 69 = some (.iconst 24, 71) := by decide +kernel
theorem fX10_study_71 : a_fetch 232 71 = some (.irem, 72) := by decide +kernel
theorem fX10_study_72 : a_fetch 232 72 = some (.aload 0, 73) := by decide +kernel
theorem fX10_study_73 : a_fetch 232 73 = some (.invokeinterface 10 49, 76) := by decide +kernel
theorem fX10_study_76 : a_fetch 232 76 = some (.iconst 0, 77) := by decide +kernel
theorem fX10_study_77 : a_fetch 232 77 = some (.iaload, 78) := by decide +kernel
theorem fX10_study_78 : a_fetch 232 78 = some (.iconst 24, 80) := by decide +kernel
theorem fX10_study_80 : a_fetch 232 80 = some (.idiv, 81) := by decide +kernel
theorem fX10_study_81 : a_fetch 232 81 = some (.invokevirtual 204, 84) := by decide +kernel
theorem fX10_study_84 : a_fetch 232 84 = some (.istore 3, 85) := by decide +kernel
theorem fX10_study_85 : a_fetch 232 85 = some (.iinc 4 1, 88) := by decide +kernel
theorem fX10_study_88 : a_fetch 232 88 = some (.goto 33, 91) := by decide +kernel
theorem fX10_study_91 : a_fetch 232 91 = some (.iconst (-1), 92) := by decide +kernel
theorem fX10_study_92 : a_fetch 232 92 = some (.ireturn, 93) := by decide +kernel
theorem fX10_laysChange_0 : a_fetch 233 0 = some (.aload 0, 1) := by decide +kernel
theorem fX10_laysChange_1 : a_fetch 233 1 = some (.invokevirtual 189, 4) := by decide +kernel
theorem fX10_laysChange_4 : a_fetch 233 4 = some (.istore 1, 5) := by decide +kernel
theorem fX10_laysChange_5 : a_fetch 233 5 = some (.iconst 0, 6) := by decide +kernel
theorem fX10_laysChange_6 : a_fetch 233 6 = some (.istore 2, 7) := by decide +kernel
theorem fX10_laysChange_7 : a_fetch 233 7 = some (.iload 2, 8) := by decide +kernel
theorem fX10_laysChange_8 : a_fetch 233 8 = some (.iload 1, 9) := by decide +kernel
theorem fX10_laysChange_9 : a_fetch 233 9 = some (.if_icmp .ge 71, 12) := by decide +kernel
theorem fX10_laysChange_12 : a_fetch 233 12 = some (.iconst 0, 13) := by decide +kernel
theorem fX10_laysChange_13 : a_fetch 233 13 = some (.istore 3, 14) := by decide +kernel
theorem fX10_laysChange_14 : a_fetch 233 14 = some (.iload 3, 15) := by decide +kernel
theorem fX10_laysChange_15 : a_fetch 233 15 = some (.iload 1, 16) := by decide +kernel
theorem fX10_laysChange_16 : a_fetch 233 16 = some (.if_icmp .ge 65, 19) := by decide +kernel
theorem fX10_laysChange_19 : a_fetch 233 19 = some (.aload 0, 20) := by decide +kernel
theorem fX10_laysChange_20 : a_fetch 233 20 = some (.invokeinterface 10 67, 23) := by decide +kernel
theorem fX10_laysChange_23 : a_fetch 233 23 = some (.iconst 10, 25) := by decide +kernel
theorem fX10_laysChange_25 : a_fetch 233 25 = some (.iload 2, 26) := by decide +kernel
theorem fX10_laysChange_26 : a_fetch 233 26 = some (.imul, 27) := by decide +kernel
theorem fX10_laysChange_27 : a_fetch 233 27 = some (.iload 3, 28) := by decide +kernel
theorem fX10_laysChange_28 : a_fetch 233 28 = some (.iadd, 29) := by decide +kernel
theorem fX10_laysChange_29 : a_fetch 233 29 = some (.iload 3, 30) := by decide +kernel
theorem fX10_laysChange_30 : a_fetch 233 30 = some (.iload 2, 31) := by decide +kernel
theorem fX10_laysChange_31 : a_fetch 233 31 = some (.if_icmp .ne 40, 34) := by decide +kernel
theorem fX10_laysChange_34 : a_fetch 233 34 = some (.iconst 1000, 37) := by decide +kernel
theorem fX10_laysChange_37 : a_fetch 233 37 = some (.goto 58, 40) := by decide +kernel
theorem fX10_laysChange_40 : a_fetch 233 40 = some (.aload 0, 41) := by decide +kernel
theorem fX10_laysChange_41 : a_fetch 233 41 = some (.iload 2, 42) := by decide +kernel
theorem fX10_laysChange_42 : a_fetch 233 42 = some (.invokevirtual 219, 45) := by decide +kernel
theorem fX10_laysChange_45 : a_fetch 233 45 = some (.aload 0, 46) := by decide +kernel
theorem fX10_laysChange_46 : a_fetch 233 46 = some (.iload 3, 47) := by decide +kernel
theorem fX10_laysChange_47 : a_fetch 233 47 = some (.iload 2, 48) := by decide +kernel
theorem fX10_laysChange_48 : a_fetch 233 48 = some (.aload 0, 49) := by decide +kernel
theorem fX10_laysChange_49 : a_fetch 233 49 = some (.iload 3, 50) := by decide +kernel
theorem fX10_laysChange_50 : a_fetch 233 50 = some (.iload 2, 51) := by decide +kernel
theorem fX10_laysChange_51 : a_fetch 233 51 = some (.invokevirtual 198, 54) := by decide +kernel
theorem fX10_laysChange_54 : a_fetch 233 54 = some (.invokevirtual 230, 57) := by decide +kernel
theorem fX10_laysChange_57 : a_fetch 233 57 = some (.isub, 58) := by decide +kernel
theorem fX10_laysChange_58 : a_fetch 233 58 = some (.iastore, 59) := by decide +kernel
theorem fX10_laysChange_59 : a_fetch 233 59 = some (.iinc 3 1, 62) := by decide +kernel
theorem fX10_laysChange_62 : a_fetch 233 62 = some (.goto 14, 65) := by decide +kernel
theorem fX10_laysChange_65 : a_fetch 233 65 = some (.iinc 2 1, 68) := by decide +kernel
theorem fX10_laysChange_68 : a_fetch 233 68 = some (.goto 7, 71) := by decide +kernel
theorem fX10_laysChange_71 : a_fetch 233 71 = some (.iconst 0, 72) := by decide +kernel
theorem fX10_laysChange_72 : a_fetch 233 72 = some (.istore 2, 73) := by decide +kernel
theorem fX10_laysChange_73 : a_fetch 233 73 = some (.iload 2, 74) := by decide +kernel
theorem fX10_laysChange_74 : a_fetch 233 74 = some (.iconst 1, 75) := by decide +kernel
theorem fX10_laysChange_75 : a_fetch 233 75 = some (.iload 1, 76) := by decide +kernel
theorem fX10_laysChange_76 : a_fetch 233 76 = some (.ishl, 77) := by decide +kernel
theorem fX10_laysChange_77 : a_fetch 233 77 = some (.if_icmp .ge 99, 80) := by decide +kernel
theorem fX10_laysChange_80 : a_fetch 233 80 = some (.aload 0, 81) := by decide +kernel
theorem fX10_laysChange_81 : a_fetch 233 81 = some (.invokeinterface 10 66, 84) := by decide +kernel
theorem fX10_laysChange_84 : a_fetch 233 84 = some (.iconst 1024, 87) := by decide +kernel
theorem fX10_laysChange_87 : a_fetch 233 87 = some (.iload 1, 88) := by decide +kernel
theorem fX10_laysChange_88 : a_fetch 233 88 = some (.imul, 89) := by decide +kernel
theorem fX10_laysChange_89 : a_fetch 233 89 = some (.iload 2, 90) := by decide +kernel
theorem fX10_laysChange_90 : a_fetch 233 90 = some (.iadd, 91) := by decide +kernel
theorem fX10_laysChange_91 : a_fetch 233 91 = some (.iconst 0, 92) := by decide +kernel
theorem fX10_laysChange_92 : a_fetch 233 92 = some (.iastore, 93) := by decide +kernel
theorem fX10_laysChange_93 : a_fetch 233 93 = some (.iinc 2 1, 96) := by decide +kernel
theorem fX10_laysChange_96 : a_fetch 233 96 = some (.goto 73, 99) := by decide +kernel
theorem fX10_laysChange_99 : a_fetch 233 99 = some (.iload 1, 100) := by decide +kernel
theorem fX10_laysChange_100 : a_fetch 233 100 = some (.iconst 1, 101) := by decide +kernel
theorem fX10_laysChange_101 : a_fetch 233 101 = some (.isub, 102) := by decide +kernel
theorem fX10_laysChange_102 : a_fetch 233 102 = some (.istore 2, 103) := by decide +kernel
theorem fX10_laysChange_103 : a_fetch 233 103 = some (.iload 2, 104) := by decide +kernel
theorem fX10_laysChange_104 : a_fetch 233 104 = some (.ifCond .lt 220, 107) := by decide +kernel
theorem fX10_laysChange_107 : a_fetch 233 107 = some (.iconst 0, 108) := by decide +kernel
theorem fX10_laysChange_108 : a_fetch 233 108 = some (.istore 3, 109) := by decide +kernel
theorem fX10_laysChange_109 : a_fetch 233 109 = some (.iload 3, 110) := by decide +kernel
theorem fX10_laysChange_110 : a_fetch 233 110 = some (.iconst 1, 111) := by decide +kernel
theorem fX10_laysChange_111 : a_fetch 233 111 = some (.iload 1, 112) := by decide +kernel
theorem fX10_laysChange_112 : a_fetch 233 112 = some (.ishl, 113) := by decide +kernel
theorem fX10_laysChange_113 : a_fetch 233 113 = some (.if_icmp .ge 214, 116) := by decide +kernel
theorem fX10_laysChange_116 : a_fetch 233 116 = some (.iconst 1000, 119) := by decide +kernel
theorem fX10_laysChange_119 : a_fetch 233 119 = some (.istore 4, 121) := by decide +kernel
theorem fX10_laysChange_121 : a_fetch 233 121 = some (.iconst 0, 122) := by decide +kernel
theorem fX10_laysChange_122 : a_fetch 233 122 = some (.istore 5, 124) := by decide +kernel
theorem fX10_laysChange_124 : a_fetch 233 124 = some (.iload 5, 126) := by decide +kernel
theorem fX10_laysChange_126 : a_fetch 233 126 = some (.iload 1, 127) := by decide +kernel
theorem fX10_laysChange_127 : a_fetch 233 127 = some (.if_icmp .ge 194, 130) := by decide +kernel
theorem fX10_laysChange_130 : a_fetch 233 130 = some (.iload 3, 131) := by decide +kernel
theorem fX10_laysChange_131 : a_fetch 233 131 = some (.iload 5, 133) := by decide +kernel
theorem fX10_laysChange_133 : a_fetch 233 133 = some (.ishr, 134) := by decide +kernel
theorem fX10_laysChange_134 : a_fetch 233 134 = some (.iconst 1, 135) := by decide +kernel
theorem fX10_laysChange_135 : a_fetch 233 135 = some (.iand, 136) := by decide +kernel
theorem fX10_laysChange_136 : a_fetch 233 136 = some (.iconst 1, 137) := by decide +kernel
theorem fX10_laysChange_137 : a_fetch 233 137 = some (.if_icmp .ne 143, 140) := by decide +kernel
theorem fX10_laysChange_140 : a_fetch 233 140 = some (.goto 188, 143) := by decide +kernel
theorem fX10_laysChange_143 : a_fetch 233 143 = some (.aload 0, 144) := by decide +kernel
theorem fX10_laysChange_144 : a_fetch 233 144 = some (.invokeinterface 10 67, 147) := by decide +kernel
theorem fX10_laysChange_147 : a_fetch 233 147 = some (.iconst 10, 149) := by decide +kernel
theorem fX10_laysChange_149 : a_fetch 233 149 = some (.iload 2, 150) := by decide +kernel
theorem fX10_laysChange_150 : a_fetch 233 150 = some (.imul, 151) := by decide +kernel
theorem fX10_laysChange_151 : a_fetch 233 151 = some (.iload 5, 153) := by decide +kernel
theorem fX10_laysChange_153 : a_fetch 233 153 = some (.iadd, 154) := by decide +kernel
theorem fX10_laysChange_154 : a_fetch 233 154 = some (.iaload, 155) := by decide +kernel
theorem fX10_laysChange_155 : a_fetch 233 155 = some (.aload 0, 156) := by decide +kernel
theorem fX10_laysChange_156 : a_fetch 233 156 = some (.invokeinterface 10 66, 159) := by decide +kernel
theorem fX10_laysChange_159 : a_fetch 233 159 = some (.iconst 1024, 162) := by decide +kernel
theorem fX10_laysChange_162 : a_fetch 233 162 = some (.iload 2, 163) := by decide +kernel
theorem fX10_laysChange_163 : a_fetch 233 163 = some (.iconst 1, 164) := by decide +kernel
theorem fX10_laysChange_164 : a_fetch 233 164 = some (.iadd, 165) := by decide +kernel
theorem fX10_laysChange_165 : a_fetch 233 165 = some (.imul, 166) := by decide +kernel
theorem fX10_laysChange_166 : a_fetch 233 166 = some (.iload 3, 167) := by decide +kernel
theorem fX10_laysChange_167 : a_fetch 233 167 = some (.iconst 1, 168) := by decide +kernel
theorem fX10_laysChange_168 : a_fetch 233 168 = some (.iload 5, 170) := by decide +kernel
theorem fX10_laysChange_170 : a_fetch 233 170 = some (.ishl, 171) := by decide +kernel
theorem fX10_laysChange_171 : a_fetch 233 171 = some (.ior, 172) := by decide +kernel
theorem fX10_laysChange_172 : a_fetch 233 172 = some (.iadd, 173) := by decide +kernel
theorem fX10_laysChange_173 : a_fetch 233 173 = some (.iaload, 174) := by decide +kernel
theorem fX10_laysChange_174 : a_fetch 233 174 = some (.iadd, 175) := by decide +kernel
theorem fX10_laysChange_175 : a_fetch 233 175 = some (.istore 6, 177) := by decide +kernel
theorem fX10_laysChange_177 : a_fetch 233 177 = some (.iload 6, 179) := by decide +kernel
theorem fX10_laysChange_179 : a_fetch 233 179 = some (.iload 4, 181) := by decide +kernel
theorem fX10_laysChange_181 : a_fetch 233 181 = some (.if_icmp .ge 188, 184) := by decide +kernel
theorem fX10_laysChange_184 : a_fetch 233 184 = some (.iload 6, 186) := by decide +kernel
theorem fX10_laysChange_186 : a_fetch 233 186 = some (.istore 4, 188) := by decide +kernel
theorem fX10_laysChange_188 : a_fetch 233 188 = some (.iinc 5 1, 191) := by decide +kernel
theorem fX10_laysChange_191 : a_fetch 233 191 = some (.goto 124, 194) := by decide +kernel
theorem fX10_laysChange_194 : a_fetch 233 194 = some (.aload 0, 195) := by decide +kernel
theorem fX10_laysChange_195 : a_fetch 233 195 = some (.invokeinterface 10 66, 198) := by decide +kernel
theorem fX10_laysChange_198 : a_fetch 233 198 = some (.iconst 1024, 201) := by decide +kernel
theorem fX10_laysChange_201 : a_fetch 233 201 = some (.iload 2, 202) := by decide +kernel
theorem fX10_laysChange_202 : a_fetch 233 202 = some (.imul, 203) := by decide +kernel
theorem fX10_laysChange_203 : a_fetch 233 203 = some (.iload 3, 204) := by decide +kernel
theorem fX10_laysChange_204 : a_fetch 233 204 = some (.iadd, 205) := by decide +kernel
theorem fX10_laysChange_205 : a_fetch 233 205 = some (.iload 4, 207) := by decide +kernel
theorem fX10_laysChange_207 : a_fetch 233 207 = some (.iastore, 208) := by decide +kernel
theorem fX10_laysChange_208 : a_fetch 233 208 = some (.iinc 3 1, 211) := by decide +kernel
theorem fX10_laysChange_211 : a_fetch 233 211 = some (.goto 109, 214) := by decide +kernel
theorem fX10_laysChange_214 : a_fetch 233 214 = some (.iinc 2 (-1), 217) := by decide +kernel
theorem fX10_laysChange_217 : a_fetch 233 217 = some (.goto 103, 220) := by decide +kernel
