theorem dX7_init_0 : decode cX7_init 0 = .ok (.aload_n 0, 1) := by decide +kernel
theorem dX7_init_1 : decode cX7_init 1 = .ok (.invokespecial 1, 3) := by decide +kernel
theorem dX7_init_4 : decode cX7_init 4 = .ok (.aload_n 0, 1) := by decide +kernel
theorem dX7_init_5 : decode cX7_init 5 = .ok (.bipush 7, 2) := by decide +kernel
theorem dX7_init_7 : decode cX7_init 7 = .ok (.newarray .int, 2) := by decide +kernel
theorem dX7_init_9 : decode cX7_init 9 = .ok (.putfield 7, 3) := by decide +kernel
theorem dX7_init_12 : decode cX7_init 12 = .ok (.aload_n 0, 1) := by decide +kernel
theorem dX7_init_13 : decode cX7_init 13 = .ok (.bipush 6, 2) := by decide +kernel
theorem dX7_init_15 : decode cX7_init 15 = .ok (.newarray .int, 2) := by decide +kernel
theorem dX7_init_17 : decode cX7_init 17 = .ok (.putfield 13, 3) := by decide +kernel
theorem dX7_init_20 : decode cX7_init 20 = .ok (.aload_n 0, 1) := by decide +kernel
theorem dX7_init_21 : decode cX7_init 21 = .ok (.bipush 10, 2) := by decide +kernel
theorem dX7_init_23 : decode cX7_init 23 = .ok (.newarray .int, 2) := by decide +kernel
theorem dX7_init_25 : decode cX7_init 25 = .ok (.putfield 16, 3) := by decide +kernel
theorem dX7_init_28 : decode cX7_init 28 = .ok (.aload_n 0, 1) := by decide +kernel
theorem dX7_init_29 : decode cX7_init 29 = .ok (.bipush 40, 2) := by decide +kernel
theorem dX7_init_31 : decode cX7_init 31 = .ok (.newarray .int, 2) := by decide +kernel
theorem dX7_init_33 : decode cX7_init 33 = .ok (.putfield 19, 3) := by decide +kernel
theorem dX7_init_36 : decode cX7_init 36 = .ok (.aload_n 0, 1) := by decide +kernel
theorem dX7_init_37 : decode cX7_init 37 = .ok (.bipush 40, 2) := by decide +kernel
theorem dX7_init_39 : decode cX7_init 39 = .ok (.newarray .int, 2) := by decide +kernel
theorem dX7_init_41 : decode cX7_init 41 = .ok (.putfield 22, 3) := by decide +kernel
theorem dX7_init_44 : decode cX7_init 44 = .ok (.aload_n 0, 1) := by decide +kernel
theorem dX7_init_45 : decode cX7_init 45 = .ok (.bipush 40, 2) := by decide +kernel
theorem dX7_init_47 : decode cX7_init 47 = .ok (.newarray .int, 2) := by decide +kernel
theorem dX7_init_49 : decode cX7_init 49 = .ok (.putfield 25, 3) := by decide +kernel
theorem dX7_init_52 : decode cX7_init 52 = .ok (.aload_n 0, 1) := by decide +kernel
theorem dX7_init_53 : decode cX7_init 53 = .ok (.bipush 40, 2) := by decide +kernel
theorem dX7_init_55 : decode cX7_init 55 = .ok (.newarray .int, 2) := by decide +kernel
theorem dX7_init_57 : decode cX7_init 57 = .ok (.putfield 28, 3) := by decide +kernel
theorem dX7_init_60 : decode cX7_init 60 = .ok (.aload_n 0, 1) := by decide +kernel
theorem dX7_init_61 : decode cX7_init 61 = .ok (.bipush 40, 2) := by decide +kernel
theorem dX7_init_63 : decode cX7_init 63 = .ok (.newarray .int, 2) := by decide +kernel
theorem dX7_init_65 : decode cX7_init 65 = .ok (.putfield 31, 3) := by decide +kernel
theorem dX7_init_68 : decode cX7_init 68 = .ok (.aload_n 0, 1) := by decide +kernel
theorem dX7_init_69 : decode cX7_init 69 = .ok (.bipush 40, 2) := by decide +kernel
theorem dX7_init_71 : decode cX7_init 71 = .ok (.newarray .boolean, 2) := by decide +kernel
theorem dX7_init_73 : decode cX7_init 73 = .ok (.putfield 34, 3) := by decide +kernel
theorem dX7_init_76 : decode cX7_init 76 = .ok (.aload_n 0, 1) := by decide +kernel
theorem dX7_init_77 : decode cX7_init 77 = .ok (.bipush 40, 2) := by decide +kernel
theorem dX7_init_79 : decode cX7_init 79 = .ok (.newarray .int, 2) := by decide +kernel
theorem dX7_init_81 : decode cX7_init 81 = .ok (.putfield 38, 3) := by decide +kernel
theorem dX7_init_84 : decode cX7_init 84 = .ok (.aload_n 0, 1) := by decide +kernel
theorem dX7_init_85 : decode cX7_init 85 = .ok (.sipush 480, 3) := by decide +kernel
theorem dX7_init_88 : decode cX7_init 88 = .ok (.newarray .int, 2) := by decide +kernel
theorem dX7_init_90 : decode cX7_init 90 = .ok (.putfield 41, 3) := by decide +kernel
theorem dX7_init_93 : decode cX7_init 93 = .ok (.aload_n 0, 1) := by decide +kernel
theorem dX7_init_94 : decode cX7_init 94 = .ok (.bipush 40, 2) := by decide +kernel
theorem dX7_init_96 : decode cX7_init 96 = .ok (.newarray .int, 2) := by decide +kernel
theorem dX7_init_98 : decode cX7_init 98 = .ok (.putfield 44, 3) := by decide +kernel
theorem dX7_init_101 : decode cX7_init 101 = .ok (.aload_n 0, 1) := by decide +kernel
theorem dX7_init_102 : decode cX7_init 102 = .ok (.bipush 40, 2) := by decide +kernel
theorem dX7_init_104 : decode cX7_init 104 = .ok (.newarray .int, 2) := by decide +kernel
theorem dX7_init_106 : decode cX7_init 106 = .ok (.putfield 47, 3) := by decide +kernel
theorem dX7_init_109 : decode cX7_init 109 = .ok (.aload_n 0, 1) := by decide +kernel
theorem dX7_init_110 : decode cX7_init 110 = .ok (.bipush 12, 2) := by decide +kernel
theorem dX7_init_112 : decode cX7_init 112 = .ok (.newarray .int, 2) := by decide +kernel
theorem dX7_init_114 : decode cX7_init 114 = .ok (.putfield 50, 3) := by decide +kernel
theorem dX7_init_117 : decode cX7_init 117 = .ok (.aload_n 0, 1) := by decide +kernel
theorem dX7_init_118 : decode cX7_init 118 = .ok (.bipush 6, 2) := by decide +kernel
theorem dX7_init_120 : decode cX7_init 120 = .ok (.newarray .int, 2) := by decide +kernel
theorem dX7_init_122 : decode cX7_init 122 = .ok (.putfield 53, 3) := by decide +kernel
theorem dX7_init_125 : decode cX7_init 125 = .ok (.aload_n 0, 1) := by decide +kernel
theorem dX7_init_126 : decode cX7_init 126 = .ok (.bipush 6, 2) := by decide +kernel
theorem dX7_init_128 : decode cX7_init 128 = .ok (.newarray .int, 2) := by decide +kernel
theorem dX7_init_130 : decode cX7_init 130 = .ok (.putfield 56, 3) := by decide +kernel
theorem dX7_init_133 : decode cX7_init 133 = .ok (.aload_n 0, 1) := by decide +kernel
theorem dX7_init_134 : decode cX7_init 134 = .ok (.bipush 6, 2) := by decide +kernel
theorem dX7_init_136 : decode cX7_init 136 = .ok (.newarray .int, 2) := by decide +kernel
theorem dX7_init_138 : decode cX7_init 138 = .ok (.putfield 59, 3) := by decide +kernel
theorem dX7_init_141 : decode cX7_init 141 = .ok (.aload_n 0, 1) := by decide +kernel
theorem dX7_init_142 : decode cX7_init 142 = .ok (.bipush 6, 2) := by decide +kernel
theorem dX7_init_144 : decode cX7_init 144 = .ok (.newarray .int, 2) := by decide +kernel
theorem dX7_init_146 : decode cX7_init 146 = .ok (.putfield 62, 3) := by decide +kernel
theorem dX7_init_149 : decode cX7_init 149 = .ok (.aload_n 0, 1) := by decide +kernel
theorem dX7_init_150 : decode cX7_init 150 = .ok (.bipush 6, 2) := by decide +kernel
theorem dX7_init_152 : decode cX7_init 152 = .ok (.newarray .int, 2) := by decide +kernel
theorem dX7_init_154 : decode cX7_init 154 = .ok (.putfield 65, 3) := by decide +kernel
theorem dX7_init_157 : decode cX7_init 157 = .ok (.aload_n 0, 1) := by decide +kernel
theorem dX7_init_158 : decode cX7_init 158 = .ok (.bipush 6, 2) := by decide +kernel
theorem dX7_init_160 : decode cX7_init 160 = .ok (.newarray .int, 2) := by decide +kernel
theorem dX7_init_162 : decode cX7_init 162 = .ok (.putfield 68, 3) := by decide +kernel
theorem dX7_init_165 : decode cX7_init 165 = .ok (.aload_n 0, 1) := by decide +kernel
theorem dX7_init_166 : decode cX7_init 166 = .ok (.bipush 6, 2) := by decide +kernel
theorem dX7_init_168 : decode cX7_init 168 = .ok (.newarray .int, 2) := by decide +kernel
theorem dX7_init_170 : decode cX7_init 170 = .ok (.putfield 71, 3) := by decide +kernel
theorem dX7_init_173 : decode cX7_init 173 = .ok (.aload_n 0, 1) := by decide +kernel
theorem dX7_init_174 : decode cX7_init 174 = .ok (.bipush 16, 2) := by decide +kernel
theorem dX7_init_176 : decode cX7_init 176 = .ok (.newarray .int, 2) := by decide +kernel
theorem dX7_init_178 : decode cX7_init 178 = .ok (.putfield 74, 3) := by decide +kernel
theorem dX7_init_181 : decode cX7_init 181 = .ok (.aload_n 0, 1) := by decide +kernel
theorem dX7_init_182 : decode cX7_init 182 = .ok (.bipush 16, 2) := by decide +kernel
theorem dX7_init_184 : decode cX7_init 184 = .ok (.newarray .int, 2) := by decide +kernel
theorem dX7_init_186 : decode cX7_init 186 = .ok (.putfield 77, 3) := by decide +kernel
theorem dX7_init_189 : decode cX7_init 189 = .ok (.aload_n 0, 1) := by decide +kernel
theorem dX7_init_190 : decode cX7_init 190 = .ok (.bipush 6, 2) := by decide +kernel
theorem dX7_init_192 : decode cX7_init 192 = .ok (.newarray .int, 2) := by decide +kernel
theorem dX7_init_194 : decode cX7_init 194 = .ok (.putfield 80, 3) := by decide +kernel
theorem dX7_init_197 : decode cX7_init 197 = .ok (.aload_n 0, 1) := by decide +kernel
theorem dX7_init_198 : decode cX7_init 198 = .ok (.bipush 6, 2) := by decide +kernel
theorem dX7_init_200 : decode cX7_init 200 = .ok (.newarray .int, 2) := by decide +kernel
theorem dX7_init_202 : decode cX7_init 202 = .ok (.putfield 83, 3) := by decide +kernel
theorem dX7_init_205 : decode cX7_init 205 = .ok (.aload_n 0, 1) := by decide +kernel
theorem dX7_init_206 : decode cX7_init 206 = .ok (.bipush 16, 2) := by decide +kernel
theorem dX7_init_208 : decode cX7_init 208 = .ok (.newarray .int, 2) := by decide +kernel
theorem dX7_init_210 : decode cX7_init 210 = .ok (.putfield 86, 3) := by decide +kernel
theorem dX7_init_213 : decode cX7_init 213 = .ok (.aload_n 0, 1) := by decide +kernel
theorem dX7_init_214 : decode cX7_init 214 = .ok (.bipush 16, 2) := by decide +kernel
theorem dX7_init_216 : decode cX7_init 216 = .ok (.newarray .int, 2) := by decide +kernel
theorem dX7_init_218 : decode cX7_init 218 = .ok (.putfield 89, 3) := by decide +kernel
theorem dX7_init_221 : decode cX7_init 221 = .ok (.aload_n 0, 1) := by decide +kernel
theorem dX7_init_222 : decode cX7_init 222 = .ok (.bipush 16, 2) := by decide +kernel
theorem dX7_init_224 : decode cX7_init 224 = .ok (.newarray .int, 2) := by decide +kernel
theorem dX7_init_226 : decode cX7_init 226 = .ok (.putfield 92, 3) := by decide +kernel
theorem dX7_init_229 : decode cX7_init 229 = .ok (.aload_n 0, 1) := by decide +kernel
theorem dX7_init_230 : decode cX7_init 230 = .ok (.bipush 16, 2) := by decide +kernel
theorem dX7_init_232 : decode cX7_init 232 = .ok (.newarray .int, 2) := by decide +kernel
theorem dX7_init_234 : decode cX7_init 234 = .ok (.putfield 95, 3) := by decide +kernel
theorem dX7_init_237 : decode cX7_init 237 = .ok (.aload_n 0, 1) := by decide +kernel
theorem dX7_init_238 : decode cX7_init 238 = .ok (.bipush 16, 2) := by decide +kernel
theorem dX7_init_240 : decode cX7_init 240 = .ok (.newarray .int, 2) := by decide +kernel
theorem dX7_init_242 : decode cX7_init 242 = .ok (.putfield 98, 3) := by decide +kernel
theorem dX7_init_245 : decode cX7_init 245 = .ok (.aload_n 0, 1) := by decide +kernel
theorem dX7_init_246 : decode cX7_init 246 = .ok (.bipush 17, 2) := by decide +kernel
theorem dX7_init_248 : decode cX7_init 248 = .ok (.newarray .int, 2) := by decide +kernel
theorem dX7_init_250 : decode cX7_init 250 = .ok (.putfield 101, 3) := by decide +kernel
theorem dX7_init_253 : decode cX7_init 253 = .ok (.aload_n 0, 1) := by decide +kernel
theorem dX7_init_254 : decode cX7_init 254 = .ok (.bipush 17, 2) := by decide +kernel
theorem dX7_init_256 : decode cX7_init 256 = .ok (.newarray .long, 2) := by decide +kernel
theorem dX7_init_258 : decode cX7_init 258 = .ok (.putfield 104, 3) := by decide +kernel
theorem dX7_init_261 : decode cX7_init 261 = .ok (.aload_n 0, 1) := by decide +kernel
theorem dX7_init_262 : decode cX7_init 262 = .ok (.bipush 17, 2) := by decide +kernel
theorem dX7_init_264 : decode cX7_init 264 = .ok (.newarray .int, 2) := by decide +kernel
theorem dX7_init_266 : decode cX7_init 266 = .ok (.putfield 108, 3) := by decide +kernel
theorem dX7_init_269 : decode cX7_init 269 = .ok (.iconst 0, 1) := by decide +kernel
theorem dX7_init_270 : decode cX7_init 270 = .ok (.istore_n 1, 1) := by decide +kernel
theorem dX7_init_271 : decode cX7_init 271 = .ok (.iload_n 1, 1) := by decide +kernel
theorem dX7_init_272 : decode cX7_init 272 = .ok (.bipush 10, 2) := by decide +kernel
theorem dX7_init_274 : decode cX7_init 274 = .ok (.if_icmp .ge 16, 3) := by decide +kernel
theorem dX7_init_277 : decode cX7_init 277 = .ok (.aload_n 0, 1) := by decide +kernel
theorem dX7_init_278 : decode cX7_init 278 = .ok (.getfield 16, 3) := by decide +kernel
theorem dX7_init_281 : decode cX7_init 281 = .ok (.iload_n 1, 1) := by decide +kernel
theorem dX7_init_282 : decode cX7_init 282 = .ok (.iconst 1, 1) := by decide +kernel
theorem dX7_init_283 : decode cX7_init 283 = .ok (.iastore, 1) := by decide +kernel
theorem dX7_init_284 : decode cX7_init 284 = .ok (.iinc 1 1, 3) := by decide +kernel
theorem dX7_init_287 : decode cX7_init 287 = .ok (.goto (-16), 3) := by decide +kernel
theorem dX7_init_290 : decode cX7_init 290 = .ok (.aload_n 0, 1) := by decide +kernel
theorem dX7_init_291 : decode cX7_init 291 = .ok (.iconst 1, 1) := by decide +kernel
theorem dX7_init_292 : decode cX7_init 292 = .ok (.iconst 1, 1) := by decide +kernel
theorem dX7_init_293 : decode cX7_init 293 = .ok (.iconst 0, 1) := by decide +kernel
theorem dX7_init_294 : decode cX7_init 294 = .ok (.invokevirtual 111, 3) := by decide +kernel
theorem dX7_init_297 : decode cX7_init 297 = .ok (.return_, 1) := by decide +kernel
theorem dX7_in_0 : decode cX7_in 0 = .ok (.iload_n 0, 1) := by decide +kernel
theorem dX7_in_1 : decode cX7_in 1 = .ok (.iload_n 1, 1) := by decide +kernel
theorem dX7_in_2 : decode cX7_in 2 = .ok (.if_icmp .lt 12, 3) := by decide +kernel
theorem dX7_in_5 : decode cX7_in 5 = .ok (.iload_n 0, 1) := by decide +kernel
theorem dX7_in_6 : decode cX7_in 6 = .ok (.iload_n 2, 1) := by decide +kernel
theorem dX7_in_7 : decode cX7_in 7 = .ok (.if_icmp .gt 7, 3) := by decide +kernel
theorem dX7_in_10 : decode cX7_in 10 = .ok (.iconst 1, 1) := by decide +kernel
theorem dX7_in_11 : decode cX7_in 11 = .ok (.goto 4, 3) := by decide +kernel
theorem dX7_in_14 : decode cX7_in 14 = .ok (.iconst 0, 1) := by decide +kernel
theorem dX7_in_15 : decode cX7_in 15 = .ok (.ireturn, 1) := by decide +kernel
theorem dX7_meets_0 : decode cX7_meets 0 = .ok (.aload_n 0, 1) := by decide +kernel
theorem dX7_meets_1 : decode cX7_meets 1 = .ok (.iload_n 1, 1) := by decide +kernel
theorem dX7_meets_2 : decode cX7_meets 2 = .ok (.putfield 115, 3) := by decide +kernel
theorem dX7_meets_5 : decode cX7_meets 5 = .ok (.aload_n 0, 1) := by decide +kernel
theorem dX7_meets_6 : decode cX7_meets 6 = .ok (.getfield 7, 3) := by decide +kernel
theorem dX7_meets_9 : decode cX7_meets 9 = .ok (.iload_n 1, 1) := by decide +kernel
theorem dX7_meets_10 : decode cX7_meets 10 = .ok (.dup2, 1) := by decide +kernel
theorem dX7_meets_11 : decode cX7_meets 11 = .ok (.iaload, 1) := by decide +kernel
theorem dX7_meets_12 : decode cX7_meets 12 = .ok (.iconst 1, 1) := by decide +kernel
theorem dX7_meets_13 : decode cX7_meets 13 = .ok (.iadd, 1) := by decide +kernel
theorem dX7_meets_14 : decode cX7_meets 14 = .ok (.iastore, 1) := by decide +kernel
theorem dX7_meets_15 : decode cX7_meets 15 = .ok (.bipush (-3), 2) := by decide +kernel
theorem dX7_meets_17 : decode cX7_meets 17 = .ok (.ireturn, 1) := by decide +kernel
theorem dX7_finding_0 : decode cX7_finding 0 = .ok (.aload_n 0, 1) := by decide +kernel
theorem dX7_finding_1 : decode cX7_finding 1 = .ok (.getfield 115, 3) := by decide +kernel
theorem dX7_finding_4 : decode cX7_finding 4 = .ok (.ireturn, 1) := by decide +kernel
theorem dX7_findings_0 : decode cX7_findings 0 = .ok (.iload_n 1, 1) := by decide +kernel
theorem dX7_findings_1 : decode cX7_findings 1 = .ok (.iconst 1, 1) := by decide +kernel
theorem dX7_findings_2 : decode cX7_findings 2 = .ok (.bipush 6, 2) := by decide +kernel
theorem dX7_findings_4 : decode cX7_findings 4 = .ok (.invokestatic 119, 3) := by decide +kernel
theorem dX7_findings_7 : decode cX7_findings 7 = .ok (.ifCond .eq 12, 3) := by decide +kernel
theorem dX7_findings_10 : decode cX7_findings 10 = .ok (.aload_n 0, 1) := by decide +kernel
theorem dX7_findings_11 : decode cX7_findings 11 = .ok (.getfield 7, 3) := by decide +kernel
theorem dX7_findings_14 : decode cX7_findings 14 = .ok (.iload_n 1, 1) := by decide +kernel
theorem dX7_findings_15 : decode cX7_findings 15 = .ok (.iaload, 1) := by decide +kernel
theorem dX7_findings_16 : decode cX7_findings 16 = .ok (.goto 4, 3) := by decide +kernel
theorem dX7_findings_19 : decode cX7_findings 19 = .ok (.iconst (-1), 1) := by decide +kernel
theorem dX7_findings_20 : decode cX7_findings 20 = .ok (.ireturn, 1) := by decide +kernel
theorem dX7_begin_0 : decode cX7_begin 0 = .ok (.aload_n 0, 1) := by decide +kernel
theorem dX7_begin_1 : decode cX7_begin 1 = .ok (.iload_n 1, 1) := by decide +kernel
theorem dX7_begin_2 : decode cX7_begin 2 = .ok (.putfield 123, 3) := by decide +kernel
theorem dX7_begin_5 : decode cX7_begin 5 = .ok (.aload_n 0, 1) := by decide +kernel
theorem dX7_begin_6 : decode cX7_begin 6 = .ok (.iload_n 2, 1) := by decide +kernel
theorem dX7_begin_7 : decode cX7_begin 7 = .ok (.putfield 126, 3) := by decide +kernel
theorem dX7_begin_10 : decode cX7_begin 10 = .ok (.aload_n 0, 1) := by decide +kernel
theorem dX7_begin_11 : decode cX7_begin 11 = .ok (.iload_n 3, 1) := by decide +kernel
theorem dX7_begin_12 : decode cX7_begin 12 = .ok (.putfield 129, 3) := by decide +kernel
theorem dX7_begin_15 : decode cX7_begin 15 = .ok (.aload_n 0, 1) := by decide +kernel
theorem dX7_begin_16 : decode cX7_begin 16 = .ok (.iconst 0, 1) := by decide +kernel
theorem dX7_begin_17 : decode cX7_begin 17 = .ok (.putfield 132, 3) := by decide +kernel
theorem dX7_begin_20 : decode cX7_begin 20 = .ok (.aload_n 0, 1) := by decide +kernel
theorem dX7_begin_21 : decode cX7_begin 21 = .ok (.bipush (-9), 2) := by decide +kernel
theorem dX7_begin_23 : decode cX7_begin 23 = .ok (.putfield 135, 3) := by decide +kernel
theorem dX7_begin_26 : decode cX7_begin 26 = .ok (.aload_n 0, 1) := by decide +kernel
theorem dX7_begin_27 : decode cX7_begin 27 = .ok (.iconst 0, 1) := by decide +kernel
theorem dX7_begin_28 : decode cX7_begin 28 = .ok (.putfield 138, 3) := by decide +kernel
theorem dX7_begin_31 : decode cX7_begin 31 = .ok (.iconst 0, 1) := by decide +kernel
theorem dX7_begin_32 : decode cX7_begin 32 = .ok (.istore 4, 2) := by decide +kernel
theorem dX7_begin_34 : decode cX7_begin 34 = .ok (.iload 4, 2) := by decide +kernel
theorem dX7_begin_36 : decode cX7_begin 36 = .ok (.bipush 6, 2) := by decide +kernel
theorem dX7_begin_38 : decode cX7_begin 38 = .ok (.if_icmp .ge 25, 3) := by decide +kernel
theorem dX7_begin_41 : decode cX7_begin 41 = .ok (.aload_n 0, 1) := by decide +kernel
theorem dX7_begin_42 : decode cX7_begin 42 = .ok (.getfield 13, 3) := by decide +kernel
theorem dX7_begin_45 : decode cX7_begin 45 = .ok (.iload 4, 2) := by decide +kernel
theorem dX7_begin_47 : decode cX7_begin 47 = .ok (.iconst 1, 1) := by decide +kernel
theorem dX7_begin_48 : decode cX7_begin 48 = .ok (.iastore, 1) := by decide +kernel
theorem dX7_begin_49 : decode cX7_begin 49 = .ok (.aload_n 0, 1) := by decide +kernel
theorem dX7_begin_50 : decode cX7_begin 50 = .ok (.getfield 62, 3) := by decide +kernel
theorem dX7_begin_53 : decode cX7_begin 53 = .ok (.iload 4, 2) := by decide +kernel
theorem dX7_begin_55 : decode cX7_begin 55 = .ok (.iconst 0, 1) := by decide +kernel
theorem dX7_begin_56 : decode cX7_begin 56 = .ok (.iastore, 1) := by decide +kernel
theorem dX7_begin_57 : decode cX7_begin 57 = .ok (.iinc 4 1, 3) := by decide +kernel
theorem dX7_begin_60 : decode cX7_begin 60 = .ok (.goto (-26), 3) := by decide +kernel
theorem dX7_begin_63 : decode cX7_begin 63 = .ok (.iconst 0, 1) := by decide +kernel
theorem dX7_begin_64 : decode cX7_begin 64 = .ok (.istore 4, 2) := by decide +kernel
theorem dX7_begin_66 : decode cX7_begin 66 = .ok (.iload 4, 2) := by decide +kernel
theorem dX7_begin_68 : decode cX7_begin 68 = .ok (.bipush 16, 2) := by decide +kernel
theorem dX7_begin_70 : decode cX7_begin 70 = .ok (.if_icmp .ge 18, 3) := by decide +kernel
theorem dX7_begin_73 : decode cX7_begin 73 = .ok (.aload_n 0, 1) := by decide +kernel
theorem dX7_begin_74 : decode cX7_begin 74 = .ok (.getfield 98, 3) := by decide +kernel
theorem dX7_begin_77 : decode cX7_begin 77 = .ok (.iload 4, 2) := by decide +kernel
theorem dX7_begin_79 : decode cX7_begin 79 = .ok (.bipush (-9), 2) := by decide +kernel
theorem dX7_begin_81 : decode cX7_begin 81 = .ok (.iastore, 1) := by decide +kernel
theorem dX7_begin_82 : decode cX7_begin 82 = .ok (.iinc 4 1, 3) := by decide +kernel
theorem dX7_begin_85 : decode cX7_begin 85 = .ok (.goto (-19), 3) := by decide +kernel
theorem dX7_begin_88 : decode cX7_begin 88 = .ok (.return_, 1) := by decide +kernel
theorem dX7_table_0 : decode cX7_table 0 = .ok (.iload_n 1, 1) := by decide +kernel
theorem dX7_table_1 : decode cX7_table 1 = .ok (.iconst 1, 1) := by decide +kernel
theorem dX7_table_2 : decode cX7_table 2 = .ok (.bipush 16, 2) := by decide +kernel
theorem dX7_table_4 : decode cX7_table 4 = .ok (.invokestatic 119, 3) := by decide +kernel
theorem dX7_table_7 : decode cX7_table 7 = .ok (.ifCond .eq 22, 3) := by decide +kernel
theorem dX7_table_10 : decode cX7_table 10 = .ok (.iload_n 2, 1) := by decide +kernel
theorem dX7_table_11 : decode cX7_table 11 = .ok (.iconst 1, 1) := by decide +kernel
theorem dX7_table_12 : decode cX7_table 12 = .ok (.bipush 6, 2) := by decide +kernel
theorem dX7_table_14 : decode cX7_table 14 = .ok (.invokestatic 119, 3) := by decide +kernel
theorem dX7_table_17 : decode cX7_table 17 = .ok (.ifCond .eq 12, 3) := by decide +kernel
theorem dX7_table_20 : decode cX7_table 20 = .ok (.iload_n 3, 1) := by decide +kernel
theorem dX7_table_21 : decode cX7_table 21 = .ok (.iconst 0, 1) := by decide +kernel
theorem dX7_table_22 : decode cX7_table 22 = .ok (.iconst 3, 1) := by decide +kernel
theorem dX7_table_23 : decode cX7_table 23 = .ok (.invokestatic 119, 3) := by decide +kernel
theorem dX7_table_26 : decode cX7_table 26 = .ok (.ifCond .ne 5, 3) := by decide +kernel
theorem dX7_table_29 : decode cX7_table 29 = .ok (.iconst (-1), 1) := by decide +kernel
theorem dX7_table_30 : decode cX7_table 30 = .ok (.ireturn, 1) := by decide +kernel
theorem dX7_table_31 : decode cX7_table 31 = .ok (.aload_n 0, 1) := by decide +kernel
theorem dX7_table_32 : decode cX7_table 32 = .ok (.iload_n 1, 1) := by decide +kernel
theorem dX7_table_33 : decode cX7_table 33 = .ok (.iload_n 2, 1) := by decide +kernel
theorem dX7_table_34 : decode cX7_table 34 = .ok (.iload_n 3, 1) := by decide +kernel
theorem dX7_table_35 : decode cX7_table 35 = .ok (.invokevirtual 111, 3) := by decide +kernel
theorem dX7_table_38 : decode cX7_table 38 = .ok (.iload_n 1, 1) := by decide +kernel
theorem dX7_table_39 : decode cX7_table 39 = .ok (.iload_n 2, 1) := by decide +kernel
theorem dX7_table_40 : decode cX7_table 40 = .ok (.imul, 1) := by decide +kernel
theorem dX7_table_41 : decode cX7_table 41 = .ok (.ireturn, 1) := by decide +kernel
theorem dX7_isRow_0 : decode cX7_isRow 0 = .ok (.iload_n 1, 1) := by decide +kernel
theorem dX7_isRow_1 : decode cX7_isRow 1 = .ok (.iconst 0, 1) := by decide +kernel
theorem dX7_isRow_2 : decode cX7_isRow 2 = .ok (.aload_n 0, 1) := by decide +kernel
theorem dX7_isRow_3 : decode cX7_isRow 3 = .ok (.getfield 123, 3) := by decide +kernel
theorem dX7_isRow_6 : decode cX7_isRow 6 = .ok (.iconst 1, 1) := by decide +kernel
theorem dX7_isRow_7 : decode cX7_isRow 7 = .ok (.isub, 1) := by decide +kernel
theorem dX7_isRow_8 : decode cX7_isRow 8 = .ok (.invokestatic 119, 3) := by decide +kernel
theorem dX7_isRow_11 : decode cX7_isRow 11 = .ok (.ireturn, 1) := by decide +kernel
theorem dX7_isColumn_0 : decode cX7_isColumn 0 = .ok (.iload_n 1, 1) := by decide +kernel
theorem dX7_isColumn_1 : decode cX7_isColumn 1 = .ok (.iconst 0, 1) := by decide +kernel
theorem dX7_isColumn_2 : decode cX7_isColumn 2 = .ok (.aload_n 0, 1) := by decide +kernel
theorem dX7_isColumn_3 : decode cX7_isColumn 3 = .ok (.getfield 126, 3) := by decide +kernel
theorem dX7_isColumn_6 : decode cX7_isColumn 6 = .ok (.iconst 1, 1) := by decide +kernel
theorem dX7_isColumn_7 : decode cX7_isColumn 7 = .ok (.isub, 1) := by decide +kernel
theorem dX7_isColumn_8 : decode cX7_isColumn 8 = .ok (.invokestatic 119, 3) := by decide +kernel
theorem dX7_isColumn_11 : decode cX7_isColumn 11 = .ok (.ireturn, 1) := by decide +kernel
theorem dX7_weight_0 : decode cX7_weight 0 = .ok (.aload_n 0, 1) := by decide +kernel
theorem dX7_weight_1 : decode cX7_weight 1 = .ok (.iload_n 1, 1) := by decide +kernel
theorem dX7_weight_2 : decode cX7_weight 2 = .ok (.invokevirtual 141, 3) := by decide +kernel
theorem dX7_weight_5 : decode cX7_weight 5 = .ok (.ifCond .eq 13, 3) := by decide +kernel
theorem dX7_weight_8 : decode cX7_weight 8 = .ok (.iload_n 2, 1) := by decide +kernel
theorem dX7_weight_9 : decode cX7_weight 9 = .ok (.iconst 1, 1) := by decide +kernel
theorem dX7_weight_10 : decode cX7_weight 10 = .ok (.bipush 9, 2) := by decide +kernel
theorem dX7_weight_12 : decode cX7_weight 12 = .ok (.invokestatic 119, 3) := by decide +kernel
theorem dX7_weight_15 : decode cX7_weight 15 = .ok (.ifCond .ne 5, 3) := by decide +kernel
theorem dX7_weight_18 : decode cX7_weight 18 = .ok (.iconst (-1), 1) := by decide +kernel
theorem dX7_weight_19 : decode cX7_weight 19 = .ok (.ireturn, 1) := by decide +kernel
theorem dX7_weight_20 : decode cX7_weight 20 = .ok (.aload_n 0, 1) := by decide +kernel
theorem dX7_weight_21 : decode cX7_weight 21 = .ok (.getfield 13, 3) := by decide +kernel
theorem dX7_weight_24 : decode cX7_weight 24 = .ok (.iload_n 1, 1) := by decide +kernel
theorem dX7_weight_25 : decode cX7_weight 25 = .ok (.iaload, 1) := by decide +kernel
theorem dX7_weight_26 : decode cX7_weight 26 = .ok (.istore_n 3, 1) := by decide +kernel
theorem dX7_weight_27 : decode cX7_weight 27 = .ok (.aload_n 0, 1) := by decide +kernel
theorem dX7_weight_28 : decode cX7_weight 28 = .ok (.getfield 13, 3) := by decide +kernel
theorem dX7_weight_31 : decode cX7_weight 31 = .ok (.iload_n 1, 1) := by decide +kernel
theorem dX7_weight_32 : decode cX7_weight 32 = .ok (.iload_n 2, 1) := by decide +kernel
theorem dX7_weight_33 : decode cX7_weight 33 = .ok (.iastore, 1) := by decide +kernel
theorem dX7_weight_34 : decode cX7_weight 34 = .ok (.iload_n 3, 1) := by decide +kernel
theorem dX7_weight_35 : decode cX7_weight 35 = .ok (.ireturn, 1) := by decide +kernel
theorem dX7_note_0 : decode cX7_note 0 = .ok (.iload_n 1, 1) := by decide +kernel
theorem dX7_note_1 : decode cX7_note 1 = .ok (.iconst 0, 1) := by decide +kernel
theorem dX7_note_2 : decode cX7_note 2 = .ok (.bipush 9, 2) := by decide +kernel
theorem dX7_note_4 : decode cX7_note 4 = .ok (.invokestatic 119, 3) := by decide +kernel
theorem dX7_note_7 : decode cX7_note 7 = .ok (.ifCond .eq 13, 3) := by decide +kernel
theorem dX7_note_10 : decode cX7_note 10 = .ok (.iload_n 2, 1) := by decide +kernel
theorem dX7_note_11 : decode cX7_note 11 = .ok (.iconst 1, 1) := by decide +kernel
theorem dX7_note_12 : decode cX7_note 12 = .ok (.bipush 6, 2) := by decide +kernel
theorem dX7_note_14 : decode cX7_note 14 = .ok (.invokestatic 119, 3) := by decide +kernel
theorem dX7_note_17 : decode cX7_note 17 = .ok (.ifCond .ne 5, 3) := by decide +kernel
theorem dX7_note_20 : decode cX7_note 20 = .ok (.iconst (-1), 1) := by decide +kernel
theorem dX7_note_21 : decode cX7_note 21 = .ok (.ireturn, 1) := by decide +kernel
theorem dX7_note_22 : decode cX7_note 22 = .ok (.aload_n 0, 1) := by decide +kernel
theorem dX7_note_23 : decode cX7_note 23 = .ok (.getfield 16, 3) := by decide +kernel
theorem dX7_note_26 : decode cX7_note 26 = .ok (.iload_n 1, 1) := by decide +kernel
theorem dX7_note_27 : decode cX7_note 27 = .ok (.iaload, 1) := by decide +kernel
theorem dX7_note_28 : decode cX7_note 28 = .ok (.istore_n 3, 1) := by decide +kernel
theorem dX7_note_29 : decode cX7_note 29 = .ok (.aload_n 0, 1) := by decide +kernel
theorem dX7_note_30 : decode cX7_note 30 = .ok (.getfield 16, 3) := by decide +kernel
theorem dX7_note_33 : decode cX7_note 33 = .ok (.iload_n 1, 1) := by decide +kernel
theorem dX7_note_34 : decode cX7_note 34 = .ok (.iload_n 2, 1) := by decide +kernel
theorem dX7_note_35 : decode cX7_note 35 = .ok (.iastore, 1) := by decide +kernel
theorem dX7_note_36 : decode cX7_note 36 = .ok (.iload_n 3, 1) := by decide +kernel
theorem dX7_note_37 : decode cX7_note 37 = .ok (.ireturn, 1) := by decide +kernel
theorem dX7_liesOn_0 : decode cX7_liesOn 0 = .ok (.aload_n 0, 1) := by decide +kernel
theorem dX7_liesOn_1 : decode cX7_liesOn 1 = .ok (.getfield 34, 3) := by decide +kernel
theorem dX7_liesOn_4 : decode cX7_liesOn 4 = .ok (.iload_n 1, 1) := by decide +kernel
theorem dX7_liesOn_5 : decode cX7_liesOn 5 = .ok (.baload, 1) := by decide +kernel
theorem dX7_liesOn_6 : decode cX7_liesOn 6 = .ok (.ifCond .ne 61, 3) := by decide +kernel
theorem dX7_liesOn_9 : decode cX7_liesOn 9 = .ok (.iload_n 2, 1) := by decide +kernel
theorem dX7_liesOn_10 : decode cX7_liesOn 10 = .ok (.aload_n 0, 1) := by decide +kernel
theorem dX7_liesOn_11 : decode cX7_liesOn 11 = .ok (.getfield 22, 3) := by decide +kernel
theorem dX7_liesOn_14 : decode cX7_liesOn 14 = .ok (.iload_n 1, 1) := by decide +kernel
theorem dX7_liesOn_15 : decode cX7_liesOn 15 = .ok (.iaload, 1) := by decide +kernel
theorem dX7_liesOn_16 : decode cX7_liesOn 16 = .ok (.if_icmp .lt 51, 3) := by decide +kernel
theorem dX7_liesOn_19 : decode cX7_liesOn 19 = .ok (.iload_n 2, 1) := by decide +kernel
theorem dX7_liesOn_20 : decode cX7_liesOn 20 = .ok (.aload_n 0, 1) := by decide +kernel
theorem dX7_liesOn_21 : decode cX7_liesOn 21 = .ok (.getfield 22, 3) := by decide +kernel
theorem dX7_liesOn_24 : decode cX7_liesOn 24 = .ok (.iload_n 1, 1) := by decide +kernel
theorem dX7_liesOn_25 : decode cX7_liesOn 25 = .ok (.iaload, 1) := by decide +kernel
theorem dX7_liesOn_26 : decode cX7_liesOn 26 = .ok (.aload_n 0, 1) := by decide +kernel
theorem dX7_liesOn_27 : decode cX7_liesOn 27 = .ok (.getfield 28, 3) := by decide +kernel
theorem dX7_liesOn_30 : decode cX7_liesOn 30 = .ok (.iload_n 1, 1) := by decide +kernel
theorem dX7_liesOn_31 : decode cX7_liesOn 31 = .ok (.iaload, 1) := by decide +kernel
theorem dX7_liesOn_32 : decode cX7_liesOn 32 = .ok (.iadd, 1) := by decide +kernel
theorem dX7_liesOn_33 : decode cX7_liesOn 33 = .ok (.if_icmp .ge 34, 3) := by decide +kernel
theorem dX7_liesOn_36 : decode cX7_liesOn 36 = .ok (.iload_n 3, 1) := by decide +kernel
theorem dX7_liesOn_37 : decode cX7_liesOn 37 = .ok (.aload_n 0, 1) := by decide +kernel
theorem dX7_liesOn_38 : decode cX7_liesOn 38 = .ok (.getfield 25, 3) := by decide +kernel
theorem dX7_liesOn_41 : decode cX7_liesOn 41 = .ok (.iload_n 1, 1) := by decide +kernel
theorem dX7_liesOn_42 : decode cX7_liesOn 42 = .ok (.iaload, 1) := by decide +kernel
theorem dX7_liesOn_43 : decode cX7_liesOn 43 = .ok (.if_icmp .lt 24, 3) := by decide +kernel
theorem dX7_liesOn_46 : decode cX7_liesOn 46 = .ok (.iload_n 3, 1) := by decide +kernel
theorem dX7_liesOn_47 : decode cX7_liesOn 47 = .ok (.aload_n 0, 1) := by decide +kernel
theorem dX7_liesOn_48 : decode cX7_liesOn 48 = .ok (.getfield 25, 3) := by decide +kernel
theorem dX7_liesOn_51 : decode cX7_liesOn 51 = .ok (.iload_n 1, 1) := by decide +kernel
theorem dX7_liesOn_52 : decode cX7_liesOn 52 = .ok (.iaload, 1) := by decide +kernel
theorem dX7_liesOn_53 : decode cX7_liesOn 53 = .ok (.aload_n 0, 1) := by decide +kernel
theorem dX7_liesOn_54 : decode cX7_liesOn 54 = .ok (.getfield 31, 3) := by decide +kernel
theorem dX7_liesOn_57 : decode cX7_liesOn 57 = .ok (.iload_n 1, 1) := by decide +kernel
theorem dX7_liesOn_58 : decode cX7_liesOn 58 = .ok (.iaload, 1) := by decide +kernel
theorem dX7_liesOn_59 : decode cX7_liesOn 59 = .ok (.iadd, 1) := by decide +kernel
theorem dX7_liesOn_60 : decode cX7_liesOn 60 = .ok (.if_icmp .ge 7, 3) := by decide +kernel
theorem dX7_liesOn_63 : decode cX7_liesOn 63 = .ok (.iconst 1, 1) := by decide +kernel
theorem dX7_liesOn_64 : decode cX7_liesOn 64 = .ok (.goto 4, 3) := by decide +kernel
theorem dX7_liesOn_67 : decode cX7_liesOn 67 = .ok (.iconst 0, 1) := by decide +kernel
theorem dX7_liesOn_68 : decode cX7_liesOn 68 = .ok (.ireturn, 1) := by decide +kernel
theorem dX7_cellOn_0 : decode cX7_cellOn 0 = .ok (.iconst 0, 1) := by decide +kernel
theorem dX7_cellOn_1 : decode cX7_cellOn 1 = .ok (.istore_n 3, 1) := by decide +kernel
theorem dX7_cellOn_2 : decode cX7_cellOn 2 = .ok (.iload_n 3, 1) := by decide +kernel
theorem dX7_cellOn_3 : decode cX7_cellOn 3 = .ok (.aload_n 0, 1) := by decide +kernel
theorem dX7_cellOn_4 : decode cX7_cellOn 4 = .ok (.getfield 132, 3) := by decide +kernel
theorem dX7_cellOn_7 : decode cX7_cellOn 7 = .ok (.if_icmp .ge 21, 3) := by decide +kernel
theorem dX7_cellOn_10 : decode cX7_cellOn 10 = .ok (.aload_n 0, 1) := by decide +kernel
theorem dX7_cellOn_11 : decode cX7_cellOn 11 = .ok (.iload_n 3, 1) := by decide +kernel
theorem dX7_cellOn_12 : decode cX7_cellOn 12 = .ok (.iload_n 1, 1) := by decide +kernel
theorem dX7_cellOn_13 : decode cX7_cellOn 13 = .ok (.iload_n 2, 1) := by decide +kernel
theorem dX7_cellOn_14 : decode cX7_cellOn 14 = .ok (.invokevirtual 145, 3) := by decide +kernel
theorem dX7_cellOn_17 : decode cX7_cellOn 17 = .ok (.ifCond .eq 5, 3) := by decide +kernel
theorem dX7_cellOn_20 : decode cX7_cellOn 20 = .ok (.iload_n 3, 1) := by decide +kernel
theorem dX7_cellOn_21 : decode cX7_cellOn 21 = .ok (.ireturn, 1) := by decide +kernel
theorem dX7_cellOn_22 : decode cX7_cellOn 22 = .ok (.iinc 3 1, 3) := by decide +kernel
theorem dX7_cellOn_25 : decode cX7_cellOn 25 = .ok (.goto (-23), 3) := by decide +kernel
theorem dX7_cellOn_28 : decode cX7_cellOn 28 = .ok (.bipush (-9), 2) := by decide +kernel
theorem dX7_cellOn_30 : decode cX7_cellOn 30 = .ok (.ireturn, 1) := by decide +kernel
theorem dX7_cell_0 : decode cX7_cell 0 = .ok (.iload_n 1, 1) := by decide +kernel
theorem dX7_cell_1 : decode cX7_cell 1 = .ok (.iconst 0, 1) := by decide +kernel
theorem dX7_cell_2 : decode cX7_cell 2 = .ok (.iconst 3, 1) := by decide +kernel
theorem dX7_cell_3 : decode cX7_cell 3 = .ok (.invokestatic 119, 3) := by decide +kernel
theorem dX7_cell_6 : decode cX7_cell 6 = .ok (.ifCond .eq 31, 3) := by decide +kernel
theorem dX7_cell_9 : decode cX7_cell 9 = .ok (.aload_n 0, 1) := by decide +kernel
theorem dX7_cell_10 : decode cX7_cell 10 = .ok (.iload_n 2, 1) := by decide +kernel
theorem dX7_cell_11 : decode cX7_cell 11 = .ok (.invokevirtual 148, 3) := by decide +kernel
theorem dX7_cell_14 : decode cX7_cell 14 = .ok (.ifCond .eq 23, 3) := by decide +kernel
theorem dX7_cell_17 : decode cX7_cell 17 = .ok (.aload_n 0, 1) := by decide +kernel
theorem dX7_cell_18 : decode cX7_cell 18 = .ok (.iload_n 3, 1) := by decide +kernel
theorem dX7_cell_19 : decode cX7_cell 19 = .ok (.invokevirtual 141, 3) := by decide +kernel
theorem dX7_cell_22 : decode cX7_cell 22 = .ok (.ifCond .eq 15, 3) := by decide +kernel
theorem dX7_cell_25 : decode cX7_cell 25 = .ok (.iload 4, 2) := by decide +kernel
theorem dX7_cell_27 : decode cX7_cell 27 = .ok (.iconst 1, 1) := by decide +kernel
theorem dX7_cell_28 : decode cX7_cell 28 = .ok (.if_icmp .lt 9, 3) := by decide +kernel
theorem dX7_cell_31 : decode cX7_cell 31 = .ok (.iload 5, 2) := by decide +kernel
theorem dX7_cell_33 : decode cX7_cell 33 = .ok (.iconst 1, 1) := by decide +kernel
theorem dX7_cell_34 : decode cX7_cell 34 = .ok (.if_icmp .ge 5, 3) := by decide +kernel
theorem dX7_cell_37 : decode cX7_cell 37 = .ok (.iconst (-1), 1) := by decide +kernel
theorem dX7_cell_38 : decode cX7_cell 38 = .ok (.ireturn, 1) := by decide +kernel
theorem dX7_cell_39 : decode cX7_cell 39 = .ok (.aload_n 0, 1) := by decide +kernel
theorem dX7_cell_40 : decode cX7_cell 40 = .ok (.getfield 132, 3) := by decide +kernel
theorem dX7_cell_43 : decode cX7_cell 43 = .ok (.bipush 40, 2) := by decide +kernel
theorem dX7_cell_45 : decode cX7_cell 45 = .ok (.if_icmp .ne 6, 3) := by decide +kernel
theorem dX7_cell_48 : decode cX7_cell 48 = .ok (.bipush (-2), 2) := by decide +kernel
theorem dX7_cell_50 : decode cX7_cell 50 = .ok (.ireturn, 1) := by decide +kernel
theorem dX7_cell_51 : decode cX7_cell 51 = .ok (.iload 4, 2) := by decide +kernel
theorem dX7_cell_53 : decode cX7_cell 53 = .ok (.aload_n 0, 1) := by decide +kernel
theorem dX7_cell_54 : decode cX7_cell 54 = .ok (.getfield 123, 3) := by decide +kernel
theorem dX7_cell_57 : decode cX7_cell 57 = .ok (.iload_n 2, 1) := by decide +kernel
theorem dX7_cell_58 : decode cX7_cell 58 = .ok (.isub, 1) := by decide +kernel
theorem dX7_cell_59 : decode cX7_cell 59 = .ok (.if_icmp .gt 14, 3) := by decide +kernel
theorem dX7_cell_62 : decode cX7_cell 62 = .ok (.iload 5, 2) := by decide +kernel
theorem dX7_cell_64 : decode cX7_cell 64 = .ok (.aload_n 0, 1) := by decide +kernel
theorem dX7_cell_65 : decode cX7_cell 65 = .ok (.getfield 126, 3) := by decide +kernel
theorem dX7_cell_68 : decode cX7_cell 68 = .ok (.iload_n 3, 1) := by decide +kernel
theorem dX7_cell_69 : decode cX7_cell 69 = .ok (.isub, 1) := by decide +kernel
theorem dX7_cell_70 : decode cX7_cell 70 = .ok (.if_icmp .le 9, 3) := by decide +kernel
theorem dX7_cell_73 : decode cX7_cell 73 = .ok (.aload_n 0, 1) := by decide +kernel
theorem dX7_cell_74 : decode cX7_cell 74 = .ok (.iconst 2, 1) := by decide +kernel
theorem dX7_cell_75 : decode cX7_cell 75 = .ok (.invokevirtual 151, 3) := by decide +kernel
theorem dX7_cell_78 : decode cX7_cell 78 = .ok (.ireturn, 1) := by decide +kernel
theorem dX7_cell_79 : decode cX7_cell 79 = .ok (.bipush (-9), 2) := by decide +kernel
theorem dX7_cell_81 : decode cX7_cell 81 = .ok (.istore 6, 2) := by decide +kernel
theorem dX7_cell_83 : decode cX7_cell 83 = .ok (.iload_n 2, 1) := by decide +kernel
theorem dX7_cell_84 : decode cX7_cell 84 = .ok (.istore 7, 2) := by decide +kernel
theorem dX7_cell_86 : decode cX7_cell 86 = .ok (.iload 7, 2) := by decide +kernel
theorem dX7_cell_88 : decode cX7_cell 88 = .ok (.iload_n 2, 1) := by decide +kernel
theorem dX7_cell_89 : decode cX7_cell 89 = .ok (.iload 4, 2) := by decide +kernel
theorem dX7_cell_91 : decode cX7_cell 91 = .ok (.iadd, 1) := by decide +kernel
theorem dX7_cell_92 : decode cX7_cell 92 = .ok (.if_icmp .ge 67, 3) := by decide +kernel
theorem dX7_cell_95 : decode cX7_cell 95 = .ok (.iload_n 3, 1) := by decide +kernel
theorem dX7_cell_96 : decode cX7_cell 96 = .ok (.istore 8, 2) := by decide +kernel
theorem dX7_cell_98 : decode cX7_cell 98 = .ok (.iload 8, 2) := by decide +kernel
theorem dX7_cell_100 : decode cX7_cell 100 = .ok (.iload_n 3, 1) := by decide +kernel
theorem dX7_cell_101 : decode cX7_cell 101 = .ok (.iload 5, 2) := by decide +kernel
theorem dX7_cell_103 : decode cX7_cell 103 = .ok (.iadd, 1) := by decide +kernel
theorem dX7_cell_104 : decode cX7_cell 104 = .ok (.if_icmp .ge 49, 3) := by decide +kernel
theorem dX7_cell_107 : decode cX7_cell 107 = .ok (.aload_n 0, 1) := by decide +kernel
theorem dX7_cell_108 : decode cX7_cell 108 = .ok (.iload 7, 2) := by decide +kernel
theorem dX7_cell_110 : decode cX7_cell 110 = .ok (.iload 8, 2) := by decide +kernel
theorem dX7_cell_112 : decode cX7_cell 112 = .ok (.invokevirtual 155, 3) := by decide +kernel
theorem dX7_cell_115 : decode cX7_cell 115 = .ok (.istore 9, 2) := by decide +kernel
theorem dX7_cell_117 : decode cX7_cell 117 = .ok (.iload 9, 2) := by decide +kernel
theorem dX7_cell_119 : decode cX7_cell 119 = .ok (.bipush (-9), 2) := by decide +kernel
theorem dX7_cell_121 : decode cX7_cell 121 = .ok (.if_icmp .eq 22, 3) := by decide +kernel
theorem dX7_cell_124 : decode cX7_cell 124 = .ok (.iload 6, 2) := by decide +kernel
theorem dX7_cell_126 : decode cX7_cell 126 = .ok (.bipush (-9), 2) := by decide +kernel
theorem dX7_cell_128 : decode cX7_cell 128 = .ok (.if_icmp .eq 10, 3) := by decide +kernel
theorem dX7_cell_131 : decode cX7_cell 131 = .ok (.iload 9, 2) := by decide +kernel
theorem dX7_cell_133 : decode cX7_cell 133 = .ok (.iload 6, 2) := by decide +kernel
theorem dX7_cell_135 : decode cX7_cell 135 = .ok (.if_icmp .ge 8, 3) := by decide +kernel
theorem dX7_cell_138 : decode cX7_cell 138 = .ok (.iload 9, 2) := by decide +kernel
theorem dX7_cell_140 : decode cX7_cell 140 = .ok (.goto 5, 3) := by decide +kernel
theorem dX7_cell_143 : decode cX7_cell 143 = .ok (.iload 6, 2) := by decide +kernel
theorem dX7_cell_145 : decode cX7_cell 145 = .ok (.istore 6, 2) := by decide +kernel
theorem dX7_cell_147 : decode cX7_cell 147 = .ok (.iinc 8 1, 3) := by decide +kernel
theorem dX7_cell_150 : decode cX7_cell 150 = .ok (.goto (-52), 3) := by decide +kernel
theorem dX7_cell_153 : decode cX7_cell 153 = .ok (.iinc 7 1, 3) := by decide +kernel
theorem dX7_cell_156 : decode cX7_cell 156 = .ok (.goto (-70), 3) := by decide +kernel
theorem dX7_cell_159 : decode cX7_cell 159 = .ok (.iload 6, 2) := by decide +kernel
theorem dX7_cell_161 : decode cX7_cell 161 = .ok (.bipush (-9), 2) := by decide +kernel
theorem dX7_cell_163 : decode cX7_cell 163 = .ok (.if_icmp .eq 16, 3) := by decide +kernel
theorem dX7_cell_166 : decode cX7_cell 166 = .ok (.aload_n 0, 1) := by decide +kernel
theorem dX7_cell_167 : decode cX7_cell 167 = .ok (.iload 6, 2) := by decide +kernel
theorem dX7_cell_169 : decode cX7_cell 169 = .ok (.putfield 135, 3) := by decide +kernel
theorem dX7_cell_172 : decode cX7_cell 172 = .ok (.aload_n 0, 1) := by decide +kernel
theorem dX7_cell_173 : decode cX7_cell 173 = .ok (.bipush 6, 2) := by decide +kernel
theorem dX7_cell_175 : decode cX7_cell 175 = .ok (.invokevirtual 151, 3) := by decide +kernel
theorem dX7_cell_178 : decode cX7_cell 178 = .ok (.ireturn, 1) := by decide +kernel
theorem dX7_cell_179 : decode cX7_cell 179 = .ok (.aload_n 0, 1) := by decide +kernel
theorem dX7_cell_180 : decode cX7_cell 180 = .ok (.getfield 132, 3) := by decide +kernel
theorem dX7_cell_183 : decode cX7_cell 183 = .ok (.istore 7, 2) := by decide +kernel
theorem dX7_cell_185 : decode cX7_cell 185 = .ok (.aload_n 0, 1) := by decide +kernel
theorem dX7_cell_186 : decode cX7_cell 186 = .ok (.getfield 19, 3) := by decide +kernel
theorem dX7_cell_189 : decode cX7_cell 189 = .ok (.iload 7, 2) := by decide +kernel
theorem dX7_cell_191 : decode cX7_cell 191 = .ok (.iload_n 1, 1) := by decide +kernel
theorem dX7_cell_192 : decode cX7_cell 192 = .ok (.iastore, 1) := by decide +kernel
theorem dX7_cell_193 : decode cX7_cell 193 = .ok (.aload_n 0, 1) := by decide +kernel
theorem dX7_cell_194 : decode cX7_cell 194 = .ok (.getfield 22, 3) := by decide +kernel
theorem dX7_cell_197 : decode cX7_cell 197 = .ok (.iload 7, 2) := by decide +kernel
theorem dX7_cell_199 : decode cX7_cell 199 = .ok (.iload_n 2, 1) := by decide +kernel
theorem dX7_cell_200 : decode cX7_cell 200 = .ok (.iastore, 1) := by decide +kernel
theorem dX7_cell_201 : decode cX7_cell 201 = .ok (.aload_n 0, 1) := by decide +kernel
theorem dX7_cell_202 : decode cX7_cell 202 = .ok (.getfield 25, 3) := by decide +kernel
theorem dX7_cell_205 : decode cX7_cell 205 = .ok (.iload 7, 2) := by decide +kernel
theorem dX7_cell_207 : decode cX7_cell 207 = .ok (.iload_n 3, 1) := by decide +kernel
theorem dX7_cell_208 : decode cX7_cell 208 = .ok (.iastore, 1) := by decide +kernel
theorem dX7_cell_209 : decode cX7_cell 209 = .ok (.aload_n 0, 1) := by decide +kernel
theorem dX7_cell_210 : decode cX7_cell 210 = .ok (.getfield 28, 3) := by decide +kernel
theorem dX7_cell_213 : decode cX7_cell 213 = .ok (.iload 7, 2) := by decide +kernel
theorem dX7_cell_215 : decode cX7_cell 215 = .ok (.iload 4, 2) := by decide +kernel
theorem dX7_cell_217 : decode cX7_cell 217 = .ok (.iastore, 1) := by decide +kernel
theorem dX7_cell_218 : decode cX7_cell 218 = .ok (.aload_n 0, 1) := by decide +kernel
theorem dX7_cell_219 : decode cX7_cell 219 = .ok (.getfield 31, 3) := by decide +kernel
theorem dX7_cell_222 : decode cX7_cell 222 = .ok (.iload 7, 2) := by decide +kernel
theorem dX7_cell_224 : decode cX7_cell 224 = .ok (.iload 5, 2) := by decide +kernel
theorem dX7_cell_226 : decode cX7_cell 226 = .ok (.iastore, 1) := by decide +kernel
theorem dX7_cell_227 : decode cX7_cell 227 = .ok (.aload_n 0, 1) := by decide +kernel
theorem dX7_cell_228 : decode cX7_cell 228 = .ok (.getfield 34, 3) := by decide +kernel
theorem dX7_cell_231 : decode cX7_cell 231 = .ok (.iload 7, 2) := by decide +kernel
theorem dX7_cell_233 : decode cX7_cell 233 = .ok (.iconst 0, 1) := by decide +kernel
theorem dX7_cell_234 : decode cX7_cell 234 = .ok (.bastore, 1) := by decide +kernel
theorem dX7_cell_235 : decode cX7_cell 235 = .ok (.aload_n 0, 1) := by decide +kernel
theorem dX7_cell_236 : decode cX7_cell 236 = .ok (.getfield 38, 3) := by decide +kernel
theorem dX7_cell_239 : decode cX7_cell 239 = .ok (.iload 7, 2) := by decide +kernel
theorem dX7_cell_241 : decode cX7_cell 241 = .ok (.iconst 0, 1) := by decide +kernel
theorem dX7_cell_242 : decode cX7_cell 242 = .ok (.iastore, 1) := by decide +kernel
theorem dX7_cell_243 : decode cX7_cell 243 = .ok (.aload_n 0, 1) := by decide +kernel
theorem dX7_cell_244 : decode cX7_cell 244 = .ok (.getfield 44, 3) := by decide +kernel
theorem dX7_cell_247 : decode cX7_cell 247 = .ok (.iload 7, 2) := by decide +kernel
theorem dX7_cell_249 : decode cX7_cell 249 = .ok (.iconst 0, 1) := by decide +kernel
theorem dX7_cell_250 : decode cX7_cell 250 = .ok (.iastore, 1) := by decide +kernel
theorem dX7_cell_251 : decode cX7_cell 251 = .ok (.aload_n 0, 1) := by decide +kernel
theorem dX7_cell_252 : decode cX7_cell 252 = .ok (.getfield 47, 3) := by decide +kernel
theorem dX7_cell_255 : decode cX7_cell 255 = .ok (.iload 7, 2) := by decide +kernel
theorem dX7_cell_257 : decode cX7_cell 257 = .ok (.iconst 1, 1) := by decide +kernel
theorem dX7_cell_258 : decode cX7_cell 258 = .ok (.iastore, 1) := by decide +kernel
theorem dX7_cell_259 : decode cX7_cell 259 = .ok (.aload_n 0, 1) := by decide +kernel
theorem dX7_cell_260 : decode cX7_cell 260 = .ok (.dup, 1) := by decide +kernel
theorem dX7_cell_261 : decode cX7_cell 261 = .ok (.getfield 132, 3) := by decide +kernel
theorem dX7_cell_264 : decode cX7_cell 264 = .ok (.iconst 1, 1) := by decide +kernel
theorem dX7_cell_265 : decode cX7_cell 265 = .ok (.iadd, 1) := by decide +kernel
theorem dX7_cell_266 : decode cX7_cell 266 = .ok (.putfield 132, 3) := by decide +kernel
theorem dX7_cell_269 : decode cX7_cell 269 = .ok (.iload 7, 2) := by decide +kernel
theorem dX7_cell_271 : decode cX7_cell 271 = .ok (.ireturn, 1) := by decide +kernel
theorem dX7_clash_0 : decode cX7_clash 0 = .ok (.aload_n 0, 1) := by decide +kernel
theorem dX7_clash_1 : decode cX7_clash 1 = .ok (.getfield 135, 3) := by decide +kernel
theorem dX7_clash_4 : decode cX7_clash 4 = .ok (.ireturn, 1) := by decide +kernel
theorem dX7_isCell_0 : decode cX7_isCell 0 = .ok (.iload_n 1, 1) := by decide +kernel
theorem dX7_isCell_1 : decode cX7_isCell 1 = .ok (.iconst 0, 1) := by decide +kernel
theorem dX7_isCell_2 : decode cX7_isCell 2 = .ok (.aload_n 0, 1) := by decide +kernel
theorem dX7_isCell_3 : decode cX7_isCell 3 = .ok (.getfield 132, 3) := by decide +kernel
theorem dX7_isCell_6 : decode cX7_isCell 6 = .ok (.iconst 1, 1) := by decide +kernel
theorem dX7_isCell_7 : decode cX7_isCell 7 = .ok (.isub, 1) := by decide +kernel
theorem dX7_isCell_8 : decode cX7_isCell 8 = .ok (.invokestatic 119, 3) := by decide +kernel
theorem dX7_isCell_11 : decode cX7_isCell 11 = .ok (.ireturn, 1) := by decide +kernel
theorem dX7_drop_0 : decode cX7_drop 0 = .ok (.aload_n 0, 1) := by decide +kernel
theorem dX7_drop_1 : decode cX7_drop 1 = .ok (.iload_n 1, 1) := by decide +kernel
theorem dX7_drop_2 : decode cX7_drop 2 = .ok (.invokevirtual 159, 3) := by decide +kernel
theorem dX7_drop_5 : decode cX7_drop 5 = .ok (.ifCond .ne 5, 3) := by decide +kernel
theorem dX7_drop_8 : decode cX7_drop 8 = .ok (.iconst (-1), 1) := by decide +kernel
theorem dX7_drop_9 : decode cX7_drop 9 = .ok (.ireturn, 1) := by decide +kernel
theorem dX7_drop_10 : decode cX7_drop 10 = .ok (.aload_n 0, 1) := by decide +kernel
theorem dX7_drop_11 : decode cX7_drop 11 = .ok (.getfield 34, 3) := by decide +kernel
theorem dX7_drop_14 : decode cX7_drop 14 = .ok (.iload_n 1, 1) := by decide +kernel
theorem dX7_drop_15 : decode cX7_drop 15 = .ok (.baload, 1) := by decide +kernel
theorem dX7_drop_16 : decode cX7_drop 16 = .ok (.ifCond .eq 9, 3) := by decide +kernel
theorem dX7_drop_19 : decode cX7_drop 19 = .ok (.aload_n 0, 1) := by decide +kernel
theorem dX7_drop_20 : decode cX7_drop 20 = .ok (.iconst 1, 1) := by decide +kernel
theorem dX7_drop_21 : decode cX7_drop 21 = .ok (.invokevirtual 151, 3) := by decide +kernel
theorem dX7_drop_24 : decode cX7_drop 24 = .ok (.ireturn, 1) := by decide +kernel
theorem dX7_drop_25 : decode cX7_drop 25 = .ok (.aload_n 0, 1) := by decide +kernel
theorem dX7_drop_26 : decode cX7_drop 26 = .ok (.getfield 34, 3) := by decide +kernel
theorem dX7_drop_29 : decode cX7_drop 29 = .ok (.iload_n 1, 1) := by decide +kernel
theorem dX7_drop_30 : decode cX7_drop 30 = .ok (.iconst 1, 1) := by decide +kernel
theorem dX7_drop_31 : decode cX7_drop 31 = .ok (.bastore, 1) := by decide +kernel
theorem dX7_drop_32 : decode cX7_drop 32 = .ok (.iconst 1, 1) := by decide +kernel
theorem dX7_drop_33 : decode cX7_drop 33 = .ok (.ireturn, 1) := by decide +kernel
theorem dX7_need_0 : decode cX7_need 0 = .ok (.aload_n 0, 1) := by decide +kernel
theorem dX7_need_1 : decode cX7_need 1 = .ok (.iload_n 2, 1) := by decide +kernel
theorem dX7_need_2 : decode cX7_need 2 = .ok (.invokevirtual 159, 3) := by decide +kernel
theorem dX7_need_5 : decode cX7_need 5 = .ok (.ifCond .eq 7, 3) := by decide +kernel
theorem dX7_need_8 : decode cX7_need 8 = .ok (.iload_n 1, 1) := by decide +kernel
theorem dX7_need_9 : decode cX7_need 9 = .ok (.ifCond .ne 7, 3) := by decide +kernel
theorem dX7_need_12 : decode cX7_need 12 = .ok (.iconst (-1), 1) := by decide +kernel
theorem dX7_need_13 : decode cX7_need 13 = .ok (.goto 21, 3) := by decide +kernel
theorem dX7_need_16 : decode cX7_need 16 = .ok (.aload_n 0, 1) := by decide +kernel
theorem dX7_need_17 : decode cX7_need 17 = .ok (.getfield 34, 3) := by decide +kernel
theorem dX7_need_20 : decode cX7_need 20 = .ok (.iload_n 2, 1) := by decide +kernel
theorem dX7_need_21 : decode cX7_need 21 = .ok (.baload, 1) := by decide +kernel
theorem dX7_need_22 : decode cX7_need 22 = .ok (.ifCond .eq 11, 3) := by decide +kernel
theorem dX7_need_25 : decode cX7_need 25 = .ok (.aload_n 0, 1) := by decide +kernel
theorem dX7_need_26 : decode cX7_need 26 = .ok (.iconst 1, 1) := by decide +kernel
theorem dX7_need_27 : decode cX7_need 27 = .ok (.invokevirtual 151, 3) := by decide +kernel
theorem dX7_need_30 : decode cX7_need 30 = .ok (.goto 4, 3) := by decide +kernel
theorem dX7_need_33 : decode cX7_need 33 = .ok (.iconst 0, 1) := by decide +kernel
theorem dX7_need_34 : decode cX7_need 34 = .ok (.ireturn, 1) := by decide +kernel
theorem dX7_toldOf_0 : decode cX7_toldOf 0 = .ok (.iload_n 2, 1) := by decide +kernel
theorem dX7_toldOf_1 : decode cX7_toldOf 1 = .ok (.tableswitch 81 0 5 #[39, 46, 53, 60, 67, 74], 39) := by decide +kernel
theorem dX7_toldOf_40 : decode cX7_toldOf 40 = .ok (.aload_n 0, 1) := by decide +kernel
theorem dX7_toldOf_41 : decode cX7_toldOf 41 = .ok (.getfield 19, 3) := by decide +kernel
theorem dX7_toldOf_44 : decode cX7_toldOf 44 = .ok (.iload_n 1, 1) := by decide +kernel
theorem dX7_toldOf_45 : decode cX7_toldOf 45 = .ok (.iaload, 1) := by decide +kernel
theorem dX7_toldOf_46 : decode cX7_toldOf 46 = .ok (.ireturn, 1) := by decide +kernel
theorem dX7_toldOf_47 : decode cX7_toldOf 47 = .ok (.aload_n 0, 1) := by decide +kernel
theorem dX7_toldOf_48 : decode cX7_toldOf 48 = .ok (.getfield 22, 3) := by decide +kernel
theorem dX7_toldOf_51 : decode cX7_toldOf 51 = .ok (.iload_n 1, 1) := by decide +kernel
theorem dX7_toldOf_52 : decode cX7_toldOf 52 = .ok (.iaload, 1) := by decide +kernel
theorem dX7_toldOf_53 : decode cX7_toldOf 53 = .ok (.ireturn, 1) := by decide +kernel
theorem dX7_toldOf_54 : decode cX7_toldOf 54 = .ok (.aload_n 0, 1) := by decide +kernel
theorem dX7_toldOf_55 : decode cX7_toldOf 55 = .ok (.getfield 25, 3) := by decide +kernel
theorem dX7_toldOf_58 : decode cX7_toldOf 58 = .ok (.iload_n 1, 1) := by decide +kernel
theorem dX7_toldOf_59 : decode cX7_toldOf 59 = .ok (.iaload, 1) := by decide +kernel
theorem dX7_toldOf_60 : decode cX7_toldOf 60 = .ok (.ireturn, 1) := by decide +kernel
theorem dX7_toldOf_61 : decode cX7_toldOf 61 = .ok (.aload_n 0, 1) := by decide +kernel
theorem dX7_toldOf_62 : decode cX7_toldOf 62 = .ok (.getfield 28, 3) := by decide +kernel
theorem dX7_toldOf_65 : decode cX7_toldOf 65 = .ok (.iload_n 1, 1) := by decide +kernel
theorem dX7_toldOf_66 : decode cX7_toldOf 66 = .ok (.iaload, 1) := by decide +kernel
theorem dX7_toldOf_67 : decode cX7_toldOf 67 = .ok (.ireturn, 1) := by decide +kernel
theorem dX7_toldOf_68 : decode cX7_toldOf 68 = .ok (.aload_n 0, 1) := by decide +kernel
theorem dX7_toldOf_69 : decode cX7_toldOf 69 = .ok (.getfield 31, 3) := by decide +kernel
theorem dX7_toldOf_72 : decode cX7_toldOf 72 = .ok (.iload_n 1, 1) := by decide +kernel
theorem dX7_toldOf_73 : decode cX7_toldOf 73 = .ok (.iaload, 1) := by decide +kernel
theorem dX7_toldOf_74 : decode cX7_toldOf 74 = .ok (.ireturn, 1) := by decide +kernel
theorem dX7_toldOf_75 : decode cX7_toldOf 75 = .ok (.aload_n 0, 1) := by decide +kernel
theorem dX7_toldOf_76 : decode cX7_toldOf 76 = .ok (.getfield 38, 3) := by decide +kernel
theorem dX7_toldOf_79 : decode cX7_toldOf 79 = .ok (.iload_n 1, 1) := by decide +kernel
theorem dX7_toldOf_80 : decode cX7_toldOf 80 = .ok (.iaload, 1) := by decide +kernel
theorem dX7_toldOf_81 : decode cX7_toldOf 81 = .ok (.ireturn, 1) := by decide +kernel
theorem dX7_toldOf_82 : decode cX7_toldOf 82 = .ok (.aload_n 0, 1) := by decide +kernel
theorem dX7_toldOf_83 : decode cX7_toldOf 83 = .ok (.getfield 44, 3) := by decide +kernel
theorem dX7_toldOf_86 : decode cX7_toldOf 86 = .ok (.iload_n 1, 1) := by decide +kernel
theorem dX7_toldOf_87 : decode cX7_toldOf 87 = .ok (.iaload, 1) := by decide +kernel
theorem dX7_toldOf_88 : decode cX7_toldOf 88 = .ok (.ireturn, 1) := by decide +kernel
theorem dX7_told_0 : decode cX7_told 0 = .ok (.aload_n 0, 1) := by decide +kernel
theorem dX7_told_1 : decode cX7_told 1 = .ok (.iload_n 2, 1) := by decide +kernel
theorem dX7_told_2 : decode cX7_told 2 = .ok (.iconst 0, 1) := by decide +kernel
theorem dX7_told_3 : decode cX7_told 3 = .ok (.bipush 6, 2) := by decide +kernel
theorem dX7_told_5 : decode cX7_told 5 = .ok (.invokestatic 119, 3) := by decide +kernel
theorem dX7_told_8 : decode cX7_told 8 = .ok (.iload_n 1, 1) := by decide +kernel
theorem dX7_told_9 : decode cX7_told 9 = .ok (.invokevirtual 162, 3) := by decide +kernel
theorem dX7_told_12 : decode cX7_told 12 = .ok (.istore_n 3, 1) := by decide +kernel
theorem dX7_told_13 : decode cX7_told 13 = .ok (.iload_n 3, 1) := by decide +kernel
theorem dX7_told_14 : decode cX7_told 14 = .ok (.ifCond .ge 7, 3) := by decide +kernel
theorem dX7_told_17 : decode cX7_told 17 = .ok (.iload_n 3, 1) := by decide +kernel
theorem dX7_told_18 : decode cX7_told 18 = .ok (.goto 9, 3) := by decide +kernel
theorem dX7_told_21 : decode cX7_told 21 = .ok (.aload_n 0, 1) := by decide +kernel
theorem dX7_told_22 : decode cX7_told 22 = .ok (.iload_n 1, 1) := by decide +kernel
theorem dX7_told_23 : decode cX7_told 23 = .ok (.iload_n 2, 1) := by decide +kernel
theorem dX7_told_24 : decode cX7_told 24 = .ok (.invokevirtual 166, 3) := by decide +kernel
theorem dX7_told_27 : decode cX7_told 27 = .ok (.ireturn, 1) := by decide +kernel
theorem dX7_is_0 : decode cX7_is 0 = .ok (.aload_n 0, 1) := by decide +kernel
theorem dX7_is_1 : decode cX7_is 1 = .ok (.iload_n 2, 1) := by decide +kernel
theorem dX7_is_2 : decode cX7_is 2 = .ok (.iconst 0, 1) := by decide +kernel
theorem dX7_is_3 : decode cX7_is 3 = .ok (.iconst 3, 1) := by decide +kernel
theorem dX7_is_4 : decode cX7_is 4 = .ok (.invokestatic 119, 3) := by decide +kernel
theorem dX7_is_7 : decode cX7_is 7 = .ok (.iload_n 1, 1) := by decide +kernel
theorem dX7_is_8 : decode cX7_is 8 = .ok (.invokevirtual 162, 3) := by decide +kernel
theorem dX7_is_11 : decode cX7_is 11 = .ok (.istore_n 3, 1) := by decide +kernel
theorem dX7_is_12 : decode cX7_is 12 = .ok (.iload_n 3, 1) := by decide +kernel
theorem dX7_is_13 : decode cX7_is 13 = .ok (.ifCond .ge 7, 3) := by decide +kernel
theorem dX7_is_16 : decode cX7_is 16 = .ok (.iload_n 3, 1) := by decide +kernel
theorem dX7_is_17 : decode cX7_is 17 = .ok (.goto 22, 3) := by decide +kernel
theorem dX7_is_20 : decode cX7_is 20 = .ok (.iload_n 2, 1) := by decide +kernel
theorem dX7_is_21 : decode cX7_is 21 = .ok (.ifCond .eq 13, 3) := by decide +kernel
theorem dX7_is_24 : decode cX7_is 24 = .ok (.iload_n 2, 1) := by decide +kernel
theorem dX7_is_25 : decode cX7_is 25 = .ok (.aload_n 0, 1) := by decide +kernel
theorem dX7_is_26 : decode cX7_is 26 = .ok (.getfield 19, 3) := by decide +kernel
theorem dX7_is_29 : decode cX7_is 29 = .ok (.iload_n 1, 1) := by decide +kernel
theorem dX7_is_30 : decode cX7_is 30 = .ok (.iaload, 1) := by decide +kernel
theorem dX7_is_31 : decode cX7_is 31 = .ok (.if_icmp .ne 7, 3) := by decide +kernel
theorem dX7_is_34 : decode cX7_is 34 = .ok (.iconst 1, 1) := by decide +kernel
theorem dX7_is_35 : decode cX7_is 35 = .ok (.goto 4, 3) := by decide +kernel
theorem dX7_is_38 : decode cX7_is 38 = .ok (.iconst 0, 1) := by decide +kernel
theorem dX7_is_39 : decode cX7_is 39 = .ok (.ireturn, 1) := by decide +kernel
theorem dX7_on_0 : decode cX7_on 0 = .ok (.aload_n 0, 1) := by decide +kernel
theorem dX7_on_1 : decode cX7_on 1 = .ok (.iload_n 1, 1) := by decide +kernel
theorem dX7_on_2 : decode cX7_on 2 = .ok (.invokevirtual 148, 3) := by decide +kernel
theorem dX7_on_5 : decode cX7_on 5 = .ok (.ifCond .eq 20, 3) := by decide +kernel
theorem dX7_on_8 : decode cX7_on 8 = .ok (.aload_n 0, 1) := by decide +kernel
theorem dX7_on_9 : decode cX7_on 9 = .ok (.iload_n 2, 1) := by decide +kernel
theorem dX7_on_10 : decode cX7_on 10 = .ok (.invokevirtual 141, 3) := by decide +kernel
theorem dX7_on_13 : decode cX7_on 13 = .ok (.ifCond .eq 12, 3) := by decide +kernel
theorem dX7_on_16 : decode cX7_on 16 = .ok (.aload_n 0, 1) := by decide +kernel
theorem dX7_on_17 : decode cX7_on 17 = .ok (.iload_n 1, 1) := by decide +kernel
theorem dX7_on_18 : decode cX7_on 18 = .ok (.iload_n 2, 1) := by decide +kernel
theorem dX7_on_19 : decode cX7_on 19 = .ok (.invokevirtual 155, 3) := by decide +kernel
theorem dX7_on_22 : decode cX7_on 22 = .ok (.goto 4, 3) := by decide +kernel
theorem dX7_on_25 : decode cX7_on 25 = .ok (.iconst (-1), 1) := by decide +kernel
theorem dX7_on_26 : decode cX7_on 26 = .ok (.ireturn, 1) := by decide +kernel
theorem dX7_words_0 : decode cX7_words 0 = .ok (.aload_n 0, 1) := by decide +kernel
theorem dX7_words_1 : decode cX7_words 1 = .ok (.iload_n 2, 1) := by decide +kernel
theorem dX7_words_2 : decode cX7_words 2 = .ok (.bipush 12, 2) := by decide +kernel
theorem dX7_words_4 : decode cX7_words 4 = .ok (.if_icmp .gt 7, 3) := by decide +kernel
theorem dX7_words_7 : decode cX7_words 7 = .ok (.iconst 1, 1) := by decide +kernel
theorem dX7_words_8 : decode cX7_words 8 = .ok (.goto 4, 3) := by decide +kernel
theorem dX7_words_11 : decode cX7_words 11 = .ok (.iconst 0, 1) := by decide +kernel
theorem dX7_words_12 : decode cX7_words 12 = .ok (.iload_n 1, 1) := by decide +kernel
theorem dX7_words_13 : decode cX7_words 13 = .ok (.invokevirtual 162, 3) := by decide +kernel
theorem dX7_words_16 : decode cX7_words 16 = .ok (.istore_n 3, 1) := by decide +kernel
theorem dX7_words_17 : decode cX7_words 17 = .ok (.iload_n 3, 1) := by decide +kernel
theorem dX7_words_18 : decode cX7_words 18 = .ok (.ifCond .ge 5, 3) := by decide +kernel
theorem dX7_words_21 : decode cX7_words 21 = .ok (.iload_n 3, 1) := by decide +kernel
theorem dX7_words_22 : decode cX7_words 22 = .ok (.ireturn, 1) := by decide +kernel
theorem dX7_words_23 : decode cX7_words 23 = .ok (.iload_n 2, 1) := by decide +kernel
theorem dX7_words_24 : decode cX7_words 24 = .ok (.ifCond .ge 9, 3) := by decide +kernel
theorem dX7_words_27 : decode cX7_words 27 = .ok (.aload_n 0, 1) := by decide +kernel
theorem dX7_words_28 : decode cX7_words 28 = .ok (.iconst 5, 1) := by decide +kernel
theorem dX7_words_29 : decode cX7_words 29 = .ok (.invokevirtual 151, 3) := by decide +kernel
theorem dX7_words_32 : decode cX7_words 32 = .ok (.ireturn, 1) := by decide +kernel
theorem dX7_words_33 : decode cX7_words 33 = .ok (.aload_n 0, 1) := by decide +kernel
theorem dX7_words_34 : decode cX7_words 34 = .ok (.getfield 38, 3) := by decide +kernel
theorem dX7_words_37 : decode cX7_words 37 = .ok (.iload_n 1, 1) := by decide +kernel
theorem dX7_words_38 : decode cX7_words 38 = .ok (.iload_n 2, 1) := by decide +kernel
theorem dX7_words_39 : decode cX7_words 39 = .ok (.iastore, 1) := by decide +kernel
theorem dX7_words_40 : decode cX7_words 40 = .ok (.iconst 0, 1) := by decide +kernel
theorem dX7_words_41 : decode cX7_words 41 = .ok (.istore 4, 2) := by decide +kernel
theorem dX7_words_43 : decode cX7_words 43 = .ok (.iload 4, 2) := by decide +kernel
theorem dX7_words_45 : decode cX7_words 45 = .ok (.iload_n 2, 1) := by decide +kernel
theorem dX7_words_46 : decode cX7_words 46 = .ok (.if_icmp .ge 22, 3) := by decide +kernel
theorem dX7_words_49 : decode cX7_words 49 = .ok (.aload_n 0, 1) := by decide +kernel
theorem dX7_words_50 : decode cX7_words 50 = .ok (.getfield 41, 3) := by decide +kernel
theorem dX7_words_53 : decode cX7_words 53 = .ok (.bipush 12, 2) := by decide +kernel
theorem dX7_words_55 : decode cX7_words 55 = .ok (.iload_n 1, 1) := by decide +kernel
theorem dX7_words_56 : decode cX7_words 56 = .ok (.imul, 1) := by decide +kernel
theorem dX7_words_57 : decode cX7_words 57 = .ok (.iload 4, 2) := by decide +kernel
theorem dX7_words_59 : decode cX7_words 59 = .ok (.iadd, 1) := by decide +kernel
theorem dX7_words_60 : decode cX7_words 60 = .ok (.iconst 1, 1) := by decide +kernel
theorem dX7_words_61 : decode cX7_words 61 = .ok (.iastore, 1) := by decide +kernel
theorem dX7_words_62 : decode cX7_words 62 = .ok (.iinc 4 1, 3) := by decide +kernel
theorem dX7_words_65 : decode cX7_words 65 = .ok (.goto (-22), 3) := by decide +kernel
theorem dX7_words_68 : decode cX7_words 68 = .ok (.iload_n 2, 1) := by decide +kernel
theorem dX7_words_69 : decode cX7_words 69 = .ok (.ireturn, 1) := by decide +kernel
theorem dX7_word_0 : decode cX7_word 0 = .ok (.aload_n 0, 1) := by decide +kernel
theorem dX7_word_1 : decode cX7_word 1 = .ok (.iload_n 3, 1) := by decide +kernel
theorem dX7_word_2 : decode cX7_word 2 = .ok (.iconst 1, 1) := by decide +kernel
theorem dX7_word_3 : decode cX7_word 3 = .ok (.bipush 20, 2) := by decide +kernel
theorem dX7_word_5 : decode cX7_word 5 = .ok (.invokestatic 119, 3) := by decide +kernel
theorem dX7_word_8 : decode cX7_word 8 = .ok (.iload_n 1, 1) := by decide +kernel
theorem dX7_word_9 : decode cX7_word 9 = .ok (.invokevirtual 162, 3) := by decide +kernel
theorem dX7_word_12 : decode cX7_word 12 = .ok (.istore 4, 2) := by decide +kernel
theorem dX7_word_14 : decode cX7_word 14 = .ok (.iload 4, 2) := by decide +kernel
theorem dX7_word_16 : decode cX7_word 16 = .ok (.ifCond .ge 6, 3) := by decide +kernel
theorem dX7_word_19 : decode cX7_word 19 = .ok (.iload 4, 2) := by decide +kernel
theorem dX7_word_21 : decode cX7_word 21 = .ok (.ireturn, 1) := by decide +kernel
theorem dX7_word_22 : decode cX7_word 22 = .ok (.iload_n 2, 1) := by decide +kernel
theorem dX7_word_23 : decode cX7_word 23 = .ok (.iconst 0, 1) := by decide +kernel
theorem dX7_word_24 : decode cX7_word 24 = .ok (.aload_n 0, 1) := by decide +kernel
theorem dX7_word_25 : decode cX7_word 25 = .ok (.getfield 38, 3) := by decide +kernel
theorem dX7_word_28 : decode cX7_word 28 = .ok (.iload_n 1, 1) := by decide +kernel
theorem dX7_word_29 : decode cX7_word 29 = .ok (.iaload, 1) := by decide +kernel
theorem dX7_word_30 : decode cX7_word 30 = .ok (.iconst 1, 1) := by decide +kernel
theorem dX7_word_31 : decode cX7_word 31 = .ok (.isub, 1) := by decide +kernel
theorem dX7_word_32 : decode cX7_word 32 = .ok (.invokestatic 119, 3) := by decide +kernel
theorem dX7_word_35 : decode cX7_word 35 = .ok (.ifCond .ne 9, 3) := by decide +kernel
theorem dX7_word_38 : decode cX7_word 38 = .ok (.aload_n 0, 1) := by decide +kernel
theorem dX7_word_39 : decode cX7_word 39 = .ok (.iconst 2, 1) := by decide +kernel
theorem dX7_word_40 : decode cX7_word 40 = .ok (.invokevirtual 151, 3) := by decide +kernel
theorem dX7_word_43 : decode cX7_word 43 = .ok (.ireturn, 1) := by decide +kernel
theorem dX7_word_44 : decode cX7_word 44 = .ok (.aload_n 0, 1) := by decide +kernel
theorem dX7_word_45 : decode cX7_word 45 = .ok (.getfield 41, 3) := by decide +kernel
theorem dX7_word_48 : decode cX7_word 48 = .ok (.bipush 12, 2) := by decide +kernel
theorem dX7_word_50 : decode cX7_word 50 = .ok (.iload_n 1, 1) := by decide +kernel
theorem dX7_word_51 : decode cX7_word 51 = .ok (.imul, 1) := by decide +kernel
theorem dX7_word_52 : decode cX7_word 52 = .ok (.iload_n 2, 1) := by decide +kernel
theorem dX7_word_53 : decode cX7_word 53 = .ok (.iadd, 1) := by decide +kernel
theorem dX7_word_54 : decode cX7_word 54 = .ok (.iaload, 1) := by decide +kernel
theorem dX7_word_55 : decode cX7_word 55 = .ok (.istore 5, 2) := by decide +kernel
theorem dX7_word_57 : decode cX7_word 57 = .ok (.aload_n 0, 1) := by decide +kernel
theorem dX7_word_58 : decode cX7_word 58 = .ok (.getfield 41, 3) := by decide +kernel
theorem dX7_word_61 : decode cX7_word 61 = .ok (.bipush 12, 2) := by decide +kernel
theorem dX7_word_63 : decode cX7_word 63 = .ok (.iload_n 1, 1) := by decide +kernel
theorem dX7_word_64 : decode cX7_word 64 = .ok (.imul, 1) := by decide +kernel
theorem dX7_word_65 : decode cX7_word 65 = .ok (.iload_n 2, 1) := by decide +kernel
theorem dX7_word_66 : decode cX7_word 66 = .ok (.iadd, 1) := by decide +kernel
theorem dX7_word_67 : decode cX7_word 67 = .ok (.iload_n 3, 1) := by decide +kernel
theorem dX7_word_68 : decode cX7_word 68 = .ok (.iastore, 1) := by decide +kernel
theorem dX7_word_69 : decode cX7_word 69 = .ok (.iload 5, 2) := by decide +kernel
theorem dX7_word_71 : decode cX7_word 71 = .ok (.ireturn, 1) := by decide +kernel
theorem dX7_copy_0 : decode cX7_copy 0 = .ok (.aload_n 0, 1) := by decide +kernel
theorem dX7_copy_1 : decode cX7_copy 1 = .ok (.iload_n 1, 1) := by decide +kernel
theorem dX7_copy_2 : decode cX7_copy 2 = .ok (.invokevirtual 159, 3) := by decide +kernel
theorem dX7_copy_5 : decode cX7_copy 5 = .ok (.ifCond .eq 11, 3) := by decide +kernel
theorem dX7_copy_8 : decode cX7_copy 8 = .ok (.aload_n 0, 1) := by decide +kernel
theorem dX7_copy_9 : decode cX7_copy 9 = .ok (.iload_n 3, 1) := by decide +kernel
theorem dX7_copy_10 : decode cX7_copy 10 = .ok (.invokevirtual 159, 3) := by decide +kernel
theorem dX7_copy_13 : decode cX7_copy 13 = .ok (.ifCond .ne 5, 3) := by decide +kernel
theorem dX7_copy_16 : decode cX7_copy 16 = .ok (.iconst (-1), 1) := by decide +kernel
theorem dX7_copy_17 : decode cX7_copy 17 = .ok (.ireturn, 1) := by decide +kernel
theorem dX7_copy_18 : decode cX7_copy 18 = .ok (.aload_n 0, 1) := by decide +kernel
theorem dX7_copy_19 : decode cX7_copy 19 = .ok (.getfield 34, 3) := by decide +kernel
theorem dX7_copy_22 : decode cX7_copy 22 = .ok (.iload_n 1, 1) := by decide +kernel
theorem dX7_copy_23 : decode cX7_copy 23 = .ok (.baload, 1) := by decide +kernel
theorem dX7_copy_24 : decode cX7_copy 24 = .ok (.ifCond .ne 12, 3) := by decide +kernel
theorem dX7_copy_27 : decode cX7_copy 27 = .ok (.aload_n 0, 1) := by decide +kernel
theorem dX7_copy_28 : decode cX7_copy 28 = .ok (.getfield 34, 3) := by decide +kernel
theorem dX7_copy_31 : decode cX7_copy 31 = .ok (.iload_n 3, 1) := by decide +kernel
theorem dX7_copy_32 : decode cX7_copy 32 = .ok (.baload, 1) := by decide +kernel
theorem dX7_copy_33 : decode cX7_copy 33 = .ok (.ifCond .eq 9, 3) := by decide +kernel
theorem dX7_copy_36 : decode cX7_copy 36 = .ok (.aload_n 0, 1) := by decide +kernel
theorem dX7_copy_37 : decode cX7_copy 37 = .ok (.iconst 1, 1) := by decide +kernel
theorem dX7_copy_38 : decode cX7_copy 38 = .ok (.invokevirtual 151, 3) := by decide +kernel
theorem dX7_copy_41 : decode cX7_copy 41 = .ok (.ireturn, 1) := by decide +kernel
theorem dX7_copy_42 : decode cX7_copy 42 = .ok (.iload_n 2, 1) := by decide +kernel
theorem dX7_copy_43 : decode cX7_copy 43 = .ok (.ifCond .lt 48, 3) := by decide +kernel
theorem dX7_copy_46 : decode cX7_copy 46 = .ok (.iload 4, 2) := by decide +kernel
theorem dX7_copy_48 : decode cX7_copy 48 = .ok (.ifCond .lt 43, 3) := by decide +kernel
theorem dX7_copy_51 : decode cX7_copy 51 = .ok (.iload 5, 2) := by decide +kernel
theorem dX7_copy_53 : decode cX7_copy 53 = .ok (.ifCond .lt 38, 3) := by decide +kernel
theorem dX7_copy_56 : decode cX7_copy 56 = .ok (.iload_n 2, 1) := by decide +kernel
theorem dX7_copy_57 : decode cX7_copy 57 = .ok (.i2l, 1) := by decide +kernel
theorem dX7_copy_58 : decode cX7_copy 58 = .ok (.iload 5, 2) := by decide +kernel
theorem dX7_copy_60 : decode cX7_copy 60 = .ok (.i2l, 1) := by decide +kernel
theorem dX7_copy_61 : decode cX7_copy 61 = .ok (.ladd, 1) := by decide +kernel
theorem dX7_copy_62 : decode cX7_copy 62 = .ok (.aload_n 0, 1) := by decide +kernel
theorem dX7_copy_63 : decode cX7_copy 63 = .ok (.getfield 38, 3) := by decide +kernel
theorem dX7_copy_66 : decode cX7_copy 66 = .ok (.iload_n 1, 1) := by decide +kernel
theorem dX7_copy_67 : decode cX7_copy 67 = .ok (.iaload, 1) := by decide +kernel
theorem dX7_copy_68 : decode cX7_copy 68 = .ok (.i2l, 1) := by decide +kernel
theorem dX7_copy_69 : decode cX7_copy 69 = .ok (.lcmp, 1) := by decide +kernel
theorem dX7_copy_70 : decode cX7_copy 70 = .ok (.ifCond .gt 21, 3) := by decide +kernel
theorem dX7_copy_73 : decode cX7_copy 73 = .ok (.iload 4, 2) := by decide +kernel
theorem dX7_copy_75 : decode cX7_copy 75 = .ok (.i2l, 1) := by decide +kernel
theorem dX7_copy_76 : decode cX7_copy 76 = .ok (.iload 5, 2) := by decide +kernel
theorem dX7_copy_78 : decode cX7_copy 78 = .ok (.i2l, 1) := by decide +kernel
theorem dX7_copy_79 : decode cX7_copy 79 = .ok (.ladd, 1) := by decide +kernel
theorem dX7_copy_80 : decode cX7_copy 80 = .ok (.aload_n 0, 1) := by decide +kernel
theorem dX7_copy_81 : decode cX7_copy 81 = .ok (.getfield 38, 3) := by decide +kernel
theorem dX7_copy_84 : decode cX7_copy 84 = .ok (.iload_n 3, 1) := by decide +kernel
theorem dX7_copy_85 : decode cX7_copy 85 = .ok (.iaload, 1) := by decide +kernel
theorem dX7_copy_86 : decode cX7_copy 86 = .ok (.i2l, 1) := by decide +kernel
theorem dX7_copy_87 : decode cX7_copy 87 = .ok (.lcmp, 1) := by decide +kernel
theorem dX7_copy_88 : decode cX7_copy 88 = .ok (.ifCond .le 9, 3) := by decide +kernel
theorem dX7_copy_91 : decode cX7_copy 91 = .ok (.aload_n 0, 1) := by decide +kernel
theorem dX7_copy_92 : decode cX7_copy 92 = .ok (.iconst 2, 1) := by decide +kernel
theorem dX7_copy_93 : decode cX7_copy 93 = .ok (.invokevirtual 151, 3) := by decide +kernel
theorem dX7_copy_96 : decode cX7_copy 96 = .ok (.ireturn, 1) := by decide +kernel
theorem dX7_copy_97 : decode cX7_copy 97 = .ok (.iconst 0, 1) := by decide +kernel
theorem dX7_copy_98 : decode cX7_copy 98 = .ok (.istore 6, 2) := by decide +kernel
theorem dX7_copy_100 : decode cX7_copy 100 = .ok (.iload 6, 2) := by decide +kernel
theorem dX7_copy_102 : decode cX7_copy 102 = .ok (.iload 5, 2) := by decide +kernel
theorem dX7_copy_104 : decode cX7_copy 104 = .ok (.if_icmp .ge 30, 3) := by decide +kernel
theorem dX7_copy_107 : decode cX7_copy 107 = .ok (.aload_n 0, 1) := by decide +kernel
theorem dX7_copy_108 : decode cX7_copy 108 = .ok (.getfield 50, 3) := by decide +kernel
theorem dX7_copy_111 : decode cX7_copy 111 = .ok (.iload 6, 2) := by decide +kernel
theorem dX7_copy_113 : decode cX7_copy 113 = .ok (.aload_n 0, 1) := by decide +kernel
theorem dX7_copy_114 : decode cX7_copy 114 = .ok (.getfield 41, 3) := by decide +kernel
theorem dX7_copy_117 : decode cX7_copy 117 = .ok (.bipush 12, 2) := by decide +kernel
theorem dX7_copy_119 : decode cX7_copy 119 = .ok (.iload_n 1, 1) := by decide +kernel
theorem dX7_copy_120 : decode cX7_copy 120 = .ok (.imul, 1) := by decide +kernel
theorem dX7_copy_121 : decode cX7_copy 121 = .ok (.iload_n 2, 1) := by decide +kernel
theorem dX7_copy_122 : decode cX7_copy 122 = .ok (.iadd, 1) := by decide +kernel
theorem dX7_copy_123 : decode cX7_copy 123 = .ok (.iload 6, 2) := by decide +kernel
theorem dX7_copy_125 : decode cX7_copy 125 = .ok (.iadd, 1) := by decide +kernel
theorem dX7_copy_126 : decode cX7_copy 126 = .ok (.iaload, 1) := by decide +kernel
theorem dX7_copy_127 : decode cX7_copy 127 = .ok (.iastore, 1) := by decide +kernel
theorem dX7_copy_128 : decode cX7_copy 128 = .ok (.iinc 6 1, 3) := by decide +kernel
theorem dX7_copy_131 : decode cX7_copy 131 = .ok (.goto (-31), 3) := by decide +kernel
theorem dX7_copy_134 : decode cX7_copy 134 = .ok (.iconst 0, 1) := by decide +kernel
theorem dX7_copy_135 : decode cX7_copy 135 = .ok (.istore 6, 2) := by decide +kernel
theorem dX7_copy_137 : decode cX7_copy 137 = .ok (.iload 6, 2) := by decide +kernel
theorem dX7_copy_139 : decode cX7_copy 139 = .ok (.iload 5, 2) := by decide +kernel
theorem dX7_copy_141 : decode cX7_copy 141 = .ok (.if_icmp .ge 31, 3) := by decide +kernel
theorem dX7_copy_144 : decode cX7_copy 144 = .ok (.aload_n 0, 1) := by decide +kernel
theorem dX7_copy_145 : decode cX7_copy 145 = .ok (.getfield 41, 3) := by decide +kernel
theorem dX7_copy_148 : decode cX7_copy 148 = .ok (.bipush 12, 2) := by decide +kernel
theorem dX7_copy_150 : decode cX7_copy 150 = .ok (.iload_n 3, 1) := by decide +kernel
theorem dX7_copy_151 : decode cX7_copy 151 = .ok (.imul, 1) := by decide +kernel
theorem dX7_copy_152 : decode cX7_copy 152 = .ok (.iload 4, 2) := by decide +kernel
theorem dX7_copy_154 : decode cX7_copy 154 = .ok (.iadd, 1) := by decide +kernel
theorem dX7_copy_155 : decode cX7_copy 155 = .ok (.iload 6, 2) := by decide +kernel
theorem dX7_copy_157 : decode cX7_copy 157 = .ok (.iadd, 1) := by decide +kernel
theorem dX7_copy_158 : decode cX7_copy 158 = .ok (.aload_n 0, 1) := by decide +kernel
theorem dX7_copy_159 : decode cX7_copy 159 = .ok (.getfield 50, 3) := by decide +kernel
theorem dX7_copy_162 : decode cX7_copy 162 = .ok (.iload 6, 2) := by decide +kernel
theorem dX7_copy_164 : decode cX7_copy 164 = .ok (.iaload, 1) := by decide +kernel
theorem dX7_copy_165 : decode cX7_copy 165 = .ok (.iastore, 1) := by decide +kernel
theorem dX7_copy_166 : decode cX7_copy 166 = .ok (.iinc 6 1, 3) := by decide +kernel
theorem dX7_copy_169 : decode cX7_copy 169 = .ok (.goto (-32), 3) := by decide +kernel
theorem dX7_copy_172 : decode cX7_copy 172 = .ok (.iconst 1, 1) := by decide +kernel
theorem dX7_copy_173 : decode cX7_copy 173 = .ok (.ireturn, 1) := by decide +kernel
theorem dX7_lettersOf_0 : decode cX7_lettersOf 0 = .ok (.iconst 0, 1) := by decide +kernel
theorem dX7_lettersOf_1 : decode cX7_lettersOf 1 = .ok (.istore_n 2, 1) := by decide +kernel
theorem dX7_lettersOf_2 : decode cX7_lettersOf 2 = .ok (.iconst 0, 1) := by decide +kernel
theorem dX7_lettersOf_3 : decode cX7_lettersOf 3 = .ok (.istore_n 3, 1) := by decide +kernel
theorem dX7_lettersOf_4 : decode cX7_lettersOf 4 = .ok (.iload_n 3, 1) := by decide +kernel
theorem dX7_lettersOf_5 : decode cX7_lettersOf 5 = .ok (.aload_n 0, 1) := by decide +kernel
theorem dX7_lettersOf_6 : decode cX7_lettersOf 6 = .ok (.getfield 38, 3) := by decide +kernel
theorem dX7_lettersOf_9 : decode cX7_lettersOf 9 = .ok (.iload_n 1, 1) := by decide +kernel
theorem dX7_lettersOf_10 : decode cX7_lettersOf 10 = .ok (.iaload, 1) := by decide +kernel
theorem dX7_lettersOf_11 : decode cX7_lettersOf 11 = .ok (.if_icmp .ge 23, 3) := by decide +kernel
theorem dX7_lettersOf_14 : decode cX7_lettersOf 14 = .ok (.iload_n 2, 1) := by decide +kernel
theorem dX7_lettersOf_15 : decode cX7_lettersOf 15 = .ok (.aload_n 0, 1) := by decide +kernel
theorem dX7_lettersOf_16 : decode cX7_lettersOf 16 = .ok (.getfield 41, 3) := by decide +kernel
theorem dX7_lettersOf_19 : decode cX7_lettersOf 19 = .ok (.bipush 12, 2) := by decide +kernel
theorem dX7_lettersOf_21 : decode cX7_lettersOf 21 = .ok (.iload_n 1, 1) := by decide +kernel
theorem dX7_lettersOf_22 : decode cX7_lettersOf 22 = .ok (.imul, 1) := by decide +kernel
theorem dX7_lettersOf_23 : decode cX7_lettersOf 23 = .ok (.iload_n 3, 1) := by decide +kernel
theorem dX7_lettersOf_24 : decode cX7_lettersOf 24 = .ok (.iadd, 1) := by decide +kernel
theorem dX7_lettersOf_25 : decode cX7_lettersOf 25 = .ok (.iaload, 1) := by decide +kernel
theorem dX7_lettersOf_26 : decode cX7_lettersOf 26 = .ok (.iadd, 1) := by decide +kernel
theorem dX7_lettersOf_27 : decode cX7_lettersOf 27 = .ok (.istore_n 2, 1) := by decide +kernel
theorem dX7_lettersOf_28 : decode cX7_lettersOf 28 = .ok (.iinc 3 1, 3) := by decide +kernel
theorem dX7_lettersOf_31 : decode cX7_lettersOf 31 = .ok (.goto (-27), 3) := by decide +kernel
theorem dX7_lettersOf_34 : decode cX7_lettersOf 34 = .ok (.iload_n 2, 1) := by decide +kernel
theorem dX7_lettersOf_35 : decode cX7_lettersOf 35 = .ok (.ireturn, 1) := by decide +kernel
theorem dX7_mean_0 : decode cX7_mean 0 = .ok (.aload_n 0, 1) := by decide +kernel
theorem dX7_mean_1 : decode cX7_mean 1 = .ok (.iconst 1, 1) := by decide +kernel
theorem dX7_mean_2 : decode cX7_mean 2 = .ok (.iload_n 1, 1) := by decide +kernel
theorem dX7_mean_3 : decode cX7_mean 3 = .ok (.invokevirtual 162, 3) := by decide +kernel
theorem dX7_mean_6 : decode cX7_mean 6 = .ok (.istore_n 2, 1) := by decide +kernel
theorem dX7_mean_7 : decode cX7_mean 7 = .ok (.iload_n 2, 1) := by decide +kernel
theorem dX7_mean_8 : decode cX7_mean 8 = .ok (.ifCond .ge 5, 3) := by decide +kernel
theorem dX7_mean_11 : decode cX7_mean 11 = .ok (.iload_n 2, 1) := by decide +kernel
theorem dX7_mean_12 : decode cX7_mean 12 = .ok (.ireturn, 1) := by decide +kernel
theorem dX7_mean_13 : decode cX7_mean 13 = .ok (.aload_n 0, 1) := by decide +kernel
theorem dX7_mean_14 : decode cX7_mean 14 = .ok (.getfield 38, 3) := by decide +kernel
theorem dX7_mean_17 : decode cX7_mean 17 = .ok (.iload_n 1, 1) := by decide +kernel
theorem dX7_mean_18 : decode cX7_mean 18 = .ok (.iaload, 1) := by decide +kernel
theorem dX7_mean_19 : decode cX7_mean 19 = .ok (.ifCond .ne 11, 3) := by decide +kernel
theorem dX7_mean_22 : decode cX7_mean 22 = .ok (.aload_n 0, 1) := by decide +kernel
theorem dX7_mean_23 : decode cX7_mean 23 = .ok (.iconst 4, 1) := by decide +kernel
theorem dX7_mean_24 : decode cX7_mean 24 = .ok (.invokevirtual 151, 3) := by decide +kernel
theorem dX7_mean_27 : decode cX7_mean 27 = .ok (.goto 15, 3) := by decide +kernel
theorem dX7_mean_30 : decode cX7_mean 30 = .ok (.aload_n 0, 1) := by decide +kernel
theorem dX7_mean_31 : decode cX7_mean 31 = .ok (.iload_n 1, 1) := by decide +kernel
theorem dX7_mean_32 : decode cX7_mean 32 = .ok (.invokevirtual 169, 3) := by decide +kernel
theorem dX7_mean_35 : decode cX7_mean 35 = .ok (.aload_n 0, 1) := by decide +kernel
theorem dX7_mean_36 : decode cX7_mean 36 = .ok (.getfield 38, 3) := by decide +kernel
theorem dX7_mean_39 : decode cX7_mean 39 = .ok (.iload_n 1, 1) := by decide +kernel
theorem dX7_mean_40 : decode cX7_mean 40 = .ok (.iaload, 1) := by decide +kernel
theorem dX7_mean_41 : decode cX7_mean 41 = .ok (.idiv, 1) := by decide +kernel
theorem dX7_mean_42 : decode cX7_mean 42 = .ok (.ireturn, 1) := by decide +kernel
theorem dX7_calls_0 : decode cX7_calls 0 = .ok (.aload_n 0, 1) := by decide +kernel
theorem dX7_calls_1 : decode cX7_calls 1 = .ok (.iload_n 2, 1) := by decide +kernel
theorem dX7_calls_2 : decode cX7_calls 2 = .ok (.iconst 0, 1) := by decide +kernel
theorem dX7_calls_3 : decode cX7_calls 3 = .ok (.sipush 1023, 3) := by decide +kernel
theorem dX7_calls_6 : decode cX7_calls 6 = .ok (.invokestatic 119, 3) := by decide +kernel
theorem dX7_calls_9 : decode cX7_calls 9 = .ok (.iload_n 1, 1) := by decide +kernel
theorem dX7_calls_10 : decode cX7_calls 10 = .ok (.invokevirtual 162, 3) := by decide +kernel
theorem dX7_calls_13 : decode cX7_calls 13 = .ok (.istore_n 3, 1) := by decide +kernel
theorem dX7_calls_14 : decode cX7_calls 14 = .ok (.iload_n 3, 1) := by decide +kernel
theorem dX7_calls_15 : decode cX7_calls 15 = .ok (.ifCond .ge 5, 3) := by decide +kernel
theorem dX7_calls_18 : decode cX7_calls 18 = .ok (.iload_n 3, 1) := by decide +kernel
theorem dX7_calls_19 : decode cX7_calls 19 = .ok (.ireturn, 1) := by decide +kernel
theorem dX7_calls_20 : decode cX7_calls 20 = .ok (.aload_n 0, 1) := by decide +kernel
theorem dX7_calls_21 : decode cX7_calls 21 = .ok (.getfield 44, 3) := by decide +kernel
theorem dX7_calls_24 : decode cX7_calls 24 = .ok (.iload_n 1, 1) := by decide +kernel
theorem dX7_calls_25 : decode cX7_calls 25 = .ok (.iaload, 1) := by decide +kernel
theorem dX7_calls_26 : decode cX7_calls 26 = .ok (.istore 4, 2) := by decide +kernel
theorem dX7_calls_28 : decode cX7_calls 28 = .ok (.aload_n 0, 1) := by decide +kernel
theorem dX7_calls_29 : decode cX7_calls 29 = .ok (.getfield 44, 3) := by decide +kernel
theorem dX7_calls_32 : decode cX7_calls 32 = .ok (.iload_n 1, 1) := by decide +kernel
theorem dX7_calls_33 : decode cX7_calls 33 = .ok (.iload_n 2, 1) := by decide +kernel
theorem dX7_calls_34 : decode cX7_calls 34 = .ok (.iastore, 1) := by decide +kernel
theorem dX7_calls_35 : decode cX7_calls 35 = .ok (.iload 4, 2) := by decide +kernel
theorem dX7_calls_37 : decode cX7_calls 37 = .ok (.ireturn, 1) := by decide +kernel
theorem dX7_fix_0 : decode cX7_fix 0 = .ok (.aload_n 0, 1) := by decide +kernel
theorem dX7_fix_1 : decode cX7_fix 1 = .ok (.iload_n 2, 1) := by decide +kernel
theorem dX7_fix_2 : decode cX7_fix 2 = .ok (.iconst 1, 1) := by decide +kernel
theorem dX7_fix_3 : decode cX7_fix 3 = .ok (.bipush 60, 2) := by decide +kernel
theorem dX7_fix_5 : decode cX7_fix 5 = .ok (.invokestatic 119, 3) := by decide +kernel
theorem dX7_fix_8 : decode cX7_fix 8 = .ok (.iload_n 1, 1) := by decide +kernel
theorem dX7_fix_9 : decode cX7_fix 9 = .ok (.invokevirtual 162, 3) := by decide +kernel
theorem dX7_fix_12 : decode cX7_fix 12 = .ok (.istore_n 3, 1) := by decide +kernel
theorem dX7_fix_13 : decode cX7_fix 13 = .ok (.iload_n 3, 1) := by decide +kernel
theorem dX7_fix_14 : decode cX7_fix 14 = .ok (.ifCond .ge 5, 3) := by decide +kernel
theorem dX7_fix_17 : decode cX7_fix 17 = .ok (.iload_n 3, 1) := by decide +kernel
theorem dX7_fix_18 : decode cX7_fix 18 = .ok (.ireturn, 1) := by decide +kernel
theorem dX7_fix_19 : decode cX7_fix 19 = .ok (.aload_n 0, 1) := by decide +kernel
theorem dX7_fix_20 : decode cX7_fix 20 = .ok (.getfield 19, 3) := by decide +kernel
theorem dX7_fix_23 : decode cX7_fix 23 = .ok (.iload_n 1, 1) := by decide +kernel
theorem dX7_fix_24 : decode cX7_fix 24 = .ok (.iaload, 1) := by decide +kernel
theorem dX7_fix_25 : decode cX7_fix 25 = .ok (.iconst 2, 1) := by decide +kernel
theorem dX7_fix_26 : decode cX7_fix 26 = .ok (.if_icmp .eq 9, 3) := by decide +kernel
theorem dX7_fix_29 : decode cX7_fix 29 = .ok (.aload_n 0, 1) := by decide +kernel
theorem dX7_fix_30 : decode cX7_fix 30 = .ok (.iconst 3, 1) := by decide +kernel
theorem dX7_fix_31 : decode cX7_fix 31 = .ok (.invokevirtual 151, 3) := by decide +kernel
theorem dX7_fix_34 : decode cX7_fix 34 = .ok (.ireturn, 1) := by decide +kernel
theorem dX7_fix_35 : decode cX7_fix 35 = .ok (.aload_n 0, 1) := by decide +kernel
theorem dX7_fix_36 : decode cX7_fix 36 = .ok (.getfield 47, 3) := by decide +kernel
theorem dX7_fix_39 : decode cX7_fix 39 = .ok (.iload_n 1, 1) := by decide +kernel
theorem dX7_fix_40 : decode cX7_fix 40 = .ok (.iaload, 1) := by decide +kernel
theorem dX7_fix_41 : decode cX7_fix 41 = .ok (.istore 4, 2) := by decide +kernel
theorem dX7_fix_43 : decode cX7_fix 43 = .ok (.aload_n 0, 1) := by decide +kernel
theorem dX7_fix_44 : decode cX7_fix 44 = .ok (.getfield 47, 3) := by decide +kernel
theorem dX7_fix_47 : decode cX7_fix 47 = .ok (.iload_n 1, 1) := by decide +kernel
theorem dX7_fix_48 : decode cX7_fix 48 = .ok (.iload_n 2, 1) := by decide +kernel
theorem dX7_fix_49 : decode cX7_fix 49 = .ok (.iastore, 1) := by decide +kernel
theorem dX7_fix_50 : decode cX7_fix 50 = .ok (.iload 4, 2) := by decide +kernel
theorem dX7_fix_52 : decode cX7_fix 52 = .ok (.ireturn, 1) := by decide +kernel
theorem dX7_linesOf_0 : decode cX7_linesOf 0 = .ok (.iload_n 2, 1) := by decide +kernel
theorem dX7_linesOf_1 : decode cX7_linesOf 1 = .ok (.iconst 1, 1) := by decide +kernel
theorem dX7_linesOf_2 : decode cX7_linesOf 2 = .ok (.if_icmp .ge 7, 3) := by decide +kernel
theorem dX7_linesOf_5 : decode cX7_linesOf 5 = .ok (.iconst 1, 1) := by decide +kernel
theorem dX7_linesOf_6 : decode cX7_linesOf 6 = .ok (.goto 4, 3) := by decide +kernel
theorem dX7_linesOf_9 : decode cX7_linesOf 9 = .ok (.iload_n 2, 1) := by decide +kernel
theorem dX7_linesOf_10 : decode cX7_linesOf 10 = .ok (.istore_n 3, 1) := by decide +kernel
theorem dX7_linesOf_11 : decode cX7_linesOf 11 = .ok (.iconst 0, 1) := by decide +kernel
theorem dX7_linesOf_12 : decode cX7_linesOf 12 = .ok (.istore 4, 2) := by decide +kernel
theorem dX7_linesOf_14 : decode cX7_linesOf 14 = .ok (.iconst 0, 1) := by decide +kernel
theorem dX7_linesOf_15 : decode cX7_linesOf 15 = .ok (.istore 5, 2) := by decide +kernel
theorem dX7_linesOf_17 : decode cX7_linesOf 17 = .ok (.iconst 0, 1) := by decide +kernel
theorem dX7_linesOf_18 : decode cX7_linesOf 18 = .ok (.istore 6, 2) := by decide +kernel
theorem dX7_linesOf_20 : decode cX7_linesOf 20 = .ok (.iload 6, 2) := by decide +kernel
theorem dX7_linesOf_22 : decode cX7_linesOf 22 = .ok (.aload_n 0, 1) := by decide +kernel
theorem dX7_linesOf_23 : decode cX7_linesOf 23 = .ok (.getfield 38, 3) := by decide +kernel
theorem dX7_linesOf_26 : decode cX7_linesOf 26 = .ok (.iload_n 1, 1) := by decide +kernel
theorem dX7_linesOf_27 : decode cX7_linesOf 27 = .ok (.iaload, 1) := by decide +kernel
theorem dX7_linesOf_28 : decode cX7_linesOf 28 = .ok (.if_icmp .ge 93, 3) := by decide +kernel
theorem dX7_linesOf_31 : decode cX7_linesOf 31 = .ok (.aload_n 0, 1) := by decide +kernel
theorem dX7_linesOf_32 : decode cX7_linesOf 32 = .ok (.getfield 41, 3) := by decide +kernel
theorem dX7_linesOf_35 : decode cX7_linesOf 35 = .ok (.bipush 12, 2) := by decide +kernel
theorem dX7_linesOf_37 : decode cX7_linesOf 37 = .ok (.iload_n 1, 1) := by decide +kernel
theorem dX7_linesOf_38 : decode cX7_linesOf 38 = .ok (.imul, 1) := by decide +kernel
theorem dX7_linesOf_39 : decode cX7_linesOf 39 = .ok (.iload 6, 2) := by decide +kernel
theorem dX7_linesOf_41 : decode cX7_linesOf 41 = .ok (.iadd, 1) := by decide +kernel
theorem dX7_linesOf_42 : decode cX7_linesOf 42 = .ok (.iaload, 1) := by decide +kernel
theorem dX7_linesOf_43 : decode cX7_linesOf 43 = .ok (.istore 7, 2) := by decide +kernel
theorem dX7_linesOf_45 : decode cX7_linesOf 45 = .ok (.iload 7, 2) := by decide +kernel
theorem dX7_linesOf_47 : decode cX7_linesOf 47 = .ok (.iload_n 3, 1) := by decide +kernel
theorem dX7_linesOf_48 : decode cX7_linesOf 48 = .ok (.if_icmp .le 32, 3) := by decide +kernel
theorem dX7_linesOf_51 : decode cX7_linesOf 51 = .ok (.iload 7, 2) := by decide +kernel
theorem dX7_linesOf_53 : decode cX7_linesOf 53 = .ok (.iconst 1, 1) := by decide +kernel
theorem dX7_linesOf_54 : decode cX7_linesOf 54 = .ok (.isub, 1) := by decide +kernel
theorem dX7_linesOf_55 : decode cX7_linesOf 55 = .ok (.iload_n 3, 1) := by decide +kernel
theorem dX7_linesOf_56 : decode cX7_linesOf 56 = .ok (.idiv, 1) := by decide +kernel
theorem dX7_linesOf_57 : decode cX7_linesOf 57 = .ok (.istore 8, 2) := by decide +kernel
theorem dX7_linesOf_59 : decode cX7_linesOf 59 = .ok (.iload 4, 2) := by decide +kernel
theorem dX7_linesOf_61 : decode cX7_linesOf 61 = .ok (.iload 8, 2) := by decide +kernel
theorem dX7_linesOf_63 : decode cX7_linesOf 63 = .ok (.iconst 1, 1) := by decide +kernel
theorem dX7_linesOf_64 : decode cX7_linesOf 64 = .ok (.iadd, 1) := by decide +kernel
theorem dX7_linesOf_65 : decode cX7_linesOf 65 = .ok (.iadd, 1) := by decide +kernel
theorem dX7_linesOf_66 : decode cX7_linesOf 66 = .ok (.istore 4, 2) := by decide +kernel
theorem dX7_linesOf_68 : decode cX7_linesOf 68 = .ok (.iload 7, 2) := by decide +kernel
theorem dX7_linesOf_70 : decode cX7_linesOf 70 = .ok (.iload 8, 2) := by decide +kernel
theorem dX7_linesOf_72 : decode cX7_linesOf 72 = .ok (.iload_n 3, 1) := by decide +kernel
theorem dX7_linesOf_73 : decode cX7_linesOf 73 = .ok (.imul, 1) := by decide +kernel
theorem dX7_linesOf_74 : decode cX7_linesOf 74 = .ok (.isub, 1) := by decide +kernel
theorem dX7_linesOf_75 : decode cX7_linesOf 75 = .ok (.istore 5, 2) := by decide +kernel
theorem dX7_linesOf_77 : decode cX7_linesOf 77 = .ok (.goto 38, 3) := by decide +kernel
theorem dX7_linesOf_80 : decode cX7_linesOf 80 = .ok (.iload 6, 2) := by decide +kernel
theorem dX7_linesOf_82 : decode cX7_linesOf 82 = .ok (.ifCond .le 26, 3) := by decide +kernel
theorem dX7_linesOf_85 : decode cX7_linesOf 85 = .ok (.iload 5, 2) := by decide +kernel
theorem dX7_linesOf_87 : decode cX7_linesOf 87 = .ok (.iconst 1, 1) := by decide +kernel
theorem dX7_linesOf_88 : decode cX7_linesOf 88 = .ok (.iadd, 1) := by decide +kernel
theorem dX7_linesOf_89 : decode cX7_linesOf 89 = .ok (.iload 7, 2) := by decide +kernel
theorem dX7_linesOf_91 : decode cX7_linesOf 91 = .ok (.iadd, 1) := by decide +kernel
theorem dX7_linesOf_92 : decode cX7_linesOf 92 = .ok (.iload_n 3, 1) := by decide +kernel
theorem dX7_linesOf_93 : decode cX7_linesOf 93 = .ok (.if_icmp .gt 15, 3) := by decide +kernel
theorem dX7_linesOf_96 : decode cX7_linesOf 96 = .ok (.iload 5, 2) := by decide +kernel
theorem dX7_linesOf_98 : decode cX7_linesOf 98 = .ok (.iconst 1, 1) := by decide +kernel
theorem dX7_linesOf_99 : decode cX7_linesOf 99 = .ok (.iload 7, 2) := by decide +kernel
theorem dX7_linesOf_101 : decode cX7_linesOf 101 = .ok (.iadd, 1) := by decide +kernel
theorem dX7_linesOf_102 : decode cX7_linesOf 102 = .ok (.iadd, 1) := by decide +kernel
theorem dX7_linesOf_103 : decode cX7_linesOf 103 = .ok (.istore 5, 2) := by decide +kernel
theorem dX7_linesOf_105 : decode cX7_linesOf 105 = .ok (.goto 10, 3) := by decide +kernel
theorem dX7_linesOf_108 : decode cX7_linesOf 108 = .ok (.iinc 4 1, 3) := by decide +kernel
theorem dX7_linesOf_111 : decode cX7_linesOf 111 = .ok (.iload 7, 2) := by decide +kernel
theorem dX7_linesOf_113 : decode cX7_linesOf 113 = .ok (.istore 5, 2) := by decide +kernel
theorem dX7_linesOf_115 : decode cX7_linesOf 115 = .ok (.iinc 6 1, 3) := by decide +kernel
theorem dX7_linesOf_118 : decode cX7_linesOf 118 = .ok (.goto (-98), 3) := by decide +kernel
theorem dX7_linesOf_121 : decode cX7_linesOf 121 = .ok (.iload 4, 2) := by decide +kernel
theorem dX7_linesOf_123 : decode cX7_linesOf 123 = .ok (.ireturn, 1) := by decide +kernel
theorem dX7_lines_0 : decode cX7_lines 0 = .ok (.aload_n 0, 1) := by decide +kernel
theorem dX7_lines_1 : decode cX7_lines 1 = .ok (.iload_n 2, 1) := by decide +kernel
theorem dX7_lines_2 : decode cX7_lines 2 = .ok (.iconst 1, 1) := by decide +kernel
theorem dX7_lines_3 : decode cX7_lines 3 = .ok (.sipush 400, 3) := by decide +kernel
theorem dX7_lines_6 : decode cX7_lines 6 = .ok (.invokestatic 119, 3) := by decide +kernel
theorem dX7_lines_9 : decode cX7_lines 9 = .ok (.iload_n 1, 1) := by decide +kernel
theorem dX7_lines_10 : decode cX7_lines 10 = .ok (.invokevirtual 162, 3) := by decide +kernel
theorem dX7_lines_13 : decode cX7_lines 13 = .ok (.istore_n 3, 1) := by decide +kernel
theorem dX7_lines_14 : decode cX7_lines 14 = .ok (.iload_n 3, 1) := by decide +kernel
theorem dX7_lines_15 : decode cX7_lines 15 = .ok (.ifCond .ge 7, 3) := by decide +kernel
theorem dX7_lines_18 : decode cX7_lines 18 = .ok (.iload_n 3, 1) := by decide +kernel
theorem dX7_lines_19 : decode cX7_lines 19 = .ok (.goto 9, 3) := by decide +kernel
theorem dX7_lines_22 : decode cX7_lines 22 = .ok (.aload_n 0, 1) := by decide +kernel
theorem dX7_lines_23 : decode cX7_lines 23 = .ok (.iload_n 1, 1) := by decide +kernel
theorem dX7_lines_24 : decode cX7_lines 24 = .ok (.iload_n 2, 1) := by decide +kernel
theorem dX7_lines_25 : decode cX7_lines 25 = .ok (.invokevirtual 172, 3) := by decide +kernel
theorem dX7_lines_28 : decode cX7_lines 28 = .ok (.ireturn, 1) := by decide +kernel
theorem dX7_wantOf_0 : decode cX7_wantOf 0 = .ok (.aload_n 0, 1) := by decide +kernel
theorem dX7_wantOf_1 : decode cX7_wantOf 1 = .ok (.getfield 19, 3) := by decide +kernel
theorem dX7_wantOf_4 : decode cX7_wantOf 4 = .ok (.iload_n 1, 1) := by decide +kernel
theorem dX7_wantOf_5 : decode cX7_wantOf 5 = .ok (.iaload, 1) := by decide +kernel
theorem dX7_wantOf_6 : decode cX7_wantOf 6 = .ok (.iconst 2, 1) := by decide +kernel
theorem dX7_wantOf_7 : decode cX7_wantOf 7 = .ok (.if_icmp .ne 10, 3) := by decide +kernel
theorem dX7_wantOf_10 : decode cX7_wantOf 10 = .ok (.aload_n 0, 1) := by decide +kernel
theorem dX7_wantOf_11 : decode cX7_wantOf 11 = .ok (.getfield 47, 3) := by decide +kernel
theorem dX7_wantOf_14 : decode cX7_wantOf 14 = .ok (.iload_n 1, 1) := by decide +kernel
theorem dX7_wantOf_15 : decode cX7_wantOf 15 = .ok (.iaload, 1) := by decide +kernel
theorem dX7_wantOf_16 : decode cX7_wantOf 16 = .ok (.ireturn, 1) := by decide +kernel
theorem dX7_wantOf_17 : decode cX7_wantOf 17 = .ok (.aload_n 0, 1) := by decide +kernel
theorem dX7_wantOf_18 : decode cX7_wantOf 18 = .ok (.getfield 38, 3) := by decide +kernel
theorem dX7_wantOf_21 : decode cX7_wantOf 21 = .ok (.iload_n 1, 1) := by decide +kernel
theorem dX7_wantOf_22 : decode cX7_wantOf 22 = .ok (.iaload, 1) := by decide +kernel
theorem dX7_wantOf_23 : decode cX7_wantOf 23 = .ok (.ifCond .ne 5, 3) := by decide +kernel
theorem dX7_wantOf_26 : decode cX7_wantOf 26 = .ok (.iconst 0, 1) := by decide +kernel
theorem dX7_wantOf_27 : decode cX7_wantOf 27 = .ok (.ireturn, 1) := by decide +kernel
theorem dX7_wantOf_28 : decode cX7_wantOf 28 = .ok (.iload_n 2, 1) := by decide +kernel
theorem dX7_wantOf_29 : decode cX7_wantOf 29 = .ok (.iconst 1, 1) := by decide +kernel
theorem dX7_wantOf_30 : decode cX7_wantOf 30 = .ok (.if_icmp .ne 18, 3) := by decide +kernel
theorem dX7_wantOf_33 : decode cX7_wantOf 33 = .ok (.aload_n 0, 1) := by decide +kernel
theorem dX7_wantOf_34 : decode cX7_wantOf 34 = .ok (.iload_n 1, 1) := by decide +kernel
theorem dX7_wantOf_35 : decode cX7_wantOf 35 = .ok (.invokevirtual 169, 3) := by decide +kernel
theorem dX7_wantOf_38 : decode cX7_wantOf 38 = .ok (.aload_n 0, 1) := by decide +kernel
theorem dX7_wantOf_39 : decode cX7_wantOf 39 = .ok (.getfield 38, 3) := by decide +kernel
theorem dX7_wantOf_42 : decode cX7_wantOf 42 = .ok (.iload_n 1, 1) := by decide +kernel
theorem dX7_wantOf_43 : decode cX7_wantOf 43 = .ok (.iaload, 1) := by decide +kernel
theorem dX7_wantOf_44 : decode cX7_wantOf 44 = .ok (.iadd, 1) := by decide +kernel
theorem dX7_wantOf_45 : decode cX7_wantOf 45 = .ok (.iconst 1, 1) := by decide +kernel
theorem dX7_wantOf_46 : decode cX7_wantOf 46 = .ok (.isub, 1) := by decide +kernel
theorem dX7_wantOf_47 : decode cX7_wantOf 47 = .ok (.ireturn, 1) := by decide +kernel
theorem dX7_wantOf_48 : decode cX7_wantOf 48 = .ok (.iconst 0, 1) := by decide +kernel
theorem dX7_wantOf_49 : decode cX7_wantOf 49 = .ok (.istore_n 3, 1) := by decide +kernel
theorem dX7_wantOf_50 : decode cX7_wantOf 50 = .ok (.iconst 0, 1) := by decide +kernel
theorem dX7_wantOf_51 : decode cX7_wantOf 51 = .ok (.istore 4, 2) := by decide +kernel
theorem dX7_wantOf_53 : decode cX7_wantOf 53 = .ok (.iload 4, 2) := by decide +kernel
theorem dX7_wantOf_55 : decode cX7_wantOf 55 = .ok (.aload_n 0, 1) := by decide +kernel
theorem dX7_wantOf_56 : decode cX7_wantOf 56 = .ok (.getfield 38, 3) := by decide +kernel
theorem dX7_wantOf_59 : decode cX7_wantOf 59 = .ok (.iload_n 1, 1) := by decide +kernel
theorem dX7_wantOf_60 : decode cX7_wantOf 60 = .ok (.iaload, 1) := by decide +kernel
theorem dX7_wantOf_61 : decode cX7_wantOf 61 = .ok (.if_icmp .ge 42, 3) := by decide +kernel
theorem dX7_wantOf_64 : decode cX7_wantOf 64 = .ok (.aload_n 0, 1) := by decide +kernel
theorem dX7_wantOf_65 : decode cX7_wantOf 65 = .ok (.getfield 41, 3) := by decide +kernel
theorem dX7_wantOf_68 : decode cX7_wantOf 68 = .ok (.bipush 12, 2) := by decide +kernel
theorem dX7_wantOf_70 : decode cX7_wantOf 70 = .ok (.iload_n 1, 1) := by decide +kernel
theorem dX7_wantOf_71 : decode cX7_wantOf 71 = .ok (.imul, 1) := by decide +kernel
theorem dX7_wantOf_72 : decode cX7_wantOf 72 = .ok (.iload 4, 2) := by decide +kernel
theorem dX7_wantOf_74 : decode cX7_wantOf 74 = .ok (.iadd, 1) := by decide +kernel
theorem dX7_wantOf_75 : decode cX7_wantOf 75 = .ok (.iaload, 1) := by decide +kernel
theorem dX7_wantOf_76 : decode cX7_wantOf 76 = .ok (.iload_n 3, 1) := by decide +kernel
theorem dX7_wantOf_77 : decode cX7_wantOf 77 = .ok (.if_icmp .le 18, 3) := by decide +kernel
theorem dX7_wantOf_80 : decode cX7_wantOf 80 = .ok (.aload_n 0, 1) := by decide +kernel
theorem dX7_wantOf_81 : decode cX7_wantOf 81 = .ok (.getfield 41, 3) := by decide +kernel
theorem dX7_wantOf_84 : decode cX7_wantOf 84 = .ok (.bipush 12, 2) := by decide +kernel
theorem dX7_wantOf_86 : decode cX7_wantOf 86 = .ok (.iload_n 1, 1) := by decide +kernel
theorem dX7_wantOf_87 : decode cX7_wantOf 87 = .ok (.imul, 1) := by decide +kernel
theorem dX7_wantOf_88 : decode cX7_wantOf 88 = .ok (.iload 4, 2) := by decide +kernel
theorem dX7_wantOf_90 : decode cX7_wantOf 90 = .ok (.iadd, 1) := by decide +kernel
theorem dX7_wantOf_91 : decode cX7_wantOf 91 = .ok (.iaload, 1) := by decide +kernel
theorem dX7_wantOf_92 : decode cX7_wantOf 92 = .ok (.goto 4, 3) := by decide +kernel
theorem dX7_wantOf_95 : decode cX7_wantOf 95 = .ok (.iload_n 3, 1) := by decide +kernel
theorem dX7_wantOf_96 : decode cX7_wantOf 96 = .ok (.istore_n 3, 1) := by decide +kernel
theorem dX7_wantOf_97 : decode cX7_wantOf 97 = .ok (.iinc 4 1, 3) := by decide +kernel
theorem dX7_wantOf_100 : decode cX7_wantOf 100 = .ok (.goto (-47), 3) := by decide +kernel
theorem dX7_wantOf_103 : decode cX7_wantOf 103 = .ok (.iload_n 3, 1) := by decide +kernel
theorem dX7_wantOf_104 : decode cX7_wantOf 104 = .ok (.ireturn, 1) := by decide +kernel
theorem dX7_want_0 : decode cX7_want 0 = .ok (.aload_n 0, 1) := by decide +kernel
theorem dX7_want_1 : decode cX7_want 1 = .ok (.iload_n 2, 1) := by decide +kernel
theorem dX7_want_2 : decode cX7_want 2 = .ok (.iconst 0, 1) := by decide +kernel
theorem dX7_want_3 : decode cX7_want 3 = .ok (.iconst 1, 1) := by decide +kernel
theorem dX7_want_4 : decode cX7_want 4 = .ok (.invokestatic 119, 3) := by decide +kernel
theorem dX7_want_7 : decode cX7_want 7 = .ok (.iload_n 1, 1) := by decide +kernel
theorem dX7_want_8 : decode cX7_want 8 = .ok (.invokevirtual 162, 3) := by decide +kernel
theorem dX7_want_11 : decode cX7_want 11 = .ok (.istore_n 3, 1) := by decide +kernel
theorem dX7_want_12 : decode cX7_want 12 = .ok (.iload_n 3, 1) := by decide +kernel
theorem dX7_want_13 : decode cX7_want 13 = .ok (.ifCond .ge 7, 3) := by decide +kernel
theorem dX7_want_16 : decode cX7_want 16 = .ok (.iload_n 3, 1) := by decide +kernel
theorem dX7_want_17 : decode cX7_want 17 = .ok (.goto 9, 3) := by decide +kernel
theorem dX7_want_20 : decode cX7_want 20 = .ok (.aload_n 0, 1) := by decide +kernel
theorem dX7_want_21 : decode cX7_want 21 = .ok (.iload_n 1, 1) := by decide +kernel
theorem dX7_want_22 : decode cX7_want 22 = .ok (.iload_n 2, 1) := by decide +kernel
theorem dX7_want_23 : decode cX7_want 23 = .ok (.invokevirtual 175, 3) := by decide +kernel
theorem dX7_want_26 : decode cX7_want 26 = .ok (.ireturn, 1) := by decide +kernel
theorem dX7_share_0 : decode cX7_share 0 = .ok (.iconst 0, 1) := by decide +kernel
theorem dX7_share_1 : decode cX7_share 1 = .ok (.istore 4, 2) := by decide +kernel
theorem dX7_share_3 : decode cX7_share 3 = .ok (.iload_n 2, 1) := by decide +kernel
theorem dX7_share_4 : decode cX7_share 4 = .ok (.istore 5, 2) := by decide +kernel
theorem dX7_share_6 : decode cX7_share 6 = .ok (.iload 5, 2) := by decide +kernel
theorem dX7_share_8 : decode cX7_share 8 = .ok (.iload_n 3, 1) := by decide +kernel
theorem dX7_share_9 : decode cX7_share 9 = .ok (.if_icmp .ge 21, 3) := by decide +kernel
theorem dX7_share_12 : decode cX7_share 12 = .ok (.iload 4, 2) := by decide +kernel
theorem dX7_share_14 : decode cX7_share 14 = .ok (.aload_n 0, 1) := by decide +kernel
theorem dX7_share_15 : decode cX7_share 15 = .ok (.getfield 53, 3) := by decide +kernel
theorem dX7_share_18 : decode cX7_share 18 = .ok (.iload 5, 2) := by decide +kernel
theorem dX7_share_20 : decode cX7_share 20 = .ok (.iaload, 1) := by decide +kernel
theorem dX7_share_21 : decode cX7_share 21 = .ok (.iadd, 1) := by decide +kernel
theorem dX7_share_22 : decode cX7_share 22 = .ok (.istore 4, 2) := by decide +kernel
theorem dX7_share_24 : decode cX7_share 24 = .ok (.iinc 5 1, 3) := by decide +kernel
theorem dX7_share_27 : decode cX7_share 27 = .ok (.goto (-21), 3) := by decide +kernel
theorem dX7_share_30 : decode cX7_share 30 = .ok (.iload_n 1, 1) := by decide +kernel
theorem dX7_share_31 : decode cX7_share 31 = .ok (.istore 5, 2) := by decide +kernel
theorem dX7_share_33 : decode cX7_share 33 = .ok (.iload_n 2, 1) := by decide +kernel
theorem dX7_share_34 : decode cX7_share 34 = .ok (.istore 6, 2) := by decide +kernel
theorem dX7_share_36 : decode cX7_share 36 = .ok (.iload 6, 2) := by decide +kernel
theorem dX7_share_38 : decode cX7_share 38 = .ok (.iload_n 3, 1) := by decide +kernel
theorem dX7_share_39 : decode cX7_share 39 = .ok (.if_icmp .ge 59, 3) := by decide +kernel
theorem dX7_share_42 : decode cX7_share 42 = .ok (.aload_n 0, 1) := by decide +kernel
theorem dX7_share_43 : decode cX7_share 43 = .ok (.getfield 56, 3) := by decide +kernel
theorem dX7_share_46 : decode cX7_share 46 = .ok (.iload 6, 2) := by decide +kernel
theorem dX7_share_48 : decode cX7_share 48 = .ok (.iload_n 1, 1) := by decide +kernel
theorem dX7_share_49 : decode cX7_share 49 = .ok (.aload_n 0, 1) := by decide +kernel
theorem dX7_share_50 : decode cX7_share 50 = .ok (.getfield 53, 3) := by decide +kernel
theorem dX7_share_53 : decode cX7_share 53 = .ok (.iload 6, 2) := by decide +kernel
theorem dX7_share_55 : decode cX7_share 55 = .ok (.iaload, 1) := by decide +kernel
theorem dX7_share_56 : decode cX7_share 56 = .ok (.imul, 1) := by decide +kernel
theorem dX7_share_57 : decode cX7_share 57 = .ok (.iload 4, 2) := by decide +kernel
theorem dX7_share_59 : decode cX7_share 59 = .ok (.idiv, 1) := by decide +kernel
theorem dX7_share_60 : decode cX7_share 60 = .ok (.iastore, 1) := by decide +kernel
theorem dX7_share_61 : decode cX7_share 61 = .ok (.aload_n 0, 1) := by decide +kernel
theorem dX7_share_62 : decode cX7_share 62 = .ok (.getfield 59, 3) := by decide +kernel
theorem dX7_share_65 : decode cX7_share 65 = .ok (.iload 6, 2) := by decide +kernel
theorem dX7_share_67 : decode cX7_share 67 = .ok (.iload_n 1, 1) := by decide +kernel
theorem dX7_share_68 : decode cX7_share 68 = .ok (.aload_n 0, 1) := by decide +kernel
theorem dX7_share_69 : decode cX7_share 69 = .ok (.getfield 53, 3) := by decide +kernel
theorem dX7_share_72 : decode cX7_share 72 = .ok (.iload 6, 2) := by decide +kernel
theorem dX7_share_74 : decode cX7_share 74 = .ok (.iaload, 1) := by decide +kernel
theorem dX7_share_75 : decode cX7_share 75 = .ok (.imul, 1) := by decide +kernel
theorem dX7_share_76 : decode cX7_share 76 = .ok (.iload 4, 2) := by decide +kernel
theorem dX7_share_78 : decode cX7_share 78 = .ok (.irem, 1) := by decide +kernel
theorem dX7_share_79 : decode cX7_share 79 = .ok (.iastore, 1) := by decide +kernel
theorem dX7_share_80 : decode cX7_share 80 = .ok (.iload 5, 2) := by decide +kernel
theorem dX7_share_82 : decode cX7_share 82 = .ok (.aload_n 0, 1) := by decide +kernel
theorem dX7_share_83 : decode cX7_share 83 = .ok (.getfield 56, 3) := by decide +kernel
theorem dX7_share_86 : decode cX7_share 86 = .ok (.iload 6, 2) := by decide +kernel
theorem dX7_share_88 : decode cX7_share 88 = .ok (.iaload, 1) := by decide +kernel
theorem dX7_share_89 : decode cX7_share 89 = .ok (.isub, 1) := by decide +kernel
theorem dX7_share_90 : decode cX7_share 90 = .ok (.istore 5, 2) := by decide +kernel
theorem dX7_share_92 : decode cX7_share 92 = .ok (.iinc 6 1, 3) := by decide +kernel
theorem dX7_share_95 : decode cX7_share 95 = .ok (.goto (-59), 3) := by decide +kernel
theorem dX7_share_98 : decode cX7_share 98 = .ok (.iload 5, 2) := by decide +kernel
theorem dX7_share_100 : decode cX7_share 100 = .ok (.ifCond .le 72, 3) := by decide +kernel
theorem dX7_share_103 : decode cX7_share 103 = .ok (.iload_n 2, 1) := by decide +kernel
theorem dX7_share_104 : decode cX7_share 104 = .ok (.istore 6, 2) := by decide +kernel
theorem dX7_share_106 : decode cX7_share 106 = .ok (.iload_n 2, 1) := by decide +kernel
theorem dX7_share_107 : decode cX7_share 107 = .ok (.istore 7, 2) := by decide +kernel
theorem dX7_share_109 : decode cX7_share 109 = .ok (.iload 7, 2) := by decide +kernel
theorem dX7_share_111 : decode cX7_share 111 = .ok (.iload_n 3, 1) := by decide +kernel
theorem dX7_share_112 : decode cX7_share 112 = .ok (.if_icmp .ge 35, 3) := by decide +kernel
theorem dX7_share_115 : decode cX7_share 115 = .ok (.aload_n 0, 1) := by decide +kernel
theorem dX7_share_116 : decode cX7_share 116 = .ok (.getfield 59, 3) := by decide +kernel
theorem dX7_share_119 : decode cX7_share 119 = .ok (.iload 7, 2) := by decide +kernel
theorem dX7_share_121 : decode cX7_share 121 = .ok (.iaload, 1) := by decide +kernel
theorem dX7_share_122 : decode cX7_share 122 = .ok (.aload_n 0, 1) := by decide +kernel
theorem dX7_share_123 : decode cX7_share 123 = .ok (.getfield 59, 3) := by decide +kernel
theorem dX7_share_126 : decode cX7_share 126 = .ok (.iload 6, 2) := by decide +kernel
theorem dX7_share_128 : decode cX7_share 128 = .ok (.iaload, 1) := by decide +kernel
theorem dX7_share_129 : decode cX7_share 129 = .ok (.if_icmp .le 8, 3) := by decide +kernel
theorem dX7_share_132 : decode cX7_share 132 = .ok (.iload 7, 2) := by decide +kernel
theorem dX7_share_134 : decode cX7_share 134 = .ok (.goto 5, 3) := by decide +kernel
theorem dX7_share_137 : decode cX7_share 137 = .ok (.iload 6, 2) := by decide +kernel
theorem dX7_share_139 : decode cX7_share 139 = .ok (.istore 6, 2) := by decide +kernel
theorem dX7_share_141 : decode cX7_share 141 = .ok (.iinc 7 1, 3) := by decide +kernel
theorem dX7_share_144 : decode cX7_share 144 = .ok (.goto (-35), 3) := by decide +kernel
theorem dX7_share_147 : decode cX7_share 147 = .ok (.aload_n 0, 1) := by decide +kernel
theorem dX7_share_148 : decode cX7_share 148 = .ok (.getfield 56, 3) := by decide +kernel
theorem dX7_share_151 : decode cX7_share 151 = .ok (.iload 6, 2) := by decide +kernel
theorem dX7_share_153 : decode cX7_share 153 = .ok (.dup2, 1) := by decide +kernel
theorem dX7_share_154 : decode cX7_share 154 = .ok (.iaload, 1) := by decide +kernel
theorem dX7_share_155 : decode cX7_share 155 = .ok (.iconst 1, 1) := by decide +kernel
theorem dX7_share_156 : decode cX7_share 156 = .ok (.iadd, 1) := by decide +kernel
theorem dX7_share_157 : decode cX7_share 157 = .ok (.iastore, 1) := by decide +kernel
theorem dX7_share_158 : decode cX7_share 158 = .ok (.aload_n 0, 1) := by decide +kernel
theorem dX7_share_159 : decode cX7_share 159 = .ok (.getfield 59, 3) := by decide +kernel
theorem dX7_share_162 : decode cX7_share 162 = .ok (.iload 6, 2) := by decide +kernel
theorem dX7_share_164 : decode cX7_share 164 = .ok (.iconst (-1), 1) := by decide +kernel
theorem dX7_share_165 : decode cX7_share 165 = .ok (.iastore, 1) := by decide +kernel
theorem dX7_share_166 : decode cX7_share 166 = .ok (.iinc 5 (-1), 3) := by decide +kernel
theorem dX7_share_169 : decode cX7_share 169 = .ok (.goto (-71), 3) := by decide +kernel
theorem dX7_share_172 : decode cX7_share 172 = .ok (.return_, 1) := by decide +kernel
theorem dX7_widthOver_0 : decode cX7_widthOver 0 = .ok (.iload_n 3, 1) := by decide +kernel
theorem dX7_widthOver_1 : decode cX7_widthOver 1 = .ok (.iconst 1, 1) := by decide +kernel
theorem dX7_widthOver_2 : decode cX7_widthOver 2 = .ok (.isub, 1) := by decide +kernel
theorem dX7_widthOver_3 : decode cX7_widthOver 3 = .ok (.aload_n 0, 1) := by decide +kernel
theorem dX7_widthOver_4 : decode cX7_widthOver 4 = .ok (.getfield 129, 3) := by decide +kernel
theorem dX7_widthOver_7 : decode cX7_widthOver 7 = .ok (.imul, 1) := by decide +kernel
theorem dX7_widthOver_8 : decode cX7_widthOver 8 = .ok (.istore 4, 2) := by decide +kernel
theorem dX7_widthOver_10 : decode cX7_widthOver 10 = .ok (.iload_n 2, 1) := by decide +kernel
theorem dX7_widthOver_11 : decode cX7_widthOver 11 = .ok (.istore 5, 2) := by decide +kernel
theorem dX7_widthOver_13 : decode cX7_widthOver 13 = .ok (.iload 5, 2) := by decide +kernel
theorem dX7_widthOver_15 : decode cX7_widthOver 15 = .ok (.iload_n 2, 1) := by decide +kernel
theorem dX7_widthOver_16 : decode cX7_widthOver 16 = .ok (.iload_n 3, 1) := by decide +kernel
theorem dX7_widthOver_17 : decode cX7_widthOver 17 = .ok (.iadd, 1) := by decide +kernel
theorem dX7_widthOver_18 : decode cX7_widthOver 18 = .ok (.if_icmp .ge 18, 3) := by decide +kernel
theorem dX7_widthOver_21 : decode cX7_widthOver 21 = .ok (.iload 4, 2) := by decide +kernel
theorem dX7_widthOver_23 : decode cX7_widthOver 23 = .ok (.aload_n 1, 1) := by decide +kernel
theorem dX7_widthOver_24 : decode cX7_widthOver 24 = .ok (.iload 5, 2) := by decide +kernel
theorem dX7_widthOver_26 : decode cX7_widthOver 26 = .ok (.iaload, 1) := by decide +kernel
theorem dX7_widthOver_27 : decode cX7_widthOver 27 = .ok (.iadd, 1) := by decide +kernel
theorem dX7_widthOver_28 : decode cX7_widthOver 28 = .ok (.istore 4, 2) := by decide +kernel
theorem dX7_widthOver_30 : decode cX7_widthOver 30 = .ok (.iinc 5 1, 3) := by decide +kernel
theorem dX7_widthOver_33 : decode cX7_widthOver 33 = .ok (.goto (-20), 3) := by decide +kernel
theorem dX7_widthOver_36 : decode cX7_widthOver 36 = .ok (.iload 4, 2) := by decide +kernel
theorem dX7_widthOver_38 : decode cX7_widthOver 38 = .ok (.ireturn, 1) := by decide +kernel
theorem dX7_layWidths_0 : decode cX7_layWidths 0 = .ok (.iconst 0, 1) := by decide +kernel
theorem dX7_layWidths_1 : decode cX7_layWidths 1 = .ok (.istore_n 3, 1) := by decide +kernel
theorem dX7_layWidths_2 : decode cX7_layWidths 2 = .ok (.iload_n 3, 1) := by decide +kernel
theorem dX7_layWidths_3 : decode cX7_layWidths 3 = .ok (.aload_n 0, 1) := by decide +kernel
theorem dX7_layWidths_4 : decode cX7_layWidths 4 = .ok (.getfield 126, 3) := by decide +kernel
theorem dX7_layWidths_7 : decode cX7_layWidths 7 = .ok (.if_icmp .ge 13, 3) := by decide +kernel
theorem dX7_layWidths_10 : decode cX7_layWidths 10 = .ok (.aload_n 2, 1) := by decide +kernel
theorem dX7_layWidths_11 : decode cX7_layWidths 11 = .ok (.iload_n 3, 1) := by decide +kernel
theorem dX7_layWidths_12 : decode cX7_layWidths 12 = .ok (.iconst 0, 1) := by decide +kernel
theorem dX7_layWidths_13 : decode cX7_layWidths 13 = .ok (.iastore, 1) := by decide +kernel
theorem dX7_layWidths_14 : decode cX7_layWidths 14 = .ok (.iinc 3 1, 3) := by decide +kernel
theorem dX7_layWidths_17 : decode cX7_layWidths 17 = .ok (.goto (-15), 3) := by decide +kernel
theorem dX7_layWidths_20 : decode cX7_layWidths 20 = .ok (.iconst 1, 1) := by decide +kernel
theorem dX7_layWidths_21 : decode cX7_layWidths 21 = .ok (.istore_n 3, 1) := by decide +kernel
theorem dX7_layWidths_22 : decode cX7_layWidths 22 = .ok (.iload_n 3, 1) := by decide +kernel
theorem dX7_layWidths_23 : decode cX7_layWidths 23 = .ok (.aload_n 0, 1) := by decide +kernel
theorem dX7_layWidths_24 : decode cX7_layWidths 24 = .ok (.getfield 126, 3) := by decide +kernel
theorem dX7_layWidths_27 : decode cX7_layWidths 27 = .ok (.if_icmp .gt 139, 3) := by decide +kernel
theorem dX7_layWidths_30 : decode cX7_layWidths 30 = .ok (.iconst 0, 1) := by decide +kernel
theorem dX7_layWidths_31 : decode cX7_layWidths 31 = .ok (.istore 4, 2) := by decide +kernel
theorem dX7_layWidths_33 : decode cX7_layWidths 33 = .ok (.iload 4, 2) := by decide +kernel
theorem dX7_layWidths_35 : decode cX7_layWidths 35 = .ok (.aload_n 0, 1) := by decide +kernel
theorem dX7_layWidths_36 : decode cX7_layWidths 36 = .ok (.getfield 126, 3) := by decide +kernel
theorem dX7_layWidths_39 : decode cX7_layWidths 39 = .ok (.if_icmp .ge 17, 3) := by decide +kernel
theorem dX7_layWidths_42 : decode cX7_layWidths 42 = .ok (.aload_n 0, 1) := by decide +kernel
theorem dX7_layWidths_43 : decode cX7_layWidths 43 = .ok (.getfield 71, 3) := by decide +kernel
theorem dX7_layWidths_46 : decode cX7_layWidths 46 = .ok (.iload 4, 2) := by decide +kernel
theorem dX7_layWidths_48 : decode cX7_layWidths 48 = .ok (.iconst 0, 1) := by decide +kernel
theorem dX7_layWidths_49 : decode cX7_layWidths 49 = .ok (.iastore, 1) := by decide +kernel
theorem dX7_layWidths_50 : decode cX7_layWidths 50 = .ok (.iinc 4 1, 3) := by decide +kernel
theorem dX7_layWidths_53 : decode cX7_layWidths 53 = .ok (.goto (-20), 3) := by decide +kernel
theorem dX7_layWidths_56 : decode cX7_layWidths 56 = .ok (.iconst 0, 1) := by decide +kernel
theorem dX7_layWidths_57 : decode cX7_layWidths 57 = .ok (.istore 4, 2) := by decide +kernel
theorem dX7_layWidths_59 : decode cX7_layWidths 59 = .ok (.iload 4, 2) := by decide +kernel
theorem dX7_layWidths_61 : decode cX7_layWidths 61 = .ok (.aload_n 0, 1) := by decide +kernel
theorem dX7_layWidths_62 : decode cX7_layWidths 62 = .ok (.getfield 132, 3) := by decide +kernel
theorem dX7_layWidths_65 : decode cX7_layWidths 65 = .ok (.if_icmp .ge 63, 3) := by decide +kernel
theorem dX7_layWidths_68 : decode cX7_layWidths 68 = .ok (.aload_n 0, 1) := by decide +kernel
theorem dX7_layWidths_69 : decode cX7_layWidths 69 = .ok (.getfield 34, 3) := by decide +kernel
theorem dX7_layWidths_72 : decode cX7_layWidths 72 = .ok (.iload 4, 2) := by decide +kernel
theorem dX7_layWidths_74 : decode cX7_layWidths 74 = .ok (.baload, 1) := by decide +kernel
theorem dX7_layWidths_75 : decode cX7_layWidths 75 = .ok (.ifCond .ne 47, 3) := by decide +kernel
theorem dX7_layWidths_78 : decode cX7_layWidths 78 = .ok (.aload_n 0, 1) := by decide +kernel
theorem dX7_layWidths_79 : decode cX7_layWidths 79 = .ok (.getfield 31, 3) := by decide +kernel
theorem dX7_layWidths_82 : decode cX7_layWidths 82 = .ok (.iload 4, 2) := by decide +kernel
theorem dX7_layWidths_84 : decode cX7_layWidths 84 = .ok (.iaload, 1) := by decide +kernel
theorem dX7_layWidths_85 : decode cX7_layWidths 85 = .ok (.iload_n 3, 1) := by decide +kernel
theorem dX7_layWidths_86 : decode cX7_layWidths 86 = .ok (.if_icmp .ne 36, 3) := by decide +kernel
theorem dX7_layWidths_89 : decode cX7_layWidths 89 = .ok (.aload_n 0, 1) := by decide +kernel
theorem dX7_layWidths_90 : decode cX7_layWidths 90 = .ok (.aload_n 0, 1) := by decide +kernel
theorem dX7_layWidths_91 : decode cX7_layWidths 91 = .ok (.iload 4, 2) := by decide +kernel
theorem dX7_layWidths_93 : decode cX7_layWidths 93 = .ok (.iload_n 1, 1) := by decide +kernel
theorem dX7_layWidths_94 : decode cX7_layWidths 94 = .ok (.invokevirtual 175, 3) := by decide +kernel
theorem dX7_layWidths_97 : decode cX7_layWidths 97 = .ok (.aload_n 0, 1) := by decide +kernel
theorem dX7_layWidths_98 : decode cX7_layWidths 98 = .ok (.aload_n 2, 1) := by decide +kernel
theorem dX7_layWidths_99 : decode cX7_layWidths 99 = .ok (.aload_n 0, 1) := by decide +kernel
theorem dX7_layWidths_100 : decode cX7_layWidths 100 = .ok (.getfield 25, 3) := by decide +kernel
theorem dX7_layWidths_103 : decode cX7_layWidths 103 = .ok (.iload 4, 2) := by decide +kernel
theorem dX7_layWidths_105 : decode cX7_layWidths 105 = .ok (.iaload, 1) := by decide +kernel
theorem dX7_layWidths_106 : decode cX7_layWidths 106 = .ok (.iload_n 3, 1) := by decide +kernel
theorem dX7_layWidths_107 : decode cX7_layWidths 107 = .ok (.invokevirtual 178, 3) := by decide +kernel
theorem dX7_layWidths_110 : decode cX7_layWidths 110 = .ok (.isub, 1) := by decide +kernel
theorem dX7_layWidths_111 : decode cX7_layWidths 111 = .ok (.aload_n 0, 1) := by decide +kernel
theorem dX7_layWidths_112 : decode cX7_layWidths 112 = .ok (.getfield 25, 3) := by decide +kernel
theorem dX7_layWidths_115 : decode cX7_layWidths 115 = .ok (.iload 4, 2) := by decide +kernel
theorem dX7_layWidths_117 : decode cX7_layWidths 117 = .ok (.iaload, 1) := by decide +kernel
theorem dX7_layWidths_118 : decode cX7_layWidths 118 = .ok (.iload_n 3, 1) := by decide +kernel
theorem dX7_layWidths_119 : decode cX7_layWidths 119 = .ok (.invokevirtual 182, 3) := by decide +kernel
theorem dX7_layWidths_122 : decode cX7_layWidths 122 = .ok (.iinc 4 1, 3) := by decide +kernel
theorem dX7_layWidths_125 : decode cX7_layWidths 125 = .ok (.goto (-66), 3) := by decide +kernel
theorem dX7_layWidths_128 : decode cX7_layWidths 128 = .ok (.iconst 0, 1) := by decide +kernel
theorem dX7_layWidths_129 : decode cX7_layWidths 129 = .ok (.istore 4, 2) := by decide +kernel
theorem dX7_layWidths_131 : decode cX7_layWidths 131 = .ok (.iload 4, 2) := by decide +kernel
theorem dX7_layWidths_133 : decode cX7_layWidths 133 = .ok (.aload_n 0, 1) := by decide +kernel
theorem dX7_layWidths_134 : decode cX7_layWidths 134 = .ok (.getfield 126, 3) := by decide +kernel
theorem dX7_layWidths_137 : decode cX7_layWidths 137 = .ok (.if_icmp .ge 23, 3) := by decide +kernel
theorem dX7_layWidths_140 : decode cX7_layWidths 140 = .ok (.aload_n 2, 1) := by decide +kernel
theorem dX7_layWidths_141 : decode cX7_layWidths 141 = .ok (.iload 4, 2) := by decide +kernel
theorem dX7_layWidths_143 : decode cX7_layWidths 143 = .ok (.dup2, 1) := by decide +kernel
theorem dX7_layWidths_144 : decode cX7_layWidths 144 = .ok (.iaload, 1) := by decide +kernel
theorem dX7_layWidths_145 : decode cX7_layWidths 145 = .ok (.aload_n 0, 1) := by decide +kernel
theorem dX7_layWidths_146 : decode cX7_layWidths 146 = .ok (.getfield 71, 3) := by decide +kernel
theorem dX7_layWidths_149 : decode cX7_layWidths 149 = .ok (.iload 4, 2) := by decide +kernel
theorem dX7_layWidths_151 : decode cX7_layWidths 151 = .ok (.iaload, 1) := by decide +kernel
theorem dX7_layWidths_152 : decode cX7_layWidths 152 = .ok (.iadd, 1) := by decide +kernel
theorem dX7_layWidths_153 : decode cX7_layWidths 153 = .ok (.iastore, 1) := by decide +kernel
theorem dX7_layWidths_154 : decode cX7_layWidths 154 = .ok (.iinc 4 1, 3) := by decide +kernel
theorem dX7_layWidths_157 : decode cX7_layWidths 157 = .ok (.goto (-26), 3) := by decide +kernel
theorem dX7_layWidths_160 : decode cX7_layWidths 160 = .ok (.iinc 3 1, 3) := by decide +kernel
theorem dX7_layWidths_163 : decode cX7_layWidths 163 = .ok (.goto (-141), 3) := by decide +kernel
theorem dX7_layWidths_166 : decode cX7_layWidths 166 = .ok (.return_, 1) := by decide +kernel
theorem dX7_lacks_0 : decode cX7_lacks 0 = .ok (.iload_n 1, 1) := by decide +kernel
theorem dX7_lacks_1 : decode cX7_lacks 1 = .ok (.ifCond .gt 4, 3) := by decide +kernel
theorem dX7_lacks_4 : decode cX7_lacks 4 = .ok (.return_, 1) := by decide +kernel
theorem dX7_lacks_5 : decode cX7_lacks 5 = .ok (.iload_n 2, 1) := by decide +kernel
theorem dX7_lacks_6 : decode cX7_lacks 6 = .ok (.istore 4, 2) := by decide +kernel
theorem dX7_lacks_8 : decode cX7_lacks 8 = .ok (.iload 4, 2) := by decide +kernel
theorem dX7_lacks_10 : decode cX7_lacks 10 = .ok (.iload_n 2, 1) := by decide +kernel
theorem dX7_lacks_11 : decode cX7_lacks 11 = .ok (.iload_n 3, 1) := by decide +kernel
theorem dX7_lacks_12 : decode cX7_lacks 12 = .ok (.iadd, 1) := by decide +kernel
theorem dX7_lacks_13 : decode cX7_lacks 13 = .ok (.if_icmp .ge 23, 3) := by decide +kernel
theorem dX7_lacks_16 : decode cX7_lacks 16 = .ok (.aload_n 0, 1) := by decide +kernel
theorem dX7_lacks_17 : decode cX7_lacks 17 = .ok (.getfield 53, 3) := by decide +kernel
theorem dX7_lacks_20 : decode cX7_lacks 20 = .ok (.iload 4, 2) := by decide +kernel
theorem dX7_lacks_22 : decode cX7_lacks 22 = .ok (.aload_n 0, 1) := by decide +kernel
theorem dX7_lacks_23 : decode cX7_lacks 23 = .ok (.getfield 13, 3) := by decide +kernel
theorem dX7_lacks_26 : decode cX7_lacks 26 = .ok (.iload 4, 2) := by decide +kernel
theorem dX7_lacks_28 : decode cX7_lacks 28 = .ok (.iaload, 1) := by decide +kernel
theorem dX7_lacks_29 : decode cX7_lacks 29 = .ok (.iastore, 1) := by decide +kernel
theorem dX7_lacks_30 : decode cX7_lacks 30 = .ok (.iinc 4 1, 3) := by decide +kernel
theorem dX7_lacks_33 : decode cX7_lacks 33 = .ok (.goto (-25), 3) := by decide +kernel
theorem dX7_lacks_36 : decode cX7_lacks 36 = .ok (.aload_n 0, 1) := by decide +kernel
theorem dX7_lacks_37 : decode cX7_lacks 37 = .ok (.iload_n 1, 1) := by decide +kernel
theorem dX7_lacks_38 : decode cX7_lacks 38 = .ok (.iload_n 2, 1) := by decide +kernel
theorem dX7_lacks_39 : decode cX7_lacks 39 = .ok (.iload_n 2, 1) := by decide +kernel
theorem dX7_lacks_40 : decode cX7_lacks 40 = .ok (.iload_n 3, 1) := by decide +kernel
theorem dX7_lacks_41 : decode cX7_lacks 41 = .ok (.iadd, 1) := by decide +kernel
theorem dX7_lacks_42 : decode cX7_lacks 42 = .ok (.invokevirtual 185, 3) := by decide +kernel
theorem dX7_lacks_45 : decode cX7_lacks 45 = .ok (.iload_n 2, 1) := by decide +kernel
theorem dX7_lacks_46 : decode cX7_lacks 46 = .ok (.istore 4, 2) := by decide +kernel
theorem dX7_lacks_48 : decode cX7_lacks 48 = .ok (.iload 4, 2) := by decide +kernel
theorem dX7_lacks_50 : decode cX7_lacks 50 = .ok (.iload_n 2, 1) := by decide +kernel
theorem dX7_lacks_51 : decode cX7_lacks 51 = .ok (.iload_n 3, 1) := by decide +kernel
theorem dX7_lacks_52 : decode cX7_lacks 52 = .ok (.iadd, 1) := by decide +kernel
theorem dX7_lacks_53 : decode cX7_lacks 53 = .ok (.if_icmp .ge 50, 3) := by decide +kernel
theorem dX7_lacks_56 : decode cX7_lacks 56 = .ok (.aload_n 0, 1) := by decide +kernel
theorem dX7_lacks_57 : decode cX7_lacks 57 = .ok (.getfield 71, 3) := by decide +kernel
theorem dX7_lacks_60 : decode cX7_lacks 60 = .ok (.iload 4, 2) := by decide +kernel
theorem dX7_lacks_62 : decode cX7_lacks 62 = .ok (.aload_n 0, 1) := by decide +kernel
theorem dX7_lacks_63 : decode cX7_lacks 63 = .ok (.getfield 56, 3) := by decide +kernel
theorem dX7_lacks_66 : decode cX7_lacks 66 = .ok (.iload 4, 2) := by decide +kernel
theorem dX7_lacks_68 : decode cX7_lacks 68 = .ok (.iaload, 1) := by decide +kernel
theorem dX7_lacks_69 : decode cX7_lacks 69 = .ok (.aload_n 0, 1) := by decide +kernel
theorem dX7_lacks_70 : decode cX7_lacks 70 = .ok (.getfield 71, 3) := by decide +kernel
theorem dX7_lacks_73 : decode cX7_lacks 73 = .ok (.iload 4, 2) := by decide +kernel
theorem dX7_lacks_75 : decode cX7_lacks 75 = .ok (.iaload, 1) := by decide +kernel
theorem dX7_lacks_76 : decode cX7_lacks 76 = .ok (.if_icmp .le 13, 3) := by decide +kernel
theorem dX7_lacks_79 : decode cX7_lacks 79 = .ok (.aload_n 0, 1) := by decide +kernel
theorem dX7_lacks_80 : decode cX7_lacks 80 = .ok (.getfield 56, 3) := by decide +kernel
theorem dX7_lacks_83 : decode cX7_lacks 83 = .ok (.iload 4, 2) := by decide +kernel
theorem dX7_lacks_85 : decode cX7_lacks 85 = .ok (.iaload, 1) := by decide +kernel
theorem dX7_lacks_86 : decode cX7_lacks 86 = .ok (.goto 10, 3) := by decide +kernel
theorem dX7_lacks_89 : decode cX7_lacks 89 = .ok (.aload_n 0, 1) := by decide +kernel
theorem dX7_lacks_90 : decode cX7_lacks 90 = .ok (.getfield 71, 3) := by decide +kernel
theorem dX7_lacks_93 : decode cX7_lacks 93 = .ok (.iload 4, 2) := by decide +kernel
theorem dX7_lacks_95 : decode cX7_lacks 95 = .ok (.iaload, 1) := by decide +kernel
theorem dX7_lacks_96 : decode cX7_lacks 96 = .ok (.iastore, 1) := by decide +kernel
theorem dX7_lacks_97 : decode cX7_lacks 97 = .ok (.iinc 4 1, 3) := by decide +kernel
theorem dX7_lacks_100 : decode cX7_lacks 100 = .ok (.goto (-52), 3) := by decide +kernel
theorem dX7_lacks_103 : decode cX7_lacks 103 = .ok (.return_, 1) := by decide +kernel
theorem dX7_layBoth_0 : decode cX7_layBoth 0 = .ok (.aload_n 0, 1) := by decide +kernel
theorem dX7_layBoth_1 : decode cX7_layBoth 1 = .ok (.iconst 0, 1) := by decide +kernel
theorem dX7_layBoth_2 : decode cX7_layBoth 2 = .ok (.aload_n 0, 1) := by decide +kernel
theorem dX7_layBoth_3 : decode cX7_layBoth 3 = .ok (.getfield 65, 3) := by decide +kernel
theorem dX7_layBoth_6 : decode cX7_layBoth 6 = .ok (.invokevirtual 188, 3) := by decide +kernel
theorem dX7_layBoth_9 : decode cX7_layBoth 9 = .ok (.aload_n 0, 1) := by decide +kernel
theorem dX7_layBoth_10 : decode cX7_layBoth 10 = .ok (.iconst 1, 1) := by decide +kernel
theorem dX7_layBoth_11 : decode cX7_layBoth 11 = .ok (.aload_n 0, 1) := by decide +kernel
theorem dX7_layBoth_12 : decode cX7_layBoth 12 = .ok (.getfield 68, 3) := by decide +kernel
theorem dX7_layBoth_15 : decode cX7_layBoth 15 = .ok (.invokevirtual 188, 3) := by decide +kernel
theorem dX7_layBoth_18 : decode cX7_layBoth 18 = .ok (.iconst 0, 1) := by decide +kernel
theorem dX7_layBoth_19 : decode cX7_layBoth 19 = .ok (.istore_n 1, 1) := by decide +kernel
theorem dX7_layBoth_20 : decode cX7_layBoth 20 = .ok (.iload_n 1, 1) := by decide +kernel
theorem dX7_layBoth_21 : decode cX7_layBoth 21 = .ok (.aload_n 0, 1) := by decide +kernel
theorem dX7_layBoth_22 : decode cX7_layBoth 22 = .ok (.getfield 126, 3) := by decide +kernel
theorem dX7_layBoth_25 : decode cX7_layBoth 25 = .ok (.if_icmp .ge 45, 3) := by decide +kernel
theorem dX7_layBoth_28 : decode cX7_layBoth 28 = .ok (.aload_n 0, 1) := by decide +kernel
theorem dX7_layBoth_29 : decode cX7_layBoth 29 = .ok (.getfield 68, 3) := by decide +kernel
theorem dX7_layBoth_32 : decode cX7_layBoth 32 = .ok (.iload_n 1, 1) := by decide +kernel
theorem dX7_layBoth_33 : decode cX7_layBoth 33 = .ok (.aload_n 0, 1) := by decide +kernel
theorem dX7_layBoth_34 : decode cX7_layBoth 34 = .ok (.getfield 68, 3) := by decide +kernel
theorem dX7_layBoth_37 : decode cX7_layBoth 37 = .ok (.iload_n 1, 1) := by decide +kernel
theorem dX7_layBoth_38 : decode cX7_layBoth 38 = .ok (.iaload, 1) := by decide +kernel
theorem dX7_layBoth_39 : decode cX7_layBoth 39 = .ok (.aload_n 0, 1) := by decide +kernel
theorem dX7_layBoth_40 : decode cX7_layBoth 40 = .ok (.getfield 65, 3) := by decide +kernel
theorem dX7_layBoth_43 : decode cX7_layBoth 43 = .ok (.iload_n 1, 1) := by decide +kernel
theorem dX7_layBoth_44 : decode cX7_layBoth 44 = .ok (.iaload, 1) := by decide +kernel
theorem dX7_layBoth_45 : decode cX7_layBoth 45 = .ok (.if_icmp .ge 12, 3) := by decide +kernel
theorem dX7_layBoth_48 : decode cX7_layBoth 48 = .ok (.aload_n 0, 1) := by decide +kernel
theorem dX7_layBoth_49 : decode cX7_layBoth 49 = .ok (.getfield 65, 3) := by decide +kernel
theorem dX7_layBoth_52 : decode cX7_layBoth 52 = .ok (.iload_n 1, 1) := by decide +kernel
theorem dX7_layBoth_53 : decode cX7_layBoth 53 = .ok (.iaload, 1) := by decide +kernel
theorem dX7_layBoth_54 : decode cX7_layBoth 54 = .ok (.goto 9, 3) := by decide +kernel
theorem dX7_layBoth_57 : decode cX7_layBoth 57 = .ok (.aload_n 0, 1) := by decide +kernel
theorem dX7_layBoth_58 : decode cX7_layBoth 58 = .ok (.getfield 68, 3) := by decide +kernel
theorem dX7_layBoth_61 : decode cX7_layBoth 61 = .ok (.iload_n 1, 1) := by decide +kernel
theorem dX7_layBoth_62 : decode cX7_layBoth 62 = .ok (.iaload, 1) := by decide +kernel
theorem dX7_layBoth_63 : decode cX7_layBoth 63 = .ok (.iastore, 1) := by decide +kernel
theorem dX7_layBoth_64 : decode cX7_layBoth 64 = .ok (.iinc 1 1, 3) := by decide +kernel
theorem dX7_layBoth_67 : decode cX7_layBoth 67 = .ok (.goto (-47), 3) := by decide +kernel
theorem dX7_layBoth_70 : decode cX7_layBoth 70 = .ok (.return_, 1) := by decide +kernel
theorem dX7_natural_0 : decode cX7_natural 0 = .ok (.aload_n 0, 1) := by decide +kernel
theorem dX7_natural_1 : decode cX7_natural 1 = .ok (.iload_n 1, 1) := by decide +kernel
theorem dX7_natural_2 : decode cX7_natural 2 = .ok (.invokevirtual 141, 3) := by decide +kernel
theorem dX7_natural_5 : decode cX7_natural 5 = .ok (.ifCond .eq 12, 3) := by decide +kernel
theorem dX7_natural_8 : decode cX7_natural 8 = .ok (.iload_n 2, 1) := by decide +kernel
theorem dX7_natural_9 : decode cX7_natural 9 = .ok (.iconst 0, 1) := by decide +kernel
theorem dX7_natural_10 : decode cX7_natural 10 = .ok (.iconst 1, 1) := by decide +kernel
theorem dX7_natural_11 : decode cX7_natural 11 = .ok (.invokestatic 119, 3) := by decide +kernel
theorem dX7_natural_14 : decode cX7_natural 14 = .ok (.ifCond .ne 5, 3) := by decide +kernel
theorem dX7_natural_17 : decode cX7_natural 17 = .ok (.iconst (-1), 1) := by decide +kernel
theorem dX7_natural_18 : decode cX7_natural 18 = .ok (.ireturn, 1) := by decide +kernel
theorem dX7_natural_19 : decode cX7_natural 19 = .ok (.aload_n 0, 1) := by decide +kernel
theorem dX7_natural_20 : decode cX7_natural 20 = .ok (.invokevirtual 192, 3) := by decide +kernel
theorem dX7_natural_23 : decode cX7_natural 23 = .ok (.iload_n 2, 1) := by decide +kernel
theorem dX7_natural_24 : decode cX7_natural 24 = .ok (.ifCond .ne 12, 3) := by decide +kernel
theorem dX7_natural_27 : decode cX7_natural 27 = .ok (.aload_n 0, 1) := by decide +kernel
theorem dX7_natural_28 : decode cX7_natural 28 = .ok (.getfield 65, 3) := by decide +kernel
theorem dX7_natural_31 : decode cX7_natural 31 = .ok (.iload_n 1, 1) := by decide +kernel
theorem dX7_natural_32 : decode cX7_natural 32 = .ok (.iaload, 1) := by decide +kernel
theorem dX7_natural_33 : decode cX7_natural 33 = .ok (.goto 9, 3) := by decide +kernel
theorem dX7_natural_36 : decode cX7_natural 36 = .ok (.aload_n 0, 1) := by decide +kernel
theorem dX7_natural_37 : decode cX7_natural 37 = .ok (.getfield 68, 3) := by decide +kernel
theorem dX7_natural_40 : decode cX7_natural 40 = .ok (.iload_n 1, 1) := by decide +kernel
theorem dX7_natural_41 : decode cX7_natural 41 = .ok (.iaload, 1) := by decide +kernel
theorem dX7_natural_42 : decode cX7_natural 42 = .ok (.ireturn, 1) := by decide +kernel
theorem dX7_sumOf_0 : decode cX7_sumOf 0 = .ok (.iconst 0, 1) := by decide +kernel
theorem dX7_sumOf_1 : decode cX7_sumOf 1 = .ok (.istore_n 2, 1) := by decide +kernel
theorem dX7_sumOf_2 : decode cX7_sumOf 2 = .ok (.iconst 0, 1) := by decide +kernel
theorem dX7_sumOf_3 : decode cX7_sumOf 3 = .ok (.istore_n 3, 1) := by decide +kernel
theorem dX7_sumOf_4 : decode cX7_sumOf 4 = .ok (.iload_n 3, 1) := by decide +kernel
theorem dX7_sumOf_5 : decode cX7_sumOf 5 = .ok (.aload_n 0, 1) := by decide +kernel
theorem dX7_sumOf_6 : decode cX7_sumOf 6 = .ok (.getfield 126, 3) := by decide +kernel
theorem dX7_sumOf_9 : decode cX7_sumOf 9 = .ok (.if_icmp .ge 15, 3) := by decide +kernel
theorem dX7_sumOf_12 : decode cX7_sumOf 12 = .ok (.iload_n 2, 1) := by decide +kernel
theorem dX7_sumOf_13 : decode cX7_sumOf 13 = .ok (.aload_n 1, 1) := by decide +kernel
theorem dX7_sumOf_14 : decode cX7_sumOf 14 = .ok (.iload_n 3, 1) := by decide +kernel
theorem dX7_sumOf_15 : decode cX7_sumOf 15 = .ok (.iaload, 1) := by decide +kernel
theorem dX7_sumOf_16 : decode cX7_sumOf 16 = .ok (.iadd, 1) := by decide +kernel
theorem dX7_sumOf_17 : decode cX7_sumOf 17 = .ok (.istore_n 2, 1) := by decide +kernel
theorem dX7_sumOf_18 : decode cX7_sumOf 18 = .ok (.iinc 3 1, 3) := by decide +kernel
theorem dX7_sumOf_21 : decode cX7_sumOf 21 = .ok (.goto (-17), 3) := by decide +kernel
theorem dX7_sumOf_24 : decode cX7_sumOf 24 = .ok (.iload_n 2, 1) := by decide +kernel
theorem dX7_sumOf_25 : decode cX7_sumOf 25 = .ok (.ireturn, 1) := by decide +kernel
theorem dX7_set_0 : decode cX7_set 0 = .ok (.iload_n 1, 1) := by decide +kernel
theorem dX7_set_1 : decode cX7_set 1 = .ok (.iconst 0, 1) := by decide +kernel
theorem dX7_set_2 : decode cX7_set 2 = .ok (.sipush 400, 3) := by decide +kernel
theorem dX7_set_5 : decode cX7_set 5 = .ok (.invokestatic 119, 3) := by decide +kernel
theorem dX7_set_8 : decode cX7_set 8 = .ok (.ifCond .ne 5, 3) := by decide +kernel
theorem dX7_set_11 : decode cX7_set 11 = .ok (.iconst (-1), 1) := by decide +kernel
theorem dX7_set_12 : decode cX7_set 12 = .ok (.ireturn, 1) := by decide +kernel
theorem dX7_set_13 : decode cX7_set 13 = .ok (.aload_n 0, 1) := by decide +kernel
theorem dX7_set_14 : decode cX7_set 14 = .ok (.invokevirtual 192, 3) := by decide +kernel
theorem dX7_set_17 : decode cX7_set 17 = .ok (.iload_n 1, 1) := by decide +kernel
theorem dX7_set_18 : decode cX7_set 18 = .ok (.aload_n 0, 1) := by decide +kernel
theorem dX7_set_19 : decode cX7_set 19 = .ok (.getfield 126, 3) := by decide +kernel
theorem dX7_set_22 : decode cX7_set 22 = .ok (.iconst 1, 1) := by decide +kernel
theorem dX7_set_23 : decode cX7_set 23 = .ok (.isub, 1) := by decide +kernel
theorem dX7_set_24 : decode cX7_set 24 = .ok (.aload_n 0, 1) := by decide +kernel
theorem dX7_set_25 : decode cX7_set 25 = .ok (.getfield 129, 3) := by decide +kernel
theorem dX7_set_28 : decode cX7_set 28 = .ok (.imul, 1) := by decide +kernel
theorem dX7_set_29 : decode cX7_set 29 = .ok (.isub, 1) := by decide +kernel
theorem dX7_set_30 : decode cX7_set 30 = .ok (.istore_n 2, 1) := by decide +kernel
theorem dX7_set_31 : decode cX7_set 31 = .ok (.iload_n 2, 1) := by decide +kernel
theorem dX7_set_32 : decode cX7_set 32 = .ok (.aload_n 0, 1) := by decide +kernel
theorem dX7_set_33 : decode cX7_set 33 = .ok (.aload_n 0, 1) := by decide +kernel
theorem dX7_set_34 : decode cX7_set 34 = .ok (.getfield 65, 3) := by decide +kernel
theorem dX7_set_37 : decode cX7_set 37 = .ok (.invokevirtual 195, 3) := by decide +kernel
theorem dX7_set_40 : decode cX7_set 40 = .ok (.if_icmp .ge 6, 3) := by decide +kernel
theorem dX7_set_43 : decode cX7_set 43 = .ok (.bipush (-4), 2) := by decide +kernel
theorem dX7_set_45 : decode cX7_set 45 = .ok (.ireturn, 1) := by decide +kernel
theorem dX7_set_46 : decode cX7_set 46 = .ok (.iload_n 2, 1) := by decide +kernel
theorem dX7_set_47 : decode cX7_set 47 = .ok (.aload_n 0, 1) := by decide +kernel
theorem dX7_set_48 : decode cX7_set 48 = .ok (.aload_n 0, 1) := by decide +kernel
theorem dX7_set_49 : decode cX7_set 49 = .ok (.getfield 68, 3) := by decide +kernel
theorem dX7_set_52 : decode cX7_set 52 = .ok (.invokevirtual 195, 3) := by decide +kernel
theorem dX7_set_55 : decode cX7_set 55 = .ok (.if_icmp .le 7, 3) := by decide +kernel
theorem dX7_set_58 : decode cX7_set 58 = .ok (.iconst 1, 1) := by decide +kernel
theorem dX7_set_59 : decode cX7_set 59 = .ok (.goto 4, 3) := by decide +kernel
theorem dX7_set_62 : decode cX7_set 62 = .ok (.iconst 0, 1) := by decide +kernel
theorem dX7_set_63 : decode cX7_set 63 = .ok (.istore_n 3, 1) := by decide +kernel
theorem dX7_set_64 : decode cX7_set 64 = .ok (.aload_n 0, 1) := by decide +kernel
theorem dX7_set_65 : decode cX7_set 65 = .ok (.aload_n 0, 1) := by decide +kernel
theorem dX7_set_66 : decode cX7_set 66 = .ok (.getfield 68, 3) := by decide +kernel
theorem dX7_set_69 : decode cX7_set 69 = .ok (.invokevirtual 195, 3) := by decide +kernel
theorem dX7_set_72 : decode cX7_set 72 = .ok (.aload_n 0, 1) := by decide +kernel
theorem dX7_set_73 : decode cX7_set 73 = .ok (.aload_n 0, 1) := by decide +kernel
theorem dX7_set_74 : decode cX7_set 74 = .ok (.getfield 65, 3) := by decide +kernel
theorem dX7_set_77 : decode cX7_set 77 = .ok (.invokevirtual 195, 3) := by decide +kernel
theorem dX7_set_80 : decode cX7_set 80 = .ok (.if_icmp .ne 7, 3) := by decide +kernel
theorem dX7_set_83 : decode cX7_set 83 = .ok (.iconst 1, 1) := by decide +kernel
theorem dX7_set_84 : decode cX7_set 84 = .ok (.goto 4, 3) := by decide +kernel
theorem dX7_set_87 : decode cX7_set 87 = .ok (.iconst 0, 1) := by decide +kernel
theorem dX7_set_88 : decode cX7_set 88 = .ok (.istore 4, 2) := by decide +kernel
theorem dX7_set_90 : decode cX7_set 90 = .ok (.iconst 0, 1) := by decide +kernel
theorem dX7_set_91 : decode cX7_set 91 = .ok (.istore 5, 2) := by decide +kernel
theorem dX7_set_93 : decode cX7_set 93 = .ok (.iload 5, 2) := by decide +kernel
theorem dX7_set_95 : decode cX7_set 95 = .ok (.aload_n 0, 1) := by decide +kernel
theorem dX7_set_96 : decode cX7_set 96 = .ok (.getfield 126, 3) := by decide +kernel
theorem dX7_set_99 : decode cX7_set 99 = .ok (.if_icmp .ge 50, 3) := by decide +kernel
theorem dX7_set_102 : decode cX7_set 102 = .ok (.aload_n 0, 1) := by decide +kernel
theorem dX7_set_103 : decode cX7_set 103 = .ok (.getfield 53, 3) := by decide +kernel
theorem dX7_set_106 : decode cX7_set 106 = .ok (.iload 5, 2) := by decide +kernel
theorem dX7_set_108 : decode cX7_set 108 = .ok (.iload_n 3, 1) := by decide +kernel
theorem dX7_set_109 : decode cX7_set 109 = .ok (.ifCond .ne 8, 3) := by decide +kernel
theorem dX7_set_112 : decode cX7_set 112 = .ok (.iload 4, 2) := by decide +kernel
theorem dX7_set_114 : decode cX7_set 114 = .ok (.ifCond .eq 13, 3) := by decide +kernel
theorem dX7_set_117 : decode cX7_set 117 = .ok (.aload_n 0, 1) := by decide +kernel
theorem dX7_set_118 : decode cX7_set 118 = .ok (.getfield 13, 3) := by decide +kernel
theorem dX7_set_121 : decode cX7_set 121 = .ok (.iload 5, 2) := by decide +kernel
theorem dX7_set_123 : decode cX7_set 123 = .ok (.iaload, 1) := by decide +kernel
theorem dX7_set_124 : decode cX7_set 124 = .ok (.goto 18, 3) := by decide +kernel
theorem dX7_set_127 : decode cX7_set 127 = .ok (.aload_n 0, 1) := by decide +kernel
theorem dX7_set_128 : decode cX7_set 128 = .ok (.getfield 68, 3) := by decide +kernel
theorem dX7_set_131 : decode cX7_set 131 = .ok (.iload 5, 2) := by decide +kernel
theorem dX7_set_133 : decode cX7_set 133 = .ok (.iaload, 1) := by decide +kernel
theorem dX7_set_134 : decode cX7_set 134 = .ok (.aload_n 0, 1) := by decide +kernel
theorem dX7_set_135 : decode cX7_set 135 = .ok (.getfield 65, 3) := by decide +kernel
theorem dX7_set_138 : decode cX7_set 138 = .ok (.iload 5, 2) := by decide +kernel
theorem dX7_set_140 : decode cX7_set 140 = .ok (.iaload, 1) := by decide +kernel
theorem dX7_set_141 : decode cX7_set 141 = .ok (.isub, 1) := by decide +kernel
theorem dX7_set_142 : decode cX7_set 142 = .ok (.iastore, 1) := by decide +kernel
theorem dX7_set_143 : decode cX7_set 143 = .ok (.iinc 5 1, 3) := by decide +kernel
theorem dX7_set_146 : decode cX7_set 146 = .ok (.goto (-53), 3) := by decide +kernel
theorem dX7_set_149 : decode cX7_set 149 = .ok (.aload_n 0, 1) := by decide +kernel
theorem dX7_set_150 : decode cX7_set 150 = .ok (.iload_n 2, 1) := by decide +kernel
theorem dX7_set_151 : decode cX7_set 151 = .ok (.iload_n 3, 1) := by decide +kernel
theorem dX7_set_152 : decode cX7_set 152 = .ok (.ifCond .eq 14, 3) := by decide +kernel
theorem dX7_set_155 : decode cX7_set 155 = .ok (.aload_n 0, 1) := by decide +kernel
theorem dX7_set_156 : decode cX7_set 156 = .ok (.aload_n 0, 1) := by decide +kernel
theorem dX7_set_157 : decode cX7_set 157 = .ok (.getfield 68, 3) := by decide +kernel
theorem dX7_set_160 : decode cX7_set 160 = .ok (.invokevirtual 195, 3) := by decide +kernel
theorem dX7_set_163 : decode cX7_set 163 = .ok (.goto 11, 3) := by decide +kernel
theorem dX7_set_166 : decode cX7_set 166 = .ok (.aload_n 0, 1) := by decide +kernel
theorem dX7_set_167 : decode cX7_set 167 = .ok (.aload_n 0, 1) := by decide +kernel
theorem dX7_set_168 : decode cX7_set 168 = .ok (.getfield 65, 3) := by decide +kernel
theorem dX7_set_171 : decode cX7_set 171 = .ok (.invokevirtual 195, 3) := by decide +kernel
theorem dX7_set_174 : decode cX7_set 174 = .ok (.isub, 1) := by decide +kernel
theorem dX7_set_175 : decode cX7_set 175 = .ok (.iconst 0, 1) := by decide +kernel
theorem dX7_set_176 : decode cX7_set 176 = .ok (.aload_n 0, 1) := by decide +kernel
theorem dX7_set_177 : decode cX7_set 177 = .ok (.getfield 126, 3) := by decide +kernel
theorem dX7_set_180 : decode cX7_set 180 = .ok (.invokevirtual 185, 3) := by decide +kernel
theorem dX7_set_183 : decode cX7_set 183 = .ok (.iconst 0, 1) := by decide +kernel
theorem dX7_set_184 : decode cX7_set 184 = .ok (.istore 5, 2) := by decide +kernel
theorem dX7_set_186 : decode cX7_set 186 = .ok (.iload 5, 2) := by decide +kernel
theorem dX7_set_188 : decode cX7_set 188 = .ok (.aload_n 0, 1) := by decide +kernel
theorem dX7_set_189 : decode cX7_set 189 = .ok (.getfield 126, 3) := by decide +kernel
theorem dX7_set_192 : decode cX7_set 192 = .ok (.if_icmp .ge 45, 3) := by decide +kernel
theorem dX7_set_195 : decode cX7_set 195 = .ok (.aload_n 0, 1) := by decide +kernel
theorem dX7_set_196 : decode cX7_set 196 = .ok (.getfield 62, 3) := by decide +kernel
theorem dX7_set_199 : decode cX7_set 199 = .ok (.iload 5, 2) := by decide +kernel
theorem dX7_set_201 : decode cX7_set 201 = .ok (.iload_n 3, 1) := by decide +kernel
theorem dX7_set_202 : decode cX7_set 202 = .ok (.ifCond .eq 13, 3) := by decide +kernel
theorem dX7_set_205 : decode cX7_set 205 = .ok (.aload_n 0, 1) := by decide +kernel
theorem dX7_set_206 : decode cX7_set 206 = .ok (.getfield 68, 3) := by decide +kernel
theorem dX7_set_209 : decode cX7_set 209 = .ok (.iload 5, 2) := by decide +kernel
theorem dX7_set_211 : decode cX7_set 211 = .ok (.iaload, 1) := by decide +kernel
theorem dX7_set_212 : decode cX7_set 212 = .ok (.goto 10, 3) := by decide +kernel
theorem dX7_set_215 : decode cX7_set 215 = .ok (.aload_n 0, 1) := by decide +kernel
theorem dX7_set_216 : decode cX7_set 216 = .ok (.getfield 65, 3) := by decide +kernel
theorem dX7_set_219 : decode cX7_set 219 = .ok (.iload 5, 2) := by decide +kernel
theorem dX7_set_221 : decode cX7_set 221 = .ok (.iaload, 1) := by decide +kernel
theorem dX7_set_222 : decode cX7_set 222 = .ok (.aload_n 0, 1) := by decide +kernel
theorem dX7_set_223 : decode cX7_set 223 = .ok (.getfield 56, 3) := by decide +kernel
theorem dX7_set_226 : decode cX7_set 226 = .ok (.iload 5, 2) := by decide +kernel
theorem dX7_set_228 : decode cX7_set 228 = .ok (.iaload, 1) := by decide +kernel
theorem dX7_set_229 : decode cX7_set 229 = .ok (.iadd, 1) := by decide +kernel
theorem dX7_set_230 : decode cX7_set 230 = .ok (.iastore, 1) := by decide +kernel
theorem dX7_set_231 : decode cX7_set 231 = .ok (.iinc 5 1, 3) := by decide +kernel
theorem dX7_set_234 : decode cX7_set 234 = .ok (.goto (-48), 3) := by decide +kernel
theorem dX7_set_237 : decode cX7_set 237 = .ok (.aload_n 0, 1) := by decide +kernel
theorem dX7_set_238 : decode cX7_set 238 = .ok (.aload_n 0, 1) := by decide +kernel
theorem dX7_set_239 : decode cX7_set 239 = .ok (.getfield 62, 3) := by decide +kernel
theorem dX7_set_242 : decode cX7_set 242 = .ok (.invokevirtual 199, 3) := by decide +kernel
theorem dX7_set_245 : decode cX7_set 245 = .ok (.ireturn, 1) := by decide +kernel
theorem dX7_layHeights_0 : decode cX7_layHeights 0 = .ok (.iconst 0, 1) := by decide +kernel
theorem dX7_layHeights_1 : decode cX7_layHeights 1 = .ok (.istore_n 2, 1) := by decide +kernel
theorem dX7_layHeights_2 : decode cX7_layHeights 2 = .ok (.iload_n 2, 1) := by decide +kernel
theorem dX7_layHeights_3 : decode cX7_layHeights 3 = .ok (.aload_n 0, 1) := by decide +kernel
theorem dX7_layHeights_4 : decode cX7_layHeights 4 = .ok (.getfield 123, 3) := by decide +kernel
theorem dX7_layHeights_7 : decode cX7_layHeights 7 = .ok (.if_icmp .ge 16, 3) := by decide +kernel
theorem dX7_layHeights_10 : decode cX7_layHeights 10 = .ok (.aload_n 0, 1) := by decide +kernel
theorem dX7_layHeights_11 : decode cX7_layHeights 11 = .ok (.getfield 74, 3) := by decide +kernel
theorem dX7_layHeights_14 : decode cX7_layHeights 14 = .ok (.iload_n 2, 1) := by decide +kernel
theorem dX7_layHeights_15 : decode cX7_layHeights 15 = .ok (.iconst 1, 1) := by decide +kernel
theorem dX7_layHeights_16 : decode cX7_layHeights 16 = .ok (.iastore, 1) := by decide +kernel
theorem dX7_layHeights_17 : decode cX7_layHeights 17 = .ok (.iinc 2 1, 3) := by decide +kernel
theorem dX7_layHeights_20 : decode cX7_layHeights 20 = .ok (.goto (-18), 3) := by decide +kernel
theorem dX7_layHeights_23 : decode cX7_layHeights 23 = .ok (.iconst 1, 1) := by decide +kernel
theorem dX7_layHeights_24 : decode cX7_layHeights 24 = .ok (.istore_n 2, 1) := by decide +kernel
theorem dX7_layHeights_25 : decode cX7_layHeights 25 = .ok (.iload_n 2, 1) := by decide +kernel
theorem dX7_layHeights_26 : decode cX7_layHeights 26 = .ok (.aload_n 0, 1) := by decide +kernel
theorem dX7_layHeights_27 : decode cX7_layHeights 27 = .ok (.getfield 123, 3) := by decide +kernel
theorem dX7_layHeights_30 : decode cX7_layHeights 30 = .ok (.if_icmp .gt 204, 3) := by decide +kernel
theorem dX7_layHeights_33 : decode cX7_layHeights 33 = .ok (.iconst 0, 1) := by decide +kernel
theorem dX7_layHeights_34 : decode cX7_layHeights 34 = .ok (.istore_n 3, 1) := by decide +kernel
theorem dX7_layHeights_35 : decode cX7_layHeights 35 = .ok (.iload_n 3, 1) := by decide +kernel
theorem dX7_layHeights_36 : decode cX7_layHeights 36 = .ok (.aload_n 0, 1) := by decide +kernel
theorem dX7_layHeights_37 : decode cX7_layHeights 37 = .ok (.getfield 123, 3) := by decide +kernel
theorem dX7_layHeights_40 : decode cX7_layHeights 40 = .ok (.if_icmp .ge 16, 3) := by decide +kernel
theorem dX7_layHeights_43 : decode cX7_layHeights 43 = .ok (.aload_n 0, 1) := by decide +kernel
theorem dX7_layHeights_44 : decode cX7_layHeights 44 = .ok (.getfield 77, 3) := by decide +kernel
theorem dX7_layHeights_47 : decode cX7_layHeights 47 = .ok (.iload_n 3, 1) := by decide +kernel
theorem dX7_layHeights_48 : decode cX7_layHeights 48 = .ok (.iconst 0, 1) := by decide +kernel
theorem dX7_layHeights_49 : decode cX7_layHeights 49 = .ok (.iastore, 1) := by decide +kernel
theorem dX7_layHeights_50 : decode cX7_layHeights 50 = .ok (.iinc 3 1, 3) := by decide +kernel
theorem dX7_layHeights_53 : decode cX7_layHeights 53 = .ok (.goto (-18), 3) := by decide +kernel
theorem dX7_layHeights_56 : decode cX7_layHeights 56 = .ok (.iconst 0, 1) := by decide +kernel
theorem dX7_layHeights_57 : decode cX7_layHeights 57 = .ok (.istore_n 3, 1) := by decide +kernel
theorem dX7_layHeights_58 : decode cX7_layHeights 58 = .ok (.iload_n 3, 1) := by decide +kernel
theorem dX7_layHeights_59 : decode cX7_layHeights 59 = .ok (.aload_n 0, 1) := by decide +kernel
theorem dX7_layHeights_60 : decode cX7_layHeights 60 = .ok (.getfield 132, 3) := by decide +kernel
theorem dX7_layHeights_63 : decode cX7_layHeights 63 = .ok (.if_icmp .ge 134, 3) := by decide +kernel
theorem dX7_layHeights_66 : decode cX7_layHeights 66 = .ok (.aload_n 0, 1) := by decide +kernel
theorem dX7_layHeights_67 : decode cX7_layHeights 67 = .ok (.getfield 34, 3) := by decide +kernel
theorem dX7_layHeights_70 : decode cX7_layHeights 70 = .ok (.iload_n 3, 1) := by decide +kernel
theorem dX7_layHeights_71 : decode cX7_layHeights 71 = .ok (.baload, 1) := by decide +kernel
theorem dX7_layHeights_72 : decode cX7_layHeights 72 = .ok (.ifCond .ne 119, 3) := by decide +kernel
theorem dX7_layHeights_75 : decode cX7_layHeights 75 = .ok (.aload_n 0, 1) := by decide +kernel
theorem dX7_layHeights_76 : decode cX7_layHeights 76 = .ok (.getfield 28, 3) := by decide +kernel
theorem dX7_layHeights_79 : decode cX7_layHeights 79 = .ok (.iload_n 3, 1) := by decide +kernel
theorem dX7_layHeights_80 : decode cX7_layHeights 80 = .ok (.iaload, 1) := by decide +kernel
theorem dX7_layHeights_81 : decode cX7_layHeights 81 = .ok (.iload_n 2, 1) := by decide +kernel
theorem dX7_layHeights_82 : decode cX7_layHeights 82 = .ok (.if_icmp .ne 109, 3) := by decide +kernel
theorem dX7_layHeights_85 : decode cX7_layHeights 85 = .ok (.aload_n 0, 1) := by decide +kernel
theorem dX7_layHeights_86 : decode cX7_layHeights 86 = .ok (.iload_n 3, 1) := by decide +kernel
theorem dX7_layHeights_87 : decode cX7_layHeights 87 = .ok (.aload_n 0, 1) := by decide +kernel
theorem dX7_layHeights_88 : decode cX7_layHeights 88 = .ok (.aload_n 1, 1) := by decide +kernel
theorem dX7_layHeights_89 : decode cX7_layHeights 89 = .ok (.aload_n 0, 1) := by decide +kernel
theorem dX7_layHeights_90 : decode cX7_layHeights 90 = .ok (.getfield 25, 3) := by decide +kernel
theorem dX7_layHeights_93 : decode cX7_layHeights 93 = .ok (.iload_n 3, 1) := by decide +kernel
theorem dX7_layHeights_94 : decode cX7_layHeights 94 = .ok (.iaload, 1) := by decide +kernel
theorem dX7_layHeights_95 : decode cX7_layHeights 95 = .ok (.aload_n 0, 1) := by decide +kernel
theorem dX7_layHeights_96 : decode cX7_layHeights 96 = .ok (.getfield 31, 3) := by decide +kernel
theorem dX7_layHeights_99 : decode cX7_layHeights 99 = .ok (.iload_n 3, 1) := by decide +kernel
theorem dX7_layHeights_100 : decode cX7_layHeights 100 = .ok (.iaload, 1) := by decide +kernel
theorem dX7_layHeights_101 : decode cX7_layHeights 101 = .ok (.invokevirtual 178, 3) := by decide +kernel
theorem dX7_layHeights_104 : decode cX7_layHeights 104 = .ok (.invokevirtual 172, 3) := by decide +kernel
theorem dX7_layHeights_107 : decode cX7_layHeights 107 = .ok (.istore 4, 2) := by decide +kernel
theorem dX7_layHeights_109 : decode cX7_layHeights 109 = .ok (.aload_n 0, 1) := by decide +kernel
theorem dX7_layHeights_110 : decode cX7_layHeights 110 = .ok (.getfield 22, 3) := by decide +kernel
theorem dX7_layHeights_113 : decode cX7_layHeights 113 = .ok (.iload_n 3, 1) := by decide +kernel
theorem dX7_layHeights_114 : decode cX7_layHeights 114 = .ok (.iaload, 1) := by decide +kernel
theorem dX7_layHeights_115 : decode cX7_layHeights 115 = .ok (.istore 5, 2) := by decide +kernel
theorem dX7_layHeights_117 : decode cX7_layHeights 117 = .ok (.iload 5, 2) := by decide +kernel
theorem dX7_layHeights_119 : decode cX7_layHeights 119 = .ok (.aload_n 0, 1) := by decide +kernel
theorem dX7_layHeights_120 : decode cX7_layHeights 120 = .ok (.getfield 22, 3) := by decide +kernel
theorem dX7_layHeights_123 : decode cX7_layHeights 123 = .ok (.iload_n 3, 1) := by decide +kernel
theorem dX7_layHeights_124 : decode cX7_layHeights 124 = .ok (.iaload, 1) := by decide +kernel
theorem dX7_layHeights_125 : decode cX7_layHeights 125 = .ok (.iload_n 2, 1) := by decide +kernel
theorem dX7_layHeights_126 : decode cX7_layHeights 126 = .ok (.iadd, 1) := by decide +kernel
theorem dX7_layHeights_127 : decode cX7_layHeights 127 = .ok (.if_icmp .ge 21, 3) := by decide +kernel
theorem dX7_layHeights_130 : decode cX7_layHeights 130 = .ok (.iload 4, 2) := by decide +kernel
theorem dX7_layHeights_132 : decode cX7_layHeights 132 = .ok (.aload_n 0, 1) := by decide +kernel
theorem dX7_layHeights_133 : decode cX7_layHeights 133 = .ok (.getfield 74, 3) := by decide +kernel
theorem dX7_layHeights_136 : decode cX7_layHeights 136 = .ok (.iload 5, 2) := by decide +kernel
theorem dX7_layHeights_138 : decode cX7_layHeights 138 = .ok (.iaload, 1) := by decide +kernel
theorem dX7_layHeights_139 : decode cX7_layHeights 139 = .ok (.isub, 1) := by decide +kernel
theorem dX7_layHeights_140 : decode cX7_layHeights 140 = .ok (.istore 4, 2) := by decide +kernel
theorem dX7_layHeights_142 : decode cX7_layHeights 142 = .ok (.iinc 5 1, 3) := by decide +kernel
theorem dX7_layHeights_145 : decode cX7_layHeights 145 = .ok (.goto (-28), 3) := by decide +kernel
theorem dX7_layHeights_148 : decode cX7_layHeights 148 = .ok (.aload_n 0, 1) := by decide +kernel
theorem dX7_layHeights_149 : decode cX7_layHeights 149 = .ok (.getfield 22, 3) := by decide +kernel
theorem dX7_layHeights_152 : decode cX7_layHeights 152 = .ok (.iload_n 3, 1) := by decide +kernel
theorem dX7_layHeights_153 : decode cX7_layHeights 153 = .ok (.iaload, 1) := by decide +kernel
theorem dX7_layHeights_154 : decode cX7_layHeights 154 = .ok (.iload_n 2, 1) := by decide +kernel
theorem dX7_layHeights_155 : decode cX7_layHeights 155 = .ok (.iadd, 1) := by decide +kernel
theorem dX7_layHeights_156 : decode cX7_layHeights 156 = .ok (.iconst 1, 1) := by decide +kernel
theorem dX7_layHeights_157 : decode cX7_layHeights 157 = .ok (.isub, 1) := by decide +kernel
theorem dX7_layHeights_158 : decode cX7_layHeights 158 = .ok (.istore 5, 2) := by decide +kernel
theorem dX7_layHeights_160 : decode cX7_layHeights 160 = .ok (.aload_n 0, 1) := by decide +kernel
theorem dX7_layHeights_161 : decode cX7_layHeights 161 = .ok (.getfield 77, 3) := by decide +kernel
theorem dX7_layHeights_164 : decode cX7_layHeights 164 = .ok (.iload 5, 2) := by decide +kernel
theorem dX7_layHeights_166 : decode cX7_layHeights 166 = .ok (.iload 4, 2) := by decide +kernel
theorem dX7_layHeights_168 : decode cX7_layHeights 168 = .ok (.aload_n 0, 1) := by decide +kernel
theorem dX7_layHeights_169 : decode cX7_layHeights 169 = .ok (.getfield 77, 3) := by decide +kernel
theorem dX7_layHeights_172 : decode cX7_layHeights 172 = .ok (.iload 5, 2) := by decide +kernel
theorem dX7_layHeights_174 : decode cX7_layHeights 174 = .ok (.iaload, 1) := by decide +kernel
theorem dX7_layHeights_175 : decode cX7_layHeights 175 = .ok (.if_icmp .le 8, 3) := by decide +kernel
theorem dX7_layHeights_178 : decode cX7_layHeights 178 = .ok (.iload 4, 2) := by decide +kernel
theorem dX7_layHeights_180 : decode cX7_layHeights 180 = .ok (.goto 10, 3) := by decide +kernel
theorem dX7_layHeights_183 : decode cX7_layHeights 183 = .ok (.aload_n 0, 1) := by decide +kernel
theorem dX7_layHeights_184 : decode cX7_layHeights 184 = .ok (.getfield 77, 3) := by decide +kernel
theorem dX7_layHeights_187 : decode cX7_layHeights 187 = .ok (.iload 5, 2) := by decide +kernel
theorem dX7_layHeights_189 : decode cX7_layHeights 189 = .ok (.iaload, 1) := by decide +kernel
theorem dX7_layHeights_190 : decode cX7_layHeights 190 = .ok (.iastore, 1) := by decide +kernel
theorem dX7_layHeights_191 : decode cX7_layHeights 191 = .ok (.iinc 3 1, 3) := by decide +kernel
theorem dX7_layHeights_194 : decode cX7_layHeights 194 = .ok (.goto (-136), 3) := by decide +kernel
theorem dX7_layHeights_197 : decode cX7_layHeights 197 = .ok (.iconst 0, 1) := by decide +kernel
theorem dX7_layHeights_198 : decode cX7_layHeights 198 = .ok (.istore_n 3, 1) := by decide +kernel
theorem dX7_layHeights_199 : decode cX7_layHeights 199 = .ok (.iload_n 3, 1) := by decide +kernel
theorem dX7_layHeights_200 : decode cX7_layHeights 200 = .ok (.aload_n 0, 1) := by decide +kernel
theorem dX7_layHeights_201 : decode cX7_layHeights 201 = .ok (.getfield 123, 3) := by decide +kernel
theorem dX7_layHeights_204 : decode cX7_layHeights 204 = .ok (.if_icmp .ge 24, 3) := by decide +kernel
theorem dX7_layHeights_207 : decode cX7_layHeights 207 = .ok (.aload_n 0, 1) := by decide +kernel
theorem dX7_layHeights_208 : decode cX7_layHeights 208 = .ok (.getfield 74, 3) := by decide +kernel
theorem dX7_layHeights_211 : decode cX7_layHeights 211 = .ok (.iload_n 3, 1) := by decide +kernel
theorem dX7_layHeights_212 : decode cX7_layHeights 212 = .ok (.dup2, 1) := by decide +kernel
theorem dX7_layHeights_213 : decode cX7_layHeights 213 = .ok (.iaload, 1) := by decide +kernel
theorem dX7_layHeights_214 : decode cX7_layHeights 214 = .ok (.aload_n 0, 1) := by decide +kernel
theorem dX7_layHeights_215 : decode cX7_layHeights 215 = .ok (.getfield 77, 3) := by decide +kernel
theorem dX7_layHeights_218 : decode cX7_layHeights 218 = .ok (.iload_n 3, 1) := by decide +kernel
theorem dX7_layHeights_219 : decode cX7_layHeights 219 = .ok (.iaload, 1) := by decide +kernel
theorem dX7_layHeights_220 : decode cX7_layHeights 220 = .ok (.iadd, 1) := by decide +kernel
theorem dX7_layHeights_221 : decode cX7_layHeights 221 = .ok (.iastore, 1) := by decide +kernel
theorem dX7_layHeights_222 : decode cX7_layHeights 222 = .ok (.iinc 3 1, 3) := by decide +kernel
theorem dX7_layHeights_225 : decode cX7_layHeights 225 = .ok (.goto (-26), 3) := by decide +kernel
theorem dX7_layHeights_228 : decode cX7_layHeights 228 = .ok (.iinc 2 1, 3) := by decide +kernel
theorem dX7_layHeights_231 : decode cX7_layHeights 231 = .ok (.goto (-206), 3) := by decide +kernel
theorem dX7_layHeights_234 : decode cX7_layHeights 234 = .ok (.return_, 1) := by decide +kernel
theorem dX7_heightBy_0 : decode cX7_heightBy 0 = .ok (.aload_n 0, 1) := by decide +kernel
theorem dX7_heightBy_1 : decode cX7_heightBy 1 = .ok (.aload_n 1, 1) := by decide +kernel
theorem dX7_heightBy_2 : decode cX7_heightBy 2 = .ok (.invokevirtual 202, 3) := by decide +kernel
theorem dX7_heightBy_5 : decode cX7_heightBy 5 = .ok (.iconst 0, 1) := by decide +kernel
theorem dX7_heightBy_6 : decode cX7_heightBy 6 = .ok (.istore_n 2, 1) := by decide +kernel
theorem dX7_heightBy_7 : decode cX7_heightBy 7 = .ok (.iconst 0, 1) := by decide +kernel
theorem dX7_heightBy_8 : decode cX7_heightBy 8 = .ok (.istore_n 3, 1) := by decide +kernel
theorem dX7_heightBy_9 : decode cX7_heightBy 9 = .ok (.iload_n 3, 1) := by decide +kernel
theorem dX7_heightBy_10 : decode cX7_heightBy 10 = .ok (.aload_n 0, 1) := by decide +kernel
theorem dX7_heightBy_11 : decode cX7_heightBy 11 = .ok (.getfield 123, 3) := by decide +kernel
theorem dX7_heightBy_14 : decode cX7_heightBy 14 = .ok (.if_icmp .ge 18, 3) := by decide +kernel
theorem dX7_heightBy_17 : decode cX7_heightBy 17 = .ok (.iload_n 2, 1) := by decide +kernel
theorem dX7_heightBy_18 : decode cX7_heightBy 18 = .ok (.aload_n 0, 1) := by decide +kernel
theorem dX7_heightBy_19 : decode cX7_heightBy 19 = .ok (.getfield 74, 3) := by decide +kernel
theorem dX7_heightBy_22 : decode cX7_heightBy 22 = .ok (.iload_n 3, 1) := by decide +kernel
theorem dX7_heightBy_23 : decode cX7_heightBy 23 = .ok (.iaload, 1) := by decide +kernel
theorem dX7_heightBy_24 : decode cX7_heightBy 24 = .ok (.iadd, 1) := by decide +kernel
theorem dX7_heightBy_25 : decode cX7_heightBy 25 = .ok (.istore_n 2, 1) := by decide +kernel
theorem dX7_heightBy_26 : decode cX7_heightBy 26 = .ok (.iinc 3 1, 3) := by decide +kernel
theorem dX7_heightBy_29 : decode cX7_heightBy 29 = .ok (.goto (-20), 3) := by decide +kernel
theorem dX7_heightBy_32 : decode cX7_heightBy 32 = .ok (.iload_n 2, 1) := by decide +kernel
theorem dX7_heightBy_33 : decode cX7_heightBy 33 = .ok (.ireturn, 1) := by decide +kernel
theorem dX7_next_0 : decode cX7_next 0 = .ok (.aload_n 0, 1) := by decide +kernel
theorem dX7_next_1 : decode cX7_next 1 = .ok (.getfield 126, 3) := by decide +kernel
theorem dX7_next_4 : decode cX7_next 4 = .ok (.iconst 1, 1) := by decide +kernel
theorem dX7_next_5 : decode cX7_next 5 = .ok (.isub, 1) := by decide +kernel
theorem dX7_next_6 : decode cX7_next 6 = .ok (.istore_n 1, 1) := by decide +kernel
theorem dX7_next_7 : decode cX7_next 7 = .ok (.iload_n 1, 1) := by decide +kernel
theorem dX7_next_8 : decode cX7_next 8 = .ok (.ifCond .le 24, 3) := by decide +kernel
theorem dX7_next_11 : decode cX7_next 11 = .ok (.aload_n 0, 1) := by decide +kernel
theorem dX7_next_12 : decode cX7_next 12 = .ok (.getfield 80, 3) := by decide +kernel
theorem dX7_next_15 : decode cX7_next 15 = .ok (.iload_n 1, 1) := by decide +kernel
theorem dX7_next_16 : decode cX7_next 16 = .ok (.iaload, 1) := by decide +kernel
theorem dX7_next_17 : decode cX7_next 17 = .ok (.aload_n 0, 1) := by decide +kernel
theorem dX7_next_18 : decode cX7_next 18 = .ok (.getfield 65, 3) := by decide +kernel
theorem dX7_next_21 : decode cX7_next 21 = .ok (.iload_n 1, 1) := by decide +kernel
theorem dX7_next_22 : decode cX7_next 22 = .ok (.iaload, 1) := by decide +kernel
theorem dX7_next_23 : decode cX7_next 23 = .ok (.if_icmp .ne 9, 3) := by decide +kernel
theorem dX7_next_26 : decode cX7_next 26 = .ok (.iinc 1 (-1), 3) := by decide +kernel
theorem dX7_next_29 : decode cX7_next 29 = .ok (.goto (-22), 3) := by decide +kernel
theorem dX7_next_32 : decode cX7_next 32 = .ok (.iload_n 1, 1) := by decide +kernel
theorem dX7_next_33 : decode cX7_next 33 = .ok (.ifCond .ne 5, 3) := by decide +kernel
theorem dX7_next_36 : decode cX7_next 36 = .ok (.iconst 0, 1) := by decide +kernel
theorem dX7_next_37 : decode cX7_next 37 = .ok (.ireturn, 1) := by decide +kernel
theorem dX7_next_38 : decode cX7_next 38 = .ok (.aload_n 0, 1) := by decide +kernel
theorem dX7_next_39 : decode cX7_next 39 = .ok (.getfield 80, 3) := by decide +kernel
theorem dX7_next_42 : decode cX7_next 42 = .ok (.iload_n 1, 1) := by decide +kernel
theorem dX7_next_43 : decode cX7_next 43 = .ok (.iaload, 1) := by decide +kernel
theorem dX7_next_44 : decode cX7_next 44 = .ok (.aload_n 0, 1) := by decide +kernel
theorem dX7_next_45 : decode cX7_next 45 = .ok (.getfield 65, 3) := by decide +kernel
theorem dX7_next_48 : decode cX7_next 48 = .ok (.iload_n 1, 1) := by decide +kernel
theorem dX7_next_49 : decode cX7_next 49 = .ok (.iaload, 1) := by decide +kernel
theorem dX7_next_50 : decode cX7_next 50 = .ok (.isub, 1) := by decide +kernel
theorem dX7_next_51 : decode cX7_next 51 = .ok (.iconst 1, 1) := by decide +kernel
theorem dX7_next_52 : decode cX7_next 52 = .ok (.isub, 1) := by decide +kernel
theorem dX7_next_53 : decode cX7_next 53 = .ok (.istore_n 2, 1) := by decide +kernel
theorem dX7_next_54 : decode cX7_next 54 = .ok (.aload_n 0, 1) := by decide +kernel
theorem dX7_next_55 : decode cX7_next 55 = .ok (.getfield 80, 3) := by decide +kernel
theorem dX7_next_58 : decode cX7_next 58 = .ok (.iload_n 1, 1) := by decide +kernel
theorem dX7_next_59 : decode cX7_next 59 = .ok (.aload_n 0, 1) := by decide +kernel
theorem dX7_next_60 : decode cX7_next 60 = .ok (.getfield 65, 3) := by decide +kernel
theorem dX7_next_63 : decode cX7_next 63 = .ok (.iload_n 1, 1) := by decide +kernel
theorem dX7_next_64 : decode cX7_next 64 = .ok (.iaload, 1) := by decide +kernel
theorem dX7_next_65 : decode cX7_next 65 = .ok (.iastore, 1) := by decide +kernel
theorem dX7_next_66 : decode cX7_next 66 = .ok (.aload_n 0, 1) := by decide +kernel
theorem dX7_next_67 : decode cX7_next 67 = .ok (.getfield 80, 3) := by decide +kernel
theorem dX7_next_70 : decode cX7_next 70 = .ok (.iload_n 1, 1) := by decide +kernel
theorem dX7_next_71 : decode cX7_next 71 = .ok (.iconst 1, 1) := by decide +kernel
theorem dX7_next_72 : decode cX7_next 72 = .ok (.isub, 1) := by decide +kernel
theorem dX7_next_73 : decode cX7_next 73 = .ok (.dup2, 1) := by decide +kernel
theorem dX7_next_74 : decode cX7_next 74 = .ok (.iaload, 1) := by decide +kernel
theorem dX7_next_75 : decode cX7_next 75 = .ok (.iconst 1, 1) := by decide +kernel
theorem dX7_next_76 : decode cX7_next 76 = .ok (.iadd, 1) := by decide +kernel
theorem dX7_next_77 : decode cX7_next 77 = .ok (.iastore, 1) := by decide +kernel
theorem dX7_next_78 : decode cX7_next 78 = .ok (.aload_n 0, 1) := by decide +kernel
theorem dX7_next_79 : decode cX7_next 79 = .ok (.getfield 80, 3) := by decide +kernel
theorem dX7_next_82 : decode cX7_next 82 = .ok (.aload_n 0, 1) := by decide +kernel
theorem dX7_next_83 : decode cX7_next 83 = .ok (.getfield 126, 3) := by decide +kernel
theorem dX7_next_86 : decode cX7_next 86 = .ok (.iconst 1, 1) := by decide +kernel
theorem dX7_next_87 : decode cX7_next 87 = .ok (.isub, 1) := by decide +kernel
theorem dX7_next_88 : decode cX7_next 88 = .ok (.dup2, 1) := by decide +kernel
theorem dX7_next_89 : decode cX7_next 89 = .ok (.iaload, 1) := by decide +kernel
theorem dX7_next_90 : decode cX7_next 90 = .ok (.iload_n 2, 1) := by decide +kernel
theorem dX7_next_91 : decode cX7_next 91 = .ok (.iadd, 1) := by decide +kernel
theorem dX7_next_92 : decode cX7_next 92 = .ok (.iastore, 1) := by decide +kernel
theorem dX7_next_93 : decode cX7_next 93 = .ok (.iconst 1, 1) := by decide +kernel
theorem dX7_next_94 : decode cX7_next 94 = .ok (.ireturn, 1) := by decide +kernel
theorem dX7_tight_0 : decode cX7_tight 0 = .ok (.iload_n 1, 1) := by decide +kernel
theorem dX7_tight_1 : decode cX7_tight 1 = .ok (.iconst 0, 1) := by decide +kernel
theorem dX7_tight_2 : decode cX7_tight 2 = .ok (.sipush 400, 3) := by decide +kernel
theorem dX7_tight_5 : decode cX7_tight 5 = .ok (.invokestatic 119, 3) := by decide +kernel
theorem dX7_tight_8 : decode cX7_tight 8 = .ok (.ifCond .eq 14, 3) := by decide +kernel
theorem dX7_tight_11 : decode cX7_tight 11 = .ok (.iload_n 2, 1) := by decide +kernel
theorem dX7_tight_12 : decode cX7_tight 12 = .ok (.iconst 1, 1) := by decide +kernel
theorem dX7_tight_13 : decode cX7_tight 13 = .ok (.sipush 20000, 3) := by decide +kernel
theorem dX7_tight_16 : decode cX7_tight 16 = .ok (.invokestatic 119, 3) := by decide +kernel
theorem dX7_tight_19 : decode cX7_tight 19 = .ok (.ifCond .ne 5, 3) := by decide +kernel
theorem dX7_tight_22 : decode cX7_tight 22 = .ok (.iconst (-1), 1) := by decide +kernel
theorem dX7_tight_23 : decode cX7_tight 23 = .ok (.ireturn, 1) := by decide +kernel
theorem dX7_tight_24 : decode cX7_tight 24 = .ok (.aload_n 0, 1) := by decide +kernel
theorem dX7_tight_25 : decode cX7_tight 25 = .ok (.invokevirtual 192, 3) := by decide +kernel
theorem dX7_tight_28 : decode cX7_tight 28 = .ok (.iload_n 1, 1) := by decide +kernel
theorem dX7_tight_29 : decode cX7_tight 29 = .ok (.aload_n 0, 1) := by decide +kernel
theorem dX7_tight_30 : decode cX7_tight 30 = .ok (.getfield 126, 3) := by decide +kernel
theorem dX7_tight_33 : decode cX7_tight 33 = .ok (.iconst 1, 1) := by decide +kernel
theorem dX7_tight_34 : decode cX7_tight 34 = .ok (.isub, 1) := by decide +kernel
theorem dX7_tight_35 : decode cX7_tight 35 = .ok (.aload_n 0, 1) := by decide +kernel
theorem dX7_tight_36 : decode cX7_tight 36 = .ok (.getfield 129, 3) := by decide +kernel
theorem dX7_tight_39 : decode cX7_tight 39 = .ok (.imul, 1) := by decide +kernel
theorem dX7_tight_40 : decode cX7_tight 40 = .ok (.isub, 1) := by decide +kernel
theorem dX7_tight_41 : decode cX7_tight 41 = .ok (.aload_n 0, 1) := by decide +kernel
theorem dX7_tight_42 : decode cX7_tight 42 = .ok (.aload_n 0, 1) := by decide +kernel
theorem dX7_tight_43 : decode cX7_tight 43 = .ok (.getfield 65, 3) := by decide +kernel
theorem dX7_tight_46 : decode cX7_tight 46 = .ok (.invokevirtual 195, 3) := by decide +kernel
theorem dX7_tight_49 : decode cX7_tight 49 = .ok (.isub, 1) := by decide +kernel
theorem dX7_tight_50 : decode cX7_tight 50 = .ok (.istore_n 3, 1) := by decide +kernel
theorem dX7_tight_51 : decode cX7_tight 51 = .ok (.iload_n 3, 1) := by decide +kernel
theorem dX7_tight_52 : decode cX7_tight 52 = .ok (.ifCond .ge 6, 3) := by decide +kernel
theorem dX7_tight_55 : decode cX7_tight 55 = .ok (.bipush (-4), 2) := by decide +kernel
theorem dX7_tight_57 : decode cX7_tight 57 = .ok (.ireturn, 1) := by decide +kernel
theorem dX7_tight_58 : decode cX7_tight 58 = .ok (.iconst 0, 1) := by decide +kernel
theorem dX7_tight_59 : decode cX7_tight 59 = .ok (.istore 4, 2) := by decide +kernel
theorem dX7_tight_61 : decode cX7_tight 61 = .ok (.iload 4, 2) := by decide +kernel
theorem dX7_tight_63 : decode cX7_tight 63 = .ok (.aload_n 0, 1) := by decide +kernel
theorem dX7_tight_64 : decode cX7_tight 64 = .ok (.getfield 126, 3) := by decide +kernel
theorem dX7_tight_67 : decode cX7_tight 67 = .ok (.if_icmp .ge 23, 3) := by decide +kernel
theorem dX7_tight_70 : decode cX7_tight 70 = .ok (.aload_n 0, 1) := by decide +kernel
theorem dX7_tight_71 : decode cX7_tight 71 = .ok (.getfield 80, 3) := by decide +kernel
theorem dX7_tight_74 : decode cX7_tight 74 = .ok (.iload 4, 2) := by decide +kernel
theorem dX7_tight_76 : decode cX7_tight 76 = .ok (.aload_n 0, 1) := by decide +kernel
theorem dX7_tight_77 : decode cX7_tight 77 = .ok (.getfield 65, 3) := by decide +kernel
theorem dX7_tight_80 : decode cX7_tight 80 = .ok (.iload 4, 2) := by decide +kernel
theorem dX7_tight_82 : decode cX7_tight 82 = .ok (.iaload, 1) := by decide +kernel
theorem dX7_tight_83 : decode cX7_tight 83 = .ok (.iastore, 1) := by decide +kernel
theorem dX7_tight_84 : decode cX7_tight 84 = .ok (.iinc 4 1, 3) := by decide +kernel
theorem dX7_tight_87 : decode cX7_tight 87 = .ok (.goto (-26), 3) := by decide +kernel
theorem dX7_tight_90 : decode cX7_tight 90 = .ok (.aload_n 0, 1) := by decide +kernel
theorem dX7_tight_91 : decode cX7_tight 91 = .ok (.getfield 80, 3) := by decide +kernel
theorem dX7_tight_94 : decode cX7_tight 94 = .ok (.aload_n 0, 1) := by decide +kernel
theorem dX7_tight_95 : decode cX7_tight 95 = .ok (.getfield 126, 3) := by decide +kernel
theorem dX7_tight_98 : decode cX7_tight 98 = .ok (.iconst 1, 1) := by decide +kernel
theorem dX7_tight_99 : decode cX7_tight 99 = .ok (.isub, 1) := by decide +kernel
theorem dX7_tight_100 : decode cX7_tight 100 = .ok (.dup2, 1) := by decide +kernel
theorem dX7_tight_101 : decode cX7_tight 101 = .ok (.iaload, 1) := by decide +kernel
theorem dX7_tight_102 : decode cX7_tight 102 = .ok (.iload_n 3, 1) := by decide +kernel
theorem dX7_tight_103 : decode cX7_tight 103 = .ok (.iadd, 1) := by decide +kernel
theorem dX7_tight_104 : decode cX7_tight 104 = .ok (.iastore, 1) := by decide +kernel
theorem dX7_tight_105 : decode cX7_tight 105 = .ok (.iconst 0, 1) := by decide +kernel
theorem dX7_tight_106 : decode cX7_tight 106 = .ok (.istore 4, 2) := by decide +kernel
theorem dX7_tight_108 : decode cX7_tight 108 = .ok (.aload_n 0, 1) := by decide +kernel
theorem dX7_tight_109 : decode cX7_tight 109 = .ok (.iconst 0, 1) := by decide +kernel
theorem dX7_tight_110 : decode cX7_tight 110 = .ok (.putfield 206, 3) := by decide +kernel
theorem dX7_tight_113 : decode cX7_tight 113 = .ok (.iconst 1, 1) := by decide +kernel
theorem dX7_tight_114 : decode cX7_tight 114 = .ok (.istore 5, 2) := by decide +kernel
theorem dX7_tight_116 : decode cX7_tight 116 = .ok (.iload 5, 2) := by decide +kernel
theorem dX7_tight_118 : decode cX7_tight 118 = .ok (.ifCond .eq 94, 3) := by decide +kernel
theorem dX7_tight_121 : decode cX7_tight 121 = .ok (.aload_n 0, 1) := by decide +kernel
theorem dX7_tight_122 : decode cX7_tight 122 = .ok (.getfield 206, 3) := by decide +kernel
theorem dX7_tight_125 : decode cX7_tight 125 = .ok (.iload_n 2, 1) := by decide +kernel
theorem dX7_tight_126 : decode cX7_tight 126 = .ok (.if_icmp .ne 6, 3) := by decide +kernel
theorem dX7_tight_129 : decode cX7_tight 129 = .ok (.bipush (-6), 2) := by decide +kernel
theorem dX7_tight_131 : decode cX7_tight 131 = .ok (.ireturn, 1) := by decide +kernel
theorem dX7_tight_132 : decode cX7_tight 132 = .ok (.aload_n 0, 1) := by decide +kernel
theorem dX7_tight_133 : decode cX7_tight 133 = .ok (.dup, 1) := by decide +kernel
theorem dX7_tight_134 : decode cX7_tight 134 = .ok (.getfield 206, 3) := by decide +kernel
theorem dX7_tight_137 : decode cX7_tight 137 = .ok (.iconst 1, 1) := by decide +kernel
theorem dX7_tight_138 : decode cX7_tight 138 = .ok (.iadd, 1) := by decide +kernel
theorem dX7_tight_139 : decode cX7_tight 139 = .ok (.putfield 206, 3) := by decide +kernel
theorem dX7_tight_142 : decode cX7_tight 142 = .ok (.aload_n 0, 1) := by decide +kernel
theorem dX7_tight_143 : decode cX7_tight 143 = .ok (.aload_n 0, 1) := by decide +kernel
theorem dX7_tight_144 : decode cX7_tight 144 = .ok (.getfield 80, 3) := by decide +kernel
theorem dX7_tight_147 : decode cX7_tight 147 = .ok (.invokevirtual 199, 3) := by decide +kernel
theorem dX7_tight_150 : decode cX7_tight 150 = .ok (.istore 6, 2) := by decide +kernel
theorem dX7_tight_152 : decode cX7_tight 152 = .ok (.aload_n 0, 1) := by decide +kernel
theorem dX7_tight_153 : decode cX7_tight 153 = .ok (.getfield 206, 3) := by decide +kernel
theorem dX7_tight_156 : decode cX7_tight 156 = .ok (.iconst 1, 1) := by decide +kernel
theorem dX7_tight_157 : decode cX7_tight 157 = .ok (.if_icmp .eq 10, 3) := by decide +kernel
theorem dX7_tight_160 : decode cX7_tight 160 = .ok (.iload 6, 2) := by decide +kernel
theorem dX7_tight_162 : decode cX7_tight 162 = .ok (.iload 4, 2) := by decide +kernel
theorem dX7_tight_164 : decode cX7_tight 164 = .ok (.if_icmp .ge 39, 3) := by decide +kernel
theorem dX7_tight_167 : decode cX7_tight 167 = .ok (.iload 6, 2) := by decide +kernel
theorem dX7_tight_169 : decode cX7_tight 169 = .ok (.istore 4, 2) := by decide +kernel
theorem dX7_tight_171 : decode cX7_tight 171 = .ok (.iconst 0, 1) := by decide +kernel
theorem dX7_tight_172 : decode cX7_tight 172 = .ok (.istore 7, 2) := by decide +kernel
theorem dX7_tight_174 : decode cX7_tight 174 = .ok (.iload 7, 2) := by decide +kernel
theorem dX7_tight_176 : decode cX7_tight 176 = .ok (.aload_n 0, 1) := by decide +kernel
theorem dX7_tight_177 : decode cX7_tight 177 = .ok (.getfield 126, 3) := by decide +kernel
theorem dX7_tight_180 : decode cX7_tight 180 = .ok (.if_icmp .ge 23, 3) := by decide +kernel
theorem dX7_tight_183 : decode cX7_tight 183 = .ok (.aload_n 0, 1) := by decide +kernel
theorem dX7_tight_184 : decode cX7_tight 184 = .ok (.getfield 83, 3) := by decide +kernel
theorem dX7_tight_187 : decode cX7_tight 187 = .ok (.iload 7, 2) := by decide +kernel
theorem dX7_tight_189 : decode cX7_tight 189 = .ok (.aload_n 0, 1) := by decide +kernel
theorem dX7_tight_190 : decode cX7_tight 190 = .ok (.getfield 80, 3) := by decide +kernel
theorem dX7_tight_193 : decode cX7_tight 193 = .ok (.iload 7, 2) := by decide +kernel
theorem dX7_tight_195 : decode cX7_tight 195 = .ok (.iaload, 1) := by decide +kernel
theorem dX7_tight_196 : decode cX7_tight 196 = .ok (.iastore, 1) := by decide +kernel
theorem dX7_tight_197 : decode cX7_tight 197 = .ok (.iinc 7 1, 3) := by decide +kernel
theorem dX7_tight_200 : decode cX7_tight 200 = .ok (.goto (-26), 3) := by decide +kernel
theorem dX7_tight_203 : decode cX7_tight 203 = .ok (.aload_n 0, 1) := by decide +kernel
theorem dX7_tight_204 : decode cX7_tight 204 = .ok (.invokevirtual 209, 3) := by decide +kernel
theorem dX7_tight_207 : decode cX7_tight 207 = .ok (.istore 5, 2) := by decide +kernel
theorem dX7_tight_209 : decode cX7_tight 209 = .ok (.goto (-93), 3) := by decide +kernel
theorem dX7_tight_212 : decode cX7_tight 212 = .ok (.iconst 0, 1) := by decide +kernel
theorem dX7_tight_213 : decode cX7_tight 213 = .ok (.istore 6, 2) := by decide +kernel
theorem dX7_tight_215 : decode cX7_tight 215 = .ok (.iload 6, 2) := by decide +kernel
theorem dX7_tight_217 : decode cX7_tight 217 = .ok (.aload_n 0, 1) := by decide +kernel
theorem dX7_tight_218 : decode cX7_tight 218 = .ok (.getfield 126, 3) := by decide +kernel
theorem dX7_tight_221 : decode cX7_tight 221 = .ok (.if_icmp .ge 23, 3) := by decide +kernel
theorem dX7_tight_224 : decode cX7_tight 224 = .ok (.aload_n 0, 1) := by decide +kernel
theorem dX7_tight_225 : decode cX7_tight 225 = .ok (.getfield 62, 3) := by decide +kernel
theorem dX7_tight_228 : decode cX7_tight 228 = .ok (.iload 6, 2) := by decide +kernel
theorem dX7_tight_230 : decode cX7_tight 230 = .ok (.aload_n 0, 1) := by decide +kernel
theorem dX7_tight_231 : decode cX7_tight 231 = .ok (.getfield 83, 3) := by decide +kernel
theorem dX7_tight_234 : decode cX7_tight 234 = .ok (.iload 6, 2) := by decide +kernel
theorem dX7_tight_236 : decode cX7_tight 236 = .ok (.iaload, 1) := by decide +kernel
theorem dX7_tight_237 : decode cX7_tight 237 = .ok (.iastore, 1) := by decide +kernel
theorem dX7_tight_238 : decode cX7_tight 238 = .ok (.iinc 6 1, 3) := by decide +kernel
theorem dX7_tight_241 : decode cX7_tight 241 = .ok (.goto (-26), 3) := by decide +kernel
theorem dX7_tight_244 : decode cX7_tight 244 = .ok (.iload 4, 2) := by decide +kernel
theorem dX7_tight_246 : decode cX7_tight 246 = .ok (.ireturn, 1) := by decide +kernel
theorem dX7_tries_0 : decode cX7_tries 0 = .ok (.aload_n 0, 1) := by decide +kernel
theorem dX7_tries_1 : decode cX7_tries 1 = .ok (.getfield 206, 3) := by decide +kernel
theorem dX7_tries_4 : decode cX7_tries 4 = .ok (.ireturn, 1) := by decide +kernel
theorem dX7_width_0 : decode cX7_width 0 = .ok (.aload_n 0, 1) := by decide +kernel
theorem dX7_width_1 : decode cX7_width 1 = .ok (.iload_n 1, 1) := by decide +kernel
theorem dX7_width_2 : decode cX7_width 2 = .ok (.invokevirtual 141, 3) := by decide +kernel
theorem dX7_width_5 : decode cX7_width 5 = .ok (.ifCond .eq 12, 3) := by decide +kernel
theorem dX7_width_8 : decode cX7_width 8 = .ok (.aload_n 0, 1) := by decide +kernel
theorem dX7_width_9 : decode cX7_width 9 = .ok (.getfield 62, 3) := by decide +kernel
theorem dX7_width_12 : decode cX7_width 12 = .ok (.iload_n 1, 1) := by decide +kernel
theorem dX7_width_13 : decode cX7_width 13 = .ok (.iaload, 1) := by decide +kernel
theorem dX7_width_14 : decode cX7_width 14 = .ok (.goto 4, 3) := by decide +kernel
theorem dX7_width_17 : decode cX7_width 17 = .ok (.iconst (-1), 1) := by decide +kernel
theorem dX7_width_18 : decode cX7_width 18 = .ok (.ireturn, 1) := by decide +kernel
theorem dX7_height_0 : decode cX7_height 0 = .ok (.aload_n 0, 1) := by decide +kernel
theorem dX7_height_1 : decode cX7_height 1 = .ok (.iload_n 1, 1) := by decide +kernel
theorem dX7_height_2 : decode cX7_height 2 = .ok (.invokevirtual 148, 3) := by decide +kernel
theorem dX7_height_5 : decode cX7_height 5 = .ok (.ifCond .ne 5, 3) := by decide +kernel
theorem dX7_height_8 : decode cX7_height 8 = .ok (.iconst (-1), 1) := by decide +kernel
theorem dX7_height_9 : decode cX7_height 9 = .ok (.ireturn, 1) := by decide +kernel
theorem dX7_height_10 : decode cX7_height 10 = .ok (.aload_n 0, 1) := by decide +kernel
theorem dX7_height_11 : decode cX7_height 11 = .ok (.aload_n 0, 1) := by decide +kernel
theorem dX7_height_12 : decode cX7_height 12 = .ok (.getfield 62, 3) := by decide +kernel
theorem dX7_height_15 : decode cX7_height 15 = .ok (.invokevirtual 202, 3) := by decide +kernel
theorem dX7_height_18 : decode cX7_height 18 = .ok (.aload_n 0, 1) := by decide +kernel
theorem dX7_height_19 : decode cX7_height 19 = .ok (.getfield 74, 3) := by decide +kernel
theorem dX7_height_22 : decode cX7_height 22 = .ok (.iload_n 1, 1) := by decide +kernel
theorem dX7_height_23 : decode cX7_height 23 = .ok (.iaload, 1) := by decide +kernel
theorem dX7_height_24 : decode cX7_height 24 = .ok (.ireturn, 1) := by decide +kernel
theorem dX7_headRows_0 : decode cX7_headRows 0 = .ok (.iconst 0, 1) := by decide +kernel
theorem dX7_headRows_1 : decode cX7_headRows 1 = .ok (.istore_n 1, 1) := by decide +kernel
theorem dX7_headRows_2 : decode cX7_headRows 2 = .ok (.iconst 1, 1) := by decide +kernel
theorem dX7_headRows_3 : decode cX7_headRows 3 = .ok (.istore_n 2, 1) := by decide +kernel
theorem dX7_headRows_4 : decode cX7_headRows 4 = .ok (.iconst 0, 1) := by decide +kernel
theorem dX7_headRows_5 : decode cX7_headRows 5 = .ok (.istore_n 3, 1) := by decide +kernel
theorem dX7_headRows_6 : decode cX7_headRows 6 = .ok (.iload_n 3, 1) := by decide +kernel
theorem dX7_headRows_7 : decode cX7_headRows 7 = .ok (.aload_n 0, 1) := by decide +kernel
theorem dX7_headRows_8 : decode cX7_headRows 8 = .ok (.getfield 123, 3) := by decide +kernel
theorem dX7_headRows_11 : decode cX7_headRows 11 = .ok (.if_icmp .ge 82, 3) := by decide +kernel
theorem dX7_headRows_14 : decode cX7_headRows 14 = .ok (.iload_n 2, 1) := by decide +kernel
theorem dX7_headRows_15 : decode cX7_headRows 15 = .ok (.ifCond .eq 78, 3) := by decide +kernel
theorem dX7_headRows_18 : decode cX7_headRows 18 = .ok (.iconst 0, 1) := by decide +kernel
theorem dX7_headRows_19 : decode cX7_headRows 19 = .ok (.istore_n 2, 1) := by decide +kernel
theorem dX7_headRows_20 : decode cX7_headRows 20 = .ok (.iconst 0, 1) := by decide +kernel
theorem dX7_headRows_21 : decode cX7_headRows 21 = .ok (.istore 4, 2) := by decide +kernel
theorem dX7_headRows_23 : decode cX7_headRows 23 = .ok (.iload 4, 2) := by decide +kernel
theorem dX7_headRows_25 : decode cX7_headRows 25 = .ok (.aload_n 0, 1) := by decide +kernel
theorem dX7_headRows_26 : decode cX7_headRows 26 = .ok (.getfield 126, 3) := by decide +kernel
theorem dX7_headRows_29 : decode cX7_headRows 29 = .ok (.if_icmp .ge 46, 3) := by decide +kernel
theorem dX7_headRows_32 : decode cX7_headRows 32 = .ok (.aload_n 0, 1) := by decide +kernel
theorem dX7_headRows_33 : decode cX7_headRows 33 = .ok (.iload_n 3, 1) := by decide +kernel
theorem dX7_headRows_34 : decode cX7_headRows 34 = .ok (.iload 4, 2) := by decide +kernel
theorem dX7_headRows_36 : decode cX7_headRows 36 = .ok (.invokevirtual 155, 3) := by decide +kernel
theorem dX7_headRows_39 : decode cX7_headRows 39 = .ok (.istore 5, 2) := by decide +kernel
theorem dX7_headRows_41 : decode cX7_headRows 41 = .ok (.iload_n 2, 1) := by decide +kernel
theorem dX7_headRows_42 : decode cX7_headRows 42 = .ok (.ifCond .ne 21, 3) := by decide +kernel
theorem dX7_headRows_45 : decode cX7_headRows 45 = .ok (.iload 5, 2) := by decide +kernel
theorem dX7_headRows_47 : decode cX7_headRows 47 = .ok (.bipush (-9), 2) := by decide +kernel
theorem dX7_headRows_49 : decode cX7_headRows 49 = .ok (.if_icmp .eq 18, 3) := by decide +kernel
theorem dX7_headRows_52 : decode cX7_headRows 52 = .ok (.aload_n 0, 1) := by decide +kernel
theorem dX7_headRows_53 : decode cX7_headRows 53 = .ok (.getfield 19, 3) := by decide +kernel
theorem dX7_headRows_56 : decode cX7_headRows 56 = .ok (.iload 5, 2) := by decide +kernel
theorem dX7_headRows_58 : decode cX7_headRows 58 = .ok (.iaload, 1) := by decide +kernel
theorem dX7_headRows_59 : decode cX7_headRows 59 = .ok (.iconst 1, 1) := by decide +kernel
theorem dX7_headRows_60 : decode cX7_headRows 60 = .ok (.if_icmp .ne 7, 3) := by decide +kernel
theorem dX7_headRows_63 : decode cX7_headRows 63 = .ok (.iconst 1, 1) := by decide +kernel
theorem dX7_headRows_64 : decode cX7_headRows 64 = .ok (.goto 4, 3) := by decide +kernel
theorem dX7_headRows_67 : decode cX7_headRows 67 = .ok (.iconst 0, 1) := by decide +kernel
theorem dX7_headRows_68 : decode cX7_headRows 68 = .ok (.istore_n 2, 1) := by decide +kernel
theorem dX7_headRows_69 : decode cX7_headRows 69 = .ok (.iinc 4 1, 3) := by decide +kernel
theorem dX7_headRows_72 : decode cX7_headRows 72 = .ok (.goto (-49), 3) := by decide +kernel
theorem dX7_headRows_75 : decode cX7_headRows 75 = .ok (.iload_n 1, 1) := by decide +kernel
theorem dX7_headRows_76 : decode cX7_headRows 76 = .ok (.iload_n 2, 1) := by decide +kernel
theorem dX7_headRows_77 : decode cX7_headRows 77 = .ok (.ifCond .eq 7, 3) := by decide +kernel
theorem dX7_headRows_80 : decode cX7_headRows 80 = .ok (.iconst 1, 1) := by decide +kernel
theorem dX7_headRows_81 : decode cX7_headRows 81 = .ok (.goto 4, 3) := by decide +kernel
theorem dX7_headRows_84 : decode cX7_headRows 84 = .ok (.iconst 0, 1) := by decide +kernel
theorem dX7_headRows_85 : decode cX7_headRows 85 = .ok (.iadd, 1) := by decide +kernel
theorem dX7_headRows_86 : decode cX7_headRows 86 = .ok (.istore_n 1, 1) := by decide +kernel
theorem dX7_headRows_87 : decode cX7_headRows 87 = .ok (.iinc 3 1, 3) := by decide +kernel
theorem dX7_headRows_90 : decode cX7_headRows 90 = .ok (.goto (-84), 3) := by decide +kernel
theorem dX7_headRows_93 : decode cX7_headRows 93 = .ok (.iload_n 1, 1) := by decide +kernel
theorem dX7_headRows_94 : decode cX7_headRows 94 = .ok (.ireturn, 1) := by decide +kernel
theorem dX7_mayBreakAt_0 : decode cX7_mayBreakAt 0 = .ok (.iload_n 1, 1) := by decide +kernel
theorem dX7_mayBreakAt_1 : decode cX7_mayBreakAt 1 = .ok (.aload_n 0, 1) := by decide +kernel
theorem dX7_mayBreakAt_2 : decode cX7_mayBreakAt 2 = .ok (.invokevirtual 213, 3) := by decide +kernel
theorem dX7_mayBreakAt_5 : decode cX7_mayBreakAt 5 = .ok (.if_icmp .gt 5, 3) := by decide +kernel
theorem dX7_mayBreakAt_8 : decode cX7_mayBreakAt 8 = .ok (.iconst 0, 1) := by decide +kernel
theorem dX7_mayBreakAt_9 : decode cX7_mayBreakAt 9 = .ok (.ireturn, 1) := by decide +kernel
theorem dX7_mayBreakAt_10 : decode cX7_mayBreakAt 10 = .ok (.iconst 1, 1) := by decide +kernel
theorem dX7_mayBreakAt_11 : decode cX7_mayBreakAt 11 = .ok (.istore_n 2, 1) := by decide +kernel
theorem dX7_mayBreakAt_12 : decode cX7_mayBreakAt 12 = .ok (.iconst 0, 1) := by decide +kernel
theorem dX7_mayBreakAt_13 : decode cX7_mayBreakAt 13 = .ok (.istore_n 3, 1) := by decide +kernel
theorem dX7_mayBreakAt_14 : decode cX7_mayBreakAt 14 = .ok (.iload_n 3, 1) := by decide +kernel
theorem dX7_mayBreakAt_15 : decode cX7_mayBreakAt 15 = .ok (.aload_n 0, 1) := by decide +kernel
theorem dX7_mayBreakAt_16 : decode cX7_mayBreakAt 16 = .ok (.getfield 126, 3) := by decide +kernel
theorem dX7_mayBreakAt_19 : decode cX7_mayBreakAt 19 = .ok (.if_icmp .ge 58, 3) := by decide +kernel
theorem dX7_mayBreakAt_22 : decode cX7_mayBreakAt 22 = .ok (.iload_n 2, 1) := by decide +kernel
theorem dX7_mayBreakAt_23 : decode cX7_mayBreakAt 23 = .ok (.ifCond .eq 54, 3) := by decide +kernel
theorem dX7_mayBreakAt_26 : decode cX7_mayBreakAt 26 = .ok (.aload_n 0, 1) := by decide +kernel
theorem dX7_mayBreakAt_27 : decode cX7_mayBreakAt 27 = .ok (.iload_n 1, 1) := by decide +kernel
theorem dX7_mayBreakAt_28 : decode cX7_mayBreakAt 28 = .ok (.iload_n 3, 1) := by decide +kernel
theorem dX7_mayBreakAt_29 : decode cX7_mayBreakAt 29 = .ok (.invokevirtual 155, 3) := by decide +kernel
theorem dX7_mayBreakAt_32 : decode cX7_mayBreakAt 32 = .ok (.istore 4, 2) := by decide +kernel
theorem dX7_mayBreakAt_34 : decode cX7_mayBreakAt 34 = .ok (.iload 4, 2) := by decide +kernel
theorem dX7_mayBreakAt_36 : decode cX7_mayBreakAt 36 = .ok (.bipush (-9), 2) := by decide +kernel
theorem dX7_mayBreakAt_38 : decode cX7_mayBreakAt 38 = .ok (.if_icmp .eq 27, 3) := by decide +kernel
theorem dX7_mayBreakAt_41 : decode cX7_mayBreakAt 41 = .ok (.aload_n 0, 1) := by decide +kernel
theorem dX7_mayBreakAt_42 : decode cX7_mayBreakAt 42 = .ok (.getfield 19, 3) := by decide +kernel
theorem dX7_mayBreakAt_45 : decode cX7_mayBreakAt 45 = .ok (.iload 4, 2) := by decide +kernel
theorem dX7_mayBreakAt_47 : decode cX7_mayBreakAt 47 = .ok (.iaload, 1) := by decide +kernel
theorem dX7_mayBreakAt_48 : decode cX7_mayBreakAt 48 = .ok (.iconst 3, 1) := by decide +kernel
theorem dX7_mayBreakAt_49 : decode cX7_mayBreakAt 49 = .ok (.if_icmp .eq 16, 3) := by decide +kernel
theorem dX7_mayBreakAt_52 : decode cX7_mayBreakAt 52 = .ok (.aload_n 0, 1) := by decide +kernel
theorem dX7_mayBreakAt_53 : decode cX7_mayBreakAt 53 = .ok (.iload_n 1, 1) := by decide +kernel
theorem dX7_mayBreakAt_54 : decode cX7_mayBreakAt 54 = .ok (.iconst 1, 1) := by decide +kernel
theorem dX7_mayBreakAt_55 : decode cX7_mayBreakAt 55 = .ok (.isub, 1) := by decide +kernel
theorem dX7_mayBreakAt_56 : decode cX7_mayBreakAt 56 = .ok (.iload_n 3, 1) := by decide +kernel
theorem dX7_mayBreakAt_57 : decode cX7_mayBreakAt 57 = .ok (.invokevirtual 155, 3) := by decide +kernel
theorem dX7_mayBreakAt_60 : decode cX7_mayBreakAt 60 = .ok (.iload 4, 2) := by decide +kernel
theorem dX7_mayBreakAt_62 : decode cX7_mayBreakAt 62 = .ok (.if_icmp .eq 7, 3) := by decide +kernel
theorem dX7_mayBreakAt_65 : decode cX7_mayBreakAt 65 = .ok (.iconst 1, 1) := by decide +kernel
theorem dX7_mayBreakAt_66 : decode cX7_mayBreakAt 66 = .ok (.goto 4, 3) := by decide +kernel
theorem dX7_mayBreakAt_69 : decode cX7_mayBreakAt 69 = .ok (.iconst 0, 1) := by decide +kernel
theorem dX7_mayBreakAt_70 : decode cX7_mayBreakAt 70 = .ok (.istore_n 2, 1) := by decide +kernel
theorem dX7_mayBreakAt_71 : decode cX7_mayBreakAt 71 = .ok (.iinc 3 1, 3) := by decide +kernel
theorem dX7_mayBreakAt_74 : decode cX7_mayBreakAt 74 = .ok (.goto (-60), 3) := by decide +kernel
theorem dX7_mayBreakAt_77 : decode cX7_mayBreakAt 77 = .ok (.iload_n 2, 1) := by decide +kernel
theorem dX7_mayBreakAt_78 : decode cX7_mayBreakAt 78 = .ok (.ireturn, 1) := by decide +kernel
theorem dX7_mayBreak_0 : decode cX7_mayBreak 0 = .ok (.aload_n 0, 1) := by decide +kernel
theorem dX7_mayBreak_1 : decode cX7_mayBreak 1 = .ok (.iload_n 1, 1) := by decide +kernel
theorem dX7_mayBreak_2 : decode cX7_mayBreak 2 = .ok (.invokevirtual 148, 3) := by decide +kernel
theorem dX7_mayBreak_5 : decode cX7_mayBreak 5 = .ok (.ifCond .eq 19, 3) := by decide +kernel
theorem dX7_mayBreak_8 : decode cX7_mayBreak 8 = .ok (.aload_n 0, 1) := by decide +kernel
theorem dX7_mayBreak_9 : decode cX7_mayBreak 9 = .ok (.iload_n 1, 1) := by decide +kernel
theorem dX7_mayBreak_10 : decode cX7_mayBreak 10 = .ok (.invokevirtual 217, 3) := by decide +kernel
theorem dX7_mayBreak_13 : decode cX7_mayBreak 13 = .ok (.ifCond .eq 7, 3) := by decide +kernel
theorem dX7_mayBreak_16 : decode cX7_mayBreak 16 = .ok (.iconst 1, 1) := by decide +kernel
theorem dX7_mayBreak_17 : decode cX7_mayBreak 17 = .ok (.goto 8, 3) := by decide +kernel
theorem dX7_mayBreak_20 : decode cX7_mayBreak 20 = .ok (.iconst 0, 1) := by decide +kernel
theorem dX7_mayBreak_21 : decode cX7_mayBreak 21 = .ok (.goto 4, 3) := by decide +kernel
theorem dX7_mayBreak_24 : decode cX7_mayBreak 24 = .ok (.iconst (-1), 1) := by decide +kernel
theorem dX7_mayBreak_25 : decode cX7_mayBreak 25 = .ok (.ireturn, 1) := by decide +kernel
theorem dX7_homeOf_0 : decode cX7_homeOf 0 = .ok (.bipush (-9), 2) := by decide +kernel
theorem dX7_homeOf_2 : decode cX7_homeOf 2 = .ok (.istore_n 3, 1) := by decide +kernel
theorem dX7_homeOf_3 : decode cX7_homeOf 3 = .ok (.iconst 0, 1) := by decide +kernel
theorem dX7_homeOf_4 : decode cX7_homeOf 4 = .ok (.istore 4, 2) := by decide +kernel
theorem dX7_homeOf_6 : decode cX7_homeOf 6 = .ok (.iload 4, 2) := by decide +kernel
theorem dX7_homeOf_8 : decode cX7_homeOf 8 = .ok (.aload_n 0, 1) := by decide +kernel
theorem dX7_homeOf_9 : decode cX7_homeOf 9 = .ok (.getfield 132, 3) := by decide +kernel
theorem dX7_homeOf_12 : decode cX7_homeOf 12 = .ok (.if_icmp .ge 77, 3) := by decide +kernel
theorem dX7_homeOf_15 : decode cX7_homeOf 15 = .ok (.aload_n 0, 1) := by decide +kernel
theorem dX7_homeOf_16 : decode cX7_homeOf 16 = .ok (.getfield 34, 3) := by decide +kernel
theorem dX7_homeOf_19 : decode cX7_homeOf 19 = .ok (.iload 4, 2) := by decide +kernel
theorem dX7_homeOf_21 : decode cX7_homeOf 21 = .ok (.baload, 1) := by decide +kernel
theorem dX7_homeOf_22 : decode cX7_homeOf 22 = .ok (.ifCond .ne 61, 3) := by decide +kernel
theorem dX7_homeOf_25 : decode cX7_homeOf 25 = .ok (.aload_n 0, 1) := by decide +kernel
theorem dX7_homeOf_26 : decode cX7_homeOf 26 = .ok (.getfield 44, 3) := by decide +kernel
theorem dX7_homeOf_29 : decode cX7_homeOf 29 = .ok (.iload 4, 2) := by decide +kernel
theorem dX7_homeOf_31 : decode cX7_homeOf 31 = .ok (.iaload, 1) := by decide +kernel
theorem dX7_homeOf_32 : decode cX7_homeOf 32 = .ok (.iload_n 1, 1) := by decide +kernel
theorem dX7_homeOf_33 : decode cX7_homeOf 33 = .ok (.ishr, 1) := by decide +kernel
theorem dX7_homeOf_34 : decode cX7_homeOf 34 = .ok (.iconst 1, 1) := by decide +kernel
theorem dX7_homeOf_35 : decode cX7_homeOf 35 = .ok (.iand, 1) := by decide +kernel
theorem dX7_homeOf_36 : decode cX7_homeOf 36 = .ok (.iconst 1, 1) := by decide +kernel
theorem dX7_homeOf_37 : decode cX7_homeOf 37 = .ok (.if_icmp .ne 46, 3) := by decide +kernel
theorem dX7_homeOf_40 : decode cX7_homeOf 40 = .ok (.aload_n 0, 1) := by decide +kernel
theorem dX7_homeOf_41 : decode cX7_homeOf 41 = .ok (.getfield 22, 3) := by decide +kernel
theorem dX7_homeOf_44 : decode cX7_homeOf 44 = .ok (.iload 4, 2) := by decide +kernel
theorem dX7_homeOf_46 : decode cX7_homeOf 46 = .ok (.iaload, 1) := by decide +kernel
theorem dX7_homeOf_47 : decode cX7_homeOf 47 = .ok (.iload_n 2, 1) := by decide +kernel
theorem dX7_homeOf_48 : decode cX7_homeOf 48 = .ok (.if_icmp .ge 7, 3) := by decide +kernel
theorem dX7_homeOf_51 : decode cX7_homeOf 51 = .ok (.iload_n 2, 1) := by decide +kernel
theorem dX7_homeOf_52 : decode cX7_homeOf 52 = .ok (.goto 10, 3) := by decide +kernel
theorem dX7_homeOf_55 : decode cX7_homeOf 55 = .ok (.aload_n 0, 1) := by decide +kernel
theorem dX7_homeOf_56 : decode cX7_homeOf 56 = .ok (.getfield 22, 3) := by decide +kernel
theorem dX7_homeOf_59 : decode cX7_homeOf 59 = .ok (.iload 4, 2) := by decide +kernel
theorem dX7_homeOf_61 : decode cX7_homeOf 61 = .ok (.iaload, 1) := by decide +kernel
theorem dX7_homeOf_62 : decode cX7_homeOf 62 = .ok (.istore 5, 2) := by decide +kernel
theorem dX7_homeOf_64 : decode cX7_homeOf 64 = .ok (.iload_n 3, 1) := by decide +kernel
theorem dX7_homeOf_65 : decode cX7_homeOf 65 = .ok (.bipush (-9), 2) := by decide +kernel
theorem dX7_homeOf_67 : decode cX7_homeOf 67 = .ok (.if_icmp .eq 9, 3) := by decide +kernel
theorem dX7_homeOf_70 : decode cX7_homeOf 70 = .ok (.iload 5, 2) := by decide +kernel
theorem dX7_homeOf_72 : decode cX7_homeOf 72 = .ok (.iload_n 3, 1) := by decide +kernel
theorem dX7_homeOf_73 : decode cX7_homeOf 73 = .ok (.if_icmp .ge 8, 3) := by decide +kernel
theorem dX7_homeOf_76 : decode cX7_homeOf 76 = .ok (.iload 5, 2) := by decide +kernel
theorem dX7_homeOf_78 : decode cX7_homeOf 78 = .ok (.goto 4, 3) := by decide +kernel
theorem dX7_homeOf_81 : decode cX7_homeOf 81 = .ok (.iload_n 3, 1) := by decide +kernel
theorem dX7_homeOf_82 : decode cX7_homeOf 82 = .ok (.istore_n 3, 1) := by decide +kernel
theorem dX7_homeOf_83 : decode cX7_homeOf 83 = .ok (.iinc 4 1, 3) := by decide +kernel
theorem dX7_homeOf_86 : decode cX7_homeOf 86 = .ok (.goto (-80), 3) := by decide +kernel
theorem dX7_homeOf_89 : decode cX7_homeOf 89 = .ok (.iload_n 3, 1) := by decide +kernel
theorem dX7_homeOf_90 : decode cX7_homeOf 90 = .ok (.ireturn, 1) := by decide +kernel
theorem dX7_notesOn_0 : decode cX7_notesOn 0 = .ok (.iconst 0, 1) := by decide +kernel
theorem dX7_notesOn_1 : decode cX7_notesOn 1 = .ok (.istore 4, 2) := by decide +kernel
theorem dX7_notesOn_3 : decode cX7_notesOn 3 = .ok (.iconst 0, 1) := by decide +kernel
theorem dX7_notesOn_4 : decode cX7_notesOn 4 = .ok (.istore 5, 2) := by decide +kernel
theorem dX7_notesOn_6 : decode cX7_notesOn 6 = .ok (.iload 5, 2) := by decide +kernel
theorem dX7_notesOn_8 : decode cX7_notesOn 8 = .ok (.bipush 10, 2) := by decide +kernel
theorem dX7_notesOn_10 : decode cX7_notesOn 10 = .ok (.if_icmp .ge 50, 3) := by decide +kernel
theorem dX7_notesOn_13 : decode cX7_notesOn 13 = .ok (.aload_n 0, 1) := by decide +kernel
theorem dX7_notesOn_14 : decode cX7_notesOn 14 = .ok (.iload 5, 2) := by decide +kernel
theorem dX7_notesOn_16 : decode cX7_notesOn 16 = .ok (.iload_n 3, 1) := by decide +kernel
theorem dX7_notesOn_17 : decode cX7_notesOn 17 = .ok (.invokevirtual 220, 3) := by decide +kernel
theorem dX7_notesOn_20 : decode cX7_notesOn 20 = .ok (.istore 6, 2) := by decide +kernel
theorem dX7_notesOn_22 : decode cX7_notesOn 22 = .ok (.iload 4, 2) := by decide +kernel
theorem dX7_notesOn_24 : decode cX7_notesOn 24 = .ok (.iload 6, 2) := by decide +kernel
theorem dX7_notesOn_26 : decode cX7_notesOn 26 = .ok (.bipush (-9), 2) := by decide +kernel
theorem dX7_notesOn_28 : decode cX7_notesOn 28 = .ok (.if_icmp .eq 22, 3) := by decide +kernel
theorem dX7_notesOn_31 : decode cX7_notesOn 31 = .ok (.iload 6, 2) := by decide +kernel
theorem dX7_notesOn_33 : decode cX7_notesOn 33 = .ok (.iload_n 1, 1) := by decide +kernel
theorem dX7_notesOn_34 : decode cX7_notesOn 34 = .ok (.if_icmp .lt 16, 3) := by decide +kernel
theorem dX7_notesOn_37 : decode cX7_notesOn 37 = .ok (.iload 6, 2) := by decide +kernel
theorem dX7_notesOn_39 : decode cX7_notesOn 39 = .ok (.iload_n 2, 1) := by decide +kernel
theorem dX7_notesOn_40 : decode cX7_notesOn 40 = .ok (.if_icmp .ge 10, 3) := by decide +kernel
theorem dX7_notesOn_43 : decode cX7_notesOn 43 = .ok (.iconst 1, 1) := by decide +kernel
theorem dX7_notesOn_44 : decode cX7_notesOn 44 = .ok (.iload 5, 2) := by decide +kernel
theorem dX7_notesOn_46 : decode cX7_notesOn 46 = .ok (.ishl, 1) := by decide +kernel
theorem dX7_notesOn_47 : decode cX7_notesOn 47 = .ok (.goto 4, 3) := by decide +kernel
theorem dX7_notesOn_50 : decode cX7_notesOn 50 = .ok (.iconst 0, 1) := by decide +kernel
theorem dX7_notesOn_51 : decode cX7_notesOn 51 = .ok (.ior, 1) := by decide +kernel
theorem dX7_notesOn_52 : decode cX7_notesOn 52 = .ok (.istore 4, 2) := by decide +kernel
theorem dX7_notesOn_54 : decode cX7_notesOn 54 = .ok (.iinc 5 1, 3) := by decide +kernel
theorem dX7_notesOn_57 : decode cX7_notesOn 57 = .ok (.goto (-51), 3) := by decide +kernel
theorem dX7_notesOn_60 : decode cX7_notesOn 60 = .ok (.iload 4, 2) := by decide +kernel
theorem dX7_notesOn_62 : decode cX7_notesOn 62 = .ok (.ireturn, 1) := by decide +kernel
theorem dX7_emptyOf_0 : decode cX7_emptyOf 0 = .ok (.iload_n 1, 1) := by decide +kernel
theorem dX7_emptyOf_1 : decode cX7_emptyOf 1 = .ok (.istore 5, 2) := by decide +kernel
theorem dX7_emptyOf_3 : decode cX7_emptyOf 3 = .ok (.iconst 0, 1) := by decide +kernel
theorem dX7_emptyOf_4 : decode cX7_emptyOf 4 = .ok (.istore 6, 2) := by decide +kernel
theorem dX7_emptyOf_6 : decode cX7_emptyOf 6 = .ok (.iload 6, 2) := by decide +kernel
theorem dX7_emptyOf_8 : decode cX7_emptyOf 8 = .ok (.iload 4, 2) := by decide +kernel
theorem dX7_emptyOf_10 : decode cX7_emptyOf 10 = .ok (.if_icmp .ge 21, 3) := by decide +kernel
theorem dX7_emptyOf_13 : decode cX7_emptyOf 13 = .ok (.iload 5, 2) := by decide +kernel
theorem dX7_emptyOf_15 : decode cX7_emptyOf 15 = .ok (.aload_n 0, 1) := by decide +kernel
theorem dX7_emptyOf_16 : decode cX7_emptyOf 16 = .ok (.getfield 74, 3) := by decide +kernel
theorem dX7_emptyOf_19 : decode cX7_emptyOf 19 = .ok (.iload 6, 2) := by decide +kernel
theorem dX7_emptyOf_21 : decode cX7_emptyOf 21 = .ok (.iaload, 1) := by decide +kernel
theorem dX7_emptyOf_22 : decode cX7_emptyOf 22 = .ok (.isub, 1) := by decide +kernel
theorem dX7_emptyOf_23 : decode cX7_emptyOf 23 = .ok (.istore 5, 2) := by decide +kernel
theorem dX7_emptyOf_25 : decode cX7_emptyOf 25 = .ok (.iinc 6 1, 3) := by decide +kernel
theorem dX7_emptyOf_28 : decode cX7_emptyOf 28 = .ok (.goto (-22), 3) := by decide +kernel
theorem dX7_emptyOf_31 : decode cX7_emptyOf 31 = .ok (.iload_n 2, 1) := by decide +kernel
theorem dX7_emptyOf_32 : decode cX7_emptyOf 32 = .ok (.istore 6, 2) := by decide +kernel
theorem dX7_emptyOf_34 : decode cX7_emptyOf 34 = .ok (.iload 6, 2) := by decide +kernel
theorem dX7_emptyOf_36 : decode cX7_emptyOf 36 = .ok (.iload_n 3, 1) := by decide +kernel
theorem dX7_emptyOf_37 : decode cX7_emptyOf 37 = .ok (.if_icmp .ge 21, 3) := by decide +kernel
theorem dX7_emptyOf_40 : decode cX7_emptyOf 40 = .ok (.iload 5, 2) := by decide +kernel
theorem dX7_emptyOf_42 : decode cX7_emptyOf 42 = .ok (.aload_n 0, 1) := by decide +kernel
theorem dX7_emptyOf_43 : decode cX7_emptyOf 43 = .ok (.getfield 74, 3) := by decide +kernel
theorem dX7_emptyOf_46 : decode cX7_emptyOf 46 = .ok (.iload 6, 2) := by decide +kernel
theorem dX7_emptyOf_48 : decode cX7_emptyOf 48 = .ok (.iaload, 1) := by decide +kernel
theorem dX7_emptyOf_49 : decode cX7_emptyOf 49 = .ok (.isub, 1) := by decide +kernel
theorem dX7_emptyOf_50 : decode cX7_emptyOf 50 = .ok (.istore 5, 2) := by decide +kernel
theorem dX7_emptyOf_52 : decode cX7_emptyOf 52 = .ok (.iinc 6 1, 3) := by decide +kernel
theorem dX7_emptyOf_55 : decode cX7_emptyOf 55 = .ok (.goto (-21), 3) := by decide +kernel
theorem dX7_emptyOf_58 : decode cX7_emptyOf 58 = .ok (.aload_n 0, 1) := by decide +kernel
theorem dX7_emptyOf_59 : decode cX7_emptyOf 59 = .ok (.iload_n 2, 1) := by decide +kernel
theorem dX7_emptyOf_60 : decode cX7_emptyOf 60 = .ok (.iload_n 3, 1) := by decide +kernel
theorem dX7_emptyOf_61 : decode cX7_emptyOf 61 = .ok (.iload 4, 2) := by decide +kernel
theorem dX7_emptyOf_63 : decode cX7_emptyOf 63 = .ok (.invokevirtual 223, 3) := by decide +kernel
theorem dX7_emptyOf_66 : decode cX7_emptyOf 66 = .ok (.istore 6, 2) := by decide +kernel
theorem dX7_emptyOf_68 : decode cX7_emptyOf 68 = .ok (.iconst 0, 1) := by decide +kernel
theorem dX7_emptyOf_69 : decode cX7_emptyOf 69 = .ok (.istore 7, 2) := by decide +kernel
theorem dX7_emptyOf_71 : decode cX7_emptyOf 71 = .ok (.iload 7, 2) := by decide +kernel
theorem dX7_emptyOf_73 : decode cX7_emptyOf 73 = .ok (.bipush 10, 2) := by decide +kernel
theorem dX7_emptyOf_75 : decode cX7_emptyOf 75 = .ok (.if_icmp .ge 36, 3) := by decide +kernel
theorem dX7_emptyOf_78 : decode cX7_emptyOf 78 = .ok (.iload 5, 2) := by decide +kernel
theorem dX7_emptyOf_80 : decode cX7_emptyOf 80 = .ok (.iload 6, 2) := by decide +kernel
theorem dX7_emptyOf_82 : decode cX7_emptyOf 82 = .ok (.iload 7, 2) := by decide +kernel
theorem dX7_emptyOf_84 : decode cX7_emptyOf 84 = .ok (.ishr, 1) := by decide +kernel
theorem dX7_emptyOf_85 : decode cX7_emptyOf 85 = .ok (.iconst 1, 1) := by decide +kernel
theorem dX7_emptyOf_86 : decode cX7_emptyOf 86 = .ok (.iand, 1) := by decide +kernel
theorem dX7_emptyOf_87 : decode cX7_emptyOf 87 = .ok (.iconst 1, 1) := by decide +kernel
theorem dX7_emptyOf_88 : decode cX7_emptyOf 88 = .ok (.if_icmp .ne 13, 3) := by decide +kernel
theorem dX7_emptyOf_91 : decode cX7_emptyOf 91 = .ok (.aload_n 0, 1) := by decide +kernel
theorem dX7_emptyOf_92 : decode cX7_emptyOf 92 = .ok (.getfield 16, 3) := by decide +kernel
theorem dX7_emptyOf_95 : decode cX7_emptyOf 95 = .ok (.iload 7, 2) := by decide +kernel
theorem dX7_emptyOf_97 : decode cX7_emptyOf 97 = .ok (.iaload, 1) := by decide +kernel
theorem dX7_emptyOf_98 : decode cX7_emptyOf 98 = .ok (.goto 4, 3) := by decide +kernel
theorem dX7_emptyOf_101 : decode cX7_emptyOf 101 = .ok (.iconst 0, 1) := by decide +kernel
theorem dX7_emptyOf_102 : decode cX7_emptyOf 102 = .ok (.isub, 1) := by decide +kernel
theorem dX7_emptyOf_103 : decode cX7_emptyOf 103 = .ok (.istore 5, 2) := by decide +kernel
theorem dX7_emptyOf_105 : decode cX7_emptyOf 105 = .ok (.iinc 7 1, 3) := by decide +kernel
theorem dX7_emptyOf_108 : decode cX7_emptyOf 108 = .ok (.goto (-37), 3) := by decide +kernel
theorem dX7_emptyOf_111 : decode cX7_emptyOf 111 = .ok (.iload_n 3, 1) := by decide +kernel
theorem dX7_emptyOf_112 : decode cX7_emptyOf 112 = .ok (.iload_n 2, 1) := by decide +kernel
theorem dX7_emptyOf_113 : decode cX7_emptyOf 113 = .ok (.isub, 1) := by decide +kernel
theorem dX7_emptyOf_114 : decode cX7_emptyOf 114 = .ok (.iconst 1, 1) := by decide +kernel
theorem dX7_emptyOf_115 : decode cX7_emptyOf 115 = .ok (.if_icmp .ne 28, 3) := by decide +kernel
theorem dX7_emptyOf_118 : decode cX7_emptyOf 118 = .ok (.aload_n 0, 1) := by decide +kernel
theorem dX7_emptyOf_119 : decode cX7_emptyOf 119 = .ok (.getfield 74, 3) := by decide +kernel
theorem dX7_emptyOf_122 : decode cX7_emptyOf 122 = .ok (.iload_n 2, 1) := by decide +kernel
theorem dX7_emptyOf_123 : decode cX7_emptyOf 123 = .ok (.iaload, 1) := by decide +kernel
theorem dX7_emptyOf_124 : decode cX7_emptyOf 124 = .ok (.iconst 1, 1) := by decide +kernel
theorem dX7_emptyOf_125 : decode cX7_emptyOf 125 = .ok (.if_icmp .ne 18, 3) := by decide +kernel
theorem dX7_emptyOf_128 : decode cX7_emptyOf 128 = .ok (.aload_n 0, 1) := by decide +kernel
theorem dX7_emptyOf_129 : decode cX7_emptyOf 129 = .ok (.getfield 123, 3) := by decide +kernel
theorem dX7_emptyOf_132 : decode cX7_emptyOf 132 = .ok (.iload 4, 2) := by decide +kernel
theorem dX7_emptyOf_134 : decode cX7_emptyOf 134 = .ok (.isub, 1) := by decide +kernel
theorem dX7_emptyOf_135 : decode cX7_emptyOf 135 = .ok (.iconst 1, 1) := by decide +kernel
theorem dX7_emptyOf_136 : decode cX7_emptyOf 136 = .ok (.if_icmp .le 7, 3) := by decide +kernel
theorem dX7_emptyOf_139 : decode cX7_emptyOf 139 = .ok (.iconst 1, 1) := by decide +kernel
theorem dX7_emptyOf_140 : decode cX7_emptyOf 140 = .ok (.goto 4, 3) := by decide +kernel
theorem dX7_emptyOf_143 : decode cX7_emptyOf 143 = .ok (.iconst 0, 1) := by decide +kernel
theorem dX7_emptyOf_144 : decode cX7_emptyOf 144 = .ok (.istore 7, 2) := by decide +kernel
theorem dX7_emptyOf_146 : decode cX7_emptyOf 146 = .ok (.iload 7, 2) := by decide +kernel
theorem dX7_emptyOf_148 : decode cX7_emptyOf 148 = .ok (.ifCond .eq 7, 3) := by decide +kernel
theorem dX7_emptyOf_151 : decode cX7_emptyOf 151 = .ok (.iconst (-1), 1) := by decide +kernel
theorem dX7_emptyOf_152 : decode cX7_emptyOf 152 = .ok (.goto 5, 3) := by decide +kernel
theorem dX7_emptyOf_155 : decode cX7_emptyOf 155 = .ok (.iload 5, 2) := by decide +kernel
theorem dX7_emptyOf_157 : decode cX7_emptyOf 157 = .ok (.ireturn, 1) := by decide +kernel
theorem dX7_pages_0 : decode cX7_pages 0 = .ok (.iload_n 1, 1) := by decide +kernel
theorem dX7_pages_1 : decode cX7_pages 1 = .ok (.iconst 1, 1) := by decide +kernel
theorem dX7_pages_2 : decode cX7_pages 2 = .ok (.sipush 200, 3) := by decide +kernel
theorem dX7_pages_5 : decode cX7_pages 5 = .ok (.invokestatic 119, 3) := by decide +kernel
theorem dX7_pages_8 : decode cX7_pages 8 = .ok (.ifCond .ne 5, 3) := by decide +kernel
theorem dX7_pages_11 : decode cX7_pages 11 = .ok (.iconst (-1), 1) := by decide +kernel
theorem dX7_pages_12 : decode cX7_pages 12 = .ok (.ireturn, 1) := by decide +kernel
theorem dX7_pages_13 : decode cX7_pages 13 = .ok (.aload_n 0, 1) := by decide +kernel
theorem dX7_pages_14 : decode cX7_pages 14 = .ok (.aload_n 0, 1) := by decide +kernel
theorem dX7_pages_15 : decode cX7_pages 15 = .ok (.getfield 62, 3) := by decide +kernel
theorem dX7_pages_18 : decode cX7_pages 18 = .ok (.invokevirtual 202, 3) := by decide +kernel
theorem dX7_pages_21 : decode cX7_pages 21 = .ok (.aload_n 0, 1) := by decide +kernel
theorem dX7_pages_22 : decode cX7_pages 22 = .ok (.invokevirtual 213, 3) := by decide +kernel
theorem dX7_pages_25 : decode cX7_pages 25 = .ok (.istore_n 2, 1) := by decide +kernel
theorem dX7_pages_26 : decode cX7_pages 26 = .ok (.aload_n 0, 1) := by decide +kernel
theorem dX7_pages_27 : decode cX7_pages 27 = .ok (.getfield 101, 3) := by decide +kernel
theorem dX7_pages_30 : decode cX7_pages 30 = .ok (.aload_n 0, 1) := by decide +kernel
theorem dX7_pages_31 : decode cX7_pages 31 = .ok (.getfield 123, 3) := by decide +kernel
theorem dX7_pages_34 : decode cX7_pages 34 = .ok (.iconst 0, 1) := by decide +kernel
theorem dX7_pages_35 : decode cX7_pages 35 = .ok (.iastore, 1) := by decide +kernel
theorem dX7_pages_36 : decode cX7_pages 36 = .ok (.aload_n 0, 1) := by decide +kernel
theorem dX7_pages_37 : decode cX7_pages 37 = .ok (.getfield 104, 3) := by decide +kernel
theorem dX7_pages_40 : decode cX7_pages 40 = .ok (.aload_n 0, 1) := by decide +kernel
theorem dX7_pages_41 : decode cX7_pages 41 = .ok (.getfield 123, 3) := by decide +kernel
theorem dX7_pages_44 : decode cX7_pages 44 = .ok (.lconst 0, 1) := by decide +kernel
theorem dX7_pages_45 : decode cX7_pages 45 = .ok (.lastore, 1) := by decide +kernel
theorem dX7_pages_46 : decode cX7_pages 46 = .ok (.aload_n 0, 1) := by decide +kernel
theorem dX7_pages_47 : decode cX7_pages 47 = .ok (.getfield 123, 3) := by decide +kernel
theorem dX7_pages_50 : decode cX7_pages 50 = .ok (.iconst 1, 1) := by decide +kernel
theorem dX7_pages_51 : decode cX7_pages 51 = .ok (.isub, 1) := by decide +kernel
theorem dX7_pages_52 : decode cX7_pages 52 = .ok (.istore_n 3, 1) := by decide +kernel
theorem dX7_pages_53 : decode cX7_pages 53 = .ok (.iload_n 3, 1) := by decide +kernel
theorem dX7_pages_54 : decode cX7_pages 54 = .ok (.iload_n 2, 1) := by decide +kernel
theorem dX7_pages_55 : decode cX7_pages 55 = .ok (.if_icmp .lt 218, 3) := by decide +kernel
theorem dX7_pages_58 : decode cX7_pages 58 = .ok (.aload_n 0, 1) := by decide +kernel
theorem dX7_pages_59 : decode cX7_pages 59 = .ok (.getfield 108, 3) := by decide +kernel
theorem dX7_pages_62 : decode cX7_pages 62 = .ok (.iload_n 3, 1) := by decide +kernel
theorem dX7_pages_63 : decode cX7_pages 63 = .ok (.iconst 0, 1) := by decide +kernel
theorem dX7_pages_64 : decode cX7_pages 64 = .ok (.iastore, 1) := by decide +kernel
theorem dX7_pages_65 : decode cX7_pages 65 = .ok (.iload_n 3, 1) := by decide +kernel
theorem dX7_pages_66 : decode cX7_pages 66 = .ok (.iconst 1, 1) := by decide +kernel
theorem dX7_pages_67 : decode cX7_pages 67 = .ok (.iadd, 1) := by decide +kernel
theorem dX7_pages_68 : decode cX7_pages 68 = .ok (.istore 4, 2) := by decide +kernel
theorem dX7_pages_70 : decode cX7_pages 70 = .ok (.iload 4, 2) := by decide +kernel
theorem dX7_pages_72 : decode cX7_pages 72 = .ok (.aload_n 0, 1) := by decide +kernel
theorem dX7_pages_73 : decode cX7_pages 73 = .ok (.getfield 123, 3) := by decide +kernel
theorem dX7_pages_76 : decode cX7_pages 76 = .ok (.if_icmp .gt 191, 3) := by decide +kernel
theorem dX7_pages_79 : decode cX7_pages 79 = .ok (.iload 4, 2) := by decide +kernel
theorem dX7_pages_81 : decode cX7_pages 81 = .ok (.aload_n 0, 1) := by decide +kernel
theorem dX7_pages_82 : decode cX7_pages 82 = .ok (.getfield 123, 3) := by decide +kernel
theorem dX7_pages_85 : decode cX7_pages 85 = .ok (.if_icmp .eq 22, 3) := by decide +kernel
theorem dX7_pages_88 : decode cX7_pages 88 = .ok (.aload_n 0, 1) := by decide +kernel
theorem dX7_pages_89 : decode cX7_pages 89 = .ok (.iload 4, 2) := by decide +kernel
theorem dX7_pages_91 : decode cX7_pages 91 = .ok (.invokevirtual 217, 3) := by decide +kernel
theorem dX7_pages_94 : decode cX7_pages 94 = .ok (.ifCond .eq 17, 3) := by decide +kernel
theorem dX7_pages_97 : decode cX7_pages 97 = .ok (.aload_n 0, 1) := by decide +kernel
theorem dX7_pages_98 : decode cX7_pages 98 = .ok (.getfield 108, 3) := by decide +kernel
theorem dX7_pages_101 : decode cX7_pages 101 = .ok (.iload 4, 2) := by decide +kernel
theorem dX7_pages_103 : decode cX7_pages 103 = .ok (.iaload, 1) := by decide +kernel
theorem dX7_pages_104 : decode cX7_pages 104 = .ok (.ifCond .le 7, 3) := by decide +kernel
theorem dX7_pages_107 : decode cX7_pages 107 = .ok (.iconst 1, 1) := by decide +kernel
theorem dX7_pages_108 : decode cX7_pages 108 = .ok (.goto 4, 3) := by decide +kernel
theorem dX7_pages_111 : decode cX7_pages 111 = .ok (.iconst 0, 1) := by decide +kernel
theorem dX7_pages_112 : decode cX7_pages 112 = .ok (.istore 5, 2) := by decide +kernel
theorem dX7_pages_114 : decode cX7_pages 114 = .ok (.iload 5, 2) := by decide +kernel
theorem dX7_pages_116 : decode cX7_pages 116 = .ok (.ifCond .eq 15, 3) := by decide +kernel
theorem dX7_pages_119 : decode cX7_pages 119 = .ok (.aload_n 0, 1) := by decide +kernel
theorem dX7_pages_120 : decode cX7_pages 120 = .ok (.iload_n 1, 1) := by decide +kernel
theorem dX7_pages_121 : decode cX7_pages 121 = .ok (.iload_n 3, 1) := by decide +kernel
theorem dX7_pages_122 : decode cX7_pages 122 = .ok (.iload 4, 2) := by decide +kernel
theorem dX7_pages_124 : decode cX7_pages 124 = .ok (.iload_n 2, 1) := by decide +kernel
theorem dX7_pages_125 : decode cX7_pages 125 = .ok (.invokevirtual 227, 3) := by decide +kernel
theorem dX7_pages_128 : decode cX7_pages 128 = .ok (.goto 4, 3) := by decide +kernel
theorem dX7_pages_131 : decode cX7_pages 131 = .ok (.iconst (-1), 1) := by decide +kernel
theorem dX7_pages_132 : decode cX7_pages 132 = .ok (.istore 6, 2) := by decide +kernel
theorem dX7_pages_134 : decode cX7_pages 134 = .ok (.iload 6, 2) := by decide +kernel
theorem dX7_pages_136 : decode cX7_pages 136 = .ok (.ifCond .lt 125, 3) := by decide +kernel
theorem dX7_pages_139 : decode cX7_pages 139 = .ok (.iconst 1, 1) := by decide +kernel
theorem dX7_pages_140 : decode cX7_pages 140 = .ok (.aload_n 0, 1) := by decide +kernel
theorem dX7_pages_141 : decode cX7_pages 141 = .ok (.getfield 101, 3) := by decide +kernel
theorem dX7_pages_144 : decode cX7_pages 144 = .ok (.iload 4, 2) := by decide +kernel
theorem dX7_pages_146 : decode cX7_pages 146 = .ok (.iaload, 1) := by decide +kernel
theorem dX7_pages_147 : decode cX7_pages 147 = .ok (.iadd, 1) := by decide +kernel
theorem dX7_pages_148 : decode cX7_pages 148 = .ok (.istore 7, 2) := by decide +kernel
theorem dX7_pages_150 : decode cX7_pages 150 = .ok (.iload 4, 2) := by decide +kernel
theorem dX7_pages_152 : decode cX7_pages 152 = .ok (.aload_n 0, 1) := by decide +kernel
theorem dX7_pages_153 : decode cX7_pages 153 = .ok (.getfield 123, 3) := by decide +kernel
theorem dX7_pages_156 : decode cX7_pages 156 = .ok (.if_icmp .ne 7, 3) := by decide +kernel
theorem dX7_pages_159 : decode cX7_pages 159 = .ok (.lconst 0, 1) := by decide +kernel
theorem dX7_pages_160 : decode cX7_pages 160 = .ok (.goto 18, 3) := by decide +kernel
theorem dX7_pages_163 : decode cX7_pages 163 = .ok (.aload_n 0, 1) := by decide +kernel
theorem dX7_pages_164 : decode cX7_pages 164 = .ok (.getfield 104, 3) := by decide +kernel
theorem dX7_pages_167 : decode cX7_pages 167 = .ok (.iload 4, 2) := by decide +kernel
theorem dX7_pages_169 : decode cX7_pages 169 = .ok (.laload, 1) := by decide +kernel
theorem dX7_pages_170 : decode cX7_pages 170 = .ok (.iload 6, 2) := by decide +kernel
theorem dX7_pages_172 : decode cX7_pages 172 = .ok (.i2l, 1) := by decide +kernel
theorem dX7_pages_173 : decode cX7_pages 173 = .ok (.iload 6, 2) := by decide +kernel
theorem dX7_pages_175 : decode cX7_pages 175 = .ok (.i2l, 1) := by decide +kernel
theorem dX7_pages_176 : decode cX7_pages 176 = .ok (.lmul, 1) := by decide +kernel
theorem dX7_pages_177 : decode cX7_pages 177 = .ok (.ladd, 1) := by decide +kernel
theorem dX7_pages_178 : decode cX7_pages 178 = .ok (.lstore 8, 2) := by decide +kernel
theorem dX7_pages_180 : decode cX7_pages 180 = .ok (.aload_n 0, 1) := by decide +kernel
theorem dX7_pages_181 : decode cX7_pages 181 = .ok (.getfield 108, 3) := by decide +kernel
theorem dX7_pages_184 : decode cX7_pages 184 = .ok (.iload_n 3, 1) := by decide +kernel
theorem dX7_pages_185 : decode cX7_pages 185 = .ok (.iaload, 1) := by decide +kernel
theorem dX7_pages_186 : decode cX7_pages 186 = .ok (.ifCond .eq 37, 3) := by decide +kernel
theorem dX7_pages_189 : decode cX7_pages 189 = .ok (.iload 7, 2) := by decide +kernel
theorem dX7_pages_191 : decode cX7_pages 191 = .ok (.aload_n 0, 1) := by decide +kernel
theorem dX7_pages_192 : decode cX7_pages 192 = .ok (.getfield 101, 3) := by decide +kernel
theorem dX7_pages_195 : decode cX7_pages 195 = .ok (.iload_n 3, 1) := by decide +kernel
theorem dX7_pages_196 : decode cX7_pages 196 = .ok (.iaload, 1) := by decide +kernel
theorem dX7_pages_197 : decode cX7_pages 197 = .ok (.if_icmp .lt 26, 3) := by decide +kernel
theorem dX7_pages_200 : decode cX7_pages 200 = .ok (.iload 7, 2) := by decide +kernel
theorem dX7_pages_202 : decode cX7_pages 202 = .ok (.aload_n 0, 1) := by decide +kernel
theorem dX7_pages_203 : decode cX7_pages 203 = .ok (.getfield 101, 3) := by decide +kernel
theorem dX7_pages_206 : decode cX7_pages 206 = .ok (.iload_n 3, 1) := by decide +kernel
theorem dX7_pages_207 : decode cX7_pages 207 = .ok (.iaload, 1) := by decide +kernel
theorem dX7_pages_208 : decode cX7_pages 208 = .ok (.if_icmp .ne 19, 3) := by decide +kernel
theorem dX7_pages_211 : decode cX7_pages 211 = .ok (.lload 8, 2) := by decide +kernel
theorem dX7_pages_213 : decode cX7_pages 213 = .ok (.aload_n 0, 1) := by decide +kernel
theorem dX7_pages_214 : decode cX7_pages 214 = .ok (.getfield 104, 3) := by decide +kernel
theorem dX7_pages_217 : decode cX7_pages 217 = .ok (.iload_n 3, 1) := by decide +kernel
theorem dX7_pages_218 : decode cX7_pages 218 = .ok (.laload, 1) := by decide +kernel
theorem dX7_pages_219 : decode cX7_pages 219 = .ok (.lcmp, 1) := by decide +kernel
theorem dX7_pages_220 : decode cX7_pages 220 = .ok (.ifCond .gt 7, 3) := by decide +kernel
theorem dX7_pages_223 : decode cX7_pages 223 = .ok (.iconst 1, 1) := by decide +kernel
theorem dX7_pages_224 : decode cX7_pages 224 = .ok (.goto 4, 3) := by decide +kernel
theorem dX7_pages_227 : decode cX7_pages 227 = .ok (.iconst 0, 1) := by decide +kernel
theorem dX7_pages_228 : decode cX7_pages 228 = .ok (.istore 10, 2) := by decide +kernel
theorem dX7_pages_230 : decode cX7_pages 230 = .ok (.iload 10, 2) := by decide +kernel
theorem dX7_pages_232 : decode cX7_pages 232 = .ok (.ifCond .eq 29, 3) := by decide +kernel
theorem dX7_pages_235 : decode cX7_pages 235 = .ok (.aload_n 0, 1) := by decide +kernel
theorem dX7_pages_236 : decode cX7_pages 236 = .ok (.getfield 101, 3) := by decide +kernel
theorem dX7_pages_239 : decode cX7_pages 239 = .ok (.iload_n 3, 1) := by decide +kernel
theorem dX7_pages_240 : decode cX7_pages 240 = .ok (.iload 7, 2) := by decide +kernel
theorem dX7_pages_242 : decode cX7_pages 242 = .ok (.iastore, 1) := by decide +kernel
theorem dX7_pages_243 : decode cX7_pages 243 = .ok (.aload_n 0, 1) := by decide +kernel
theorem dX7_pages_244 : decode cX7_pages 244 = .ok (.getfield 104, 3) := by decide +kernel
theorem dX7_pages_247 : decode cX7_pages 247 = .ok (.iload_n 3, 1) := by decide +kernel
theorem dX7_pages_248 : decode cX7_pages 248 = .ok (.lload 8, 2) := by decide +kernel
theorem dX7_pages_250 : decode cX7_pages 250 = .ok (.lastore, 1) := by decide +kernel
theorem dX7_pages_251 : decode cX7_pages 251 = .ok (.aload_n 0, 1) := by decide +kernel
theorem dX7_pages_252 : decode cX7_pages 252 = .ok (.getfield 108, 3) := by decide +kernel
theorem dX7_pages_255 : decode cX7_pages 255 = .ok (.iload_n 3, 1) := by decide +kernel
theorem dX7_pages_256 : decode cX7_pages 256 = .ok (.iload 4, 2) := by decide +kernel
theorem dX7_pages_258 : decode cX7_pages 258 = .ok (.iload_n 3, 1) := by decide +kernel
theorem dX7_pages_259 : decode cX7_pages 259 = .ok (.isub, 1) := by decide +kernel
theorem dX7_pages_260 : decode cX7_pages 260 = .ok (.iastore, 1) := by decide +kernel
theorem dX7_pages_261 : decode cX7_pages 261 = .ok (.iinc 4 1, 3) := by decide +kernel
theorem dX7_pages_264 : decode cX7_pages 264 = .ok (.goto (-194), 3) := by decide +kernel
theorem dX7_pages_267 : decode cX7_pages 267 = .ok (.iinc 3 (-1), 3) := by decide +kernel
theorem dX7_pages_270 : decode cX7_pages 270 = .ok (.goto (-217), 3) := by decide +kernel
theorem dX7_pages_273 : decode cX7_pages 273 = .ok (.aload_n 0, 1) := by decide +kernel
theorem dX7_pages_274 : decode cX7_pages 274 = .ok (.iconst 0, 1) := by decide +kernel
theorem dX7_pages_275 : decode cX7_pages 275 = .ok (.putfield 138, 3) := by decide +kernel
theorem dX7_pages_278 : decode cX7_pages 278 = .ok (.iconst 0, 1) := by decide +kernel
theorem dX7_pages_279 : decode cX7_pages 279 = .ok (.istore_n 3, 1) := by decide +kernel
theorem dX7_pages_280 : decode cX7_pages 280 = .ok (.iload_n 3, 1) := by decide +kernel
theorem dX7_pages_281 : decode cX7_pages 281 = .ok (.bipush 16, 2) := by decide +kernel
theorem dX7_pages_283 : decode cX7_pages 283 = .ok (.if_icmp .ge 17, 3) := by decide +kernel
theorem dX7_pages_286 : decode cX7_pages 286 = .ok (.aload_n 0, 1) := by decide +kernel
theorem dX7_pages_287 : decode cX7_pages 287 = .ok (.getfield 98, 3) := by decide +kernel
theorem dX7_pages_290 : decode cX7_pages 290 = .ok (.iload_n 3, 1) := by decide +kernel
theorem dX7_pages_291 : decode cX7_pages 291 = .ok (.bipush (-9), 2) := by decide +kernel
theorem dX7_pages_293 : decode cX7_pages 293 = .ok (.iastore, 1) := by decide +kernel
theorem dX7_pages_294 : decode cX7_pages 294 = .ok (.iinc 3 1, 3) := by decide +kernel
theorem dX7_pages_297 : decode cX7_pages 297 = .ok (.goto (-17), 3) := by decide +kernel
theorem dX7_pages_300 : decode cX7_pages 300 = .ok (.iload_n 2, 1) := by decide +kernel
theorem dX7_pages_301 : decode cX7_pages 301 = .ok (.aload_n 0, 1) := by decide +kernel
theorem dX7_pages_302 : decode cX7_pages 302 = .ok (.getfield 123, 3) := by decide +kernel
theorem dX7_pages_305 : decode cX7_pages 305 = .ok (.if_icmp .ge 15, 3) := by decide +kernel
theorem dX7_pages_308 : decode cX7_pages 308 = .ok (.aload_n 0, 1) := by decide +kernel
theorem dX7_pages_309 : decode cX7_pages 309 = .ok (.getfield 108, 3) := by decide +kernel
theorem dX7_pages_312 : decode cX7_pages 312 = .ok (.iload_n 2, 1) := by decide +kernel
theorem dX7_pages_313 : decode cX7_pages 313 = .ok (.iaload, 1) := by decide +kernel
theorem dX7_pages_314 : decode cX7_pages 314 = .ok (.ifCond .ne 6, 3) := by decide +kernel
theorem dX7_pages_317 : decode cX7_pages 317 = .ok (.bipush (-9), 2) := by decide +kernel
theorem dX7_pages_319 : decode cX7_pages 319 = .ok (.ireturn, 1) := by decide +kernel
theorem dX7_pages_320 : decode cX7_pages 320 = .ok (.iload_n 2, 1) := by decide +kernel
theorem dX7_pages_321 : decode cX7_pages 321 = .ok (.istore_n 3, 1) := by decide +kernel
theorem dX7_pages_322 : decode cX7_pages 322 = .ok (.iload_n 3, 1) := by decide +kernel
theorem dX7_pages_323 : decode cX7_pages 323 = .ok (.aload_n 0, 1) := by decide +kernel
theorem dX7_pages_324 : decode cX7_pages 324 = .ok (.getfield 123, 3) := by decide +kernel
theorem dX7_pages_327 : decode cX7_pages 327 = .ok (.if_icmp .ge 125, 3) := by decide +kernel
theorem dX7_pages_330 : decode cX7_pages 330 = .ok (.iload_n 3, 1) := by decide +kernel
theorem dX7_pages_331 : decode cX7_pages 331 = .ok (.aload_n 0, 1) := by decide +kernel
theorem dX7_pages_332 : decode cX7_pages 332 = .ok (.getfield 108, 3) := by decide +kernel
theorem dX7_pages_335 : decode cX7_pages 335 = .ok (.iload_n 3, 1) := by decide +kernel
theorem dX7_pages_336 : decode cX7_pages 336 = .ok (.iaload, 1) := by decide +kernel
theorem dX7_pages_337 : decode cX7_pages 337 = .ok (.iadd, 1) := by decide +kernel
theorem dX7_pages_338 : decode cX7_pages 338 = .ok (.istore 4, 2) := by decide +kernel
theorem dX7_pages_340 : decode cX7_pages 340 = .ok (.aload_n 0, 1) := by decide +kernel
theorem dX7_pages_341 : decode cX7_pages 341 = .ok (.getfield 86, 3) := by decide +kernel
theorem dX7_pages_344 : decode cX7_pages 344 = .ok (.aload_n 0, 1) := by decide +kernel
theorem dX7_pages_345 : decode cX7_pages 345 = .ok (.getfield 138, 3) := by decide +kernel
theorem dX7_pages_348 : decode cX7_pages 348 = .ok (.iload_n 3, 1) := by decide +kernel
theorem dX7_pages_349 : decode cX7_pages 349 = .ok (.iastore, 1) := by decide +kernel
theorem dX7_pages_350 : decode cX7_pages 350 = .ok (.aload_n 0, 1) := by decide +kernel
theorem dX7_pages_351 : decode cX7_pages 351 = .ok (.getfield 89, 3) := by decide +kernel
theorem dX7_pages_354 : decode cX7_pages 354 = .ok (.aload_n 0, 1) := by decide +kernel
theorem dX7_pages_355 : decode cX7_pages 355 = .ok (.getfield 138, 3) := by decide +kernel
theorem dX7_pages_358 : decode cX7_pages 358 = .ok (.iload 4, 2) := by decide +kernel
theorem dX7_pages_360 : decode cX7_pages 360 = .ok (.iload_n 3, 1) := by decide +kernel
theorem dX7_pages_361 : decode cX7_pages 361 = .ok (.isub, 1) := by decide +kernel
theorem dX7_pages_362 : decode cX7_pages 362 = .ok (.iastore, 1) := by decide +kernel
theorem dX7_pages_363 : decode cX7_pages 363 = .ok (.aload_n 0, 1) := by decide +kernel
theorem dX7_pages_364 : decode cX7_pages 364 = .ok (.getfield 92, 3) := by decide +kernel
theorem dX7_pages_367 : decode cX7_pages 367 = .ok (.aload_n 0, 1) := by decide +kernel
theorem dX7_pages_368 : decode cX7_pages 368 = .ok (.getfield 138, 3) := by decide +kernel
theorem dX7_pages_371 : decode cX7_pages 371 = .ok (.aload_n 0, 1) := by decide +kernel
theorem dX7_pages_372 : decode cX7_pages 372 = .ok (.iload_n 1, 1) := by decide +kernel
theorem dX7_pages_373 : decode cX7_pages 373 = .ok (.iload_n 3, 1) := by decide +kernel
theorem dX7_pages_374 : decode cX7_pages 374 = .ok (.iload 4, 2) := by decide +kernel
theorem dX7_pages_376 : decode cX7_pages 376 = .ok (.iload_n 2, 1) := by decide +kernel
theorem dX7_pages_377 : decode cX7_pages 377 = .ok (.invokevirtual 227, 3) := by decide +kernel
theorem dX7_pages_380 : decode cX7_pages 380 = .ok (.iastore, 1) := by decide +kernel
theorem dX7_pages_381 : decode cX7_pages 381 = .ok (.aload_n 0, 1) := by decide +kernel
theorem dX7_pages_382 : decode cX7_pages 382 = .ok (.getfield 95, 3) := by decide +kernel
theorem dX7_pages_385 : decode cX7_pages 385 = .ok (.aload_n 0, 1) := by decide +kernel
theorem dX7_pages_386 : decode cX7_pages 386 = .ok (.getfield 138, 3) := by decide +kernel
theorem dX7_pages_389 : decode cX7_pages 389 = .ok (.aload_n 0, 1) := by decide +kernel
theorem dX7_pages_390 : decode cX7_pages 390 = .ok (.iload_n 3, 1) := by decide +kernel
theorem dX7_pages_391 : decode cX7_pages 391 = .ok (.iload 4, 2) := by decide +kernel
theorem dX7_pages_393 : decode cX7_pages 393 = .ok (.iload_n 2, 1) := by decide +kernel
theorem dX7_pages_394 : decode cX7_pages 394 = .ok (.invokevirtual 223, 3) := by decide +kernel
theorem dX7_pages_397 : decode cX7_pages 397 = .ok (.iastore, 1) := by decide +kernel
theorem dX7_pages_398 : decode cX7_pages 398 = .ok (.iload_n 3, 1) := by decide +kernel
theorem dX7_pages_399 : decode cX7_pages 399 = .ok (.istore 5, 2) := by decide +kernel
theorem dX7_pages_401 : decode cX7_pages 401 = .ok (.iload 5, 2) := by decide +kernel
theorem dX7_pages_403 : decode cX7_pages 403 = .ok (.iload 4, 2) := by decide +kernel
theorem dX7_pages_405 : decode cX7_pages 405 = .ok (.if_icmp .ge 20, 3) := by decide +kernel
theorem dX7_pages_408 : decode cX7_pages 408 = .ok (.aload_n 0, 1) := by decide +kernel
theorem dX7_pages_409 : decode cX7_pages 409 = .ok (.getfield 98, 3) := by decide +kernel
theorem dX7_pages_412 : decode cX7_pages 412 = .ok (.iload 5, 2) := by decide +kernel
theorem dX7_pages_414 : decode cX7_pages 414 = .ok (.aload_n 0, 1) := by decide +kernel
theorem dX7_pages_415 : decode cX7_pages 415 = .ok (.getfield 138, 3) := by decide +kernel
theorem dX7_pages_418 : decode cX7_pages 418 = .ok (.iastore, 1) := by decide +kernel
theorem dX7_pages_419 : decode cX7_pages 419 = .ok (.iinc 5 1, 3) := by decide +kernel
theorem dX7_pages_422 : decode cX7_pages 422 = .ok (.goto (-21), 3) := by decide +kernel
theorem dX7_pages_425 : decode cX7_pages 425 = .ok (.aload_n 0, 1) := by decide +kernel
theorem dX7_pages_426 : decode cX7_pages 426 = .ok (.dup, 1) := by decide +kernel
theorem dX7_pages_427 : decode cX7_pages 427 = .ok (.getfield 138, 3) := by decide +kernel
theorem dX7_pages_430 : decode cX7_pages 430 = .ok (.iconst 1, 1) := by decide +kernel
theorem dX7_pages_431 : decode cX7_pages 431 = .ok (.iadd, 1) := by decide +kernel
theorem dX7_pages_432 : decode cX7_pages 432 = .ok (.putfield 138, 3) := by decide +kernel
theorem dX7_pages_435 : decode cX7_pages 435 = .ok (.iload_n 3, 1) := by decide +kernel
theorem dX7_pages_436 : decode cX7_pages 436 = .ok (.aload_n 0, 1) := by decide +kernel
theorem dX7_pages_437 : decode cX7_pages 437 = .ok (.getfield 89, 3) := by decide +kernel
theorem dX7_pages_440 : decode cX7_pages 440 = .ok (.aload_n 0, 1) := by decide +kernel
theorem dX7_pages_441 : decode cX7_pages 441 = .ok (.getfield 138, 3) := by decide +kernel
theorem dX7_pages_444 : decode cX7_pages 444 = .ok (.iconst 1, 1) := by decide +kernel
theorem dX7_pages_445 : decode cX7_pages 445 = .ok (.isub, 1) := by decide +kernel
theorem dX7_pages_446 : decode cX7_pages 446 = .ok (.iaload, 1) := by decide +kernel
theorem dX7_pages_447 : decode cX7_pages 447 = .ok (.iadd, 1) := by decide +kernel
theorem dX7_pages_448 : decode cX7_pages 448 = .ok (.istore_n 3, 1) := by decide +kernel
theorem dX7_pages_449 : decode cX7_pages 449 = .ok (.goto (-127), 3) := by decide +kernel
theorem dX7_pages_452 : decode cX7_pages 452 = .ok (.iconst 0, 1) := by decide +kernel
theorem dX7_pages_453 : decode cX7_pages 453 = .ok (.istore_n 3, 1) := by decide +kernel
theorem dX7_pages_454 : decode cX7_pages 454 = .ok (.iload_n 3, 1) := by decide +kernel
theorem dX7_pages_455 : decode cX7_pages 455 = .ok (.iload_n 2, 1) := by decide +kernel
theorem dX7_pages_456 : decode cX7_pages 456 = .ok (.if_icmp .ge 23, 3) := by decide +kernel
theorem dX7_pages_459 : decode cX7_pages 459 = .ok (.aload_n 0, 1) := by decide +kernel
theorem dX7_pages_460 : decode cX7_pages 460 = .ok (.getfield 138, 3) := by decide +kernel
theorem dX7_pages_463 : decode cX7_pages 463 = .ok (.ifCond .le 16, 3) := by decide +kernel
theorem dX7_pages_466 : decode cX7_pages 466 = .ok (.aload_n 0, 1) := by decide +kernel
theorem dX7_pages_467 : decode cX7_pages 467 = .ok (.getfield 98, 3) := by decide +kernel
theorem dX7_pages_470 : decode cX7_pages 470 = .ok (.iload_n 3, 1) := by decide +kernel
theorem dX7_pages_471 : decode cX7_pages 471 = .ok (.iconst 0, 1) := by decide +kernel
theorem dX7_pages_472 : decode cX7_pages 472 = .ok (.iastore, 1) := by decide +kernel
theorem dX7_pages_473 : decode cX7_pages 473 = .ok (.iinc 3 1, 3) := by decide +kernel
theorem dX7_pages_476 : decode cX7_pages 476 = .ok (.goto (-22), 3) := by decide +kernel
theorem dX7_pages_479 : decode cX7_pages 479 = .ok (.aload_n 0, 1) := by decide +kernel
theorem dX7_pages_480 : decode cX7_pages 480 = .ok (.getfield 138, 3) := by decide +kernel
theorem dX7_pages_483 : decode cX7_pages 483 = .ok (.ireturn, 1) := by decide +kernel
theorem dX7_pageTold_0 : decode cX7_pageTold 0 = .ok (.iload_n 2, 1) := by decide +kernel
theorem dX7_pageTold_1 : decode cX7_pageTold 1 = .ok (.ifCond .ne 12, 3) := by decide +kernel
theorem dX7_pageTold_4 : decode cX7_pageTold 4 = .ok (.aload_n 0, 1) := by decide +kernel
theorem dX7_pageTold_5 : decode cX7_pageTold 5 = .ok (.getfield 86, 3) := by decide +kernel
theorem dX7_pageTold_8 : decode cX7_pageTold 8 = .ok (.iload_n 1, 1) := by decide +kernel
theorem dX7_pageTold_9 : decode cX7_pageTold 9 = .ok (.iaload, 1) := by decide +kernel
theorem dX7_pageTold_10 : decode cX7_pageTold 10 = .ok (.goto 37, 3) := by decide +kernel
theorem dX7_pageTold_13 : decode cX7_pageTold 13 = .ok (.iload_n 2, 1) := by decide +kernel
theorem dX7_pageTold_14 : decode cX7_pageTold 14 = .ok (.iconst 1, 1) := by decide +kernel
theorem dX7_pageTold_15 : decode cX7_pageTold 15 = .ok (.if_icmp .ne 12, 3) := by decide +kernel
theorem dX7_pageTold_18 : decode cX7_pageTold 18 = .ok (.aload_n 0, 1) := by decide +kernel
theorem dX7_pageTold_19 : decode cX7_pageTold 19 = .ok (.getfield 89, 3) := by decide +kernel
theorem dX7_pageTold_22 : decode cX7_pageTold 22 = .ok (.iload_n 1, 1) := by decide +kernel
theorem dX7_pageTold_23 : decode cX7_pageTold 23 = .ok (.iaload, 1) := by decide +kernel
theorem dX7_pageTold_24 : decode cX7_pageTold 24 = .ok (.goto 23, 3) := by decide +kernel
theorem dX7_pageTold_27 : decode cX7_pageTold 27 = .ok (.iload_n 2, 1) := by decide +kernel
theorem dX7_pageTold_28 : decode cX7_pageTold 28 = .ok (.iconst 2, 1) := by decide +kernel
theorem dX7_pageTold_29 : decode cX7_pageTold 29 = .ok (.if_icmp .ne 12, 3) := by decide +kernel
theorem dX7_pageTold_32 : decode cX7_pageTold 32 = .ok (.aload_n 0, 1) := by decide +kernel
theorem dX7_pageTold_33 : decode cX7_pageTold 33 = .ok (.getfield 92, 3) := by decide +kernel
theorem dX7_pageTold_36 : decode cX7_pageTold 36 = .ok (.iload_n 1, 1) := by decide +kernel
theorem dX7_pageTold_37 : decode cX7_pageTold 37 = .ok (.iaload, 1) := by decide +kernel
theorem dX7_pageTold_38 : decode cX7_pageTold 38 = .ok (.goto 9, 3) := by decide +kernel
theorem dX7_pageTold_41 : decode cX7_pageTold 41 = .ok (.aload_n 0, 1) := by decide +kernel
theorem dX7_pageTold_42 : decode cX7_pageTold 42 = .ok (.getfield 95, 3) := by decide +kernel
theorem dX7_pageTold_45 : decode cX7_pageTold 45 = .ok (.iload_n 1, 1) := by decide +kernel
theorem dX7_pageTold_46 : decode cX7_pageTold 46 = .ok (.iaload, 1) := by decide +kernel
theorem dX7_pageTold_47 : decode cX7_pageTold 47 = .ok (.ireturn, 1) := by decide +kernel
theorem dX7_page_0 : decode cX7_page 0 = .ok (.iload_n 2, 1) := by decide +kernel
theorem dX7_page_1 : decode cX7_page 1 = .ok (.iconst 0, 1) := by decide +kernel
theorem dX7_page_2 : decode cX7_page 2 = .ok (.iconst 3, 1) := by decide +kernel
theorem dX7_page_3 : decode cX7_page 3 = .ok (.invokestatic 119, 3) := by decide +kernel
theorem dX7_page_6 : decode cX7_page 6 = .ok (.ifCond .ne 7, 3) := by decide +kernel
theorem dX7_page_9 : decode cX7_page 9 = .ok (.iconst (-1), 1) := by decide +kernel
theorem dX7_page_10 : decode cX7_page 10 = .ok (.goto 28, 3) := by decide +kernel
theorem dX7_page_13 : decode cX7_page 13 = .ok (.iload_n 1, 1) := by decide +kernel
theorem dX7_page_14 : decode cX7_page 14 = .ok (.iconst 0, 1) := by decide +kernel
theorem dX7_page_15 : decode cX7_page 15 = .ok (.aload_n 0, 1) := by decide +kernel
theorem dX7_page_16 : decode cX7_page 16 = .ok (.getfield 138, 3) := by decide +kernel
theorem dX7_page_19 : decode cX7_page 19 = .ok (.iconst 1, 1) := by decide +kernel
theorem dX7_page_20 : decode cX7_page 20 = .ok (.isub, 1) := by decide +kernel
theorem dX7_page_21 : decode cX7_page 21 = .ok (.invokestatic 119, 3) := by decide +kernel
theorem dX7_page_24 : decode cX7_page 24 = .ok (.ifCond .eq 12, 3) := by decide +kernel
theorem dX7_page_27 : decode cX7_page 27 = .ok (.aload_n 0, 1) := by decide +kernel
theorem dX7_page_28 : decode cX7_page 28 = .ok (.iload_n 1, 1) := by decide +kernel
theorem dX7_page_29 : decode cX7_page 29 = .ok (.iload_n 2, 1) := by decide +kernel
theorem dX7_page_30 : decode cX7_page 30 = .ok (.invokevirtual 231, 3) := by decide +kernel
theorem dX7_page_33 : decode cX7_page 33 = .ok (.goto 5, 3) := by decide +kernel
theorem dX7_page_36 : decode cX7_page 36 = .ok (.bipush (-9), 2) := by decide +kernel
theorem dX7_page_38 : decode cX7_page 38 = .ok (.ireturn, 1) := by decide +kernel
theorem dX7_pageOf_0 : decode cX7_pageOf 0 = .ok (.aload_n 0, 1) := by decide +kernel
theorem dX7_pageOf_1 : decode cX7_pageOf 1 = .ok (.iload_n 1, 1) := by decide +kernel
theorem dX7_pageOf_2 : decode cX7_pageOf 2 = .ok (.invokevirtual 148, 3) := by decide +kernel
theorem dX7_pageOf_5 : decode cX7_pageOf 5 = .ok (.ifCond .eq 12, 3) := by decide +kernel
theorem dX7_pageOf_8 : decode cX7_pageOf 8 = .ok (.aload_n 0, 1) := by decide +kernel
theorem dX7_pageOf_9 : decode cX7_pageOf 9 = .ok (.getfield 98, 3) := by decide +kernel
theorem dX7_pageOf_12 : decode cX7_pageOf 12 = .ok (.iload_n 1, 1) := by decide +kernel
theorem dX7_pageOf_13 : decode cX7_pageOf 13 = .ok (.iaload, 1) := by decide +kernel
theorem dX7_pageOf_14 : decode cX7_pageOf 14 = .ok (.goto 4, 3) := by decide +kernel
theorem dX7_pageOf_17 : decode cX7_pageOf 17 = .ok (.iconst (-1), 1) := by decide +kernel
theorem dX7_pageOf_18 : decode cX7_pageOf 18 = .ok (.ireturn, 1) := by decide +kernel
theorem dX7_count_0 : decode cX7_count 0 = .ok (.iconst 0, 1) := by decide +kernel
theorem dX7_count_1 : decode cX7_count 1 = .ok (.istore_n 2, 1) := by decide +kernel
theorem dX7_count_2 : decode cX7_count 2 = .ok (.iconst 0, 1) := by decide +kernel
theorem dX7_count_3 : decode cX7_count 3 = .ok (.istore_n 3, 1) := by decide +kernel
theorem dX7_count_4 : decode cX7_count 4 = .ok (.iload_n 3, 1) := by decide +kernel
theorem dX7_count_5 : decode cX7_count 5 = .ok (.aload_n 0, 1) := by decide +kernel
theorem dX7_count_6 : decode cX7_count 6 = .ok (.getfield 132, 3) := by decide +kernel
theorem dX7_count_9 : decode cX7_count 9 = .ok (.if_icmp .ge 26, 3) := by decide +kernel
theorem dX7_count_12 : decode cX7_count 12 = .ok (.iload_n 2, 1) := by decide +kernel
theorem dX7_count_13 : decode cX7_count 13 = .ok (.aload_n 0, 1) := by decide +kernel
theorem dX7_count_14 : decode cX7_count 14 = .ok (.getfield 34, 3) := by decide +kernel
theorem dX7_count_17 : decode cX7_count 17 = .ok (.iload_n 3, 1) := by decide +kernel
theorem dX7_count_18 : decode cX7_count 18 = .ok (.baload, 1) := by decide +kernel
theorem dX7_count_19 : decode cX7_count 19 = .ok (.ifCond .eq 7, 3) := by decide +kernel
theorem dX7_count_22 : decode cX7_count 22 = .ok (.iconst 0, 1) := by decide +kernel
theorem dX7_count_23 : decode cX7_count 23 = .ok (.goto 4, 3) := by decide +kernel
theorem dX7_count_26 : decode cX7_count 26 = .ok (.iconst 1, 1) := by decide +kernel
theorem dX7_count_27 : decode cX7_count 27 = .ok (.iadd, 1) := by decide +kernel
theorem dX7_count_28 : decode cX7_count 28 = .ok (.istore_n 2, 1) := by decide +kernel
theorem dX7_count_29 : decode cX7_count 29 = .ok (.iinc 3 1, 3) := by decide +kernel
theorem dX7_count_32 : decode cX7_count 32 = .ok (.goto (-28), 3) := by decide +kernel
theorem dX7_count_35 : decode cX7_count 35 = .ok (.iload_n 1, 1) := by decide +kernel
theorem dX7_count_36 : decode cX7_count 36 = .ok (.tableswitch 80 0 6 #[44, 49, 54, 59, 61, 66, 71], 44) := by decide +kernel
theorem dX7_count_80 : decode cX7_count 80 = .ok (.aload_n 0, 1) := by decide +kernel
theorem dX7_count_81 : decode cX7_count 81 = .ok (.getfield 123, 3) := by decide +kernel
theorem dX7_count_84 : decode cX7_count 84 = .ok (.ireturn, 1) := by decide +kernel
theorem dX7_count_85 : decode cX7_count 85 = .ok (.aload_n 0, 1) := by decide +kernel
theorem dX7_count_86 : decode cX7_count 86 = .ok (.getfield 126, 3) := by decide +kernel
theorem dX7_count_89 : decode cX7_count 89 = .ok (.ireturn, 1) := by decide +kernel
theorem dX7_count_90 : decode cX7_count 90 = .ok (.aload_n 0, 1) := by decide +kernel
theorem dX7_count_91 : decode cX7_count 91 = .ok (.getfield 132, 3) := by decide +kernel
theorem dX7_count_94 : decode cX7_count 94 = .ok (.ireturn, 1) := by decide +kernel
theorem dX7_count_95 : decode cX7_count 95 = .ok (.iload_n 2, 1) := by decide +kernel
theorem dX7_count_96 : decode cX7_count 96 = .ok (.ireturn, 1) := by decide +kernel
theorem dX7_count_97 : decode cX7_count 97 = .ok (.aload_n 0, 1) := by decide +kernel
theorem dX7_count_98 : decode cX7_count 98 = .ok (.invokevirtual 213, 3) := by decide +kernel
theorem dX7_count_101 : decode cX7_count 101 = .ok (.ireturn, 1) := by decide +kernel
theorem dX7_count_102 : decode cX7_count 102 = .ok (.aload_n 0, 1) := by decide +kernel
theorem dX7_count_103 : decode cX7_count 103 = .ok (.getfield 138, 3) := by decide +kernel
theorem dX7_count_106 : decode cX7_count 106 = .ok (.ireturn, 1) := by decide +kernel
theorem dX7_count_107 : decode cX7_count 107 = .ok (.aload_n 0, 1) := by decide +kernel
theorem dX7_count_108 : decode cX7_count 108 = .ok (.aload_n 0, 1) := by decide +kernel
theorem dX7_count_109 : decode cX7_count 109 = .ok (.getfield 62, 3) := by decide +kernel
theorem dX7_count_112 : decode cX7_count 112 = .ok (.invokevirtual 199, 3) := by decide +kernel
theorem dX7_count_115 : decode cX7_count 115 = .ok (.ireturn, 1) := by decide +kernel
theorem dX7_count_116 : decode cX7_count 116 = .ok (.iconst (-1), 1) := by decide +kernel
theorem dX7_count_117 : decode cX7_count 117 = .ok (.ireturn, 1) := by decide +kernel
theorem dX7_digest_0 : decode cX7_digest 0 = .ok (.ldc2_w 234, 3) := by decide +kernel
theorem dX7_digest_3 : decode cX7_digest 3 = .ok (.ldc2_w 234, 3) := by decide +kernel
theorem dX7_digest_6 : decode cX7_digest 6 = .ok (.ldc2_w 236, 3) := by decide +kernel
theorem dX7_digest_9 : decode cX7_digest 9 = .ok (.aload_n 0, 1) := by decide +kernel
theorem dX7_digest_10 : decode cX7_digest 10 = .ok (.getfield 123, 3) := by decide +kernel
theorem dX7_digest_13 : decode cX7_digest 13 = .ok (.i2l, 1) := by decide +kernel
theorem dX7_digest_14 : decode cX7_digest 14 = .ok (.ladd, 1) := by decide +kernel
theorem dX7_digest_15 : decode cX7_digest 15 = .ok (.lmul, 1) := by decide +kernel
theorem dX7_digest_16 : decode cX7_digest 16 = .ok (.aload_n 0, 1) := by decide +kernel
theorem dX7_digest_17 : decode cX7_digest 17 = .ok (.getfield 126, 3) := by decide +kernel
theorem dX7_digest_20 : decode cX7_digest 20 = .ok (.i2l, 1) := by decide +kernel
theorem dX7_digest_21 : decode cX7_digest 21 = .ok (.ladd, 1) := by decide +kernel
theorem dX7_digest_22 : decode cX7_digest 22 = .ok (.lmul, 1) := by decide +kernel
theorem dX7_digest_23 : decode cX7_digest 23 = .ok (.aload_n 0, 1) := by decide +kernel
theorem dX7_digest_24 : decode cX7_digest 24 = .ok (.getfield 129, 3) := by decide +kernel
theorem dX7_digest_27 : decode cX7_digest 27 = .ok (.i2l, 1) := by decide +kernel
theorem dX7_digest_28 : decode cX7_digest 28 = .ok (.ladd, 1) := by decide +kernel
theorem dX7_digest_29 : decode cX7_digest 29 = .ok (.lstore_n 1, 1) := by decide +kernel
theorem dX7_digest_30 : decode cX7_digest 30 = .ok (.iconst 0, 1) := by decide +kernel
theorem dX7_digest_31 : decode cX7_digest 31 = .ok (.istore_n 3, 1) := by decide +kernel
theorem dX7_digest_32 : decode cX7_digest 32 = .ok (.iload_n 3, 1) := by decide +kernel
theorem dX7_digest_33 : decode cX7_digest 33 = .ok (.aload_n 0, 1) := by decide +kernel
theorem dX7_digest_34 : decode cX7_digest 34 = .ok (.getfield 126, 3) := by decide +kernel
theorem dX7_digest_37 : decode cX7_digest 37 = .ok (.if_icmp .ge 23, 3) := by decide +kernel
theorem dX7_digest_40 : decode cX7_digest 40 = .ok (.ldc2_w 234, 3) := by decide +kernel
theorem dX7_digest_43 : decode cX7_digest 43 = .ok (.lload_n 1, 1) := by decide +kernel
theorem dX7_digest_44 : decode cX7_digest 44 = .ok (.lmul, 1) := by decide +kernel
theorem dX7_digest_45 : decode cX7_digest 45 = .ok (.aload_n 0, 1) := by decide +kernel
theorem dX7_digest_46 : decode cX7_digest 46 = .ok (.getfield 13, 3) := by decide +kernel
theorem dX7_digest_49 : decode cX7_digest 49 = .ok (.iload_n 3, 1) := by decide +kernel
theorem dX7_digest_50 : decode cX7_digest 50 = .ok (.iaload, 1) := by decide +kernel
theorem dX7_digest_51 : decode cX7_digest 51 = .ok (.i2l, 1) := by decide +kernel
theorem dX7_digest_52 : decode cX7_digest 52 = .ok (.ladd, 1) := by decide +kernel
theorem dX7_digest_53 : decode cX7_digest 53 = .ok (.lstore_n 1, 1) := by decide +kernel
theorem dX7_digest_54 : decode cX7_digest 54 = .ok (.iinc 3 1, 3) := by decide +kernel
theorem dX7_digest_57 : decode cX7_digest 57 = .ok (.goto (-25), 3) := by decide +kernel
theorem dX7_digest_60 : decode cX7_digest 60 = .ok (.iconst 0, 1) := by decide +kernel
theorem dX7_digest_61 : decode cX7_digest 61 = .ok (.istore_n 3, 1) := by decide +kernel
theorem dX7_digest_62 : decode cX7_digest 62 = .ok (.iload_n 3, 1) := by decide +kernel
theorem dX7_digest_63 : decode cX7_digest 63 = .ok (.aload_n 0, 1) := by decide +kernel
theorem dX7_digest_64 : decode cX7_digest 64 = .ok (.getfield 126, 3) := by decide +kernel
theorem dX7_digest_67 : decode cX7_digest 67 = .ok (.if_icmp .ge 23, 3) := by decide +kernel
theorem dX7_digest_70 : decode cX7_digest 70 = .ok (.ldc2_w 234, 3) := by decide +kernel
theorem dX7_digest_73 : decode cX7_digest 73 = .ok (.lload_n 1, 1) := by decide +kernel
theorem dX7_digest_74 : decode cX7_digest 74 = .ok (.lmul, 1) := by decide +kernel
theorem dX7_digest_75 : decode cX7_digest 75 = .ok (.aload_n 0, 1) := by decide +kernel
theorem dX7_digest_76 : decode cX7_digest 76 = .ok (.getfield 62, 3) := by decide +kernel
theorem dX7_digest_79 : decode cX7_digest 79 = .ok (.iload_n 3, 1) := by decide +kernel
theorem dX7_digest_80 : decode cX7_digest 80 = .ok (.iaload, 1) := by decide +kernel
theorem dX7_digest_81 : decode cX7_digest 81 = .ok (.i2l, 1) := by decide +kernel
theorem dX7_digest_82 : decode cX7_digest 82 = .ok (.ladd, 1) := by decide +kernel
theorem dX7_digest_83 : decode cX7_digest 83 = .ok (.lstore_n 1, 1) := by decide +kernel
theorem dX7_digest_84 : decode cX7_digest 84 = .ok (.iinc 3 1, 3) := by decide +kernel
theorem dX7_digest_87 : decode cX7_digest 87 = .ok (.goto (-25), 3) := by decide +kernel
theorem dX7_digest_90 : decode cX7_digest 90 = .ok (.iconst 0, 1) := by decide +kernel
theorem dX7_digest_91 : decode cX7_digest 91 = .ok (.istore_n 3, 1) := by decide +kernel
theorem dX7_digest_92 : decode cX7_digest 92 = .ok (.iload_n 3, 1) := by decide +kernel
theorem dX7_digest_93 : decode cX7_digest 93 = .ok (.bipush 10, 2) := by decide +kernel
theorem dX7_digest_95 : decode cX7_digest 95 = .ok (.if_icmp .ge 23, 3) := by decide +kernel
theorem dX7_digest_98 : decode cX7_digest 98 = .ok (.ldc2_w 234, 3) := by decide +kernel
theorem dX7_digest_101 : decode cX7_digest 101 = .ok (.lload_n 1, 1) := by decide +kernel
theorem dX7_digest_102 : decode cX7_digest 102 = .ok (.lmul, 1) := by decide +kernel
theorem dX7_digest_103 : decode cX7_digest 103 = .ok (.aload_n 0, 1) := by decide +kernel
theorem dX7_digest_104 : decode cX7_digest 104 = .ok (.getfield 16, 3) := by decide +kernel
theorem dX7_digest_107 : decode cX7_digest 107 = .ok (.iload_n 3, 1) := by decide +kernel
theorem dX7_digest_108 : decode cX7_digest 108 = .ok (.iaload, 1) := by decide +kernel
theorem dX7_digest_109 : decode cX7_digest 109 = .ok (.i2l, 1) := by decide +kernel
theorem dX7_digest_110 : decode cX7_digest 110 = .ok (.ladd, 1) := by decide +kernel
theorem dX7_digest_111 : decode cX7_digest 111 = .ok (.lstore_n 1, 1) := by decide +kernel
theorem dX7_digest_112 : decode cX7_digest 112 = .ok (.iinc 3 1, 3) := by decide +kernel
theorem dX7_digest_115 : decode cX7_digest 115 = .ok (.goto (-23), 3) := by decide +kernel
theorem dX7_digest_118 : decode cX7_digest 118 = .ok (.iconst 0, 1) := by decide +kernel
theorem dX7_digest_119 : decode cX7_digest 119 = .ok (.istore_n 3, 1) := by decide +kernel
theorem dX7_digest_120 : decode cX7_digest 120 = .ok (.iload_n 3, 1) := by decide +kernel
theorem dX7_digest_121 : decode cX7_digest 121 = .ok (.aload_n 0, 1) := by decide +kernel
theorem dX7_digest_122 : decode cX7_digest 122 = .ok (.getfield 132, 3) := by decide +kernel
theorem dX7_digest_125 : decode cX7_digest 125 = .ok (.if_icmp .ge 35, 3) := by decide +kernel
theorem dX7_digest_128 : decode cX7_digest 128 = .ok (.aload_n 0, 1) := by decide +kernel
theorem dX7_digest_129 : decode cX7_digest 129 = .ok (.getfield 34, 3) := by decide +kernel
theorem dX7_digest_132 : decode cX7_digest 132 = .ok (.iload_n 3, 1) := by decide +kernel
theorem dX7_digest_133 : decode cX7_digest 133 = .ok (.baload, 1) := by decide +kernel
theorem dX7_digest_134 : decode cX7_digest 134 = .ok (.ifCond .eq 13, 3) := by decide +kernel
theorem dX7_digest_137 : decode cX7_digest 137 = .ok (.ldc2_w 234, 3) := by decide +kernel
theorem dX7_digest_140 : decode cX7_digest 140 = .ok (.lload_n 1, 1) := by decide +kernel
theorem dX7_digest_141 : decode cX7_digest 141 = .ok (.lmul, 1) := by decide +kernel
theorem dX7_digest_142 : decode cX7_digest 142 = .ok (.lconst 1, 1) := by decide +kernel
theorem dX7_digest_143 : decode cX7_digest 143 = .ok (.lsub, 1) := by decide +kernel
theorem dX7_digest_144 : decode cX7_digest 144 = .ok (.goto 9, 3) := by decide +kernel
theorem dX7_digest_147 : decode cX7_digest 147 = .ok (.aload_n 0, 1) := by decide +kernel
theorem dX7_digest_148 : decode cX7_digest 148 = .ok (.lload_n 1, 1) := by decide +kernel
theorem dX7_digest_149 : decode cX7_digest 149 = .ok (.iload_n 3, 1) := by decide +kernel
theorem dX7_digest_150 : decode cX7_digest 150 = .ok (.invokevirtual 238, 3) := by decide +kernel
theorem dX7_digest_153 : decode cX7_digest 153 = .ok (.lstore_n 1, 1) := by decide +kernel
theorem dX7_digest_154 : decode cX7_digest 154 = .ok (.iinc 3 1, 3) := by decide +kernel
theorem dX7_digest_157 : decode cX7_digest 157 = .ok (.goto (-37), 3) := by decide +kernel
theorem dX7_digest_160 : decode cX7_digest 160 = .ok (.ldc2_w 234, 3) := by decide +kernel
theorem dX7_digest_163 : decode cX7_digest 163 = .ok (.lload_n 1, 1) := by decide +kernel
theorem dX7_digest_164 : decode cX7_digest 164 = .ok (.lmul, 1) := by decide +kernel
theorem dX7_digest_165 : decode cX7_digest 165 = .ok (.aload_n 0, 1) := by decide +kernel
theorem dX7_digest_166 : decode cX7_digest 166 = .ok (.getfield 138, 3) := by decide +kernel
theorem dX7_digest_169 : decode cX7_digest 169 = .ok (.i2l, 1) := by decide +kernel
theorem dX7_digest_170 : decode cX7_digest 170 = .ok (.ladd, 1) := by decide +kernel
theorem dX7_digest_171 : decode cX7_digest 171 = .ok (.lstore_n 1, 1) := by decide +kernel
theorem dX7_digest_172 : decode cX7_digest 172 = .ok (.iconst 0, 1) := by decide +kernel
theorem dX7_digest_173 : decode cX7_digest 173 = .ok (.istore_n 3, 1) := by decide +kernel
theorem dX7_digest_174 : decode cX7_digest 174 = .ok (.iload_n 3, 1) := by decide +kernel
theorem dX7_digest_175 : decode cX7_digest 175 = .ok (.aload_n 0, 1) := by decide +kernel
theorem dX7_digest_176 : decode cX7_digest 176 = .ok (.getfield 138, 3) := by decide +kernel
theorem dX7_digest_179 : decode cX7_digest 179 = .ok (.if_icmp .ge 39, 3) := by decide +kernel
theorem dX7_digest_182 : decode cX7_digest 182 = .ok (.iconst 0, 1) := by decide +kernel
theorem dX7_digest_183 : decode cX7_digest 183 = .ok (.istore 4, 2) := by decide +kernel
theorem dX7_digest_185 : decode cX7_digest 185 = .ok (.iload 4, 2) := by decide +kernel
theorem dX7_digest_187 : decode cX7_digest 187 = .ok (.iconst 4, 1) := by decide +kernel
theorem dX7_digest_188 : decode cX7_digest 188 = .ok (.if_icmp .ge 24, 3) := by decide +kernel
theorem dX7_digest_191 : decode cX7_digest 191 = .ok (.ldc2_w 234, 3) := by decide +kernel
theorem dX7_digest_194 : decode cX7_digest 194 = .ok (.lload_n 1, 1) := by decide +kernel
theorem dX7_digest_195 : decode cX7_digest 195 = .ok (.lmul, 1) := by decide +kernel
theorem dX7_digest_196 : decode cX7_digest 196 = .ok (.aload_n 0, 1) := by decide +kernel
theorem dX7_digest_197 : decode cX7_digest 197 = .ok (.iload_n 3, 1) := by decide +kernel
theorem dX7_digest_198 : decode cX7_digest 198 = .ok (.iload 4, 2) := by decide +kernel
theorem dX7_digest_200 : decode cX7_digest 200 = .ok (.invokevirtual 231, 3) := by decide +kernel
theorem dX7_digest_203 : decode cX7_digest 203 = .ok (.i2l, 1) := by decide +kernel
theorem dX7_digest_204 : decode cX7_digest 204 = .ok (.ladd, 1) := by decide +kernel
theorem dX7_digest_205 : decode cX7_digest 205 = .ok (.lstore_n 1, 1) := by decide +kernel
theorem dX7_digest_206 : decode cX7_digest 206 = .ok (.iinc 4 1, 3) := by decide +kernel
theorem dX7_digest_209 : decode cX7_digest 209 = .ok (.goto (-24), 3) := by decide +kernel
theorem dX7_digest_212 : decode cX7_digest 212 = .ok (.iinc 3 1, 3) := by decide +kernel
theorem dX7_digest_215 : decode cX7_digest 215 = .ok (.goto (-41), 3) := by decide +kernel
theorem dX7_digest_218 : decode cX7_digest 218 = .ok (.lload_n 1, 1) := by decide +kernel
theorem dX7_digest_219 : decode cX7_digest 219 = .ok (.lreturn, 1) := by decide +kernel
theorem dX7_digestCell_0 : decode cX7_digestCell 0 = .ok (.lload_n 1, 1) := by decide +kernel
theorem dX7_digestCell_1 : decode cX7_digestCell 1 = .ok (.lstore 4, 2) := by decide +kernel
theorem dX7_digestCell_3 : decode cX7_digestCell 3 = .ok (.iconst 0, 1) := by decide +kernel
theorem dX7_digestCell_4 : decode cX7_digestCell 4 = .ok (.istore 6, 2) := by decide +kernel
theorem dX7_digestCell_6 : decode cX7_digestCell 6 = .ok (.iload 6, 2) := by decide +kernel
theorem dX7_digestCell_8 : decode cX7_digestCell 8 = .ok (.bipush 7, 2) := by decide +kernel
theorem dX7_digestCell_10 : decode cX7_digestCell 10 = .ok (.if_icmp .ge 26, 3) := by decide +kernel
theorem dX7_digestCell_13 : decode cX7_digestCell 13 = .ok (.ldc2_w 234, 3) := by decide +kernel
theorem dX7_digestCell_16 : decode cX7_digestCell 16 = .ok (.lload 4, 2) := by decide +kernel
theorem dX7_digestCell_18 : decode cX7_digestCell 18 = .ok (.lmul, 1) := by decide +kernel
theorem dX7_digestCell_19 : decode cX7_digestCell 19 = .ok (.aload_n 0, 1) := by decide +kernel
theorem dX7_digestCell_20 : decode cX7_digestCell 20 = .ok (.iload_n 3, 1) := by decide +kernel
theorem dX7_digestCell_21 : decode cX7_digestCell 21 = .ok (.iload 6, 2) := by decide +kernel
theorem dX7_digestCell_23 : decode cX7_digestCell 23 = .ok (.invokevirtual 166, 3) := by decide +kernel
theorem dX7_digestCell_26 : decode cX7_digestCell 26 = .ok (.i2l, 1) := by decide +kernel
theorem dX7_digestCell_27 : decode cX7_digestCell 27 = .ok (.ladd, 1) := by decide +kernel
theorem dX7_digestCell_28 : decode cX7_digestCell 28 = .ok (.lstore 4, 2) := by decide +kernel
theorem dX7_digestCell_30 : decode cX7_digestCell 30 = .ok (.iinc 6 1, 3) := by decide +kernel
theorem dX7_digestCell_33 : decode cX7_digestCell 33 = .ok (.goto (-27), 3) := by decide +kernel
theorem dX7_digestCell_36 : decode cX7_digestCell 36 = .ok (.iconst 0, 1) := by decide +kernel
theorem dX7_digestCell_37 : decode cX7_digestCell 37 = .ok (.istore 6, 2) := by decide +kernel
theorem dX7_digestCell_39 : decode cX7_digestCell 39 = .ok (.iload 6, 2) := by decide +kernel
theorem dX7_digestCell_41 : decode cX7_digestCell 41 = .ok (.aload_n 0, 1) := by decide +kernel
theorem dX7_digestCell_42 : decode cX7_digestCell 42 = .ok (.getfield 38, 3) := by decide +kernel
theorem dX7_digestCell_45 : decode cX7_digestCell 45 = .ok (.iload_n 3, 1) := by decide +kernel
theorem dX7_digestCell_46 : decode cX7_digestCell 46 = .ok (.iaload, 1) := by decide +kernel
theorem dX7_digestCell_47 : decode cX7_digestCell 47 = .ok (.if_icmp .ge 31, 3) := by decide +kernel
theorem dX7_digestCell_50 : decode cX7_digestCell 50 = .ok (.ldc2_w 234, 3) := by decide +kernel
theorem dX7_digestCell_53 : decode cX7_digestCell 53 = .ok (.lload 4, 2) := by decide +kernel
theorem dX7_digestCell_55 : decode cX7_digestCell 55 = .ok (.lmul, 1) := by decide +kernel
theorem dX7_digestCell_56 : decode cX7_digestCell 56 = .ok (.aload_n 0, 1) := by decide +kernel
theorem dX7_digestCell_57 : decode cX7_digestCell 57 = .ok (.getfield 41, 3) := by decide +kernel
theorem dX7_digestCell_60 : decode cX7_digestCell 60 = .ok (.bipush 12, 2) := by decide +kernel
theorem dX7_digestCell_62 : decode cX7_digestCell 62 = .ok (.iload_n 3, 1) := by decide +kernel
theorem dX7_digestCell_63 : decode cX7_digestCell 63 = .ok (.imul, 1) := by decide +kernel
theorem dX7_digestCell_64 : decode cX7_digestCell 64 = .ok (.iload 6, 2) := by decide +kernel
theorem dX7_digestCell_66 : decode cX7_digestCell 66 = .ok (.iadd, 1) := by decide +kernel
theorem dX7_digestCell_67 : decode cX7_digestCell 67 = .ok (.iaload, 1) := by decide +kernel
theorem dX7_digestCell_68 : decode cX7_digestCell 68 = .ok (.i2l, 1) := by decide +kernel
theorem dX7_digestCell_69 : decode cX7_digestCell 69 = .ok (.ladd, 1) := by decide +kernel
theorem dX7_digestCell_70 : decode cX7_digestCell 70 = .ok (.lstore 4, 2) := by decide +kernel
theorem dX7_digestCell_72 : decode cX7_digestCell 72 = .ok (.iinc 6 1, 3) := by decide +kernel
theorem dX7_digestCell_75 : decode cX7_digestCell 75 = .ok (.goto (-36), 3) := by decide +kernel
theorem dX7_digestCell_78 : decode cX7_digestCell 78 = .ok (.aload_n 0, 1) := by decide +kernel
theorem dX7_digestCell_79 : decode cX7_digestCell 79 = .ok (.getfield 19, 3) := by decide +kernel
theorem dX7_digestCell_82 : decode cX7_digestCell 82 = .ok (.iload_n 3, 1) := by decide +kernel
theorem dX7_digestCell_83 : decode cX7_digestCell 83 = .ok (.iaload, 1) := by decide +kernel
theorem dX7_digestCell_84 : decode cX7_digestCell 84 = .ok (.iconst 2, 1) := by decide +kernel
theorem dX7_digestCell_85 : decode cX7_digestCell 85 = .ok (.if_icmp .ne 20, 3) := by decide +kernel
theorem dX7_digestCell_88 : decode cX7_digestCell 88 = .ok (.ldc2_w 234, 3) := by decide +kernel
theorem dX7_digestCell_91 : decode cX7_digestCell 91 = .ok (.lload 4, 2) := by decide +kernel
theorem dX7_digestCell_93 : decode cX7_digestCell 93 = .ok (.lmul, 1) := by decide +kernel
theorem dX7_digestCell_94 : decode cX7_digestCell 94 = .ok (.aload_n 0, 1) := by decide +kernel
theorem dX7_digestCell_95 : decode cX7_digestCell 95 = .ok (.getfield 47, 3) := by decide +kernel
theorem dX7_digestCell_98 : decode cX7_digestCell 98 = .ok (.iload_n 3, 1) := by decide +kernel
theorem dX7_digestCell_99 : decode cX7_digestCell 99 = .ok (.iaload, 1) := by decide +kernel
theorem dX7_digestCell_100 : decode cX7_digestCell 100 = .ok (.i2l, 1) := by decide +kernel
theorem dX7_digestCell_101 : decode cX7_digestCell 101 = .ok (.ladd, 1) := by decide +kernel
theorem dX7_digestCell_102 : decode cX7_digestCell 102 = .ok (.goto 5, 3) := by decide +kernel
theorem dX7_digestCell_105 : decode cX7_digestCell 105 = .ok (.lload 4, 2) := by decide +kernel
theorem dX7_digestCell_107 : decode cX7_digestCell 107 = .ok (.lreturn, 1) := by decide +kernel
