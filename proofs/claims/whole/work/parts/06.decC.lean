theorem dX10_init_0 : decode cX10_init 0 = .ok (.aload_n 0, 1) := by decide +kernel
theorem dX10_init_1 : decode cX10_init 1 = .ok (.invokespecial 1, 3) := by decide +kernel
theorem dX10_init_4 : decode cX10_init 4 = .ok (.aload_n 0, 1) := by decide +kernel
theorem dX10_init_5 : decode cX10_init 5 = .ok (.bipush 16, 2) := by decide +kernel
theorem dX10_init_7 : decode cX10_init 7 = .ok (.newarray .int, 2) := by decide +kernel
theorem dX10_init_9 : decode cX10_init 9 = .ok (.putfield 7, 3) := by decide +kernel
theorem dX10_init_12 : decode cX10_init 12 = .ok (.aload_n 0, 1) := by decide +kernel
theorem dX10_init_13 : decode cX10_init 13 = .ok (.bipush 16, 2) := by decide +kernel
theorem dX10_init_15 : decode cX10_init 15 = .ok (.newarray .int, 2) := by decide +kernel
theorem dX10_init_17 : decode cX10_init 17 = .ok (.putfield 13, 3) := by decide +kernel
theorem dX10_init_20 : decode cX10_init 20 = .ok (.aload_n 0, 1) := by decide +kernel
theorem dX10_init_21 : decode cX10_init 21 = .ok (.bipush 16, 2) := by decide +kernel
theorem dX10_init_23 : decode cX10_init 23 = .ok (.newarray .int, 2) := by decide +kernel
theorem dX10_init_25 : decode cX10_init 25 = .ok (.putfield 16, 3) := by decide +kernel
theorem dX10_init_28 : decode cX10_init 28 = .ok (.aload_n 0, 1) := by decide +kernel
theorem dX10_init_29 : decode cX10_init 29 = .ok (.bipush 16, 2) := by decide +kernel
theorem dX10_init_31 : decode cX10_init 31 = .ok (.newarray .int, 2) := by decide +kernel
theorem dX10_init_33 : decode cX10_init 33 = .ok (.putfield 19, 3) := by decide +kernel
theorem dX10_init_36 : decode cX10_init 36 = .ok (.aload_n 0, 1) := by decide +kernel
theorem dX10_init_37 : decode cX10_init 37 = .ok (.bipush 16, 2) := by decide +kernel
theorem dX10_init_39 : decode cX10_init 39 = .ok (.newarray .int, 2) := by decide +kernel
theorem dX10_init_41 : decode cX10_init 41 = .ok (.putfield 22, 3) := by decide +kernel
theorem dX10_init_44 : decode cX10_init 44 = .ok (.aload_n 0, 1) := by decide +kernel
theorem dX10_init_45 : decode cX10_init 45 = .ok (.sipush 200, 3) := by decide +kernel
theorem dX10_init_48 : decode cX10_init 48 = .ok (.newarray .byte, 2) := by decide +kernel
theorem dX10_init_50 : decode cX10_init 50 = .ok (.putfield 25, 3) := by decide +kernel
theorem dX10_init_53 : decode cX10_init 53 = .ok (.aload_n 0, 1) := by decide +kernel
theorem dX10_init_54 : decode cX10_init 54 = .ok (.sipush 180, 3) := by decide +kernel
theorem dX10_init_57 : decode cX10_init 57 = .ok (.newarray .int, 2) := by decide +kernel
theorem dX10_init_59 : decode cX10_init 59 = .ok (.putfield 29, 3) := by decide +kernel
theorem dX10_init_62 : decode cX10_init 62 = .ok (.aload_n 0, 1) := by decide +kernel
theorem dX10_init_63 : decode cX10_init 63 = .ok (.sipush 180, 3) := by decide +kernel
theorem dX10_init_66 : decode cX10_init 66 = .ok (.newarray .int, 2) := by decide +kernel
theorem dX10_init_68 : decode cX10_init 68 = .ok (.putfield 32, 3) := by decide +kernel
theorem dX10_init_71 : decode cX10_init 71 = .ok (.aload_n 0, 1) := by decide +kernel
theorem dX10_init_72 : decode cX10_init 72 = .ok (.bipush 12, 2) := by decide +kernel
theorem dX10_init_74 : decode cX10_init 74 = .ok (.newarray .int, 2) := by decide +kernel
theorem dX10_init_76 : decode cX10_init 76 = .ok (.putfield 35, 3) := by decide +kernel
theorem dX10_init_79 : decode cX10_init 79 = .ok (.aload_n 0, 1) := by decide +kernel
theorem dX10_init_80 : decode cX10_init 80 = .ok (.bipush 12, 2) := by decide +kernel
theorem dX10_init_82 : decode cX10_init 82 = .ok (.newarray .int, 2) := by decide +kernel
theorem dX10_init_84 : decode cX10_init 84 = .ok (.putfield 38, 3) := by decide +kernel
theorem dX10_init_87 : decode cX10_init 87 = .ok (.aload_n 0, 1) := by decide +kernel
theorem dX10_init_88 : decode cX10_init 88 = .ok (.bipush 12, 2) := by decide +kernel
theorem dX10_init_90 : decode cX10_init 90 = .ok (.newarray .int, 2) := by decide +kernel
theorem dX10_init_92 : decode cX10_init 92 = .ok (.putfield 41, 3) := by decide +kernel
theorem dX10_init_95 : decode cX10_init 95 = .ok (.aload_n 0, 1) := by decide +kernel
theorem dX10_init_96 : decode cX10_init 96 = .ok (.bipush 12, 2) := by decide +kernel
theorem dX10_init_98 : decode cX10_init 98 = .ok (.newarray .int, 2) := by decide +kernel
theorem dX10_init_100 : decode cX10_init 100 = .ok (.putfield 44, 3) := by decide +kernel
theorem dX10_init_103 : decode cX10_init 103 = .ok (.aload_n 0, 1) := by decide +kernel
theorem dX10_init_104 : decode cX10_init 104 = .ok (.sipush 360, 3) := by decide +kernel
theorem dX10_init_107 : decode cX10_init 107 = .ok (.newarray .int, 2) := by decide +kernel
theorem dX10_init_109 : decode cX10_init 109 = .ok (.putfield 47, 3) := by decide +kernel
theorem dX10_init_112 : decode cX10_init 112 = .ok (.aload_n 0, 1) := by decide +kernel
theorem dX10_init_113 : decode cX10_init 113 = .ok (.iconst 2, 1) := by decide +kernel
theorem dX10_init_114 : decode cX10_init 114 = .ok (.newarray .int, 2) := by decide +kernel
theorem dX10_init_116 : decode cX10_init 116 = .ok (.putfield 50, 3) := by decide +kernel
theorem dX10_init_119 : decode cX10_init 119 = .ok (.aload_n 0, 1) := by decide +kernel
theorem dX10_init_120 : decode cX10_init 120 = .ok (.bipush 24, 2) := by decide +kernel
theorem dX10_init_122 : decode cX10_init 122 = .ok (.newarray .int, 2) := by decide +kernel
theorem dX10_init_124 : decode cX10_init 124 = .ok (.putfield 53, 3) := by decide +kernel
theorem dX10_init_127 : decode cX10_init 127 = .ok (.aload_n 0, 1) := by decide +kernel
theorem dX10_init_128 : decode cX10_init 128 = .ok (.bipush 24, 2) := by decide +kernel
theorem dX10_init_130 : decode cX10_init 130 = .ok (.newarray .int, 2) := by decide +kernel
theorem dX10_init_132 : decode cX10_init 132 = .ok (.putfield 56, 3) := by decide +kernel
theorem dX10_init_135 : decode cX10_init 135 = .ok (.aload_n 0, 1) := by decide +kernel
theorem dX10_init_136 : decode cX10_init 136 = .ok (.bipush 24, 2) := by decide +kernel
theorem dX10_init_138 : decode cX10_init 138 = .ok (.newarray .int, 2) := by decide +kernel
theorem dX10_init_140 : decode cX10_init 140 = .ok (.putfield 59, 3) := by decide +kernel
theorem dX10_init_143 : decode cX10_init 143 = .ok (.aload_n 0, 1) := by decide +kernel
theorem dX10_init_144 : decode cX10_init 144 = .ok (.bipush 24, 2) := by decide +kernel
theorem dX10_init_146 : decode cX10_init 146 = .ok (.newarray .int, 2) := by decide +kernel
theorem dX10_init_148 : decode cX10_init 148 = .ok (.putfield 62, 3) := by decide +kernel
theorem dX10_init_151 : decode cX10_init 151 = .ok (.aload_n 0, 1) := by decide +kernel
theorem dX10_init_152 : decode cX10_init 152 = .ok (.sipush 180, 3) := by decide +kernel
theorem dX10_init_155 : decode cX10_init 155 = .ok (.newarray .int, 2) := by decide +kernel
theorem dX10_init_157 : decode cX10_init 157 = .ok (.putfield 65, 3) := by decide +kernel
theorem dX10_init_160 : decode cX10_init 160 = .ok (.aload_n 0, 1) := by decide +kernel
theorem dX10_init_161 : decode cX10_init 161 = .ok (.bipush 12, 2) := by decide +kernel
theorem dX10_init_163 : decode cX10_init 163 = .ok (.newarray .int, 2) := by decide +kernel
theorem dX10_init_165 : decode cX10_init 165 = .ok (.putfield 68, 3) := by decide +kernel
theorem dX10_init_168 : decode cX10_init 168 = .ok (.aload_n 0, 1) := by decide +kernel
theorem dX10_init_169 : decode cX10_init 169 = .ok (.sipush 256, 3) := by decide +kernel
theorem dX10_init_172 : decode cX10_init 172 = .ok (.newarray .int, 2) := by decide +kernel
theorem dX10_init_174 : decode cX10_init 174 = .ok (.putfield 71, 3) := by decide +kernel
theorem dX10_init_177 : decode cX10_init 177 = .ok (.aload_n 0, 1) := by decide +kernel
theorem dX10_init_178 : decode cX10_init 178 = .ok (.bipush 12, 2) := by decide +kernel
theorem dX10_init_180 : decode cX10_init 180 = .ok (.newarray .int, 2) := by decide +kernel
theorem dX10_init_182 : decode cX10_init 182 = .ok (.putfield 74, 3) := by decide +kernel
theorem dX10_init_185 : decode cX10_init 185 = .ok (.aload_n 0, 1) := by decide +kernel
theorem dX10_init_186 : decode cX10_init 186 = .ok (.bipush 12, 2) := by decide +kernel
theorem dX10_init_188 : decode cX10_init 188 = .ok (.newarray .int, 2) := by decide +kernel
theorem dX10_init_190 : decode cX10_init 190 = .ok (.putfield 77, 3) := by decide +kernel
theorem dX10_init_193 : decode cX10_init 193 = .ok (.aload_n 0, 1) := by decide +kernel
theorem dX10_init_194 : decode cX10_init 194 = .ok (.bipush 12, 2) := by decide +kernel
theorem dX10_init_196 : decode cX10_init 196 = .ok (.newarray .int, 2) := by decide +kernel
theorem dX10_init_198 : decode cX10_init 198 = .ok (.putfield 80, 3) := by decide +kernel
theorem dX10_init_201 : decode cX10_init 201 = .ok (.aload_n 0, 1) := by decide +kernel
theorem dX10_init_202 : decode cX10_init 202 = .ok (.bipush 16, 2) := by decide +kernel
theorem dX10_init_204 : decode cX10_init 204 = .ok (.newarray .int, 2) := by decide +kernel
theorem dX10_init_206 : decode cX10_init 206 = .ok (.putfield 83, 3) := by decide +kernel
theorem dX10_init_209 : decode cX10_init 209 = .ok (.aload_n 0, 1) := by decide +kernel
theorem dX10_init_210 : decode cX10_init 210 = .ok (.bipush 16, 2) := by decide +kernel
theorem dX10_init_212 : decode cX10_init 212 = .ok (.newarray .int, 2) := by decide +kernel
theorem dX10_init_214 : decode cX10_init 214 = .ok (.putfield 86, 3) := by decide +kernel
theorem dX10_init_217 : decode cX10_init 217 = .ok (.aload_n 0, 1) := by decide +kernel
theorem dX10_init_218 : decode cX10_init 218 = .ok (.bipush 16, 2) := by decide +kernel
theorem dX10_init_220 : decode cX10_init 220 = .ok (.newarray .int, 2) := by decide +kernel
theorem dX10_init_222 : decode cX10_init 222 = .ok (.putfield 89, 3) := by decide +kernel
theorem dX10_init_225 : decode cX10_init 225 = .ok (.aload_n 0, 1) := by decide +kernel
theorem dX10_init_226 : decode cX10_init 226 = .ok (.bipush 16, 2) := by decide +kernel
theorem dX10_init_228 : decode cX10_init 228 = .ok (.newarray .int, 2) := by decide +kernel
theorem dX10_init_230 : decode cX10_init 230 = .ok (.putfield 92, 3) := by decide +kernel
theorem dX10_init_233 : decode cX10_init 233 = .ok (.aload_n 0, 1) := by decide +kernel
theorem dX10_init_234 : decode cX10_init 234 = .ok (.iconst 5, 1) := by decide +kernel
theorem dX10_init_235 : decode cX10_init 235 = .ok (.newarray .int, 2) := by decide +kernel
theorem dX10_init_237 : decode cX10_init 237 = .ok (.putfield 95, 3) := by decide +kernel
theorem dX10_init_240 : decode cX10_init 240 = .ok (.aload_n 0, 1) := by decide +kernel
theorem dX10_init_241 : decode cX10_init 241 = .ok (.iconst 5, 1) := by decide +kernel
theorem dX10_init_242 : decode cX10_init 242 = .ok (.newarray .int, 2) := by decide +kernel
theorem dX10_init_244 : decode cX10_init 244 = .ok (.putfield 98, 3) := by decide +kernel
theorem dX10_init_247 : decode cX10_init 247 = .ok (.aload_n 0, 1) := by decide +kernel
theorem dX10_init_248 : decode cX10_init 248 = .ok (.iconst 5, 1) := by decide +kernel
theorem dX10_init_249 : decode cX10_init 249 = .ok (.newarray .int, 2) := by decide +kernel
theorem dX10_init_251 : decode cX10_init 251 = .ok (.putfield 101, 3) := by decide +kernel
theorem dX10_init_254 : decode cX10_init 254 = .ok (.aload_n 0, 1) := by decide +kernel
theorem dX10_init_255 : decode cX10_init 255 = .ok (.iconst 5, 1) := by decide +kernel
theorem dX10_init_256 : decode cX10_init 256 = .ok (.newarray .int, 2) := by decide +kernel
theorem dX10_init_258 : decode cX10_init 258 = .ok (.putfield 104, 3) := by decide +kernel
theorem dX10_init_261 : decode cX10_init 261 = .ok (.aload_n 0, 1) := by decide +kernel
theorem dX10_init_262 : decode cX10_init 262 = .ok (.bipush 12, 2) := by decide +kernel
theorem dX10_init_264 : decode cX10_init 264 = .ok (.newarray .int, 2) := by decide +kernel
theorem dX10_init_266 : decode cX10_init 266 = .ok (.putfield 107, 3) := by decide +kernel
theorem dX10_init_269 : decode cX10_init 269 = .ok (.aload_n 0, 1) := by decide +kernel
theorem dX10_init_270 : decode cX10_init 270 = .ok (.bipush 16, 2) := by decide +kernel
theorem dX10_init_272 : decode cX10_init 272 = .ok (.newarray .int, 2) := by decide +kernel
theorem dX10_init_274 : decode cX10_init 274 = .ok (.putfield 110, 3) := by decide +kernel
theorem dX10_init_277 : decode cX10_init 277 = .ok (.aload_n 0, 1) := by decide +kernel
theorem dX10_init_278 : decode cX10_init 278 = .ok (.bipush 16, 2) := by decide +kernel
theorem dX10_init_280 : decode cX10_init 280 = .ok (.newarray .int, 2) := by decide +kernel
theorem dX10_init_282 : decode cX10_init 282 = .ok (.putfield 113, 3) := by decide +kernel
theorem dX10_init_285 : decode cX10_init 285 = .ok (.aload_n 0, 1) := by decide +kernel
theorem dX10_init_286 : decode cX10_init 286 = .ok (.bipush 16, 2) := by decide +kernel
theorem dX10_init_288 : decode cX10_init 288 = .ok (.newarray .int, 2) := by decide +kernel
theorem dX10_init_290 : decode cX10_init 290 = .ok (.putfield 116, 3) := by decide +kernel
theorem dX10_init_293 : decode cX10_init 293 = .ok (.aload_n 0, 1) := by decide +kernel
theorem dX10_init_294 : decode cX10_init 294 = .ok (.bipush 16, 2) := by decide +kernel
theorem dX10_init_296 : decode cX10_init 296 = .ok (.newarray .int, 2) := by decide +kernel
theorem dX10_init_298 : decode cX10_init 298 = .ok (.putfield 119, 3) := by decide +kernel
theorem dX10_init_301 : decode cX10_init 301 = .ok (.aload_n 0, 1) := by decide +kernel
theorem dX10_init_302 : decode cX10_init 302 = .ok (.bipush 16, 2) := by decide +kernel
theorem dX10_init_304 : decode cX10_init 304 = .ok (.newarray .int, 2) := by decide +kernel
theorem dX10_init_306 : decode cX10_init 306 = .ok (.putfield 122, 3) := by decide +kernel
theorem dX10_init_309 : decode cX10_init 309 = .ok (.aload_n 0, 1) := by decide +kernel
theorem dX10_init_310 : decode cX10_init 310 = .ok (.bipush 12, 2) := by decide +kernel
theorem dX10_init_312 : decode cX10_init 312 = .ok (.newarray .int, 2) := by decide +kernel
theorem dX10_init_314 : decode cX10_init 314 = .ok (.putfield 125, 3) := by decide +kernel
theorem dX10_init_317 : decode cX10_init 317 = .ok (.aload_n 0, 1) := by decide +kernel
theorem dX10_init_318 : decode cX10_init 318 = .ok (.bipush 12, 2) := by decide +kernel
theorem dX10_init_320 : decode cX10_init 320 = .ok (.newarray .int, 2) := by decide +kernel
theorem dX10_init_322 : decode cX10_init 322 = .ok (.putfield 128, 3) := by decide +kernel
theorem dX10_init_325 : decode cX10_init 325 = .ok (.aload_n 0, 1) := by decide +kernel
theorem dX10_init_326 : decode cX10_init 326 = .ok (.bipush 12, 2) := by decide +kernel
theorem dX10_init_328 : decode cX10_init 328 = .ok (.newarray .int, 2) := by decide +kernel
theorem dX10_init_330 : decode cX10_init 330 = .ok (.putfield 131, 3) := by decide +kernel
theorem dX10_init_333 : decode cX10_init 333 = .ok (.aload_n 0, 1) := by decide +kernel
theorem dX10_init_334 : decode cX10_init 334 = .ok (.iconst 1, 1) := by decide +kernel
theorem dX10_init_335 : decode cX10_init 335 = .ok (.putfield 134, 3) := by decide +kernel
theorem dX10_init_338 : decode cX10_init 338 = .ok (.return_, 1) := by decide +kernel
theorem dX10_in_0 : decode cX10_in 0 = .ok (.iload_n 0, 1) := by decide +kernel
theorem dX10_in_1 : decode cX10_in 1 = .ok (.iload_n 1, 1) := by decide +kernel
theorem dX10_in_2 : decode cX10_in 2 = .ok (.if_icmp .lt 12, 3) := by decide +kernel
theorem dX10_in_5 : decode cX10_in 5 = .ok (.iload_n 0, 1) := by decide +kernel
theorem dX10_in_6 : decode cX10_in 6 = .ok (.iload_n 2, 1) := by decide +kernel
theorem dX10_in_7 : decode cX10_in 7 = .ok (.if_icmp .gt 7, 3) := by decide +kernel
theorem dX10_in_10 : decode cX10_in 10 = .ok (.iconst 1, 1) := by decide +kernel
theorem dX10_in_11 : decode cX10_in 11 = .ok (.goto 4, 3) := by decide +kernel
theorem dX10_in_14 : decode cX10_in 14 = .ok (.iconst 0, 1) := by decide +kernel
theorem dX10_in_15 : decode cX10_in 15 = .ok (.ireturn, 1) := by decide +kernel
theorem dX10_min_0 : decode cX10_min 0 = .ok (.iload_n 0, 1) := by decide +kernel
theorem dX10_min_1 : decode cX10_min 1 = .ok (.iload_n 1, 1) := by decide +kernel
theorem dX10_min_2 : decode cX10_min 2 = .ok (.if_icmp .ge 7, 3) := by decide +kernel
theorem dX10_min_5 : decode cX10_min 5 = .ok (.iload_n 0, 1) := by decide +kernel
theorem dX10_min_6 : decode cX10_min 6 = .ok (.goto 4, 3) := by decide +kernel
theorem dX10_min_9 : decode cX10_min 9 = .ok (.iload_n 1, 1) := by decide +kernel
theorem dX10_min_10 : decode cX10_min 10 = .ok (.ireturn, 1) := by decide +kernel
theorem dX10_has_0 : decode cX10_has 0 = .ok (.iload_n 0, 1) := by decide +kernel
theorem dX10_has_1 : decode cX10_has 1 = .ok (.iload_n 1, 1) := by decide +kernel
theorem dX10_has_2 : decode cX10_has 2 = .ok (.ishr, 1) := by decide +kernel
theorem dX10_has_3 : decode cX10_has 3 = .ok (.iconst 1, 1) := by decide +kernel
theorem dX10_has_4 : decode cX10_has 4 = .ok (.iand, 1) := by decide +kernel
theorem dX10_has_5 : decode cX10_has 5 = .ok (.iconst 1, 1) := by decide +kernel
theorem dX10_has_6 : decode cX10_has 6 = .ok (.if_icmp .ne 7, 3) := by decide +kernel
theorem dX10_has_9 : decode cX10_has 9 = .ok (.iconst 1, 1) := by decide +kernel
theorem dX10_has_10 : decode cX10_has 10 = .ok (.goto 4, 3) := by decide +kernel
theorem dX10_has_13 : decode cX10_has 13 = .ok (.iconst 0, 1) := by decide +kernel
theorem dX10_has_14 : decode cX10_has 14 = .ok (.ireturn, 1) := by decide +kernel
theorem dX10_bits_0 : decode cX10_bits 0 = .ok (.iconst 0, 1) := by decide +kernel
theorem dX10_bits_1 : decode cX10_bits 1 = .ok (.istore_n 1, 1) := by decide +kernel
theorem dX10_bits_2 : decode cX10_bits 2 = .ok (.iconst 0, 1) := by decide +kernel
theorem dX10_bits_3 : decode cX10_bits 3 = .ok (.istore_n 2, 1) := by decide +kernel
theorem dX10_bits_4 : decode cX10_bits 4 = .ok (.iload_n 2, 1) := by decide +kernel
theorem dX10_bits_5 : decode cX10_bits 5 = .ok (.bipush 16, 2) := by decide +kernel
theorem dX10_bits_7 : decode cX10_bits 7 = .ok (.if_icmp .ge 17, 3) := by decide +kernel
theorem dX10_bits_10 : decode cX10_bits 10 = .ok (.iload_n 1, 1) := by decide +kernel
theorem dX10_bits_11 : decode cX10_bits 11 = .ok (.iload_n 0, 1) := by decide +kernel
theorem dX10_bits_12 : decode cX10_bits 12 = .ok (.iload_n 2, 1) := by decide +kernel
theorem dX10_bits_13 : decode cX10_bits 13 = .ok (.ishr, 1) := by decide +kernel
theorem dX10_bits_14 : decode cX10_bits 14 = .ok (.iconst 1, 1) := by decide +kernel
theorem dX10_bits_15 : decode cX10_bits 15 = .ok (.iand, 1) := by decide +kernel
theorem dX10_bits_16 : decode cX10_bits 16 = .ok (.iadd, 1) := by decide +kernel
theorem dX10_bits_17 : decode cX10_bits 17 = .ok (.istore_n 1, 1) := by decide +kernel
theorem dX10_bits_18 : decode cX10_bits 18 = .ok (.iinc 2 1, 3) := by decide +kernel
theorem dX10_bits_21 : decode cX10_bits 21 = .ok (.goto (-17), 3) := by decide +kernel
theorem dX10_bits_24 : decode cX10_bits 24 = .ok (.iload_n 1, 1) := by decide +kernel
theorem dX10_bits_25 : decode cX10_bits 25 = .ok (.ireturn, 1) := by decide +kernel
theorem dX10_isPerson_0 : decode cX10_isPerson 0 = .ok (.iload_n 1, 1) := by decide +kernel
theorem dX10_isPerson_1 : decode cX10_isPerson 1 = .ok (.ifCond .lt 15, 3) := by decide +kernel
theorem dX10_isPerson_4 : decode cX10_isPerson 4 = .ok (.iload_n 1, 1) := by decide +kernel
theorem dX10_isPerson_5 : decode cX10_isPerson 5 = .ok (.aload_n 0, 1) := by decide +kernel
theorem dX10_isPerson_6 : decode cX10_isPerson 6 = .ok (.getfield 138, 3) := by decide +kernel
theorem dX10_isPerson_9 : decode cX10_isPerson 9 = .ok (.if_icmp .ge 7, 3) := by decide +kernel
theorem dX10_isPerson_12 : decode cX10_isPerson 12 = .ok (.iconst 1, 1) := by decide +kernel
theorem dX10_isPerson_13 : decode cX10_isPerson 13 = .ok (.goto 4, 3) := by decide +kernel
theorem dX10_isPerson_16 : decode cX10_isPerson 16 = .ok (.iconst 0, 1) := by decide +kernel
theorem dX10_isPerson_17 : decode cX10_isPerson 17 = .ok (.ireturn, 1) := by decide +kernel
theorem dX10_lives_0 : decode cX10_lives 0 = .ok (.aload_n 0, 1) := by decide +kernel
theorem dX10_lives_1 : decode cX10_lives 1 = .ok (.iload_n 1, 1) := by decide +kernel
theorem dX10_lives_2 : decode cX10_lives 2 = .ok (.invokevirtual 141, 3) := by decide +kernel
theorem dX10_lives_5 : decode cX10_lives 5 = .ok (.ifCond .eq 18, 3) := by decide +kernel
theorem dX10_lives_8 : decode cX10_lives 8 = .ok (.aload_n 0, 1) := by decide +kernel
theorem dX10_lives_9 : decode cX10_lives 9 = .ok (.getfield 145, 3) := by decide +kernel
theorem dX10_lives_12 : decode cX10_lives 12 = .ok (.iload_n 1, 1) := by decide +kernel
theorem dX10_lives_13 : decode cX10_lives 13 = .ok (.invokestatic 148, 3) := by decide +kernel
theorem dX10_lives_16 : decode cX10_lives 16 = .ok (.ifCond .eq 7, 3) := by decide +kernel
theorem dX10_lives_19 : decode cX10_lives 19 = .ok (.iconst 1, 1) := by decide +kernel
theorem dX10_lives_20 : decode cX10_lives 20 = .ok (.goto 4, 3) := by decide +kernel
theorem dX10_lives_23 : decode cX10_lives 23 = .ok (.iconst 0, 1) := by decide +kernel
theorem dX10_lives_24 : decode cX10_lives 24 = .ok (.ireturn, 1) := by decide +kernel
theorem dX10_person_0 : decode cX10_person 0 = .ok (.iload_n 1, 1) := by decide +kernel
theorem dX10_person_1 : decode cX10_person 1 = .ok (.iconst 0, 1) := by decide +kernel
theorem dX10_person_2 : decode cX10_person 2 = .ok (.iconst 4, 1) := by decide +kernel
theorem dX10_person_3 : decode cX10_person 3 = .ok (.invokestatic 152, 3) := by decide +kernel
theorem dX10_person_6 : decode cX10_person 6 = .ok (.ifCond .eq 44, 3) := by decide +kernel
theorem dX10_person_9 : decode cX10_person 9 = .ok (.iload_n 2, 1) := by decide +kernel
theorem dX10_person_10 : decode cX10_person 10 = .ok (.iconst 1, 1) := by decide +kernel
theorem dX10_person_11 : decode cX10_person 11 = .ok (.bipush 99, 2) := by decide +kernel
theorem dX10_person_13 : decode cX10_person 13 = .ok (.invokestatic 152, 3) := by decide +kernel
theorem dX10_person_16 : decode cX10_person 16 = .ok (.ifCond .eq 34, 3) := by decide +kernel
theorem dX10_person_19 : decode cX10_person 19 = .ok (.iload_n 3, 1) := by decide +kernel
theorem dX10_person_20 : decode cX10_person 20 = .ok (.iconst 0, 1) := by decide +kernel
theorem dX10_person_21 : decode cX10_person 21 = .ok (.bipush 99, 2) := by decide +kernel
theorem dX10_person_23 : decode cX10_person 23 = .ok (.invokestatic 152, 3) := by decide +kernel
theorem dX10_person_26 : decode cX10_person 26 = .ok (.ifCond .eq 24, 3) := by decide +kernel
theorem dX10_person_29 : decode cX10_person 29 = .ok (.iload 4, 2) := by decide +kernel
theorem dX10_person_31 : decode cX10_person 31 = .ok (.iconst 0, 1) := by decide +kernel
theorem dX10_person_32 : decode cX10_person 32 = .ok (.sipush 999, 3) := by decide +kernel
theorem dX10_person_35 : decode cX10_person 35 = .ok (.invokestatic 152, 3) := by decide +kernel
theorem dX10_person_38 : decode cX10_person 38 = .ok (.ifCond .eq 12, 3) := by decide +kernel
theorem dX10_person_41 : decode cX10_person 41 = .ok (.aload_n 0, 1) := by decide +kernel
theorem dX10_person_42 : decode cX10_person 42 = .ok (.getfield 138, 3) := by decide +kernel
theorem dX10_person_45 : decode cX10_person 45 = .ok (.bipush 16, 2) := by decide +kernel
theorem dX10_person_47 : decode cX10_person 47 = .ok (.if_icmp .ne 5, 3) := by decide +kernel
theorem dX10_person_50 : decode cX10_person 50 = .ok (.iconst (-1), 1) := by decide +kernel
theorem dX10_person_51 : decode cX10_person 51 = .ok (.ireturn, 1) := by decide +kernel
theorem dX10_person_52 : decode cX10_person 52 = .ok (.aload_n 0, 1) := by decide +kernel
theorem dX10_person_53 : decode cX10_person 53 = .ok (.getfield 7, 3) := by decide +kernel
theorem dX10_person_56 : decode cX10_person 56 = .ok (.aload_n 0, 1) := by decide +kernel
theorem dX10_person_57 : decode cX10_person 57 = .ok (.getfield 138, 3) := by decide +kernel
theorem dX10_person_60 : decode cX10_person 60 = .ok (.iload_n 1, 1) := by decide +kernel
theorem dX10_person_61 : decode cX10_person 61 = .ok (.iastore, 1) := by decide +kernel
theorem dX10_person_62 : decode cX10_person 62 = .ok (.aload_n 0, 1) := by decide +kernel
theorem dX10_person_63 : decode cX10_person 63 = .ok (.getfield 13, 3) := by decide +kernel
theorem dX10_person_66 : decode cX10_person 66 = .ok (.aload_n 0, 1) := by decide +kernel
theorem dX10_person_67 : decode cX10_person 67 = .ok (.getfield 138, 3) := by decide +kernel
theorem dX10_person_70 : decode cX10_person 70 = .ok (.iload_n 2, 1) := by decide +kernel
theorem dX10_person_71 : decode cX10_person 71 = .ok (.iastore, 1) := by decide +kernel
theorem dX10_person_72 : decode cX10_person 72 = .ok (.aload_n 0, 1) := by decide +kernel
theorem dX10_person_73 : decode cX10_person 73 = .ok (.getfield 16, 3) := by decide +kernel
theorem dX10_person_76 : decode cX10_person 76 = .ok (.aload_n 0, 1) := by decide +kernel
theorem dX10_person_77 : decode cX10_person 77 = .ok (.getfield 138, 3) := by decide +kernel
theorem dX10_person_80 : decode cX10_person 80 = .ok (.iload_n 3, 1) := by decide +kernel
theorem dX10_person_81 : decode cX10_person 81 = .ok (.iastore, 1) := by decide +kernel
theorem dX10_person_82 : decode cX10_person 82 = .ok (.aload_n 0, 1) := by decide +kernel
theorem dX10_person_83 : decode cX10_person 83 = .ok (.getfield 19, 3) := by decide +kernel
theorem dX10_person_86 : decode cX10_person 86 = .ok (.aload_n 0, 1) := by decide +kernel
theorem dX10_person_87 : decode cX10_person 87 = .ok (.getfield 138, 3) := by decide +kernel
theorem dX10_person_90 : decode cX10_person 90 = .ok (.iconst 0, 1) := by decide +kernel
theorem dX10_person_91 : decode cX10_person 91 = .ok (.iastore, 1) := by decide +kernel
theorem dX10_person_92 : decode cX10_person 92 = .ok (.aload_n 0, 1) := by decide +kernel
theorem dX10_person_93 : decode cX10_person 93 = .ok (.getfield 22, 3) := by decide +kernel
theorem dX10_person_96 : decode cX10_person 96 = .ok (.aload_n 0, 1) := by decide +kernel
theorem dX10_person_97 : decode cX10_person 97 = .ok (.getfield 138, 3) := by decide +kernel
theorem dX10_person_100 : decode cX10_person 100 = .ok (.iload 4, 2) := by decide +kernel
theorem dX10_person_102 : decode cX10_person 102 = .ok (.iastore, 1) := by decide +kernel
theorem dX10_person_103 : decode cX10_person 103 = .ok (.aload_n 0, 1) := by decide +kernel
theorem dX10_person_104 : decode cX10_person 104 = .ok (.aload_n 0, 1) := by decide +kernel
theorem dX10_person_105 : decode cX10_person 105 = .ok (.getfield 145, 3) := by decide +kernel
theorem dX10_person_108 : decode cX10_person 108 = .ok (.iconst 1, 1) := by decide +kernel
theorem dX10_person_109 : decode cX10_person 109 = .ok (.aload_n 0, 1) := by decide +kernel
theorem dX10_person_110 : decode cX10_person 110 = .ok (.getfield 138, 3) := by decide +kernel
theorem dX10_person_113 : decode cX10_person 113 = .ok (.ishl, 1) := by decide +kernel
theorem dX10_person_114 : decode cX10_person 114 = .ok (.ior, 1) := by decide +kernel
theorem dX10_person_115 : decode cX10_person 115 = .ok (.putfield 145, 3) := by decide +kernel
theorem dX10_person_118 : decode cX10_person 118 = .ok (.aload_n 0, 1) := by decide +kernel
theorem dX10_person_119 : decode cX10_person 119 = .ok (.aload_n 0, 1) := by decide +kernel
theorem dX10_person_120 : decode cX10_person 120 = .ok (.getfield 138, 3) := by decide +kernel
theorem dX10_person_123 : decode cX10_person 123 = .ok (.iconst 1, 1) := by decide +kernel
theorem dX10_person_124 : decode cX10_person 124 = .ok (.iadd, 1) := by decide +kernel
theorem dX10_person_125 : decode cX10_person 125 = .ok (.putfield 138, 3) := by decide +kernel
theorem dX10_person_128 : decode cX10_person 128 = .ok (.aload_n 0, 1) := by decide +kernel
theorem dX10_person_129 : decode cX10_person 129 = .ok (.getfield 138, 3) := by decide +kernel
theorem dX10_person_132 : decode cX10_person 132 = .ok (.iconst 1, 1) := by decide +kernel
theorem dX10_person_133 : decode cX10_person 133 = .ok (.isub, 1) := by decide +kernel
theorem dX10_person_134 : decode cX10_person 134 = .ok (.ireturn, 1) := by decide +kernel
theorem dX10_heels_0 : decode cX10_heels 0 = .ok (.aload_n 0, 1) := by decide +kernel
theorem dX10_heels_1 : decode cX10_heels 1 = .ok (.iload_n 1, 1) := by decide +kernel
theorem dX10_heels_2 : decode cX10_heels 2 = .ok (.invokevirtual 156, 3) := by decide +kernel
theorem dX10_heels_5 : decode cX10_heels 5 = .ok (.ifCond .eq 13, 3) := by decide +kernel
theorem dX10_heels_8 : decode cX10_heels 8 = .ok (.iload_n 2, 1) := by decide +kernel
theorem dX10_heels_9 : decode cX10_heels 9 = .ok (.iconst 0, 1) := by decide +kernel
theorem dX10_heels_10 : decode cX10_heels 10 = .ok (.bipush 9, 2) := by decide +kernel
theorem dX10_heels_12 : decode cX10_heels 12 = .ok (.invokestatic 152, 3) := by decide +kernel
theorem dX10_heels_15 : decode cX10_heels 15 = .ok (.ifCond .ne 5, 3) := by decide +kernel
theorem dX10_heels_18 : decode cX10_heels 18 = .ok (.iconst 0, 1) := by decide +kernel
theorem dX10_heels_19 : decode cX10_heels 19 = .ok (.ireturn, 1) := by decide +kernel
theorem dX10_heels_20 : decode cX10_heels 20 = .ok (.aload_n 0, 1) := by decide +kernel
theorem dX10_heels_21 : decode cX10_heels 21 = .ok (.getfield 19, 3) := by decide +kernel
theorem dX10_heels_24 : decode cX10_heels 24 = .ok (.iload_n 1, 1) := by decide +kernel
theorem dX10_heels_25 : decode cX10_heels 25 = .ok (.iload_n 2, 1) := by decide +kernel
theorem dX10_heels_26 : decode cX10_heels 26 = .ok (.iastore, 1) := by decide +kernel
theorem dX10_heels_27 : decode cX10_heels 27 = .ok (.iconst 1, 1) := by decide +kernel
theorem dX10_heels_28 : decode cX10_heels 28 = .ok (.ireturn, 1) := by decide +kernel
theorem dX10_dies_0 : decode cX10_dies 0 = .ok (.aload_n 0, 1) := by decide +kernel
theorem dX10_dies_1 : decode cX10_dies 1 = .ok (.iload_n 1, 1) := by decide +kernel
theorem dX10_dies_2 : decode cX10_dies 2 = .ok (.invokevirtual 156, 3) := by decide +kernel
theorem dX10_dies_5 : decode cX10_dies 5 = .ok (.ifCond .ne 5, 3) := by decide +kernel
theorem dX10_dies_8 : decode cX10_dies 8 = .ok (.iconst 0, 1) := by decide +kernel
theorem dX10_dies_9 : decode cX10_dies 9 = .ok (.ireturn, 1) := by decide +kernel
theorem dX10_dies_10 : decode cX10_dies 10 = .ok (.aload_n 0, 1) := by decide +kernel
theorem dX10_dies_11 : decode cX10_dies 11 = .ok (.aload_n 0, 1) := by decide +kernel
theorem dX10_dies_12 : decode cX10_dies 12 = .ok (.getfield 145, 3) := by decide +kernel
theorem dX10_dies_15 : decode cX10_dies 15 = .ok (.iconst 1, 1) := by decide +kernel
theorem dX10_dies_16 : decode cX10_dies 16 = .ok (.iload_n 1, 1) := by decide +kernel
theorem dX10_dies_17 : decode cX10_dies 17 = .ok (.ishl, 1) := by decide +kernel
theorem dX10_dies_18 : decode cX10_dies 18 = .ok (.iconst (-1), 1) := by decide +kernel
theorem dX10_dies_19 : decode cX10_dies 19 = .ok (.ixor, 1) := by decide +kernel
theorem dX10_dies_20 : decode cX10_dies 20 = .ok (.iand, 1) := by decide +kernel
theorem dX10_dies_21 : decode cX10_dies 21 = .ok (.putfield 145, 3) := by decide +kernel
theorem dX10_dies_24 : decode cX10_dies 24 = .ok (.iconst 1, 1) := by decide +kernel
theorem dX10_dies_25 : decode cX10_dies 25 = .ok (.ireturn, 1) := by decide +kernel
theorem dX10_tallOf_0 : decode cX10_tallOf 0 = .ok (.aload_n 0, 1) := by decide +kernel
theorem dX10_tallOf_1 : decode cX10_tallOf 1 = .ok (.getfield 7, 3) := by decide +kernel
theorem dX10_tallOf_4 : decode cX10_tallOf 4 = .ok (.iload_n 1, 1) := by decide +kernel
theorem dX10_tallOf_5 : decode cX10_tallOf 5 = .ok (.iaload, 1) := by decide +kernel
theorem dX10_tallOf_6 : decode cX10_tallOf 6 = .ok (.iconst 4, 1) := by decide +kernel
theorem dX10_tallOf_7 : decode cX10_tallOf 7 = .ok (.if_icmp .ne 50, 3) := by decide +kernel
theorem dX10_tallOf_10 : decode cX10_tallOf 10 = .ok (.aload_n 0, 1) := by decide +kernel
theorem dX10_tallOf_11 : decode cX10_tallOf 11 = .ok (.getfield 22, 3) := by decide +kernel
theorem dX10_tallOf_14 : decode cX10_tallOf 14 = .ok (.iload_n 1, 1) := by decide +kernel
theorem dX10_tallOf_15 : decode cX10_tallOf 15 = .ok (.iaload, 1) := by decide +kernel
theorem dX10_tallOf_16 : decode cX10_tallOf 16 = .ok (.aload_n 0, 1) := by decide +kernel
theorem dX10_tallOf_17 : decode cX10_tallOf 17 = .ok (.getfield 138, 3) := by decide +kernel
theorem dX10_tallOf_20 : decode cX10_tallOf 20 = .ok (.if_icmp .ge 37, 3) := by decide +kernel
theorem dX10_tallOf_23 : decode cX10_tallOf 23 = .ok (.aload_n 0, 1) := by decide +kernel
theorem dX10_tallOf_24 : decode cX10_tallOf 24 = .ok (.getfield 22, 3) := by decide +kernel
theorem dX10_tallOf_27 : decode cX10_tallOf 27 = .ok (.iload_n 1, 1) := by decide +kernel
theorem dX10_tallOf_28 : decode cX10_tallOf 28 = .ok (.iaload, 1) := by decide +kernel
theorem dX10_tallOf_29 : decode cX10_tallOf 29 = .ok (.iload_n 1, 1) := by decide +kernel
theorem dX10_tallOf_30 : decode cX10_tallOf 30 = .ok (.if_icmp .eq 27, 3) := by decide +kernel
theorem dX10_tallOf_33 : decode cX10_tallOf 33 = .ok (.aload_n 0, 1) := by decide +kernel
theorem dX10_tallOf_34 : decode cX10_tallOf 34 = .ok (.getfield 7, 3) := by decide +kernel
theorem dX10_tallOf_37 : decode cX10_tallOf 37 = .ok (.aload_n 0, 1) := by decide +kernel
theorem dX10_tallOf_38 : decode cX10_tallOf 38 = .ok (.getfield 22, 3) := by decide +kernel
theorem dX10_tallOf_41 : decode cX10_tallOf 41 = .ok (.iload_n 1, 1) := by decide +kernel
theorem dX10_tallOf_42 : decode cX10_tallOf 42 = .ok (.iaload, 1) := by decide +kernel
theorem dX10_tallOf_43 : decode cX10_tallOf 43 = .ok (.iaload, 1) := by decide +kernel
theorem dX10_tallOf_44 : decode cX10_tallOf 44 = .ok (.iconst 4, 1) := by decide +kernel
theorem dX10_tallOf_45 : decode cX10_tallOf 45 = .ok (.if_icmp .eq 12, 3) := by decide +kernel
theorem dX10_tallOf_48 : decode cX10_tallOf 48 = .ok (.aload_n 0, 1) := by decide +kernel
theorem dX10_tallOf_49 : decode cX10_tallOf 49 = .ok (.getfield 22, 3) := by decide +kernel
theorem dX10_tallOf_52 : decode cX10_tallOf 52 = .ok (.iload_n 1, 1) := by decide +kernel
theorem dX10_tallOf_53 : decode cX10_tallOf 53 = .ok (.iaload, 1) := by decide +kernel
theorem dX10_tallOf_54 : decode cX10_tallOf 54 = .ok (.goto 4, 3) := by decide +kernel
theorem dX10_tallOf_57 : decode cX10_tallOf 57 = .ok (.iload_n 1, 1) := by decide +kernel
theorem dX10_tallOf_58 : decode cX10_tallOf 58 = .ok (.istore_n 2, 1) := by decide +kernel
theorem dX10_tallOf_59 : decode cX10_tallOf 59 = .ok (.aload_n 0, 1) := by decide +kernel
theorem dX10_tallOf_60 : decode cX10_tallOf 60 = .ok (.getfield 13, 3) := by decide +kernel
theorem dX10_tallOf_63 : decode cX10_tallOf 63 = .ok (.iload_n 2, 1) := by decide +kernel
theorem dX10_tallOf_64 : decode cX10_tallOf 64 = .ok (.iaload, 1) := by decide +kernel
theorem dX10_tallOf_65 : decode cX10_tallOf 65 = .ok (.aload_n 0, 1) := by decide +kernel
theorem dX10_tallOf_66 : decode cX10_tallOf 66 = .ok (.getfield 19, 3) := by decide +kernel
theorem dX10_tallOf_69 : decode cX10_tallOf 69 = .ok (.iload_n 2, 1) := by decide +kernel
theorem dX10_tallOf_70 : decode cX10_tallOf 70 = .ok (.iaload, 1) := by decide +kernel
theorem dX10_tallOf_71 : decode cX10_tallOf 71 = .ok (.iadd, 1) := by decide +kernel
theorem dX10_tallOf_72 : decode cX10_tallOf 72 = .ok (.ireturn, 1) := by decide +kernel
theorem dX10_tall_0 : decode cX10_tall 0 = .ok (.aload_n 0, 1) := by decide +kernel
theorem dX10_tall_1 : decode cX10_tall 1 = .ok (.iload_n 1, 1) := by decide +kernel
theorem dX10_tall_2 : decode cX10_tall 2 = .ok (.invokevirtual 141, 3) := by decide +kernel
theorem dX10_tall_5 : decode cX10_tall 5 = .ok (.ifCond .eq 11, 3) := by decide +kernel
theorem dX10_tall_8 : decode cX10_tall 8 = .ok (.aload_n 0, 1) := by decide +kernel
theorem dX10_tall_9 : decode cX10_tall 9 = .ok (.iload_n 1, 1) := by decide +kernel
theorem dX10_tall_10 : decode cX10_tall 10 = .ok (.invokevirtual 159, 3) := by decide +kernel
theorem dX10_tall_13 : decode cX10_tall 13 = .ok (.goto 4, 3) := by decide +kernel
theorem dX10_tall_16 : decode cX10_tall 16 = .ok (.iconst (-1), 1) := by decide +kernel
theorem dX10_tall_17 : decode cX10_tall 17 = .ok (.ireturn, 1) := by decide +kernel
theorem dX10_topOf_0 : decode cX10_topOf 0 = .ok (.iconst (-1), 1) := by decide +kernel
theorem dX10_topOf_1 : decode cX10_topOf 1 = .ok (.istore_n 1, 1) := by decide +kernel
theorem dX10_topOf_2 : decode cX10_topOf 2 = .ok (.iconst 0, 1) := by decide +kernel
theorem dX10_topOf_3 : decode cX10_topOf 3 = .ok (.istore_n 2, 1) := by decide +kernel
theorem dX10_topOf_4 : decode cX10_topOf 4 = .ok (.iload_n 2, 1) := by decide +kernel
theorem dX10_topOf_5 : decode cX10_topOf 5 = .ok (.aload_n 0, 1) := by decide +kernel
theorem dX10_topOf_6 : decode cX10_topOf 6 = .ok (.getfield 138, 3) := by decide +kernel
theorem dX10_topOf_9 : decode cX10_topOf 9 = .ok (.if_icmp .ge 40, 3) := by decide +kernel
theorem dX10_topOf_12 : decode cX10_topOf 12 = .ok (.aload_n 0, 1) := by decide +kernel
theorem dX10_topOf_13 : decode cX10_topOf 13 = .ok (.getfield 145, 3) := by decide +kernel
theorem dX10_topOf_16 : decode cX10_topOf 16 = .ok (.iload_n 2, 1) := by decide +kernel
theorem dX10_topOf_17 : decode cX10_topOf 17 = .ok (.invokestatic 148, 3) := by decide +kernel
theorem dX10_topOf_20 : decode cX10_topOf 20 = .ok (.ifCond .eq 23, 3) := by decide +kernel
theorem dX10_topOf_23 : decode cX10_topOf 23 = .ok (.iload_n 1, 1) := by decide +kernel
theorem dX10_topOf_24 : decode cX10_topOf 24 = .ok (.iconst (-1), 1) := by decide +kernel
theorem dX10_topOf_25 : decode cX10_topOf 25 = .ok (.if_icmp .eq 16, 3) := by decide +kernel
theorem dX10_topOf_28 : decode cX10_topOf 28 = .ok (.aload_n 0, 1) := by decide +kernel
theorem dX10_topOf_29 : decode cX10_topOf 29 = .ok (.iload_n 2, 1) := by decide +kernel
theorem dX10_topOf_30 : decode cX10_topOf 30 = .ok (.invokevirtual 159, 3) := by decide +kernel
theorem dX10_topOf_33 : decode cX10_topOf 33 = .ok (.aload_n 0, 1) := by decide +kernel
theorem dX10_topOf_34 : decode cX10_topOf 34 = .ok (.iload_n 1, 1) := by decide +kernel
theorem dX10_topOf_35 : decode cX10_topOf 35 = .ok (.invokevirtual 159, 3) := by decide +kernel
theorem dX10_topOf_38 : decode cX10_topOf 38 = .ok (.if_icmp .le 5, 3) := by decide +kernel
theorem dX10_topOf_41 : decode cX10_topOf 41 = .ok (.iload_n 2, 1) := by decide +kernel
theorem dX10_topOf_42 : decode cX10_topOf 42 = .ok (.istore_n 1, 1) := by decide +kernel
theorem dX10_topOf_43 : decode cX10_topOf 43 = .ok (.iinc 2 1, 3) := by decide +kernel
theorem dX10_topOf_46 : decode cX10_topOf 46 = .ok (.goto (-42), 3) := by decide +kernel
theorem dX10_topOf_49 : decode cX10_topOf 49 = .ok (.iload_n 1, 1) := by decide +kernel
theorem dX10_topOf_50 : decode cX10_topOf 50 = .ok (.ireturn, 1) := by decide +kernel
theorem dX10_top_0 : decode cX10_top 0 = .ok (.aload_n 0, 1) := by decide +kernel
theorem dX10_top_1 : decode cX10_top 1 = .ok (.invokevirtual 163, 3) := by decide +kernel
theorem dX10_top_4 : decode cX10_top 4 = .ok (.ireturn, 1) := by decide +kernel
theorem dX10_types_0 : decode cX10_types 0 = .ok (.iconst 3, 1) := by decide +kernel
theorem dX10_types_1 : decode cX10_types 1 = .ok (.istore_n 2, 1) := by decide +kernel
theorem dX10_types_2 : decode cX10_types 2 = .ok (.iload_n 2, 1) := by decide +kernel
theorem dX10_types_3 : decode cX10_types 3 = .ok (.ifCond .lt 35, 3) := by decide +kernel
theorem dX10_types_6 : decode cX10_types 6 = .ok (.aload_n 0, 1) := by decide +kernel
theorem dX10_types_7 : decode cX10_types 7 = .ok (.getfield 25, 3) := by decide +kernel
theorem dX10_types_10 : decode cX10_types 10 = .ok (.aload_n 0, 1) := by decide +kernel
theorem dX10_types_11 : decode cX10_types 11 = .ok (.getfield 167, 3) := by decide +kernel
theorem dX10_types_14 : decode cX10_types 14 = .ok (.iload_n 1, 1) := by decide +kernel
theorem dX10_types_15 : decode cX10_types 15 = .ok (.bipush 8, 2) := by decide +kernel
theorem dX10_types_17 : decode cX10_types 17 = .ok (.iload_n 2, 1) := by decide +kernel
theorem dX10_types_18 : decode cX10_types 18 = .ok (.imul, 1) := by decide +kernel
theorem dX10_types_19 : decode cX10_types 19 = .ok (.ishr, 1) := by decide +kernel
theorem dX10_types_20 : decode cX10_types 20 = .ok (.i2b, 1) := by decide +kernel
theorem dX10_types_21 : decode cX10_types 21 = .ok (.bastore, 1) := by decide +kernel
theorem dX10_types_22 : decode cX10_types 22 = .ok (.aload_n 0, 1) := by decide +kernel
theorem dX10_types_23 : decode cX10_types 23 = .ok (.aload_n 0, 1) := by decide +kernel
theorem dX10_types_24 : decode cX10_types 24 = .ok (.getfield 167, 3) := by decide +kernel
theorem dX10_types_27 : decode cX10_types 27 = .ok (.iconst 1, 1) := by decide +kernel
theorem dX10_types_28 : decode cX10_types 28 = .ok (.iadd, 1) := by decide +kernel
theorem dX10_types_29 : decode cX10_types 29 = .ok (.putfield 167, 3) := by decide +kernel
theorem dX10_types_32 : decode cX10_types 32 = .ok (.iinc 2 (-1), 3) := by decide +kernel
theorem dX10_types_35 : decode cX10_types 35 = .ok (.goto (-33), 3) := by decide +kernel
theorem dX10_types_38 : decode cX10_types 38 = .ok (.return_, 1) := by decide +kernel
theorem dX10_feed_0 : decode cX10_feed 0 = .ok (.aload_n 0, 1) := by decide +kernel
theorem dX10_feed_1 : decode cX10_feed 1 = .ok (.getfield 167, 3) := by decide +kernel
theorem dX10_feed_4 : decode cX10_feed 4 = .ok (.bipush 20, 2) := by decide +kernel
theorem dX10_feed_6 : decode cX10_feed 6 = .ok (.iadd, 1) := by decide +kernel
theorem dX10_feed_7 : decode cX10_feed 7 = .ok (.sipush 200, 3) := by decide +kernel
theorem dX10_feed_10 : decode cX10_feed 10 = .ok (.if_icmp .le 5, 3) := by decide +kernel
theorem dX10_feed_13 : decode cX10_feed 13 = .ok (.iconst (-1), 1) := by decide +kernel
theorem dX10_feed_14 : decode cX10_feed 14 = .ok (.ireturn, 1) := by decide +kernel
theorem dX10_feed_15 : decode cX10_feed 15 = .ok (.aload_n 0, 1) := by decide +kernel
theorem dX10_feed_16 : decode cX10_feed 16 = .ok (.iload_n 1, 1) := by decide +kernel
theorem dX10_feed_17 : decode cX10_feed 17 = .ok (.invokevirtual 170, 3) := by decide +kernel
theorem dX10_feed_20 : decode cX10_feed 20 = .ok (.aload_n 0, 1) := by decide +kernel
theorem dX10_feed_21 : decode cX10_feed 21 = .ok (.iload_n 2, 1) := by decide +kernel
theorem dX10_feed_22 : decode cX10_feed 22 = .ok (.invokevirtual 170, 3) := by decide +kernel
theorem dX10_feed_25 : decode cX10_feed 25 = .ok (.aload_n 0, 1) := by decide +kernel
theorem dX10_feed_26 : decode cX10_feed 26 = .ok (.iload_n 3, 1) := by decide +kernel
theorem dX10_feed_27 : decode cX10_feed 27 = .ok (.invokevirtual 170, 3) := by decide +kernel
theorem dX10_feed_30 : decode cX10_feed 30 = .ok (.aload_n 0, 1) := by decide +kernel
theorem dX10_feed_31 : decode cX10_feed 31 = .ok (.iload 4, 2) := by decide +kernel
theorem dX10_feed_33 : decode cX10_feed 33 = .ok (.invokevirtual 170, 3) := by decide +kernel
theorem dX10_feed_36 : decode cX10_feed 36 = .ok (.aload_n 0, 1) := by decide +kernel
theorem dX10_feed_37 : decode cX10_feed 37 = .ok (.iload 5, 2) := by decide +kernel
theorem dX10_feed_39 : decode cX10_feed 39 = .ok (.invokevirtual 170, 3) := by decide +kernel
theorem dX10_feed_42 : decode cX10_feed 42 = .ok (.aload_n 0, 1) := by decide +kernel
theorem dX10_feed_43 : decode cX10_feed 43 = .ok (.getfield 167, 3) := by decide +kernel
theorem dX10_feed_46 : decode cX10_feed 46 = .ok (.ireturn, 1) := by decide +kernel
theorem dX10_here_0 : decode cX10_here 0 = .ok (.aload_n 0, 1) := by decide +kernel
theorem dX10_here_1 : decode cX10_here 1 = .ok (.getfield 174, 3) := by decide +kernel
theorem dX10_here_4 : decode cX10_here 4 = .ok (.aload_n 0, 1) := by decide +kernel
theorem dX10_here_5 : decode cX10_here 5 = .ok (.getfield 177, 3) := by decide +kernel
theorem dX10_here_8 : decode cX10_here 8 = .ok (.if_icmp .ge 19, 3) := by decide +kernel
theorem dX10_here_11 : decode cX10_here 11 = .ok (.aload_n 0, 1) := by decide +kernel
theorem dX10_here_12 : decode cX10_here 12 = .ok (.getfield 25, 3) := by decide +kernel
theorem dX10_here_15 : decode cX10_here 15 = .ok (.aload_n 0, 1) := by decide +kernel
theorem dX10_here_16 : decode cX10_here 16 = .ok (.getfield 174, 3) := by decide +kernel
theorem dX10_here_19 : decode cX10_here 19 = .ok (.baload, 1) := by decide +kernel
theorem dX10_here_20 : decode cX10_here 20 = .ok (.sipush 255, 3) := by decide +kernel
theorem dX10_here_23 : decode cX10_here 23 = .ok (.iand, 1) := by decide +kernel
theorem dX10_here_24 : decode cX10_here 24 = .ok (.goto 4, 3) := by decide +kernel
theorem dX10_here_27 : decode cX10_here 27 = .ok (.iconst (-1), 1) := by decide +kernel
theorem dX10_here_28 : decode cX10_here 28 = .ok (.ireturn, 1) := by decide +kernel
theorem dX10_isDigit_0 : decode cX10_isDigit 0 = .ok (.aload_n 0, 1) := by decide +kernel
theorem dX10_isDigit_1 : decode cX10_isDigit 1 = .ok (.invokevirtual 180, 3) := by decide +kernel
theorem dX10_isDigit_4 : decode cX10_isDigit 4 = .ok (.bipush 48, 2) := by decide +kernel
theorem dX10_isDigit_6 : decode cX10_isDigit 6 = .ok (.if_icmp .lt 16, 3) := by decide +kernel
theorem dX10_isDigit_9 : decode cX10_isDigit 9 = .ok (.aload_n 0, 1) := by decide +kernel
theorem dX10_isDigit_10 : decode cX10_isDigit 10 = .ok (.invokevirtual 180, 3) := by decide +kernel
theorem dX10_isDigit_13 : decode cX10_isDigit 13 = .ok (.bipush 57, 2) := by decide +kernel
theorem dX10_isDigit_15 : decode cX10_isDigit 15 = .ok (.if_icmp .gt 7, 3) := by decide +kernel
theorem dX10_isDigit_18 : decode cX10_isDigit 18 = .ok (.iconst 1, 1) := by decide +kernel
theorem dX10_isDigit_19 : decode cX10_isDigit 19 = .ok (.goto 4, 3) := by decide +kernel
theorem dX10_isDigit_22 : decode cX10_isDigit 22 = .ok (.iconst 0, 1) := by decide +kernel
theorem dX10_isDigit_23 : decode cX10_isDigit 23 = .ok (.ireturn, 1) := by decide +kernel
theorem dX10_wrongAt_0 : decode cX10_wrongAt 0 = .ok (.aload_n 0, 1) := by decide +kernel
theorem dX10_wrongAt_1 : decode cX10_wrongAt 1 = .ok (.sipush (-1000), 3) := by decide +kernel
theorem dX10_wrongAt_4 : decode cX10_wrongAt 4 = .ok (.iload_n 1, 1) := by decide +kernel
theorem dX10_wrongAt_5 : decode cX10_wrongAt 5 = .ok (.imul, 1) := by decide +kernel
theorem dX10_wrongAt_6 : decode cX10_wrongAt 6 = .ok (.iload_n 2, 1) := by decide +kernel
theorem dX10_wrongAt_7 : decode cX10_wrongAt 7 = .ok (.isub, 1) := by decide +kernel
theorem dX10_wrongAt_8 : decode cX10_wrongAt 8 = .ok (.putfield 183, 3) := by decide +kernel
theorem dX10_wrongAt_11 : decode cX10_wrongAt 11 = .ok (.iconst 0, 1) := by decide +kernel
theorem dX10_wrongAt_12 : decode cX10_wrongAt 12 = .ok (.ireturn, 1) := by decide +kernel
theorem dX10_takes_0 : decode cX10_takes 0 = .ok (.aload_n 0, 1) := by decide +kernel
theorem dX10_takes_1 : decode cX10_takes 1 = .ok (.invokevirtual 180, 3) := by decide +kernel
theorem dX10_takes_4 : decode cX10_takes 4 = .ok (.iload_n 1, 1) := by decide +kernel
theorem dX10_takes_5 : decode cX10_takes 5 = .ok (.if_icmp .eq 13, 3) := by decide +kernel
theorem dX10_takes_8 : decode cX10_takes 8 = .ok (.aload_n 0, 1) := by decide +kernel
theorem dX10_takes_9 : decode cX10_takes 9 = .ok (.iconst 1, 1) := by decide +kernel
theorem dX10_takes_10 : decode cX10_takes 10 = .ok (.aload_n 0, 1) := by decide +kernel
theorem dX10_takes_11 : decode cX10_takes 11 = .ok (.getfield 174, 3) := by decide +kernel
theorem dX10_takes_14 : decode cX10_takes 14 = .ok (.invokevirtual 186, 3) := by decide +kernel
theorem dX10_takes_17 : decode cX10_takes 17 = .ok (.ireturn, 1) := by decide +kernel
theorem dX10_takes_18 : decode cX10_takes 18 = .ok (.aload_n 0, 1) := by decide +kernel
theorem dX10_takes_19 : decode cX10_takes 19 = .ok (.aload_n 0, 1) := by decide +kernel
theorem dX10_takes_20 : decode cX10_takes 20 = .ok (.getfield 174, 3) := by decide +kernel
theorem dX10_takes_23 : decode cX10_takes 23 = .ok (.iconst 1, 1) := by decide +kernel
theorem dX10_takes_24 : decode cX10_takes 24 = .ok (.iadd, 1) := by decide +kernel
theorem dX10_takes_25 : decode cX10_takes 25 = .ok (.putfield 174, 3) := by decide +kernel
theorem dX10_takes_28 : decode cX10_takes 28 = .ok (.iconst 1, 1) := by decide +kernel
theorem dX10_takes_29 : decode cX10_takes 29 = .ok (.ireturn, 1) := by decide +kernel
theorem dX10_readsNumber_0 : decode cX10_readsNumber 0 = .ok (.aload_n 0, 1) := by decide +kernel
theorem dX10_readsNumber_1 : decode cX10_readsNumber 1 = .ok (.getfield 174, 3) := by decide +kernel
theorem dX10_readsNumber_4 : decode cX10_readsNumber 4 = .ok (.istore_n 1, 1) := by decide +kernel
theorem dX10_readsNumber_5 : decode cX10_readsNumber 5 = .ok (.aload_n 0, 1) := by decide +kernel
theorem dX10_readsNumber_6 : decode cX10_readsNumber 6 = .ok (.iconst 0, 1) := by decide +kernel
theorem dX10_readsNumber_7 : decode cX10_readsNumber 7 = .ok (.putfield 189, 3) := by decide +kernel
theorem dX10_readsNumber_10 : decode cX10_readsNumber 10 = .ok (.aload_n 0, 1) := by decide +kernel
theorem dX10_readsNumber_11 : decode cX10_readsNumber 11 = .ok (.invokevirtual 192, 3) := by decide +kernel
theorem dX10_readsNumber_14 : decode cX10_readsNumber 14 = .ok (.ifCond .eq 55, 3) := by decide +kernel
theorem dX10_readsNumber_17 : decode cX10_readsNumber 17 = .ok (.aload_n 0, 1) := by decide +kernel
theorem dX10_readsNumber_18 : decode cX10_readsNumber 18 = .ok (.getfield 174, 3) := by decide +kernel
theorem dX10_readsNumber_21 : decode cX10_readsNumber 21 = .ok (.iload_n 1, 1) := by decide +kernel
theorem dX10_readsNumber_22 : decode cX10_readsNumber 22 = .ok (.iconst 5, 1) := by decide +kernel
theorem dX10_readsNumber_23 : decode cX10_readsNumber 23 = .ok (.iadd, 1) := by decide +kernel
theorem dX10_readsNumber_24 : decode cX10_readsNumber 24 = .ok (.if_icmp .ne 13, 3) := by decide +kernel
theorem dX10_readsNumber_27 : decode cX10_readsNumber 27 = .ok (.aload_n 0, 1) := by decide +kernel
theorem dX10_readsNumber_28 : decode cX10_readsNumber 28 = .ok (.iconst 2, 1) := by decide +kernel
theorem dX10_readsNumber_29 : decode cX10_readsNumber 29 = .ok (.aload_n 0, 1) := by decide +kernel
theorem dX10_readsNumber_30 : decode cX10_readsNumber 30 = .ok (.getfield 174, 3) := by decide +kernel
theorem dX10_readsNumber_33 : decode cX10_readsNumber 33 = .ok (.invokevirtual 186, 3) := by decide +kernel
theorem dX10_readsNumber_36 : decode cX10_readsNumber 36 = .ok (.ireturn, 1) := by decide +kernel
theorem dX10_readsNumber_37 : decode cX10_readsNumber 37 = .ok (.aload_n 0, 1) := by decide +kernel
theorem dX10_readsNumber_38 : decode cX10_readsNumber 38 = .ok (.bipush 10, 2) := by decide +kernel
theorem dX10_readsNumber_40 : decode cX10_readsNumber 40 = .ok (.aload_n 0, 1) := by decide +kernel
theorem dX10_readsNumber_41 : decode cX10_readsNumber 41 = .ok (.getfield 189, 3) := by decide +kernel
theorem dX10_readsNumber_44 : decode cX10_readsNumber 44 = .ok (.imul, 1) := by decide +kernel
theorem dX10_readsNumber_45 : decode cX10_readsNumber 45 = .ok (.aload_n 0, 1) := by decide +kernel
theorem dX10_readsNumber_46 : decode cX10_readsNumber 46 = .ok (.invokevirtual 180, 3) := by decide +kernel
theorem dX10_readsNumber_49 : decode cX10_readsNumber 49 = .ok (.iadd, 1) := by decide +kernel
theorem dX10_readsNumber_50 : decode cX10_readsNumber 50 = .ok (.bipush 48, 2) := by decide +kernel
theorem dX10_readsNumber_52 : decode cX10_readsNumber 52 = .ok (.isub, 1) := by decide +kernel
theorem dX10_readsNumber_53 : decode cX10_readsNumber 53 = .ok (.putfield 189, 3) := by decide +kernel
theorem dX10_readsNumber_56 : decode cX10_readsNumber 56 = .ok (.aload_n 0, 1) := by decide +kernel
theorem dX10_readsNumber_57 : decode cX10_readsNumber 57 = .ok (.aload_n 0, 1) := by decide +kernel
theorem dX10_readsNumber_58 : decode cX10_readsNumber 58 = .ok (.getfield 174, 3) := by decide +kernel
theorem dX10_readsNumber_61 : decode cX10_readsNumber 61 = .ok (.iconst 1, 1) := by decide +kernel
theorem dX10_readsNumber_62 : decode cX10_readsNumber 62 = .ok (.iadd, 1) := by decide +kernel
theorem dX10_readsNumber_63 : decode cX10_readsNumber 63 = .ok (.putfield 174, 3) := by decide +kernel
theorem dX10_readsNumber_66 : decode cX10_readsNumber 66 = .ok (.goto (-56), 3) := by decide +kernel
theorem dX10_readsNumber_69 : decode cX10_readsNumber 69 = .ok (.iconst 1, 1) := by decide +kernel
theorem dX10_readsNumber_70 : decode cX10_readsNumber 70 = .ok (.ireturn, 1) := by decide +kernel
theorem dX10_notes_0 : decode cX10_notes 0 = .ok (.aload_n 0, 1) := by decide +kernel
theorem dX10_notes_1 : decode cX10_notes 1 = .ok (.getfield 29, 3) := by decide +kernel
theorem dX10_notes_4 : decode cX10_notes 4 = .ok (.aload_n 0, 1) := by decide +kernel
theorem dX10_notes_5 : decode cX10_notes 5 = .ok (.getfield 196, 3) := by decide +kernel
theorem dX10_notes_8 : decode cX10_notes 8 = .ok (.ldc 199, 2) := by decide +kernel
theorem dX10_notes_10 : decode cX10_notes 10 = .ok (.iload_n 1, 1) := by decide +kernel
theorem dX10_notes_11 : decode cX10_notes 11 = .ok (.imul, 1) := by decide +kernel
theorem dX10_notes_12 : decode cX10_notes 12 = .ok (.iload_n 2, 1) := by decide +kernel
theorem dX10_notes_13 : decode cX10_notes 13 = .ok (.iadd, 1) := by decide +kernel
theorem dX10_notes_14 : decode cX10_notes 14 = .ok (.iastore, 1) := by decide +kernel
theorem dX10_notes_15 : decode cX10_notes 15 = .ok (.aload_n 0, 1) := by decide +kernel
theorem dX10_notes_16 : decode cX10_notes 16 = .ok (.aload_n 0, 1) := by decide +kernel
theorem dX10_notes_17 : decode cX10_notes 17 = .ok (.getfield 196, 3) := by decide +kernel
theorem dX10_notes_20 : decode cX10_notes 20 = .ok (.iconst 1, 1) := by decide +kernel
theorem dX10_notes_21 : decode cX10_notes 21 = .ok (.iadd, 1) := by decide +kernel
theorem dX10_notes_22 : decode cX10_notes 22 = .ok (.putfield 196, 3) := by decide +kernel
theorem dX10_notes_25 : decode cX10_notes 25 = .ok (.return_, 1) := by decide +kernel
theorem dX10_opens_0 : decode cX10_opens 0 = .ok (.aload_n 0, 1) := by decide +kernel
theorem dX10_opens_1 : decode cX10_opens 1 = .ok (.getfield 200, 3) := by decide +kernel
theorem dX10_opens_4 : decode cX10_opens 4 = .ok (.bipush 6, 2) := by decide +kernel
theorem dX10_opens_6 : decode cX10_opens 6 = .ok (.if_icmp .ne 13, 3) := by decide +kernel
theorem dX10_opens_9 : decode cX10_opens 9 = .ok (.aload_n 0, 1) := by decide +kernel
theorem dX10_opens_10 : decode cX10_opens 10 = .ok (.iconst 5, 1) := by decide +kernel
theorem dX10_opens_11 : decode cX10_opens 11 = .ok (.aload_n 0, 1) := by decide +kernel
theorem dX10_opens_12 : decode cX10_opens 12 = .ok (.getfield 174, 3) := by decide +kernel
theorem dX10_opens_15 : decode cX10_opens 15 = .ok (.invokevirtual 186, 3) := by decide +kernel
theorem dX10_opens_18 : decode cX10_opens 18 = .ok (.ireturn, 1) := by decide +kernel
theorem dX10_opens_19 : decode cX10_opens 19 = .ok (.aload_n 0, 1) := by decide +kernel
theorem dX10_opens_20 : decode cX10_opens 20 = .ok (.aload_n 0, 1) := by decide +kernel
theorem dX10_opens_21 : decode cX10_opens 21 = .ok (.getfield 200, 3) := by decide +kernel
theorem dX10_opens_24 : decode cX10_opens 24 = .ok (.iconst 1, 1) := by decide +kernel
theorem dX10_opens_25 : decode cX10_opens 25 = .ok (.iadd, 1) := by decide +kernel
theorem dX10_opens_26 : decode cX10_opens 26 = .ok (.putfield 200, 3) := by decide +kernel
theorem dX10_opens_29 : decode cX10_opens 29 = .ok (.aload_n 0, 1) := by decide +kernel
theorem dX10_opens_30 : decode cX10_opens 30 = .ok (.getfield 32, 3) := by decide +kernel
theorem dX10_opens_33 : decode cX10_opens 33 = .ok (.aload_n 0, 1) := by decide +kernel
theorem dX10_opens_34 : decode cX10_opens 34 = .ok (.getfield 203, 3) := by decide +kernel
theorem dX10_opens_37 : decode cX10_opens 37 = .ok (.ldc 199, 2) := by decide +kernel
theorem dX10_opens_39 : decode cX10_opens 39 = .ok (.iload_n 1, 1) := by decide +kernel
theorem dX10_opens_40 : decode cX10_opens 40 = .ok (.imul, 1) := by decide +kernel
theorem dX10_opens_41 : decode cX10_opens 41 = .ok (.iastore, 1) := by decide +kernel
theorem dX10_opens_42 : decode cX10_opens 42 = .ok (.aload_n 0, 1) := by decide +kernel
theorem dX10_opens_43 : decode cX10_opens 43 = .ok (.aload_n 0, 1) := by decide +kernel
theorem dX10_opens_44 : decode cX10_opens 44 = .ok (.getfield 203, 3) := by decide +kernel
theorem dX10_opens_47 : decode cX10_opens 47 = .ok (.iconst 1, 1) := by decide +kernel
theorem dX10_opens_48 : decode cX10_opens 48 = .ok (.iadd, 1) := by decide +kernel
theorem dX10_opens_49 : decode cX10_opens 49 = .ok (.putfield 203, 3) := by decide +kernel
theorem dX10_opens_52 : decode cX10_opens 52 = .ok (.aload_n 0, 1) := by decide +kernel
theorem dX10_opens_53 : decode cX10_opens 53 = .ok (.aload_n 0, 1) := by decide +kernel
theorem dX10_opens_54 : decode cX10_opens 54 = .ok (.getfield 174, 3) := by decide +kernel
theorem dX10_opens_57 : decode cX10_opens 57 = .ok (.iconst 1, 1) := by decide +kernel
theorem dX10_opens_58 : decode cX10_opens 58 = .ok (.iadd, 1) := by decide +kernel
theorem dX10_opens_59 : decode cX10_opens 59 = .ok (.putfield 174, 3) := by decide +kernel
theorem dX10_opens_62 : decode cX10_opens 62 = .ok (.iconst 1, 1) := by decide +kernel
theorem dX10_opens_63 : decode cX10_opens 63 = .ok (.ireturn, 1) := by decide +kernel
theorem dX10_waitTop_0 : decode cX10_waitTop 0 = .ok (.aload_n 0, 1) := by decide +kernel
theorem dX10_waitTop_1 : decode cX10_waitTop 1 = .ok (.getfield 203, 3) := by decide +kernel
theorem dX10_waitTop_4 : decode cX10_waitTop 4 = .ok (.ifCond .ne 7, 3) := by decide +kernel
theorem dX10_waitTop_7 : decode cX10_waitTop 7 = .ok (.iconst (-1), 1) := by decide +kernel
theorem dX10_waitTop_8 : decode cX10_waitTop 8 = .ok (.goto 17, 3) := by decide +kernel
theorem dX10_waitTop_11 : decode cX10_waitTop 11 = .ok (.aload_n 0, 1) := by decide +kernel
theorem dX10_waitTop_12 : decode cX10_waitTop 12 = .ok (.getfield 32, 3) := by decide +kernel
theorem dX10_waitTop_15 : decode cX10_waitTop 15 = .ok (.aload_n 0, 1) := by decide +kernel
theorem dX10_waitTop_16 : decode cX10_waitTop 16 = .ok (.getfield 203, 3) := by decide +kernel
theorem dX10_waitTop_19 : decode cX10_waitTop 19 = .ok (.iconst 1, 1) := by decide +kernel
theorem dX10_waitTop_20 : decode cX10_waitTop 20 = .ok (.isub, 1) := by decide +kernel
theorem dX10_waitTop_21 : decode cX10_waitTop 21 = .ok (.iaload, 1) := by decide +kernel
theorem dX10_waitTop_22 : decode cX10_waitTop 22 = .ok (.ldc 199, 2) := by decide +kernel
theorem dX10_waitTop_24 : decode cX10_waitTop 24 = .ok (.idiv, 1) := by decide +kernel
theorem dX10_waitTop_25 : decode cX10_waitTop 25 = .ok (.ireturn, 1) := by decide +kernel
theorem dX10_factOf_0 : decode cX10_factOf 0 = .ok (.iload_n 0, 1) := by decide +kernel
theorem dX10_factOf_1 : decode cX10_factOf 1 = .ok (.tableswitch 149 97 122 #[119, 131, 149, 149, 149, 149, 149, 125, 121, 134, 127, 140, 149, 149, 149, 149, 129, 146, 149, 143, 149, 149, 149, 149, 123, 137], 119) := by decide +kernel
theorem dX10_factOf_120 : decode cX10_factOf 120 = .ok (.iconst 0, 1) := by decide +kernel
theorem dX10_factOf_121 : decode cX10_factOf 121 = .ok (.ireturn, 1) := by decide +kernel
theorem dX10_factOf_122 : decode cX10_factOf 122 = .ok (.iconst 1, 1) := by decide +kernel
theorem dX10_factOf_123 : decode cX10_factOf 123 = .ok (.ireturn, 1) := by decide +kernel
theorem dX10_factOf_124 : decode cX10_factOf 124 = .ok (.iconst 2, 1) := by decide +kernel
theorem dX10_factOf_125 : decode cX10_factOf 125 = .ok (.ireturn, 1) := by decide +kernel
theorem dX10_factOf_126 : decode cX10_factOf 126 = .ok (.iconst 3, 1) := by decide +kernel
theorem dX10_factOf_127 : decode cX10_factOf 127 = .ok (.ireturn, 1) := by decide +kernel
theorem dX10_factOf_128 : decode cX10_factOf 128 = .ok (.iconst 4, 1) := by decide +kernel
theorem dX10_factOf_129 : decode cX10_factOf 129 = .ok (.ireturn, 1) := by decide +kernel
theorem dX10_factOf_130 : decode cX10_factOf 130 = .ok (.iconst 5, 1) := by decide +kernel
theorem dX10_factOf_131 : decode cX10_factOf 131 = .ok (.ireturn, 1) := by decide +kernel
theorem dX10_factOf_132 : decode cX10_factOf 132 = .ok (.bipush 6, 2) := by decide +kernel
theorem dX10_factOf_134 : decode cX10_factOf 134 = .ok (.ireturn, 1) := by decide +kernel
theorem dX10_factOf_135 : decode cX10_factOf 135 = .ok (.bipush 7, 2) := by decide +kernel
theorem dX10_factOf_137 : decode cX10_factOf 137 = .ok (.ireturn, 1) := by decide +kernel
theorem dX10_factOf_138 : decode cX10_factOf 138 = .ok (.bipush 8, 2) := by decide +kernel
theorem dX10_factOf_140 : decode cX10_factOf 140 = .ok (.ireturn, 1) := by decide +kernel
theorem dX10_factOf_141 : decode cX10_factOf 141 = .ok (.bipush 9, 2) := by decide +kernel
theorem dX10_factOf_143 : decode cX10_factOf 143 = .ok (.ireturn, 1) := by decide +kernel
theorem dX10_factOf_144 : decode cX10_factOf 144 = .ok (.bipush 10, 2) := by decide +kernel
theorem dX10_factOf_146 : decode cX10_factOf 146 = .ok (.ireturn, 1) := by decide +kernel
theorem dX10_factOf_147 : decode cX10_factOf 147 = .ok (.bipush 11, 2) := by decide +kernel
theorem dX10_factOf_149 : decode cX10_factOf 149 = .ok (.ireturn, 1) := by decide +kernel
theorem dX10_factOf_150 : decode cX10_factOf 150 = .ok (.iconst (-1), 1) := by decide +kernel
theorem dX10_factOf_151 : decode cX10_factOf 151 = .ok (.ireturn, 1) := by decide +kernel
theorem dX10_sumSign_0 : decode cX10_sumSign 0 = .ok (.iload_n 0, 1) := by decide +kernel
theorem dX10_sumSign_1 : decode cX10_sumSign 1 = .ok (.bipush 43, 2) := by decide +kernel
theorem dX10_sumSign_3 : decode cX10_sumSign 3 = .ok (.if_icmp .ne 7, 3) := by decide +kernel
theorem dX10_sumSign_6 : decode cX10_sumSign 6 = .ok (.iconst 2, 1) := by decide +kernel
theorem dX10_sumSign_7 : decode cX10_sumSign 7 = .ok (.goto 45, 3) := by decide +kernel
theorem dX10_sumSign_10 : decode cX10_sumSign 10 = .ok (.iload_n 0, 1) := by decide +kernel
theorem dX10_sumSign_11 : decode cX10_sumSign 11 = .ok (.bipush 45, 2) := by decide +kernel
theorem dX10_sumSign_13 : decode cX10_sumSign 13 = .ok (.if_icmp .ne 7, 3) := by decide +kernel
theorem dX10_sumSign_16 : decode cX10_sumSign 16 = .ok (.iconst 3, 1) := by decide +kernel
theorem dX10_sumSign_17 : decode cX10_sumSign 17 = .ok (.goto 35, 3) := by decide +kernel
theorem dX10_sumSign_20 : decode cX10_sumSign 20 = .ok (.iload_n 0, 1) := by decide +kernel
theorem dX10_sumSign_21 : decode cX10_sumSign 21 = .ok (.bipush 42, 2) := by decide +kernel
theorem dX10_sumSign_23 : decode cX10_sumSign 23 = .ok (.if_icmp .ne 7, 3) := by decide +kernel
theorem dX10_sumSign_26 : decode cX10_sumSign 26 = .ok (.iconst 4, 1) := by decide +kernel
theorem dX10_sumSign_27 : decode cX10_sumSign 27 = .ok (.goto 25, 3) := by decide +kernel
theorem dX10_sumSign_30 : decode cX10_sumSign 30 = .ok (.iload_n 0, 1) := by decide +kernel
theorem dX10_sumSign_31 : decode cX10_sumSign 31 = .ok (.bipush 47, 2) := by decide +kernel
theorem dX10_sumSign_33 : decode cX10_sumSign 33 = .ok (.if_icmp .ne 7, 3) := by decide +kernel
theorem dX10_sumSign_36 : decode cX10_sumSign 36 = .ok (.iconst 5, 1) := by decide +kernel
theorem dX10_sumSign_37 : decode cX10_sumSign 37 = .ok (.goto 15, 3) := by decide +kernel
theorem dX10_sumSign_40 : decode cX10_sumSign 40 = .ok (.iload_n 0, 1) := by decide +kernel
theorem dX10_sumSign_41 : decode cX10_sumSign 41 = .ok (.bipush 37, 2) := by decide +kernel
theorem dX10_sumSign_43 : decode cX10_sumSign 43 = .ok (.if_icmp .ne 8, 3) := by decide +kernel
theorem dX10_sumSign_46 : decode cX10_sumSign 46 = .ok (.bipush 6, 2) := by decide +kernel
theorem dX10_sumSign_48 : decode cX10_sumSign 48 = .ok (.goto 4, 3) := by decide +kernel
theorem dX10_sumSign_51 : decode cX10_sumSign 51 = .ok (.iconst (-1), 1) := by decide +kernel
theorem dX10_sumSign_52 : decode cX10_sumSign 52 = .ok (.ireturn, 1) := by decide +kernel
theorem dX10_closesSums_0 : decode cX10_closesSums 0 = .ok (.aload_n 0, 1) := by decide +kernel
theorem dX10_closesSums_1 : decode cX10_closesSums 1 = .ok (.invokevirtual 206, 3) := by decide +kernel
theorem dX10_closesSums_4 : decode cX10_closesSums 4 = .ok (.iconst 4, 1) := by decide +kernel
theorem dX10_closesSums_5 : decode cX10_closesSums 5 = .ok (.if_icmp .lt 12, 3) := by decide +kernel
theorem dX10_closesSums_8 : decode cX10_closesSums 8 = .ok (.aload_n 0, 1) := by decide +kernel
theorem dX10_closesSums_9 : decode cX10_closesSums 9 = .ok (.invokevirtual 206, 3) := by decide +kernel
theorem dX10_closesSums_12 : decode cX10_closesSums 12 = .ok (.bipush 6, 2) := by decide +kernel
theorem dX10_closesSums_14 : decode cX10_closesSums 14 = .ok (.if_icmp .le 23, 3) := by decide +kernel
theorem dX10_closesSums_17 : decode cX10_closesSums 17 = .ok (.iload_n 1, 1) := by decide +kernel
theorem dX10_closesSums_18 : decode cX10_closesSums 18 = .ok (.ifCond .eq 41, 3) := by decide +kernel
theorem dX10_closesSums_21 : decode cX10_closesSums 21 = .ok (.aload_n 0, 1) := by decide +kernel
theorem dX10_closesSums_22 : decode cX10_closesSums 22 = .ok (.invokevirtual 206, 3) := by decide +kernel
theorem dX10_closesSums_25 : decode cX10_closesSums 25 = .ok (.iconst 2, 1) := by decide +kernel
theorem dX10_closesSums_26 : decode cX10_closesSums 26 = .ok (.if_icmp .eq 11, 3) := by decide +kernel
theorem dX10_closesSums_29 : decode cX10_closesSums 29 = .ok (.aload_n 0, 1) := by decide +kernel
theorem dX10_closesSums_30 : decode cX10_closesSums 30 = .ok (.invokevirtual 206, 3) := by decide +kernel
theorem dX10_closesSums_33 : decode cX10_closesSums 33 = .ok (.iconst 3, 1) := by decide +kernel
theorem dX10_closesSums_34 : decode cX10_closesSums 34 = .ok (.if_icmp .ne 25, 3) := by decide +kernel
theorem dX10_closesSums_37 : decode cX10_closesSums 37 = .ok (.aload_n 0, 1) := by decide +kernel
theorem dX10_closesSums_38 : decode cX10_closesSums 38 = .ok (.aload_n 0, 1) := by decide +kernel
theorem dX10_closesSums_39 : decode cX10_closesSums 39 = .ok (.invokevirtual 206, 3) := by decide +kernel
theorem dX10_closesSums_42 : decode cX10_closesSums 42 = .ok (.iconst 0, 1) := by decide +kernel
theorem dX10_closesSums_43 : decode cX10_closesSums 43 = .ok (.invokevirtual 209, 3) := by decide +kernel
theorem dX10_closesSums_46 : decode cX10_closesSums 46 = .ok (.aload_n 0, 1) := by decide +kernel
theorem dX10_closesSums_47 : decode cX10_closesSums 47 = .ok (.aload_n 0, 1) := by decide +kernel
theorem dX10_closesSums_48 : decode cX10_closesSums 48 = .ok (.getfield 203, 3) := by decide +kernel
theorem dX10_closesSums_51 : decode cX10_closesSums 51 = .ok (.iconst 1, 1) := by decide +kernel
theorem dX10_closesSums_52 : decode cX10_closesSums 52 = .ok (.isub, 1) := by decide +kernel
theorem dX10_closesSums_53 : decode cX10_closesSums 53 = .ok (.putfield 203, 3) := by decide +kernel
theorem dX10_closesSums_56 : decode cX10_closesSums 56 = .ok (.goto (-56), 3) := by decide +kernel
theorem dX10_closesSums_59 : decode cX10_closesSums 59 = .ok (.return_, 1) := by decide +kernel
theorem dX10_readsFactor_0 : decode cX10_readsFactor 0 = .ok (.aload_n 0, 1) := by decide +kernel
theorem dX10_readsFactor_1 : decode cX10_readsFactor 1 = .ok (.invokevirtual 180, 3) := by decide +kernel
theorem dX10_readsFactor_4 : decode cX10_readsFactor 4 = .ok (.bipush 91, 2) := by decide +kernel
theorem dX10_readsFactor_6 : decode cX10_readsFactor 6 = .ok (.if_icmp .ne 14, 3) := by decide +kernel
theorem dX10_readsFactor_9 : decode cX10_readsFactor 9 = .ok (.aload_n 0, 1) := by decide +kernel
theorem dX10_readsFactor_10 : decode cX10_readsFactor 10 = .ok (.bipush 14, 2) := by decide +kernel
theorem dX10_readsFactor_12 : decode cX10_readsFactor 12 = .ok (.invokevirtual 213, 3) := by decide +kernel
theorem dX10_readsFactor_15 : decode cX10_readsFactor 15 = .ok (.ifCond .ne (-15), 3) := by decide +kernel
theorem dX10_readsFactor_18 : decode cX10_readsFactor 18 = .ok (.iconst 0, 1) := by decide +kernel
theorem dX10_readsFactor_19 : decode cX10_readsFactor 19 = .ok (.ireturn, 1) := by decide +kernel
theorem dX10_readsFactor_20 : decode cX10_readsFactor 20 = .ok (.aload_n 0, 1) := by decide +kernel
theorem dX10_readsFactor_21 : decode cX10_readsFactor 21 = .ok (.invokevirtual 192, 3) := by decide +kernel
theorem dX10_readsFactor_24 : decode cX10_readsFactor 24 = .ok (.ifCond .eq 23, 3) := by decide +kernel
theorem dX10_readsFactor_27 : decode cX10_readsFactor 27 = .ok (.aload_n 0, 1) := by decide +kernel
theorem dX10_readsFactor_28 : decode cX10_readsFactor 28 = .ok (.invokevirtual 216, 3) := by decide +kernel
theorem dX10_readsFactor_31 : decode cX10_readsFactor 31 = .ok (.ifCond .ne 5, 3) := by decide +kernel
theorem dX10_readsFactor_34 : decode cX10_readsFactor 34 = .ok (.iconst 0, 1) := by decide +kernel
theorem dX10_readsFactor_35 : decode cX10_readsFactor 35 = .ok (.ireturn, 1) := by decide +kernel
theorem dX10_readsFactor_36 : decode cX10_readsFactor 36 = .ok (.aload_n 0, 1) := by decide +kernel
theorem dX10_readsFactor_37 : decode cX10_readsFactor 37 = .ok (.iconst 0, 1) := by decide +kernel
theorem dX10_readsFactor_38 : decode cX10_readsFactor 38 = .ok (.aload_n 0, 1) := by decide +kernel
theorem dX10_readsFactor_39 : decode cX10_readsFactor 39 = .ok (.getfield 189, 3) := by decide +kernel
theorem dX10_readsFactor_42 : decode cX10_readsFactor 42 = .ok (.invokevirtual 209, 3) := by decide +kernel
theorem dX10_readsFactor_45 : decode cX10_readsFactor 45 = .ok (.iconst 1, 1) := by decide +kernel
theorem dX10_readsFactor_46 : decode cX10_readsFactor 46 = .ok (.ireturn, 1) := by decide +kernel
theorem dX10_readsFactor_47 : decode cX10_readsFactor 47 = .ok (.aload_n 0, 1) := by decide +kernel
theorem dX10_readsFactor_48 : decode cX10_readsFactor 48 = .ok (.invokevirtual 180, 3) := by decide +kernel
theorem dX10_readsFactor_51 : decode cX10_readsFactor 51 = .ok (.invokestatic 219, 3) := by decide +kernel
theorem dX10_readsFactor_54 : decode cX10_readsFactor 54 = .ok (.istore_n 1, 1) := by decide +kernel
theorem dX10_readsFactor_55 : decode cX10_readsFactor 55 = .ok (.iload_n 1, 1) := by decide +kernel
theorem dX10_readsFactor_56 : decode cX10_readsFactor 56 = .ok (.iconst (-1), 1) := by decide +kernel
theorem dX10_readsFactor_57 : decode cX10_readsFactor 57 = .ok (.if_icmp .ne 13, 3) := by decide +kernel
theorem dX10_readsFactor_60 : decode cX10_readsFactor 60 = .ok (.aload_n 0, 1) := by decide +kernel
theorem dX10_readsFactor_61 : decode cX10_readsFactor 61 = .ok (.iconst 1, 1) := by decide +kernel
theorem dX10_readsFactor_62 : decode cX10_readsFactor 62 = .ok (.aload_n 0, 1) := by decide +kernel
theorem dX10_readsFactor_63 : decode cX10_readsFactor 63 = .ok (.getfield 174, 3) := by decide +kernel
theorem dX10_readsFactor_66 : decode cX10_readsFactor 66 = .ok (.invokevirtual 186, 3) := by decide +kernel
theorem dX10_readsFactor_69 : decode cX10_readsFactor 69 = .ok (.ireturn, 1) := by decide +kernel
theorem dX10_readsFactor_70 : decode cX10_readsFactor 70 = .ok (.aload_n 0, 1) := by decide +kernel
theorem dX10_readsFactor_71 : decode cX10_readsFactor 71 = .ok (.iconst 1, 1) := by decide +kernel
theorem dX10_readsFactor_72 : decode cX10_readsFactor 72 = .ok (.iload_n 1, 1) := by decide +kernel
theorem dX10_readsFactor_73 : decode cX10_readsFactor 73 = .ok (.invokevirtual 209, 3) := by decide +kernel
theorem dX10_readsFactor_76 : decode cX10_readsFactor 76 = .ok (.aload_n 0, 1) := by decide +kernel
theorem dX10_readsFactor_77 : decode cX10_readsFactor 77 = .ok (.aload_n 0, 1) := by decide +kernel
theorem dX10_readsFactor_78 : decode cX10_readsFactor 78 = .ok (.getfield 174, 3) := by decide +kernel
theorem dX10_readsFactor_81 : decode cX10_readsFactor 81 = .ok (.iconst 1, 1) := by decide +kernel
theorem dX10_readsFactor_82 : decode cX10_readsFactor 82 = .ok (.iadd, 1) := by decide +kernel
theorem dX10_readsFactor_83 : decode cX10_readsFactor 83 = .ok (.putfield 174, 3) := by decide +kernel
theorem dX10_readsFactor_86 : decode cX10_readsFactor 86 = .ok (.iconst 1, 1) := by decide +kernel
theorem dX10_readsFactor_87 : decode cX10_readsFactor 87 = .ok (.ireturn, 1) := by decide +kernel
theorem dX10_hasOpenSum_0 : decode cX10_hasOpenSum 0 = .ok (.iload_n 1, 1) := by decide +kernel
theorem dX10_hasOpenSum_1 : decode cX10_hasOpenSum 1 = .ok (.istore_n 2, 1) := by decide +kernel
theorem dX10_hasOpenSum_2 : decode cX10_hasOpenSum 2 = .ok (.iload_n 2, 1) := by decide +kernel
theorem dX10_hasOpenSum_3 : decode cX10_hasOpenSum 3 = .ok (.aload_n 0, 1) := by decide +kernel
theorem dX10_hasOpenSum_4 : decode cX10_hasOpenSum 4 = .ok (.getfield 203, 3) := by decide +kernel
theorem dX10_hasOpenSum_7 : decode cX10_hasOpenSum 7 = .ok (.if_icmp .ge 25, 3) := by decide +kernel
theorem dX10_hasOpenSum_10 : decode cX10_hasOpenSum 10 = .ok (.aload_n 0, 1) := by decide +kernel
theorem dX10_hasOpenSum_11 : decode cX10_hasOpenSum 11 = .ok (.getfield 32, 3) := by decide +kernel
theorem dX10_hasOpenSum_14 : decode cX10_hasOpenSum 14 = .ok (.iload_n 2, 1) := by decide +kernel
theorem dX10_hasOpenSum_15 : decode cX10_hasOpenSum 15 = .ok (.iaload, 1) := by decide +kernel
theorem dX10_hasOpenSum_16 : decode cX10_hasOpenSum 16 = .ok (.ldc 199, 2) := by decide +kernel
theorem dX10_hasOpenSum_18 : decode cX10_hasOpenSum 18 = .ok (.idiv, 1) := by decide +kernel
theorem dX10_hasOpenSum_19 : decode cX10_hasOpenSum 19 = .ok (.bipush 14, 2) := by decide +kernel
theorem dX10_hasOpenSum_21 : decode cX10_hasOpenSum 21 = .ok (.if_icmp .ne 5, 3) := by decide +kernel
theorem dX10_hasOpenSum_24 : decode cX10_hasOpenSum 24 = .ok (.iconst 1, 1) := by decide +kernel
theorem dX10_hasOpenSum_25 : decode cX10_hasOpenSum 25 = .ok (.ireturn, 1) := by decide +kernel
theorem dX10_hasOpenSum_26 : decode cX10_hasOpenSum 26 = .ok (.iinc 2 1, 3) := by decide +kernel
theorem dX10_hasOpenSum_29 : decode cX10_hasOpenSum 29 = .ok (.goto (-27), 3) := by decide +kernel
theorem dX10_hasOpenSum_32 : decode cX10_hasOpenSum 32 = .ok (.iconst 0, 1) := by decide +kernel
theorem dX10_hasOpenSum_33 : decode cX10_hasOpenSum 33 = .ok (.ireturn, 1) := by decide +kernel
theorem dX10_readsSum_0 : decode cX10_readsSum 0 = .ok (.aload_n 0, 1) := by decide +kernel
theorem dX10_readsSum_1 : decode cX10_readsSum 1 = .ok (.getfield 203, 3) := by decide +kernel
theorem dX10_readsSum_4 : decode cX10_readsSum 4 = .ok (.istore_n 1, 1) := by decide +kernel
theorem dX10_readsSum_5 : decode cX10_readsSum 5 = .ok (.aload_n 0, 1) := by decide +kernel
theorem dX10_readsSum_6 : decode cX10_readsSum 6 = .ok (.invokevirtual 222, 3) := by decide +kernel
theorem dX10_readsSum_9 : decode cX10_readsSum 9 = .ok (.ifCond .ne 5, 3) := by decide +kernel
theorem dX10_readsSum_12 : decode cX10_readsSum 12 = .ok (.iconst 0, 1) := by decide +kernel
theorem dX10_readsSum_13 : decode cX10_readsSum 13 = .ok (.ireturn, 1) := by decide +kernel
theorem dX10_readsSum_14 : decode cX10_readsSum 14 = .ok (.aload_n 0, 1) := by decide +kernel
theorem dX10_readsSum_15 : decode cX10_readsSum 15 = .ok (.invokevirtual 180, 3) := by decide +kernel
theorem dX10_readsSum_18 : decode cX10_readsSum 18 = .ok (.invokestatic 225, 3) := by decide +kernel
theorem dX10_readsSum_21 : decode cX10_readsSum 21 = .ok (.istore_n 2, 1) := by decide +kernel
theorem dX10_readsSum_22 : decode cX10_readsSum 22 = .ok (.iload_n 2, 1) := by decide +kernel
theorem dX10_readsSum_23 : decode cX10_readsSum 23 = .ok (.iconst (-1), 1) := by decide +kernel
theorem dX10_readsSum_24 : decode cX10_readsSum 24 = .ok (.if_icmp .eq 59, 3) := by decide +kernel
theorem dX10_readsSum_27 : decode cX10_readsSum 27 = .ok (.aload_n 0, 1) := by decide +kernel
theorem dX10_readsSum_28 : decode cX10_readsSum 28 = .ok (.iload_n 2, 1) := by decide +kernel
theorem dX10_readsSum_29 : decode cX10_readsSum 29 = .ok (.iconst 4, 1) := by decide +kernel
theorem dX10_readsSum_30 : decode cX10_readsSum 30 = .ok (.if_icmp .ge 7, 3) := by decide +kernel
theorem dX10_readsSum_33 : decode cX10_readsSum 33 = .ok (.iconst 1, 1) := by decide +kernel
theorem dX10_readsSum_34 : decode cX10_readsSum 34 = .ok (.goto 4, 3) := by decide +kernel
theorem dX10_readsSum_37 : decode cX10_readsSum 37 = .ok (.iconst 0, 1) := by decide +kernel
theorem dX10_readsSum_38 : decode cX10_readsSum 38 = .ok (.invokevirtual 228, 3) := by decide +kernel
theorem dX10_readsSum_41 : decode cX10_readsSum 41 = .ok (.aload_n 0, 1) := by decide +kernel
theorem dX10_readsSum_42 : decode cX10_readsSum 42 = .ok (.getfield 32, 3) := by decide +kernel
theorem dX10_readsSum_45 : decode cX10_readsSum 45 = .ok (.aload_n 0, 1) := by decide +kernel
theorem dX10_readsSum_46 : decode cX10_readsSum 46 = .ok (.getfield 203, 3) := by decide +kernel
theorem dX10_readsSum_49 : decode cX10_readsSum 49 = .ok (.ldc 199, 2) := by decide +kernel
theorem dX10_readsSum_51 : decode cX10_readsSum 51 = .ok (.iload_n 2, 1) := by decide +kernel
theorem dX10_readsSum_52 : decode cX10_readsSum 52 = .ok (.imul, 1) := by decide +kernel
theorem dX10_readsSum_53 : decode cX10_readsSum 53 = .ok (.iastore, 1) := by decide +kernel
theorem dX10_readsSum_54 : decode cX10_readsSum 54 = .ok (.aload_n 0, 1) := by decide +kernel
theorem dX10_readsSum_55 : decode cX10_readsSum 55 = .ok (.aload_n 0, 1) := by decide +kernel
theorem dX10_readsSum_56 : decode cX10_readsSum 56 = .ok (.getfield 203, 3) := by decide +kernel
theorem dX10_readsSum_59 : decode cX10_readsSum 59 = .ok (.iconst 1, 1) := by decide +kernel
theorem dX10_readsSum_60 : decode cX10_readsSum 60 = .ok (.iadd, 1) := by decide +kernel
theorem dX10_readsSum_61 : decode cX10_readsSum 61 = .ok (.putfield 203, 3) := by decide +kernel
theorem dX10_readsSum_64 : decode cX10_readsSum 64 = .ok (.aload_n 0, 1) := by decide +kernel
theorem dX10_readsSum_65 : decode cX10_readsSum 65 = .ok (.aload_n 0, 1) := by decide +kernel
theorem dX10_readsSum_66 : decode cX10_readsSum 66 = .ok (.getfield 174, 3) := by decide +kernel
theorem dX10_readsSum_69 : decode cX10_readsSum 69 = .ok (.iconst 1, 1) := by decide +kernel
theorem dX10_readsSum_70 : decode cX10_readsSum 70 = .ok (.iadd, 1) := by decide +kernel
theorem dX10_readsSum_71 : decode cX10_readsSum 71 = .ok (.putfield 174, 3) := by decide +kernel
theorem dX10_readsSum_74 : decode cX10_readsSum 74 = .ok (.aload_n 0, 1) := by decide +kernel
theorem dX10_readsSum_75 : decode cX10_readsSum 75 = .ok (.invokevirtual 222, 3) := by decide +kernel
theorem dX10_readsSum_78 : decode cX10_readsSum 78 = .ok (.ifCond .ne 85, 3) := by decide +kernel
theorem dX10_readsSum_81 : decode cX10_readsSum 81 = .ok (.iconst 0, 1) := by decide +kernel
theorem dX10_readsSum_82 : decode cX10_readsSum 82 = .ok (.ireturn, 1) := by decide +kernel
theorem dX10_readsSum_83 : decode cX10_readsSum 83 = .ok (.aload_n 0, 1) := by decide +kernel
theorem dX10_readsSum_84 : decode cX10_readsSum 84 = .ok (.invokevirtual 180, 3) := by decide +kernel
theorem dX10_readsSum_87 : decode cX10_readsSum 87 = .ok (.bipush 93, 2) := by decide +kernel
theorem dX10_readsSum_89 : decode cX10_readsSum 89 = .ok (.if_icmp .ne 49, 3) := by decide +kernel
theorem dX10_readsSum_92 : decode cX10_readsSum 92 = .ok (.aload_n 0, 1) := by decide +kernel
theorem dX10_readsSum_93 : decode cX10_readsSum 93 = .ok (.iload_n 1, 1) := by decide +kernel
theorem dX10_readsSum_94 : decode cX10_readsSum 94 = .ok (.invokevirtual 232, 3) := by decide +kernel
theorem dX10_readsSum_97 : decode cX10_readsSum 97 = .ok (.ifCond .eq 41, 3) := by decide +kernel
theorem dX10_readsSum_100 : decode cX10_readsSum 100 = .ok (.aload_n 0, 1) := by decide +kernel
theorem dX10_readsSum_101 : decode cX10_readsSum 101 = .ok (.iconst 1, 1) := by decide +kernel
theorem dX10_readsSum_102 : decode cX10_readsSum 102 = .ok (.invokevirtual 228, 3) := by decide +kernel
theorem dX10_readsSum_105 : decode cX10_readsSum 105 = .ok (.aload_n 0, 1) := by decide +kernel
theorem dX10_readsSum_106 : decode cX10_readsSum 106 = .ok (.aload_n 0, 1) := by decide +kernel
theorem dX10_readsSum_107 : decode cX10_readsSum 107 = .ok (.getfield 203, 3) := by decide +kernel
theorem dX10_readsSum_110 : decode cX10_readsSum 110 = .ok (.iconst 1, 1) := by decide +kernel
theorem dX10_readsSum_111 : decode cX10_readsSum 111 = .ok (.isub, 1) := by decide +kernel
theorem dX10_readsSum_112 : decode cX10_readsSum 112 = .ok (.putfield 203, 3) := by decide +kernel
theorem dX10_readsSum_115 : decode cX10_readsSum 115 = .ok (.aload_n 0, 1) := by decide +kernel
theorem dX10_readsSum_116 : decode cX10_readsSum 116 = .ok (.aload_n 0, 1) := by decide +kernel
theorem dX10_readsSum_117 : decode cX10_readsSum 117 = .ok (.getfield 200, 3) := by decide +kernel
theorem dX10_readsSum_120 : decode cX10_readsSum 120 = .ok (.iconst 1, 1) := by decide +kernel
theorem dX10_readsSum_121 : decode cX10_readsSum 121 = .ok (.isub, 1) := by decide +kernel
theorem dX10_readsSum_122 : decode cX10_readsSum 122 = .ok (.putfield 200, 3) := by decide +kernel
theorem dX10_readsSum_125 : decode cX10_readsSum 125 = .ok (.aload_n 0, 1) := by decide +kernel
theorem dX10_readsSum_126 : decode cX10_readsSum 126 = .ok (.aload_n 0, 1) := by decide +kernel
theorem dX10_readsSum_127 : decode cX10_readsSum 127 = .ok (.getfield 174, 3) := by decide +kernel
theorem dX10_readsSum_130 : decode cX10_readsSum 130 = .ok (.iconst 1, 1) := by decide +kernel
theorem dX10_readsSum_131 : decode cX10_readsSum 131 = .ok (.iadd, 1) := by decide +kernel
theorem dX10_readsSum_132 : decode cX10_readsSum 132 = .ok (.putfield 174, 3) := by decide +kernel
theorem dX10_readsSum_135 : decode cX10_readsSum 135 = .ok (.goto 28, 3) := by decide +kernel
theorem dX10_readsSum_138 : decode cX10_readsSum 138 = .ok (.aload_n 0, 1) := by decide +kernel
theorem dX10_readsSum_139 : decode cX10_readsSum 139 = .ok (.iload_n 1, 1) := by decide +kernel
theorem dX10_readsSum_140 : decode cX10_readsSum 140 = .ok (.invokevirtual 232, 3) := by decide +kernel
theorem dX10_readsSum_143 : decode cX10_readsSum 143 = .ok (.ifCond .eq 13, 3) := by decide +kernel
theorem dX10_readsSum_146 : decode cX10_readsSum 146 = .ok (.aload_n 0, 1) := by decide +kernel
theorem dX10_readsSum_147 : decode cX10_readsSum 147 = .ok (.iconst 1, 1) := by decide +kernel
theorem dX10_readsSum_148 : decode cX10_readsSum 148 = .ok (.aload_n 0, 1) := by decide +kernel
theorem dX10_readsSum_149 : decode cX10_readsSum 149 = .ok (.getfield 174, 3) := by decide +kernel
theorem dX10_readsSum_152 : decode cX10_readsSum 152 = .ok (.invokevirtual 186, 3) := by decide +kernel
theorem dX10_readsSum_155 : decode cX10_readsSum 155 = .ok (.ireturn, 1) := by decide +kernel
theorem dX10_readsSum_156 : decode cX10_readsSum 156 = .ok (.aload_n 0, 1) := by decide +kernel
theorem dX10_readsSum_157 : decode cX10_readsSum 157 = .ok (.iconst 1, 1) := by decide +kernel
theorem dX10_readsSum_158 : decode cX10_readsSum 158 = .ok (.invokevirtual 228, 3) := by decide +kernel
theorem dX10_readsSum_161 : decode cX10_readsSum 161 = .ok (.iconst 1, 1) := by decide +kernel
theorem dX10_readsSum_162 : decode cX10_readsSum 162 = .ok (.ireturn, 1) := by decide +kernel
theorem dX10_readsSum_163 : decode cX10_readsSum 163 = .ok (.goto (-149), 3) := by decide +kernel
theorem dX10_endsPiece_0 : decode cX10_endsPiece 0 = .ok (.aload_n 0, 1) := by decide +kernel
theorem dX10_endsPiece_1 : decode cX10_endsPiece 1 = .ok (.invokevirtual 206, 3) := by decide +kernel
theorem dX10_endsPiece_4 : decode cX10_endsPiece 4 = .ok (.bipush 10, 2) := by decide +kernel
theorem dX10_endsPiece_6 : decode cX10_endsPiece 6 = .ok (.if_icmp .ne 33, 3) := by decide +kernel
theorem dX10_endsPiece_9 : decode cX10_endsPiece 9 = .ok (.aload_n 0, 1) := by decide +kernel
theorem dX10_endsPiece_10 : decode cX10_endsPiece 10 = .ok (.bipush 10, 2) := by decide +kernel
theorem dX10_endsPiece_12 : decode cX10_endsPiece 12 = .ok (.iconst 0, 1) := by decide +kernel
theorem dX10_endsPiece_13 : decode cX10_endsPiece 13 = .ok (.invokevirtual 209, 3) := by decide +kernel
theorem dX10_endsPiece_16 : decode cX10_endsPiece 16 = .ok (.aload_n 0, 1) := by decide +kernel
theorem dX10_endsPiece_17 : decode cX10_endsPiece 17 = .ok (.aload_n 0, 1) := by decide +kernel
theorem dX10_endsPiece_18 : decode cX10_endsPiece 18 = .ok (.getfield 203, 3) := by decide +kernel
theorem dX10_endsPiece_21 : decode cX10_endsPiece 21 = .ok (.iconst 1, 1) := by decide +kernel
theorem dX10_endsPiece_22 : decode cX10_endsPiece 22 = .ok (.isub, 1) := by decide +kernel
theorem dX10_endsPiece_23 : decode cX10_endsPiece 23 = .ok (.putfield 203, 3) := by decide +kernel
theorem dX10_endsPiece_26 : decode cX10_endsPiece 26 = .ok (.aload_n 0, 1) := by decide +kernel
theorem dX10_endsPiece_27 : decode cX10_endsPiece 27 = .ok (.aload_n 0, 1) := by decide +kernel
theorem dX10_endsPiece_28 : decode cX10_endsPiece 28 = .ok (.getfield 200, 3) := by decide +kernel
theorem dX10_endsPiece_31 : decode cX10_endsPiece 31 = .ok (.iconst 1, 1) := by decide +kernel
theorem dX10_endsPiece_32 : decode cX10_endsPiece 32 = .ok (.isub, 1) := by decide +kernel
theorem dX10_endsPiece_33 : decode cX10_endsPiece 33 = .ok (.putfield 200, 3) := by decide +kernel
theorem dX10_endsPiece_36 : decode cX10_endsPiece 36 = .ok (.goto (-36), 3) := by decide +kernel
theorem dX10_endsPiece_39 : decode cX10_endsPiece 39 = .ok (.return_, 1) := by decide +kernel
theorem dX10_lands_0 : decode cX10_lands 0 = .ok (.aload_n 0, 1) := by decide +kernel
theorem dX10_lands_1 : decode cX10_lands 1 = .ok (.invokevirtual 206, 3) := by decide +kernel
theorem dX10_lands_4 : decode cX10_lands 4 = .ok (.bipush 11, 2) := by decide +kernel
theorem dX10_lands_6 : decode cX10_lands 6 = .ok (.if_icmp .eq 16, 3) := by decide +kernel
theorem dX10_lands_9 : decode cX10_lands 9 = .ok (.iload_n 1, 1) := by decide +kernel
theorem dX10_lands_10 : decode cX10_lands 10 = .ok (.ifCond .eq 63, 3) := by decide +kernel
theorem dX10_lands_13 : decode cX10_lands 13 = .ok (.aload_n 0, 1) := by decide +kernel
theorem dX10_lands_14 : decode cX10_lands 14 = .ok (.invokevirtual 206, 3) := by decide +kernel
theorem dX10_lands_17 : decode cX10_lands 17 = .ok (.bipush 12, 2) := by decide +kernel
theorem dX10_lands_19 : decode cX10_lands 19 = .ok (.if_icmp .ne 54, 3) := by decide +kernel
theorem dX10_lands_22 : decode cX10_lands 22 = .ok (.aload_n 0, 1) := by decide +kernel
theorem dX10_lands_23 : decode cX10_lands 23 = .ok (.getfield 32, 3) := by decide +kernel
theorem dX10_lands_26 : decode cX10_lands 26 = .ok (.aload_n 0, 1) := by decide +kernel
theorem dX10_lands_27 : decode cX10_lands 27 = .ok (.getfield 203, 3) := by decide +kernel
theorem dX10_lands_30 : decode cX10_lands 30 = .ok (.iconst 1, 1) := by decide +kernel
theorem dX10_lands_31 : decode cX10_lands 31 = .ok (.isub, 1) := by decide +kernel
theorem dX10_lands_32 : decode cX10_lands 32 = .ok (.iaload, 1) := by decide +kernel
theorem dX10_lands_33 : decode cX10_lands 33 = .ok (.ldc 199, 2) := by decide +kernel
theorem dX10_lands_35 : decode cX10_lands 35 = .ok (.irem, 1) := by decide +kernel
theorem dX10_lands_36 : decode cX10_lands 36 = .ok (.istore_n 2, 1) := by decide +kernel
theorem dX10_lands_37 : decode cX10_lands 37 = .ok (.aload_n 0, 1) := by decide +kernel
theorem dX10_lands_38 : decode cX10_lands 38 = .ok (.getfield 29, 3) := by decide +kernel
theorem dX10_lands_41 : decode cX10_lands 41 = .ok (.iload_n 2, 1) := by decide +kernel
theorem dX10_lands_42 : decode cX10_lands 42 = .ok (.ldc 199, 2) := by decide +kernel
theorem dX10_lands_44 : decode cX10_lands 44 = .ok (.aload_n 0, 1) := by decide +kernel
theorem dX10_lands_45 : decode cX10_lands 45 = .ok (.getfield 29, 3) := by decide +kernel
theorem dX10_lands_48 : decode cX10_lands 48 = .ok (.iload_n 2, 1) := by decide +kernel
theorem dX10_lands_49 : decode cX10_lands 49 = .ok (.iaload, 1) := by decide +kernel
theorem dX10_lands_50 : decode cX10_lands 50 = .ok (.ldc 199, 2) := by decide +kernel
theorem dX10_lands_52 : decode cX10_lands 52 = .ok (.idiv, 1) := by decide +kernel
theorem dX10_lands_53 : decode cX10_lands 53 = .ok (.imul, 1) := by decide +kernel
theorem dX10_lands_54 : decode cX10_lands 54 = .ok (.aload_n 0, 1) := by decide +kernel
theorem dX10_lands_55 : decode cX10_lands 55 = .ok (.getfield 196, 3) := by decide +kernel
theorem dX10_lands_58 : decode cX10_lands 58 = .ok (.iadd, 1) := by decide +kernel
theorem dX10_lands_59 : decode cX10_lands 59 = .ok (.iastore, 1) := by decide +kernel
theorem dX10_lands_60 : decode cX10_lands 60 = .ok (.aload_n 0, 1) := by decide +kernel
theorem dX10_lands_61 : decode cX10_lands 61 = .ok (.aload_n 0, 1) := by decide +kernel
theorem dX10_lands_62 : decode cX10_lands 62 = .ok (.getfield 203, 3) := by decide +kernel
theorem dX10_lands_65 : decode cX10_lands 65 = .ok (.iconst 1, 1) := by decide +kernel
theorem dX10_lands_66 : decode cX10_lands 66 = .ok (.isub, 1) := by decide +kernel
theorem dX10_lands_67 : decode cX10_lands 67 = .ok (.putfield 203, 3) := by decide +kernel
theorem dX10_lands_70 : decode cX10_lands 70 = .ok (.goto (-70), 3) := by decide +kernel
theorem dX10_lands_73 : decode cX10_lands 73 = .ok (.return_, 1) := by decide +kernel
theorem dX10_jumps_0 : decode cX10_jumps 0 = .ok (.aload_n 0, 1) := by decide +kernel
theorem dX10_jumps_1 : decode cX10_jumps 1 = .ok (.getfield 32, 3) := by decide +kernel
theorem dX10_jumps_4 : decode cX10_jumps 4 = .ok (.aload_n 0, 1) := by decide +kernel
theorem dX10_jumps_5 : decode cX10_jumps 5 = .ok (.getfield 203, 3) := by decide +kernel
theorem dX10_jumps_8 : decode cX10_jumps 8 = .ok (.ldc 199, 2) := by decide +kernel
theorem dX10_jumps_10 : decode cX10_jumps 10 = .ok (.iload_n 1, 1) := by decide +kernel
theorem dX10_jumps_11 : decode cX10_jumps 11 = .ok (.imul, 1) := by decide +kernel
theorem dX10_jumps_12 : decode cX10_jumps 12 = .ok (.aload_n 0, 1) := by decide +kernel
theorem dX10_jumps_13 : decode cX10_jumps 13 = .ok (.getfield 196, 3) := by decide +kernel
theorem dX10_jumps_16 : decode cX10_jumps 16 = .ok (.iadd, 1) := by decide +kernel
theorem dX10_jumps_17 : decode cX10_jumps 17 = .ok (.iastore, 1) := by decide +kernel
theorem dX10_jumps_18 : decode cX10_jumps 18 = .ok (.aload_n 0, 1) := by decide +kernel
theorem dX10_jumps_19 : decode cX10_jumps 19 = .ok (.aload_n 0, 1) := by decide +kernel
theorem dX10_jumps_20 : decode cX10_jumps 20 = .ok (.getfield 203, 3) := by decide +kernel
theorem dX10_jumps_23 : decode cX10_jumps 23 = .ok (.iconst 1, 1) := by decide +kernel
theorem dX10_jumps_24 : decode cX10_jumps 24 = .ok (.iadd, 1) := by decide +kernel
theorem dX10_jumps_25 : decode cX10_jumps 25 = .ok (.putfield 203, 3) := by decide +kernel
theorem dX10_jumps_28 : decode cX10_jumps 28 = .ok (.aload_n 0, 1) := by decide +kernel
theorem dX10_jumps_29 : decode cX10_jumps 29 = .ok (.iload_n 1, 1) := by decide +kernel
theorem dX10_jumps_30 : decode cX10_jumps 30 = .ok (.iconst 0, 1) := by decide +kernel
theorem dX10_jumps_31 : decode cX10_jumps 31 = .ok (.invokevirtual 209, 3) := by decide +kernel
theorem dX10_jumps_34 : decode cX10_jumps 34 = .ok (.aload_n 0, 1) := by decide +kernel
theorem dX10_jumps_35 : decode cX10_jumps 35 = .ok (.aload_n 0, 1) := by decide +kernel
theorem dX10_jumps_36 : decode cX10_jumps 36 = .ok (.getfield 174, 3) := by decide +kernel
theorem dX10_jumps_39 : decode cX10_jumps 39 = .ok (.iconst 1, 1) := by decide +kernel
theorem dX10_jumps_40 : decode cX10_jumps 40 = .ok (.iadd, 1) := by decide +kernel
theorem dX10_jumps_41 : decode cX10_jumps 41 = .ok (.putfield 174, 3) := by decide +kernel
theorem dX10_jumps_44 : decode cX10_jumps 44 = .ok (.return_, 1) := by decide +kernel
theorem dX10_readsCompared_0 : decode cX10_readsCompared 0 = .ok (.aload_n 0, 1) := by decide +kernel
theorem dX10_readsCompared_1 : decode cX10_readsCompared 1 = .ok (.invokevirtual 235, 3) := by decide +kernel
theorem dX10_readsCompared_4 : decode cX10_readsCompared 4 = .ok (.ifCond .ne 5, 3) := by decide +kernel
theorem dX10_readsCompared_7 : decode cX10_readsCompared 7 = .ok (.iconst 0, 1) := by decide +kernel
theorem dX10_readsCompared_8 : decode cX10_readsCompared 8 = .ok (.ireturn, 1) := by decide +kernel
theorem dX10_readsCompared_9 : decode cX10_readsCompared 9 = .ok (.aload_n 0, 1) := by decide +kernel
theorem dX10_readsCompared_10 : decode cX10_readsCompared 10 = .ok (.invokevirtual 180, 3) := by decide +kernel
theorem dX10_readsCompared_13 : decode cX10_readsCompared 13 = .ok (.bipush 60, 2) := by decide +kernel
theorem dX10_readsCompared_15 : decode cX10_readsCompared 15 = .ok (.if_icmp .ne 8, 3) := by decide +kernel
theorem dX10_readsCompared_18 : decode cX10_readsCompared 18 = .ok (.bipush 7, 2) := by decide +kernel
theorem dX10_readsCompared_20 : decode cX10_readsCompared 20 = .ok (.goto 32, 3) := by decide +kernel
theorem dX10_readsCompared_23 : decode cX10_readsCompared 23 = .ok (.aload_n 0, 1) := by decide +kernel
theorem dX10_readsCompared_24 : decode cX10_readsCompared 24 = .ok (.invokevirtual 180, 3) := by decide +kernel
theorem dX10_readsCompared_27 : decode cX10_readsCompared 27 = .ok (.bipush 62, 2) := by decide +kernel
theorem dX10_readsCompared_29 : decode cX10_readsCompared 29 = .ok (.if_icmp .ne 8, 3) := by decide +kernel
theorem dX10_readsCompared_32 : decode cX10_readsCompared 32 = .ok (.bipush 8, 2) := by decide +kernel
theorem dX10_readsCompared_34 : decode cX10_readsCompared 34 = .ok (.goto 18, 3) := by decide +kernel
theorem dX10_readsCompared_37 : decode cX10_readsCompared 37 = .ok (.aload_n 0, 1) := by decide +kernel
theorem dX10_readsCompared_38 : decode cX10_readsCompared 38 = .ok (.invokevirtual 180, 3) := by decide +kernel
theorem dX10_readsCompared_41 : decode cX10_readsCompared 41 = .ok (.bipush 61, 2) := by decide +kernel
theorem dX10_readsCompared_43 : decode cX10_readsCompared 43 = .ok (.if_icmp .ne 8, 3) := by decide +kernel
theorem dX10_readsCompared_46 : decode cX10_readsCompared 46 = .ok (.bipush 9, 2) := by decide +kernel
theorem dX10_readsCompared_48 : decode cX10_readsCompared 48 = .ok (.goto 4, 3) := by decide +kernel
theorem dX10_readsCompared_51 : decode cX10_readsCompared 51 = .ok (.iconst (-1), 1) := by decide +kernel
theorem dX10_readsCompared_52 : decode cX10_readsCompared 52 = .ok (.istore_n 1, 1) := by decide +kernel
theorem dX10_readsCompared_53 : decode cX10_readsCompared 53 = .ok (.iload_n 1, 1) := by decide +kernel
theorem dX10_readsCompared_54 : decode cX10_readsCompared 54 = .ok (.iconst (-1), 1) := by decide +kernel
theorem dX10_readsCompared_55 : decode cX10_readsCompared 55 = .ok (.if_icmp .ne 13, 3) := by decide +kernel
theorem dX10_readsCompared_58 : decode cX10_readsCompared 58 = .ok (.aload_n 0, 1) := by decide +kernel
theorem dX10_readsCompared_59 : decode cX10_readsCompared 59 = .ok (.iconst 1, 1) := by decide +kernel
theorem dX10_readsCompared_60 : decode cX10_readsCompared 60 = .ok (.aload_n 0, 1) := by decide +kernel
theorem dX10_readsCompared_61 : decode cX10_readsCompared 61 = .ok (.getfield 174, 3) := by decide +kernel
theorem dX10_readsCompared_64 : decode cX10_readsCompared 64 = .ok (.invokevirtual 186, 3) := by decide +kernel
theorem dX10_readsCompared_67 : decode cX10_readsCompared 67 = .ok (.ireturn, 1) := by decide +kernel
theorem dX10_readsCompared_68 : decode cX10_readsCompared 68 = .ok (.aload_n 0, 1) := by decide +kernel
theorem dX10_readsCompared_69 : decode cX10_readsCompared 69 = .ok (.aload_n 0, 1) := by decide +kernel
theorem dX10_readsCompared_70 : decode cX10_readsCompared 70 = .ok (.getfield 174, 3) := by decide +kernel
theorem dX10_readsCompared_73 : decode cX10_readsCompared 73 = .ok (.iconst 1, 1) := by decide +kernel
theorem dX10_readsCompared_74 : decode cX10_readsCompared 74 = .ok (.iadd, 1) := by decide +kernel
theorem dX10_readsCompared_75 : decode cX10_readsCompared 75 = .ok (.putfield 174, 3) := by decide +kernel
theorem dX10_readsCompared_78 : decode cX10_readsCompared 78 = .ok (.aload_n 0, 1) := by decide +kernel
theorem dX10_readsCompared_79 : decode cX10_readsCompared 79 = .ok (.invokevirtual 235, 3) := by decide +kernel
theorem dX10_readsCompared_82 : decode cX10_readsCompared 82 = .ok (.ifCond .ne 5, 3) := by decide +kernel
theorem dX10_readsCompared_85 : decode cX10_readsCompared 85 = .ok (.iconst 0, 1) := by decide +kernel
theorem dX10_readsCompared_86 : decode cX10_readsCompared 86 = .ok (.ireturn, 1) := by decide +kernel
theorem dX10_readsCompared_87 : decode cX10_readsCompared 87 = .ok (.aload_n 0, 1) := by decide +kernel
theorem dX10_readsCompared_88 : decode cX10_readsCompared 88 = .ok (.iload_n 1, 1) := by decide +kernel
theorem dX10_readsCompared_89 : decode cX10_readsCompared 89 = .ok (.iconst 0, 1) := by decide +kernel
theorem dX10_readsCompared_90 : decode cX10_readsCompared 90 = .ok (.invokevirtual 209, 3) := by decide +kernel
theorem dX10_readsCompared_93 : decode cX10_readsCompared 93 = .ok (.aload_n 0, 1) := by decide +kernel
theorem dX10_readsCompared_94 : decode cX10_readsCompared 94 = .ok (.invokevirtual 238, 3) := by decide +kernel
theorem dX10_readsCompared_97 : decode cX10_readsCompared 97 = .ok (.iconst 1, 1) := by decide +kernel
theorem dX10_readsCompared_98 : decode cX10_readsCompared 98 = .ok (.ireturn, 1) := by decide +kernel
theorem dX10_readsCondition_0 : decode cX10_readsCondition 0 = .ok (.aload_n 0, 1) := by decide +kernel
theorem dX10_readsCondition_1 : decode cX10_readsCondition 1 = .ok (.invokevirtual 180, 3) := by decide +kernel
theorem dX10_readsCondition_4 : decode cX10_readsCondition 4 = .ok (.bipush 40, 2) := by decide +kernel
theorem dX10_readsCondition_6 : decode cX10_readsCondition 6 = .ok (.if_icmp .eq 13, 3) := by decide +kernel
theorem dX10_readsCondition_9 : decode cX10_readsCondition 9 = .ok (.aload_n 0, 1) := by decide +kernel
theorem dX10_readsCondition_10 : decode cX10_readsCondition 10 = .ok (.iconst 1, 1) := by decide +kernel
theorem dX10_readsCondition_11 : decode cX10_readsCondition 11 = .ok (.aload_n 0, 1) := by decide +kernel
theorem dX10_readsCondition_12 : decode cX10_readsCondition 12 = .ok (.getfield 174, 3) := by decide +kernel
theorem dX10_readsCondition_15 : decode cX10_readsCondition 15 = .ok (.invokevirtual 186, 3) := by decide +kernel
theorem dX10_readsCondition_18 : decode cX10_readsCondition 18 = .ok (.ireturn, 1) := by decide +kernel
theorem dX10_readsCondition_19 : decode cX10_readsCondition 19 = .ok (.aload_n 0, 1) := by decide +kernel
theorem dX10_readsCondition_20 : decode cX10_readsCondition 20 = .ok (.iconst 0, 1) := by decide +kernel
theorem dX10_readsCondition_21 : decode cX10_readsCondition 21 = .ok (.putfield 200, 3) := by decide +kernel
theorem dX10_readsCondition_24 : decode cX10_readsCondition 24 = .ok (.aload_n 0, 1) := by decide +kernel
theorem dX10_readsCondition_25 : decode cX10_readsCondition 25 = .ok (.iconst 0, 1) := by decide +kernel
theorem dX10_readsCondition_26 : decode cX10_readsCondition 26 = .ok (.putfield 203, 3) := by decide +kernel
theorem dX10_readsCondition_29 : decode cX10_readsCondition 29 = .ok (.aload_n 0, 1) := by decide +kernel
theorem dX10_readsCondition_30 : decode cX10_readsCondition 30 = .ok (.bipush 13, 2) := by decide +kernel
theorem dX10_readsCondition_32 : decode cX10_readsCondition 32 = .ok (.invokevirtual 213, 3) := by decide +kernel
theorem dX10_readsCondition_35 : decode cX10_readsCondition 35 = .ok (.ifCond .ne 5, 3) := by decide +kernel
theorem dX10_readsCondition_38 : decode cX10_readsCondition 38 = .ok (.iconst 0, 1) := by decide +kernel
theorem dX10_readsCondition_39 : decode cX10_readsCondition 39 = .ok (.ireturn, 1) := by decide +kernel
theorem dX10_readsCondition_40 : decode cX10_readsCondition 40 = .ok (.aload_n 0, 1) := by decide +kernel
theorem dX10_readsCondition_41 : decode cX10_readsCondition 41 = .ok (.invokevirtual 180, 3) := by decide +kernel
theorem dX10_readsCondition_44 : decode cX10_readsCondition 44 = .ok (.bipush 33, 2) := by decide +kernel
theorem dX10_readsCondition_46 : decode cX10_readsCondition 46 = .ok (.if_icmp .eq 12, 3) := by decide +kernel
theorem dX10_readsCondition_49 : decode cX10_readsCondition 49 = .ok (.aload_n 0, 1) := by decide +kernel
theorem dX10_readsCondition_50 : decode cX10_readsCondition 50 = .ok (.invokevirtual 180, 3) := by decide +kernel
theorem dX10_readsCondition_53 : decode cX10_readsCondition 53 = .ok (.bipush 40, 2) := by decide +kernel
theorem dX10_readsCondition_55 : decode cX10_readsCondition 55 = .ok (.if_icmp .ne 28, 3) := by decide +kernel
theorem dX10_readsCondition_58 : decode cX10_readsCondition 58 = .ok (.aload_n 0, 1) := by decide +kernel
theorem dX10_readsCondition_59 : decode cX10_readsCondition 59 = .ok (.aload_n 0, 1) := by decide +kernel
theorem dX10_readsCondition_60 : decode cX10_readsCondition 60 = .ok (.invokevirtual 180, 3) := by decide +kernel
theorem dX10_readsCondition_63 : decode cX10_readsCondition 63 = .ok (.bipush 33, 2) := by decide +kernel
theorem dX10_readsCondition_65 : decode cX10_readsCondition 65 = .ok (.if_icmp .ne 8, 3) := by decide +kernel
theorem dX10_readsCondition_68 : decode cX10_readsCondition 68 = .ok (.bipush 10, 2) := by decide +kernel
theorem dX10_readsCondition_70 : decode cX10_readsCondition 70 = .ok (.goto 5, 3) := by decide +kernel
theorem dX10_readsCondition_73 : decode cX10_readsCondition 73 = .ok (.bipush 13, 2) := by decide +kernel
theorem dX10_readsCondition_75 : decode cX10_readsCondition 75 = .ok (.invokevirtual 213, 3) := by decide +kernel
theorem dX10_readsCondition_78 : decode cX10_readsCondition 78 = .ok (.ifCond .ne (-38), 3) := by decide +kernel
theorem dX10_readsCondition_81 : decode cX10_readsCondition 81 = .ok (.iconst 0, 1) := by decide +kernel
theorem dX10_readsCondition_82 : decode cX10_readsCondition 82 = .ok (.ireturn, 1) := by decide +kernel
theorem dX10_readsCondition_83 : decode cX10_readsCondition 83 = .ok (.aload_n 0, 1) := by decide +kernel
theorem dX10_readsCondition_84 : decode cX10_readsCondition 84 = .ok (.invokevirtual 241, 3) := by decide +kernel
theorem dX10_readsCondition_87 : decode cX10_readsCondition 87 = .ok (.ifCond .ne 5, 3) := by decide +kernel
theorem dX10_readsCondition_90 : decode cX10_readsCondition 90 = .ok (.iconst 0, 1) := by decide +kernel
theorem dX10_readsCondition_91 : decode cX10_readsCondition 91 = .ok (.ireturn, 1) := by decide +kernel
theorem dX10_readsCondition_92 : decode cX10_readsCondition 92 = .ok (.aload_n 0, 1) := by decide +kernel
theorem dX10_readsCondition_93 : decode cX10_readsCondition 93 = .ok (.invokevirtual 180, 3) := by decide +kernel
theorem dX10_readsCondition_96 : decode cX10_readsCondition 96 = .ok (.bipush 41, 2) := by decide +kernel
theorem dX10_readsCondition_98 : decode cX10_readsCondition 98 = .ok (.if_icmp .ne 54, 3) := by decide +kernel
theorem dX10_readsCondition_101 : decode cX10_readsCondition 101 = .ok (.aload_n 0, 1) := by decide +kernel
theorem dX10_readsCondition_102 : decode cX10_readsCondition 102 = .ok (.iconst 1, 1) := by decide +kernel
theorem dX10_readsCondition_103 : decode cX10_readsCondition 103 = .ok (.invokevirtual 244, 3) := by decide +kernel
theorem dX10_readsCondition_106 : decode cX10_readsCondition 106 = .ok (.aload_n 0, 1) := by decide +kernel
theorem dX10_readsCondition_107 : decode cX10_readsCondition 107 = .ok (.aload_n 0, 1) := by decide +kernel
theorem dX10_readsCondition_108 : decode cX10_readsCondition 108 = .ok (.getfield 203, 3) := by decide +kernel
theorem dX10_readsCondition_111 : decode cX10_readsCondition 111 = .ok (.iconst 1, 1) := by decide +kernel
theorem dX10_readsCondition_112 : decode cX10_readsCondition 112 = .ok (.isub, 1) := by decide +kernel
theorem dX10_readsCondition_113 : decode cX10_readsCondition 113 = .ok (.putfield 203, 3) := by decide +kernel
theorem dX10_readsCondition_116 : decode cX10_readsCondition 116 = .ok (.aload_n 0, 1) := by decide +kernel
theorem dX10_readsCondition_117 : decode cX10_readsCondition 117 = .ok (.aload_n 0, 1) := by decide +kernel
theorem dX10_readsCondition_118 : decode cX10_readsCondition 118 = .ok (.getfield 200, 3) := by decide +kernel
theorem dX10_readsCondition_121 : decode cX10_readsCondition 121 = .ok (.iconst 1, 1) := by decide +kernel
theorem dX10_readsCondition_122 : decode cX10_readsCondition 122 = .ok (.isub, 1) := by decide +kernel
theorem dX10_readsCondition_123 : decode cX10_readsCondition 123 = .ok (.putfield 200, 3) := by decide +kernel
theorem dX10_readsCondition_126 : decode cX10_readsCondition 126 = .ok (.aload_n 0, 1) := by decide +kernel
theorem dX10_readsCondition_127 : decode cX10_readsCondition 127 = .ok (.aload_n 0, 1) := by decide +kernel
theorem dX10_readsCondition_128 : decode cX10_readsCondition 128 = .ok (.getfield 174, 3) := by decide +kernel
theorem dX10_readsCondition_131 : decode cX10_readsCondition 131 = .ok (.iconst 1, 1) := by decide +kernel
theorem dX10_readsCondition_132 : decode cX10_readsCondition 132 = .ok (.iadd, 1) := by decide +kernel
theorem dX10_readsCondition_133 : decode cX10_readsCondition 133 = .ok (.putfield 174, 3) := by decide +kernel
theorem dX10_readsCondition_136 : decode cX10_readsCondition 136 = .ok (.aload_n 0, 1) := by decide +kernel
theorem dX10_readsCondition_137 : decode cX10_readsCondition 137 = .ok (.getfield 203, 3) := by decide +kernel
theorem dX10_readsCondition_140 : decode cX10_readsCondition 140 = .ok (.ifCond .ne 5, 3) := by decide +kernel
theorem dX10_readsCondition_143 : decode cX10_readsCondition 143 = .ok (.iconst 1, 1) := by decide +kernel
theorem dX10_readsCondition_144 : decode cX10_readsCondition 144 = .ok (.ireturn, 1) := by decide +kernel
theorem dX10_readsCondition_145 : decode cX10_readsCondition 145 = .ok (.aload_n 0, 1) := by decide +kernel
theorem dX10_readsCondition_146 : decode cX10_readsCondition 146 = .ok (.invokevirtual 238, 3) := by decide +kernel
theorem dX10_readsCondition_149 : decode cX10_readsCondition 149 = .ok (.goto (-57), 3) := by decide +kernel
theorem dX10_readsCondition_152 : decode cX10_readsCondition 152 = .ok (.aload_n 0, 1) := by decide +kernel
theorem dX10_readsCondition_153 : decode cX10_readsCondition 153 = .ok (.invokevirtual 180, 3) := by decide +kernel
theorem dX10_readsCondition_156 : decode cX10_readsCondition 156 = .ok (.bipush 38, 2) := by decide +kernel
theorem dX10_readsCondition_158 : decode cX10_readsCondition 158 = .ok (.if_icmp .eq 22, 3) := by decide +kernel
theorem dX10_readsCondition_161 : decode cX10_readsCondition 161 = .ok (.aload_n 0, 1) := by decide +kernel
theorem dX10_readsCondition_162 : decode cX10_readsCondition 162 = .ok (.invokevirtual 180, 3) := by decide +kernel
theorem dX10_readsCondition_165 : decode cX10_readsCondition 165 = .ok (.bipush 124, 2) := by decide +kernel
theorem dX10_readsCondition_167 : decode cX10_readsCondition 167 = .ok (.if_icmp .eq 13, 3) := by decide +kernel
theorem dX10_readsCondition_170 : decode cX10_readsCondition 170 = .ok (.aload_n 0, 1) := by decide +kernel
theorem dX10_readsCondition_171 : decode cX10_readsCondition 171 = .ok (.iconst 1, 1) := by decide +kernel
theorem dX10_readsCondition_172 : decode cX10_readsCondition 172 = .ok (.aload_n 0, 1) := by decide +kernel
theorem dX10_readsCondition_173 : decode cX10_readsCondition 173 = .ok (.getfield 174, 3) := by decide +kernel
theorem dX10_readsCondition_176 : decode cX10_readsCondition 176 = .ok (.invokevirtual 186, 3) := by decide +kernel
theorem dX10_readsCondition_179 : decode cX10_readsCondition 179 = .ok (.ireturn, 1) := by decide +kernel
theorem dX10_readsCondition_180 : decode cX10_readsCondition 180 = .ok (.aload_n 0, 1) := by decide +kernel
theorem dX10_readsCondition_181 : decode cX10_readsCondition 181 = .ok (.aload_n 0, 1) := by decide +kernel
theorem dX10_readsCondition_182 : decode cX10_readsCondition 182 = .ok (.invokevirtual 180, 3) := by decide +kernel
theorem dX10_readsCondition_185 : decode cX10_readsCondition 185 = .ok (.bipush 124, 2) := by decide +kernel
theorem dX10_readsCondition_187 : decode cX10_readsCondition 187 = .ok (.if_icmp .ne 7, 3) := by decide +kernel
theorem dX10_readsCondition_190 : decode cX10_readsCondition 190 = .ok (.iconst 1, 1) := by decide +kernel
theorem dX10_readsCondition_191 : decode cX10_readsCondition 191 = .ok (.goto 4, 3) := by decide +kernel
theorem dX10_readsCondition_194 : decode cX10_readsCondition 194 = .ok (.iconst 0, 1) := by decide +kernel
theorem dX10_readsCondition_195 : decode cX10_readsCondition 195 = .ok (.invokevirtual 244, 3) := by decide +kernel
theorem dX10_readsCondition_198 : decode cX10_readsCondition 198 = .ok (.aload_n 0, 1) := by decide +kernel
theorem dX10_readsCondition_199 : decode cX10_readsCondition 199 = .ok (.aload_n 0, 1) := by decide +kernel
theorem dX10_readsCondition_200 : decode cX10_readsCondition 200 = .ok (.invokevirtual 180, 3) := by decide +kernel
theorem dX10_readsCondition_203 : decode cX10_readsCondition 203 = .ok (.bipush 38, 2) := by decide +kernel
theorem dX10_readsCondition_205 : decode cX10_readsCondition 205 = .ok (.if_icmp .ne 8, 3) := by decide +kernel
theorem dX10_readsCondition_208 : decode cX10_readsCondition 208 = .ok (.bipush 11, 2) := by decide +kernel
theorem dX10_readsCondition_210 : decode cX10_readsCondition 210 = .ok (.goto 5, 3) := by decide +kernel
theorem dX10_readsCondition_213 : decode cX10_readsCondition 213 = .ok (.bipush 12, 2) := by decide +kernel
theorem dX10_readsCondition_215 : decode cX10_readsCondition 215 = .ok (.invokevirtual 247, 3) := by decide +kernel
theorem dX10_readsCondition_218 : decode cX10_readsCondition 218 = .ok (.goto (-178), 3) := by decide +kernel
theorem dX10_readsClause_0 : decode cX10_readsClause 0 = .ok (.aload_n 0, 1) := by decide +kernel
theorem dX10_readsClause_1 : decode cX10_readsClause 1 = .ok (.invokevirtual 180, 3) := by decide +kernel
theorem dX10_readsClause_4 : decode cX10_readsClause 4 = .ok (.istore_n 1, 1) := by decide +kernel
theorem dX10_readsClause_5 : decode cX10_readsClause 5 = .ok (.iload_n 1, 1) := by decide +kernel
theorem dX10_readsClause_6 : decode cX10_readsClause 6 = .ok (.bipush 110, 2) := by decide +kernel
theorem dX10_readsClause_8 : decode cX10_readsClause 8 = .ok (.if_icmp .eq 31, 3) := by decide +kernel
theorem dX10_readsClause_11 : decode cX10_readsClause 11 = .ok (.iload_n 1, 1) := by decide +kernel
theorem dX10_readsClause_12 : decode cX10_readsClause 12 = .ok (.bipush 103, 2) := by decide +kernel
theorem dX10_readsClause_14 : decode cX10_readsClause 14 = .ok (.if_icmp .eq 25, 3) := by decide +kernel
theorem dX10_readsClause_17 : decode cX10_readsClause 17 = .ok (.iload_n 1, 1) := by decide +kernel
theorem dX10_readsClause_18 : decode cX10_readsClause 18 = .ok (.bipush 120, 2) := by decide +kernel
theorem dX10_readsClause_20 : decode cX10_readsClause 20 = .ok (.if_icmp .eq 19, 3) := by decide +kernel
theorem dX10_readsClause_23 : decode cX10_readsClause 23 = .ok (.iload_n 1, 1) := by decide +kernel
theorem dX10_readsClause_24 : decode cX10_readsClause 24 = .ok (.bipush 112, 2) := by decide +kernel
theorem dX10_readsClause_26 : decode cX10_readsClause 26 = .ok (.if_icmp .eq 13, 3) := by decide +kernel
theorem dX10_readsClause_29 : decode cX10_readsClause 29 = .ok (.aload_n 0, 1) := by decide +kernel
theorem dX10_readsClause_30 : decode cX10_readsClause 30 = .ok (.iconst 1, 1) := by decide +kernel
theorem dX10_readsClause_31 : decode cX10_readsClause 31 = .ok (.aload_n 0, 1) := by decide +kernel
theorem dX10_readsClause_32 : decode cX10_readsClause 32 = .ok (.getfield 174, 3) := by decide +kernel
theorem dX10_readsClause_35 : decode cX10_readsClause 35 = .ok (.invokevirtual 186, 3) := by decide +kernel
theorem dX10_readsClause_38 : decode cX10_readsClause 38 = .ok (.ireturn, 1) := by decide +kernel
theorem dX10_readsClause_39 : decode cX10_readsClause 39 = .ok (.aload_n 0, 1) := by decide +kernel
theorem dX10_readsClause_40 : decode cX10_readsClause 40 = .ok (.getfield 250, 3) := by decide +kernel
theorem dX10_readsClause_43 : decode cX10_readsClause 43 = .ok (.bipush 12, 2) := by decide +kernel
theorem dX10_readsClause_45 : decode cX10_readsClause 45 = .ok (.if_icmp .ne 13, 3) := by decide +kernel
theorem dX10_readsClause_48 : decode cX10_readsClause 48 = .ok (.aload_n 0, 1) := by decide +kernel
theorem dX10_readsClause_49 : decode cX10_readsClause 49 = .ok (.iconst 4, 1) := by decide +kernel
theorem dX10_readsClause_50 : decode cX10_readsClause 50 = .ok (.aload_n 0, 1) := by decide +kernel
theorem dX10_readsClause_51 : decode cX10_readsClause 51 = .ok (.getfield 174, 3) := by decide +kernel
theorem dX10_readsClause_54 : decode cX10_readsClause 54 = .ok (.invokevirtual 186, 3) := by decide +kernel
theorem dX10_readsClause_57 : decode cX10_readsClause 57 = .ok (.ireturn, 1) := by decide +kernel
theorem dX10_readsClause_58 : decode cX10_readsClause 58 = .ok (.aload_n 0, 1) := by decide +kernel
theorem dX10_readsClause_59 : decode cX10_readsClause 59 = .ok (.getfield 35, 3) := by decide +kernel
theorem dX10_readsClause_62 : decode cX10_readsClause 62 = .ok (.aload_n 0, 1) := by decide +kernel
theorem dX10_readsClause_63 : decode cX10_readsClause 63 = .ok (.getfield 250, 3) := by decide +kernel
theorem dX10_readsClause_66 : decode cX10_readsClause 66 = .ok (.iload_n 1, 1) := by decide +kernel
theorem dX10_readsClause_67 : decode cX10_readsClause 67 = .ok (.iastore, 1) := by decide +kernel
theorem dX10_readsClause_68 : decode cX10_readsClause 68 = .ok (.aload_n 0, 1) := by decide +kernel
theorem dX10_readsClause_69 : decode cX10_readsClause 69 = .ok (.aload_n 0, 1) := by decide +kernel
theorem dX10_readsClause_70 : decode cX10_readsClause 70 = .ok (.getfield 174, 3) := by decide +kernel
theorem dX10_readsClause_73 : decode cX10_readsClause 73 = .ok (.iconst 1, 1) := by decide +kernel
theorem dX10_readsClause_74 : decode cX10_readsClause 74 = .ok (.iadd, 1) := by decide +kernel
theorem dX10_readsClause_75 : decode cX10_readsClause 75 = .ok (.putfield 174, 3) := by decide +kernel
theorem dX10_readsClause_78 : decode cX10_readsClause 78 = .ok (.aload_n 0, 1) := by decide +kernel
theorem dX10_readsClause_79 : decode cX10_readsClause 79 = .ok (.getfield 38, 3) := by decide +kernel
theorem dX10_readsClause_82 : decode cX10_readsClause 82 = .ok (.aload_n 0, 1) := by decide +kernel
theorem dX10_readsClause_83 : decode cX10_readsClause 83 = .ok (.getfield 250, 3) := by decide +kernel
theorem dX10_readsClause_86 : decode cX10_readsClause 86 = .ok (.aload_n 0, 1) := by decide +kernel
theorem dX10_readsClause_87 : decode cX10_readsClause 87 = .ok (.getfield 196, 3) := by decide +kernel
theorem dX10_readsClause_90 : decode cX10_readsClause 90 = .ok (.iastore, 1) := by decide +kernel
theorem dX10_readsClause_91 : decode cX10_readsClause 91 = .ok (.aload_n 0, 1) := by decide +kernel
theorem dX10_readsClause_92 : decode cX10_readsClause 92 = .ok (.iconst 0, 1) := by decide +kernel
theorem dX10_readsClause_93 : decode cX10_readsClause 93 = .ok (.putfield 200, 3) := by decide +kernel
theorem dX10_readsClause_96 : decode cX10_readsClause 96 = .ok (.aload_n 0, 1) := by decide +kernel
theorem dX10_readsClause_97 : decode cX10_readsClause 97 = .ok (.iconst 0, 1) := by decide +kernel
theorem dX10_readsClause_98 : decode cX10_readsClause 98 = .ok (.putfield 203, 3) := by decide +kernel
theorem dX10_readsClause_101 : decode cX10_readsClause 101 = .ok (.iload_n 1, 1) := by decide +kernel
theorem dX10_readsClause_102 : decode cX10_readsClause 102 = .ok (.bipush 110, 2) := by decide +kernel
theorem dX10_readsClause_104 : decode cX10_readsClause 104 = .ok (.if_icmp .eq 18, 3) := by decide +kernel
theorem dX10_readsClause_107 : decode cX10_readsClause 107 = .ok (.iload_n 1, 1) := by decide +kernel
theorem dX10_readsClause_108 : decode cX10_readsClause 108 = .ok (.bipush 120, 2) := by decide +kernel
theorem dX10_readsClause_110 : decode cX10_readsClause 110 = .ok (.if_icmp .eq 12, 3) := by decide +kernel
theorem dX10_readsClause_113 : decode cX10_readsClause 113 = .ok (.aload_n 0, 1) := by decide +kernel
theorem dX10_readsClause_114 : decode cX10_readsClause 114 = .ok (.invokevirtual 235, 3) := by decide +kernel
theorem dX10_readsClause_117 : decode cX10_readsClause 117 = .ok (.ifCond .ne 5, 3) := by decide +kernel
theorem dX10_readsClause_120 : decode cX10_readsClause 120 = .ok (.iconst 0, 1) := by decide +kernel
theorem dX10_readsClause_121 : decode cX10_readsClause 121 = .ok (.ireturn, 1) := by decide +kernel
theorem dX10_readsClause_122 : decode cX10_readsClause 122 = .ok (.aload_n 0, 1) := by decide +kernel
theorem dX10_readsClause_123 : decode cX10_readsClause 123 = .ok (.getfield 41, 3) := by decide +kernel
theorem dX10_readsClause_126 : decode cX10_readsClause 126 = .ok (.aload_n 0, 1) := by decide +kernel
theorem dX10_readsClause_127 : decode cX10_readsClause 127 = .ok (.getfield 250, 3) := by decide +kernel
theorem dX10_readsClause_130 : decode cX10_readsClause 130 = .ok (.aload_n 0, 1) := by decide +kernel
theorem dX10_readsClause_131 : decode cX10_readsClause 131 = .ok (.getfield 196, 3) := by decide +kernel
theorem dX10_readsClause_134 : decode cX10_readsClause 134 = .ok (.iastore, 1) := by decide +kernel
theorem dX10_readsClause_135 : decode cX10_readsClause 135 = .ok (.aload_n 0, 1) := by decide +kernel
theorem dX10_readsClause_136 : decode cX10_readsClause 136 = .ok (.invokevirtual 253, 3) := by decide +kernel
theorem dX10_readsClause_139 : decode cX10_readsClause 139 = .ok (.ifCond .ne 5, 3) := by decide +kernel
theorem dX10_readsClause_142 : decode cX10_readsClause 142 = .ok (.iconst 0, 1) := by decide +kernel
theorem dX10_readsClause_143 : decode cX10_readsClause 143 = .ok (.ireturn, 1) := by decide +kernel
theorem dX10_readsClause_144 : decode cX10_readsClause 144 = .ok (.aload_n 0, 1) := by decide +kernel
theorem dX10_readsClause_145 : decode cX10_readsClause 145 = .ok (.getfield 44, 3) := by decide +kernel
theorem dX10_readsClause_148 : decode cX10_readsClause 148 = .ok (.aload_n 0, 1) := by decide +kernel
theorem dX10_readsClause_149 : decode cX10_readsClause 149 = .ok (.getfield 250, 3) := by decide +kernel
theorem dX10_readsClause_152 : decode cX10_readsClause 152 = .ok (.aload_n 0, 1) := by decide +kernel
theorem dX10_readsClause_153 : decode cX10_readsClause 153 = .ok (.getfield 196, 3) := by decide +kernel
theorem dX10_readsClause_156 : decode cX10_readsClause 156 = .ok (.iastore, 1) := by decide +kernel
theorem dX10_readsClause_157 : decode cX10_readsClause 157 = .ok (.aload_n 0, 1) := by decide +kernel
theorem dX10_readsClause_158 : decode cX10_readsClause 158 = .ok (.aload_n 0, 1) := by decide +kernel
theorem dX10_readsClause_159 : decode cX10_readsClause 159 = .ok (.getfield 250, 3) := by decide +kernel
theorem dX10_readsClause_162 : decode cX10_readsClause 162 = .ok (.iconst 1, 1) := by decide +kernel
theorem dX10_readsClause_163 : decode cX10_readsClause 163 = .ok (.iadd, 1) := by decide +kernel
theorem dX10_readsClause_164 : decode cX10_readsClause 164 = .ok (.putfield 250, 3) := by decide +kernel
theorem dX10_readsClause_167 : decode cX10_readsClause 167 = .ok (.iconst 1, 1) := by decide +kernel
theorem dX10_readsClause_168 : decode cX10_readsClause 168 = .ok (.ireturn, 1) := by decide +kernel
theorem dX10_law_0 : decode cX10_law 0 = .ok (.iload_n 1, 1) := by decide +kernel
theorem dX10_law_1 : decode cX10_law 1 = .ok (.iconst 0, 1) := by decide +kernel
theorem dX10_law_2 : decode cX10_law 2 = .ok (.iconst 1, 1) := by decide +kernel
theorem dX10_law_3 : decode cX10_law 3 = .ok (.invokestatic 152, 3) := by decide +kernel
theorem dX10_law_6 : decode cX10_law 6 = .ok (.ifCond .eq 22, 3) := by decide +kernel
theorem dX10_law_9 : decode cX10_law 9 = .ok (.iload_n 2, 1) := by decide +kernel
theorem dX10_law_10 : decode cX10_law 10 = .ok (.iconst 1, 1) := by decide +kernel
theorem dX10_law_11 : decode cX10_law 11 = .ok (.sipush 160, 3) := by decide +kernel
theorem dX10_law_14 : decode cX10_law 14 = .ok (.invokestatic 152, 3) := by decide +kernel
theorem dX10_law_17 : decode cX10_law 17 = .ok (.ifCond .eq 11, 3) := by decide +kernel
theorem dX10_law_20 : decode cX10_law 20 = .ok (.iload_n 2, 1) := by decide +kernel
theorem dX10_law_21 : decode cX10_law 21 = .ok (.aload_n 0, 1) := by decide +kernel
theorem dX10_law_22 : decode cX10_law 22 = .ok (.getfield 167, 3) := by decide +kernel
theorem dX10_law_25 : decode cX10_law 25 = .ok (.if_icmp .le 5, 3) := by decide +kernel
theorem dX10_law_28 : decode cX10_law 28 = .ok (.iconst (-1), 1) := by decide +kernel
theorem dX10_law_29 : decode cX10_law 29 = .ok (.ireturn, 1) := by decide +kernel
theorem dX10_law_30 : decode cX10_law 30 = .ok (.aload_n 0, 1) := by decide +kernel
theorem dX10_law_31 : decode cX10_law 31 = .ok (.iconst 0, 1) := by decide +kernel
theorem dX10_law_32 : decode cX10_law 32 = .ok (.putfield 174, 3) := by decide +kernel
theorem dX10_law_35 : decode cX10_law 35 = .ok (.aload_n 0, 1) := by decide +kernel
theorem dX10_law_36 : decode cX10_law 36 = .ok (.iload_n 2, 1) := by decide +kernel
theorem dX10_law_37 : decode cX10_law 37 = .ok (.putfield 177, 3) := by decide +kernel
theorem dX10_law_40 : decode cX10_law 40 = .ok (.aload_n 0, 1) := by decide +kernel
theorem dX10_law_41 : decode cX10_law 41 = .ok (.iconst 0, 1) := by decide +kernel
theorem dX10_law_42 : decode cX10_law 42 = .ok (.putfield 196, 3) := by decide +kernel
theorem dX10_law_45 : decode cX10_law 45 = .ok (.aload_n 0, 1) := by decide +kernel
theorem dX10_law_46 : decode cX10_law 46 = .ok (.iconst 0, 1) := by decide +kernel
theorem dX10_law_47 : decode cX10_law 47 = .ok (.putfield 250, 3) := by decide +kernel
theorem dX10_law_50 : decode cX10_law 50 = .ok (.aload_n 0, 1) := by decide +kernel
theorem dX10_law_51 : decode cX10_law 51 = .ok (.invokevirtual 256, 3) := by decide +kernel
theorem dX10_law_54 : decode cX10_law 54 = .ok (.istore_n 3, 1) := by decide +kernel
theorem dX10_law_55 : decode cX10_law 55 = .ok (.iload_n 3, 1) := by decide +kernel
theorem dX10_law_56 : decode cX10_law 56 = .ok (.ifCond .eq 39, 3) := by decide +kernel
theorem dX10_law_59 : decode cX10_law 59 = .ok (.aload_n 0, 1) := by decide +kernel
theorem dX10_law_60 : decode cX10_law 60 = .ok (.getfield 174, 3) := by decide +kernel
theorem dX10_law_63 : decode cX10_law 63 = .ok (.aload_n 0, 1) := by decide +kernel
theorem dX10_law_64 : decode cX10_law 64 = .ok (.getfield 177, 3) := by decide +kernel
theorem dX10_law_67 : decode cX10_law 67 = .ok (.if_icmp .ge 28, 3) := by decide +kernel
theorem dX10_law_70 : decode cX10_law 70 = .ok (.aload_n 0, 1) := by decide +kernel
theorem dX10_law_71 : decode cX10_law 71 = .ok (.bipush 59, 2) := by decide +kernel
theorem dX10_law_73 : decode cX10_law 73 = .ok (.invokevirtual 259, 3) := by decide +kernel
theorem dX10_law_76 : decode cX10_law 76 = .ok (.ifCond .eq 14, 3) := by decide +kernel
theorem dX10_law_79 : decode cX10_law 79 = .ok (.aload_n 0, 1) := by decide +kernel
theorem dX10_law_80 : decode cX10_law 80 = .ok (.invokevirtual 256, 3) := by decide +kernel
theorem dX10_law_83 : decode cX10_law 83 = .ok (.ifCond .eq 7, 3) := by decide +kernel
theorem dX10_law_86 : decode cX10_law 86 = .ok (.iconst 1, 1) := by decide +kernel
theorem dX10_law_87 : decode cX10_law 87 = .ok (.goto 4, 3) := by decide +kernel
theorem dX10_law_90 : decode cX10_law 90 = .ok (.iconst 0, 1) := by decide +kernel
theorem dX10_law_91 : decode cX10_law 91 = .ok (.istore_n 3, 1) := by decide +kernel
theorem dX10_law_92 : decode cX10_law 92 = .ok (.goto (-37), 3) := by decide +kernel
theorem dX10_law_95 : decode cX10_law 95 = .ok (.aload_n 0, 1) := by decide +kernel
theorem dX10_law_96 : decode cX10_law 96 = .ok (.iconst 0, 1) := by decide +kernel
theorem dX10_law_97 : decode cX10_law 97 = .ok (.putfield 167, 3) := by decide +kernel
theorem dX10_law_100 : decode cX10_law 100 = .ok (.iload_n 3, 1) := by decide +kernel
theorem dX10_law_101 : decode cX10_law 101 = .ok (.ifCond .ne 8, 3) := by decide +kernel
theorem dX10_law_104 : decode cX10_law 104 = .ok (.aload_n 0, 1) := by decide +kernel
theorem dX10_law_105 : decode cX10_law 105 = .ok (.getfield 183, 3) := by decide +kernel
theorem dX10_law_108 : decode cX10_law 108 = .ok (.ireturn, 1) := by decide +kernel
theorem dX10_law_109 : decode cX10_law 109 = .ok (.aload_n 0, 1) := by decide +kernel
theorem dX10_law_110 : decode cX10_law 110 = .ok (.getfield 50, 3) := by decide +kernel
theorem dX10_law_113 : decode cX10_law 113 = .ok (.iload_n 1, 1) := by decide +kernel
theorem dX10_law_114 : decode cX10_law 114 = .ok (.aload_n 0, 1) := by decide +kernel
theorem dX10_law_115 : decode cX10_law 115 = .ok (.getfield 250, 3) := by decide +kernel
theorem dX10_law_118 : decode cX10_law 118 = .ok (.iastore, 1) := by decide +kernel
theorem dX10_law_119 : decode cX10_law 119 = .ok (.iconst 0, 1) := by decide +kernel
theorem dX10_law_120 : decode cX10_law 120 = .ok (.istore 4, 2) := by decide +kernel
theorem dX10_law_122 : decode cX10_law 122 = .ok (.iload 4, 2) := by decide +kernel
theorem dX10_law_124 : decode cX10_law 124 = .ok (.aload_n 0, 1) := by decide +kernel
theorem dX10_law_125 : decode cX10_law 125 = .ok (.getfield 196, 3) := by decide +kernel
theorem dX10_law_128 : decode cX10_law 128 = .ok (.if_icmp .ge 29, 3) := by decide +kernel
theorem dX10_law_131 : decode cX10_law 131 = .ok (.aload_n 0, 1) := by decide +kernel
theorem dX10_law_132 : decode cX10_law 132 = .ok (.getfield 47, 3) := by decide +kernel
theorem dX10_law_135 : decode cX10_law 135 = .ok (.sipush 180, 3) := by decide +kernel
theorem dX10_law_138 : decode cX10_law 138 = .ok (.iload_n 1, 1) := by decide +kernel
theorem dX10_law_139 : decode cX10_law 139 = .ok (.imul, 1) := by decide +kernel
theorem dX10_law_140 : decode cX10_law 140 = .ok (.iload 4, 2) := by decide +kernel
theorem dX10_law_142 : decode cX10_law 142 = .ok (.iadd, 1) := by decide +kernel
theorem dX10_law_143 : decode cX10_law 143 = .ok (.aload_n 0, 1) := by decide +kernel
theorem dX10_law_144 : decode cX10_law 144 = .ok (.getfield 29, 3) := by decide +kernel
theorem dX10_law_147 : decode cX10_law 147 = .ok (.iload 4, 2) := by decide +kernel
theorem dX10_law_149 : decode cX10_law 149 = .ok (.iaload, 1) := by decide +kernel
theorem dX10_law_150 : decode cX10_law 150 = .ok (.iastore, 1) := by decide +kernel
theorem dX10_law_151 : decode cX10_law 151 = .ok (.iinc 4 1, 3) := by decide +kernel
theorem dX10_law_154 : decode cX10_law 154 = .ok (.goto (-32), 3) := by decide +kernel
theorem dX10_law_157 : decode cX10_law 157 = .ok (.iconst 0, 1) := by decide +kernel
theorem dX10_law_158 : decode cX10_law 158 = .ok (.istore 4, 2) := by decide +kernel
theorem dX10_law_160 : decode cX10_law 160 = .ok (.iload 4, 2) := by decide +kernel
theorem dX10_law_162 : decode cX10_law 162 = .ok (.aload_n 0, 1) := by decide +kernel
theorem dX10_law_163 : decode cX10_law 163 = .ok (.getfield 250, 3) := by decide +kernel
theorem dX10_law_166 : decode cX10_law 166 = .ok (.if_icmp .ge 103, 3) := by decide +kernel
theorem dX10_law_169 : decode cX10_law 169 = .ok (.aload_n 0, 1) := by decide +kernel
theorem dX10_law_170 : decode cX10_law 170 = .ok (.getfield 53, 3) := by decide +kernel
theorem dX10_law_173 : decode cX10_law 173 = .ok (.bipush 12, 2) := by decide +kernel
theorem dX10_law_175 : decode cX10_law 175 = .ok (.iload_n 1, 1) := by decide +kernel
theorem dX10_law_176 : decode cX10_law 176 = .ok (.imul, 1) := by decide +kernel
theorem dX10_law_177 : decode cX10_law 177 = .ok (.iload 4, 2) := by decide +kernel
theorem dX10_law_179 : decode cX10_law 179 = .ok (.iadd, 1) := by decide +kernel
theorem dX10_law_180 : decode cX10_law 180 = .ok (.aload_n 0, 1) := by decide +kernel
theorem dX10_law_181 : decode cX10_law 181 = .ok (.getfield 35, 3) := by decide +kernel
theorem dX10_law_184 : decode cX10_law 184 = .ok (.iload 4, 2) := by decide +kernel
theorem dX10_law_186 : decode cX10_law 186 = .ok (.iaload, 1) := by decide +kernel
theorem dX10_law_187 : decode cX10_law 187 = .ok (.iastore, 1) := by decide +kernel
theorem dX10_law_188 : decode cX10_law 188 = .ok (.aload_n 0, 1) := by decide +kernel
theorem dX10_law_189 : decode cX10_law 189 = .ok (.getfield 56, 3) := by decide +kernel
theorem dX10_law_192 : decode cX10_law 192 = .ok (.bipush 12, 2) := by decide +kernel
theorem dX10_law_194 : decode cX10_law 194 = .ok (.iload_n 1, 1) := by decide +kernel
theorem dX10_law_195 : decode cX10_law 195 = .ok (.imul, 1) := by decide +kernel
theorem dX10_law_196 : decode cX10_law 196 = .ok (.iload 4, 2) := by decide +kernel
theorem dX10_law_198 : decode cX10_law 198 = .ok (.iadd, 1) := by decide +kernel
theorem dX10_law_199 : decode cX10_law 199 = .ok (.sipush 180, 3) := by decide +kernel
theorem dX10_law_202 : decode cX10_law 202 = .ok (.iload_n 1, 1) := by decide +kernel
theorem dX10_law_203 : decode cX10_law 203 = .ok (.imul, 1) := by decide +kernel
theorem dX10_law_204 : decode cX10_law 204 = .ok (.aload_n 0, 1) := by decide +kernel
theorem dX10_law_205 : decode cX10_law 205 = .ok (.getfield 38, 3) := by decide +kernel
theorem dX10_law_208 : decode cX10_law 208 = .ok (.iload 4, 2) := by decide +kernel
theorem dX10_law_210 : decode cX10_law 210 = .ok (.iaload, 1) := by decide +kernel
theorem dX10_law_211 : decode cX10_law 211 = .ok (.iadd, 1) := by decide +kernel
theorem dX10_law_212 : decode cX10_law 212 = .ok (.iastore, 1) := by decide +kernel
theorem dX10_law_213 : decode cX10_law 213 = .ok (.aload_n 0, 1) := by decide +kernel
theorem dX10_law_214 : decode cX10_law 214 = .ok (.getfield 59, 3) := by decide +kernel
theorem dX10_law_217 : decode cX10_law 217 = .ok (.bipush 12, 2) := by decide +kernel
theorem dX10_law_219 : decode cX10_law 219 = .ok (.iload_n 1, 1) := by decide +kernel
theorem dX10_law_220 : decode cX10_law 220 = .ok (.imul, 1) := by decide +kernel
theorem dX10_law_221 : decode cX10_law 221 = .ok (.iload 4, 2) := by decide +kernel
theorem dX10_law_223 : decode cX10_law 223 = .ok (.iadd, 1) := by decide +kernel
theorem dX10_law_224 : decode cX10_law 224 = .ok (.sipush 180, 3) := by decide +kernel
theorem dX10_law_227 : decode cX10_law 227 = .ok (.iload_n 1, 1) := by decide +kernel
theorem dX10_law_228 : decode cX10_law 228 = .ok (.imul, 1) := by decide +kernel
theorem dX10_law_229 : decode cX10_law 229 = .ok (.aload_n 0, 1) := by decide +kernel
theorem dX10_law_230 : decode cX10_law 230 = .ok (.getfield 41, 3) := by decide +kernel
theorem dX10_law_233 : decode cX10_law 233 = .ok (.iload 4, 2) := by decide +kernel
theorem dX10_law_235 : decode cX10_law 235 = .ok (.iaload, 1) := by decide +kernel
theorem dX10_law_236 : decode cX10_law 236 = .ok (.iadd, 1) := by decide +kernel
theorem dX10_law_237 : decode cX10_law 237 = .ok (.iastore, 1) := by decide +kernel
theorem dX10_law_238 : decode cX10_law 238 = .ok (.aload_n 0, 1) := by decide +kernel
theorem dX10_law_239 : decode cX10_law 239 = .ok (.getfield 62, 3) := by decide +kernel
theorem dX10_law_242 : decode cX10_law 242 = .ok (.bipush 12, 2) := by decide +kernel
theorem dX10_law_244 : decode cX10_law 244 = .ok (.iload_n 1, 1) := by decide +kernel
theorem dX10_law_245 : decode cX10_law 245 = .ok (.imul, 1) := by decide +kernel
theorem dX10_law_246 : decode cX10_law 246 = .ok (.iload 4, 2) := by decide +kernel
theorem dX10_law_248 : decode cX10_law 248 = .ok (.iadd, 1) := by decide +kernel
theorem dX10_law_249 : decode cX10_law 249 = .ok (.sipush 180, 3) := by decide +kernel
theorem dX10_law_252 : decode cX10_law 252 = .ok (.iload_n 1, 1) := by decide +kernel
theorem dX10_law_253 : decode cX10_law 253 = .ok (.imul, 1) := by decide +kernel
theorem dX10_law_254 : decode cX10_law 254 = .ok (.aload_n 0, 1) := by decide +kernel
theorem dX10_law_255 : decode cX10_law 255 = .ok (.getfield 44, 3) := by decide +kernel
theorem dX10_law_258 : decode cX10_law 258 = .ok (.iload 4, 2) := by decide +kernel
theorem dX10_law_260 : decode cX10_law 260 = .ok (.iaload, 1) := by decide +kernel
theorem dX10_law_261 : decode cX10_law 261 = .ok (.iadd, 1) := by decide +kernel
theorem dX10_law_262 : decode cX10_law 262 = .ok (.iastore, 1) := by decide +kernel
theorem dX10_law_263 : decode cX10_law 263 = .ok (.iinc 4 1, 3) := by decide +kernel
theorem dX10_law_266 : decode cX10_law 266 = .ok (.goto (-106), 3) := by decide +kernel
theorem dX10_law_269 : decode cX10_law 269 = .ok (.aload_n 0, 1) := by decide +kernel
theorem dX10_law_270 : decode cX10_law 270 = .ok (.getfield 250, 3) := by decide +kernel
theorem dX10_law_273 : decode cX10_law 273 = .ok (.ireturn, 1) := by decide +kernel
theorem dX10_reckon_0 : decode cX10_reckon 0 = .ok (.iload_n 0, 1) := by decide +kernel
theorem dX10_reckon_1 : decode cX10_reckon 1 = .ok (.tableswitch 85 2 8 #[43, 47, 51, 55, 59, 63, 74], 43) := by decide +kernel
theorem dX10_reckon_44 : decode cX10_reckon 44 = .ok (.iload_n 1, 1) := by decide +kernel
theorem dX10_reckon_45 : decode cX10_reckon 45 = .ok (.iload_n 2, 1) := by decide +kernel
theorem dX10_reckon_46 : decode cX10_reckon 46 = .ok (.iadd, 1) := by decide +kernel
theorem dX10_reckon_47 : decode cX10_reckon 47 = .ok (.ireturn, 1) := by decide +kernel
theorem dX10_reckon_48 : decode cX10_reckon 48 = .ok (.iload_n 1, 1) := by decide +kernel
theorem dX10_reckon_49 : decode cX10_reckon 49 = .ok (.iload_n 2, 1) := by decide +kernel
theorem dX10_reckon_50 : decode cX10_reckon 50 = .ok (.isub, 1) := by decide +kernel
theorem dX10_reckon_51 : decode cX10_reckon 51 = .ok (.ireturn, 1) := by decide +kernel
theorem dX10_reckon_52 : decode cX10_reckon 52 = .ok (.iload_n 1, 1) := by decide +kernel
theorem dX10_reckon_53 : decode cX10_reckon 53 = .ok (.iload_n 2, 1) := by decide +kernel
theorem dX10_reckon_54 : decode cX10_reckon 54 = .ok (.imul, 1) := by decide +kernel
theorem dX10_reckon_55 : decode cX10_reckon 55 = .ok (.ireturn, 1) := by decide +kernel
theorem dX10_reckon_56 : decode cX10_reckon 56 = .ok (.iload_n 1, 1) := by decide +kernel
theorem dX10_reckon_57 : decode cX10_reckon 57 = .ok (.iload_n 2, 1) := by decide +kernel
theorem dX10_reckon_58 : decode cX10_reckon 58 = .ok (.idiv, 1) := by decide +kernel
theorem dX10_reckon_59 : decode cX10_reckon 59 = .ok (.ireturn, 1) := by decide +kernel
theorem dX10_reckon_60 : decode cX10_reckon 60 = .ok (.iload_n 1, 1) := by decide +kernel
theorem dX10_reckon_61 : decode cX10_reckon 61 = .ok (.iload_n 2, 1) := by decide +kernel
theorem dX10_reckon_62 : decode cX10_reckon 62 = .ok (.irem, 1) := by decide +kernel
theorem dX10_reckon_63 : decode cX10_reckon 63 = .ok (.ireturn, 1) := by decide +kernel
theorem dX10_reckon_64 : decode cX10_reckon 64 = .ok (.iload_n 1, 1) := by decide +kernel
theorem dX10_reckon_65 : decode cX10_reckon 65 = .ok (.iload_n 2, 1) := by decide +kernel
theorem dX10_reckon_66 : decode cX10_reckon 66 = .ok (.if_icmp .ge 7, 3) := by decide +kernel
theorem dX10_reckon_69 : decode cX10_reckon 69 = .ok (.iconst 1, 1) := by decide +kernel
theorem dX10_reckon_70 : decode cX10_reckon 70 = .ok (.goto 4, 3) := by decide +kernel
theorem dX10_reckon_73 : decode cX10_reckon 73 = .ok (.iconst 0, 1) := by decide +kernel
theorem dX10_reckon_74 : decode cX10_reckon 74 = .ok (.ireturn, 1) := by decide +kernel
theorem dX10_reckon_75 : decode cX10_reckon 75 = .ok (.iload_n 1, 1) := by decide +kernel
theorem dX10_reckon_76 : decode cX10_reckon 76 = .ok (.iload_n 2, 1) := by decide +kernel
theorem dX10_reckon_77 : decode cX10_reckon 77 = .ok (.if_icmp .le 7, 3) := by decide +kernel
theorem dX10_reckon_80 : decode cX10_reckon 80 = .ok (.iconst 1, 1) := by decide +kernel
theorem dX10_reckon_81 : decode cX10_reckon 81 = .ok (.goto 4, 3) := by decide +kernel
theorem dX10_reckon_84 : decode cX10_reckon 84 = .ok (.iconst 0, 1) := by decide +kernel
theorem dX10_reckon_85 : decode cX10_reckon 85 = .ok (.ireturn, 1) := by decide +kernel
theorem dX10_reckon_86 : decode cX10_reckon 86 = .ok (.iload_n 1, 1) := by decide +kernel
theorem dX10_reckon_87 : decode cX10_reckon 87 = .ok (.iload_n 2, 1) := by decide +kernel
theorem dX10_reckon_88 : decode cX10_reckon 88 = .ok (.if_icmp .ne 7, 3) := by decide +kernel
theorem dX10_reckon_91 : decode cX10_reckon 91 = .ok (.iconst 1, 1) := by decide +kernel
theorem dX10_reckon_92 : decode cX10_reckon 92 = .ok (.goto 4, 3) := by decide +kernel
theorem dX10_reckon_95 : decode cX10_reckon 95 = .ok (.iconst 0, 1) := by decide +kernel
theorem dX10_reckon_96 : decode cX10_reckon 96 = .ok (.ireturn, 1) := by decide +kernel
theorem dX10_comesTo_0 : decode cX10_comesTo 0 = .ok (.iconst 0, 1) := by decide +kernel
theorem dX10_comesTo_1 : decode cX10_comesTo 1 = .ok (.istore_n 3, 1) := by decide +kernel
theorem dX10_comesTo_2 : decode cX10_comesTo 2 = .ok (.sipush 180, 3) := by decide +kernel
theorem dX10_comesTo_5 : decode cX10_comesTo 5 = .ok (.iload_n 1, 1) := by decide +kernel
theorem dX10_comesTo_6 : decode cX10_comesTo 6 = .ok (.sipush 180, 3) := by decide +kernel
theorem dX10_comesTo_9 : decode cX10_comesTo 9 = .ok (.idiv, 1) := by decide +kernel
theorem dX10_comesTo_10 : decode cX10_comesTo 10 = .ok (.imul, 1) := by decide +kernel
theorem dX10_comesTo_11 : decode cX10_comesTo 11 = .ok (.istore 4, 2) := by decide +kernel
theorem dX10_comesTo_13 : decode cX10_comesTo 13 = .ok (.iload_n 1, 1) := by decide +kernel
theorem dX10_comesTo_14 : decode cX10_comesTo 14 = .ok (.istore 5, 2) := by decide +kernel
theorem dX10_comesTo_16 : decode cX10_comesTo 16 = .ok (.iload 5, 2) := by decide +kernel
theorem dX10_comesTo_18 : decode cX10_comesTo 18 = .ok (.iload_n 2, 1) := by decide +kernel
theorem dX10_comesTo_19 : decode cX10_comesTo 19 = .ok (.if_icmp .ge 214, 3) := by decide +kernel
theorem dX10_comesTo_22 : decode cX10_comesTo 22 = .ok (.aload_n 0, 1) := by decide +kernel
theorem dX10_comesTo_23 : decode cX10_comesTo 23 = .ok (.getfield 47, 3) := by decide +kernel
theorem dX10_comesTo_26 : decode cX10_comesTo 26 = .ok (.iload 5, 2) := by decide +kernel
theorem dX10_comesTo_28 : decode cX10_comesTo 28 = .ok (.iaload, 1) := by decide +kernel
theorem dX10_comesTo_29 : decode cX10_comesTo 29 = .ok (.ldc 199, 2) := by decide +kernel
theorem dX10_comesTo_31 : decode cX10_comesTo 31 = .ok (.idiv, 1) := by decide +kernel
theorem dX10_comesTo_32 : decode cX10_comesTo 32 = .ok (.istore 6, 2) := by decide +kernel
theorem dX10_comesTo_34 : decode cX10_comesTo 34 = .ok (.aload_n 0, 1) := by decide +kernel
theorem dX10_comesTo_35 : decode cX10_comesTo 35 = .ok (.getfield 47, 3) := by decide +kernel
theorem dX10_comesTo_38 : decode cX10_comesTo 38 = .ok (.iload 5, 2) := by decide +kernel
theorem dX10_comesTo_40 : decode cX10_comesTo 40 = .ok (.iaload, 1) := by decide +kernel
theorem dX10_comesTo_41 : decode cX10_comesTo 41 = .ok (.ldc 199, 2) := by decide +kernel
theorem dX10_comesTo_43 : decode cX10_comesTo 43 = .ok (.irem, 1) := by decide +kernel
theorem dX10_comesTo_44 : decode cX10_comesTo 44 = .ok (.istore 7, 2) := by decide +kernel
theorem dX10_comesTo_46 : decode cX10_comesTo 46 = .ok (.iload 5, 2) := by decide +kernel
theorem dX10_comesTo_48 : decode cX10_comesTo 48 = .ok (.iconst 1, 1) := by decide +kernel
theorem dX10_comesTo_49 : decode cX10_comesTo 49 = .ok (.iadd, 1) := by decide +kernel
theorem dX10_comesTo_50 : decode cX10_comesTo 50 = .ok (.istore 5, 2) := by decide +kernel
theorem dX10_comesTo_52 : decode cX10_comesTo 52 = .ok (.iload 6, 2) := by decide +kernel
theorem dX10_comesTo_54 : decode cX10_comesTo 54 = .ok (.ifCond .eq 9, 3) := by decide +kernel
theorem dX10_comesTo_57 : decode cX10_comesTo 57 = .ok (.iload 6, 2) := by decide +kernel
theorem dX10_comesTo_59 : decode cX10_comesTo 59 = .ok (.iconst 1, 1) := by decide +kernel
theorem dX10_comesTo_60 : decode cX10_comesTo 60 = .ok (.if_icmp .ne 33, 3) := by decide +kernel
theorem dX10_comesTo_63 : decode cX10_comesTo 63 = .ok (.aload_n 0, 1) := by decide +kernel
theorem dX10_comesTo_64 : decode cX10_comesTo 64 = .ok (.getfield 65, 3) := by decide +kernel
theorem dX10_comesTo_67 : decode cX10_comesTo 67 = .ok (.iload_n 3, 1) := by decide +kernel
theorem dX10_comesTo_68 : decode cX10_comesTo 68 = .ok (.iload 6, 2) := by decide +kernel
theorem dX10_comesTo_70 : decode cX10_comesTo 70 = .ok (.ifCond .ne 8, 3) := by decide +kernel
theorem dX10_comesTo_73 : decode cX10_comesTo 73 = .ok (.iload 7, 2) := by decide +kernel
theorem dX10_comesTo_75 : decode cX10_comesTo 75 = .ok (.goto 10, 3) := by decide +kernel
theorem dX10_comesTo_78 : decode cX10_comesTo 78 = .ok (.aload_n 0, 1) := by decide +kernel
theorem dX10_comesTo_79 : decode cX10_comesTo 79 = .ok (.getfield 68, 3) := by decide +kernel
theorem dX10_comesTo_82 : decode cX10_comesTo 82 = .ok (.iload 7, 2) := by decide +kernel
theorem dX10_comesTo_84 : decode cX10_comesTo 84 = .ok (.iaload, 1) := by decide +kernel
theorem dX10_comesTo_85 : decode cX10_comesTo 85 = .ok (.iastore, 1) := by decide +kernel
theorem dX10_comesTo_86 : decode cX10_comesTo 86 = .ok (.iload_n 3, 1) := by decide +kernel
theorem dX10_comesTo_87 : decode cX10_comesTo 87 = .ok (.iconst 1, 1) := by decide +kernel
theorem dX10_comesTo_88 : decode cX10_comesTo 88 = .ok (.iadd, 1) := by decide +kernel
theorem dX10_comesTo_89 : decode cX10_comesTo 89 = .ok (.istore_n 3, 1) := by decide +kernel
theorem dX10_comesTo_90 : decode cX10_comesTo 90 = .ok (.goto 140, 3) := by decide +kernel
theorem dX10_comesTo_93 : decode cX10_comesTo 93 = .ok (.iload 6, 2) := by decide +kernel
theorem dX10_comesTo_95 : decode cX10_comesTo 95 = .ok (.bipush 10, 2) := by decide +kernel
theorem dX10_comesTo_97 : decode cX10_comesTo 97 = .ok (.if_icmp .ne 24, 3) := by decide +kernel
theorem dX10_comesTo_100 : decode cX10_comesTo 100 = .ok (.aload_n 0, 1) := by decide +kernel
theorem dX10_comesTo_101 : decode cX10_comesTo 101 = .ok (.getfield 65, 3) := by decide +kernel
theorem dX10_comesTo_104 : decode cX10_comesTo 104 = .ok (.iload_n 3, 1) := by decide +kernel
theorem dX10_comesTo_105 : decode cX10_comesTo 105 = .ok (.iconst 1, 1) := by decide +kernel
theorem dX10_comesTo_106 : decode cX10_comesTo 106 = .ok (.isub, 1) := by decide +kernel
theorem dX10_comesTo_107 : decode cX10_comesTo 107 = .ok (.iconst 1, 1) := by decide +kernel
theorem dX10_comesTo_108 : decode cX10_comesTo 108 = .ok (.aload_n 0, 1) := by decide +kernel
theorem dX10_comesTo_109 : decode cX10_comesTo 109 = .ok (.getfield 65, 3) := by decide +kernel
theorem dX10_comesTo_112 : decode cX10_comesTo 112 = .ok (.iload_n 3, 1) := by decide +kernel
theorem dX10_comesTo_113 : decode cX10_comesTo 113 = .ok (.iconst 1, 1) := by decide +kernel
theorem dX10_comesTo_114 : decode cX10_comesTo 114 = .ok (.isub, 1) := by decide +kernel
theorem dX10_comesTo_115 : decode cX10_comesTo 115 = .ok (.iaload, 1) := by decide +kernel
theorem dX10_comesTo_116 : decode cX10_comesTo 116 = .ok (.isub, 1) := by decide +kernel
theorem dX10_comesTo_117 : decode cX10_comesTo 117 = .ok (.iastore, 1) := by decide +kernel
theorem dX10_comesTo_118 : decode cX10_comesTo 118 = .ok (.goto 112, 3) := by decide +kernel
theorem dX10_comesTo_121 : decode cX10_comesTo 121 = .ok (.iload 6, 2) := by decide +kernel
theorem dX10_comesTo_123 : decode cX10_comesTo 123 = .ok (.bipush 11, 2) := by decide +kernel
theorem dX10_comesTo_125 : decode cX10_comesTo 125 = .ok (.if_icmp .eq 10, 3) := by decide +kernel
theorem dX10_comesTo_128 : decode cX10_comesTo 128 = .ok (.iload 6, 2) := by decide +kernel
theorem dX10_comesTo_130 : decode cX10_comesTo 130 = .ok (.bipush 12, 2) := by decide +kernel
theorem dX10_comesTo_132 : decode cX10_comesTo 132 = .ok (.if_icmp .ne 43, 3) := by decide +kernel
theorem dX10_comesTo_135 : decode cX10_comesTo 135 = .ok (.aload_n 0, 1) := by decide +kernel
theorem dX10_comesTo_136 : decode cX10_comesTo 136 = .ok (.getfield 65, 3) := by decide +kernel
theorem dX10_comesTo_139 : decode cX10_comesTo 139 = .ok (.iload_n 3, 1) := by decide +kernel
theorem dX10_comesTo_140 : decode cX10_comesTo 140 = .ok (.iconst 1, 1) := by decide +kernel
theorem dX10_comesTo_141 : decode cX10_comesTo 141 = .ok (.isub, 1) := by decide +kernel
theorem dX10_comesTo_142 : decode cX10_comesTo 142 = .ok (.iaload, 1) := by decide +kernel
theorem dX10_comesTo_143 : decode cX10_comesTo 143 = .ok (.iload 6, 2) := by decide +kernel
theorem dX10_comesTo_145 : decode cX10_comesTo 145 = .ok (.bipush 12, 2) := by decide +kernel
theorem dX10_comesTo_147 : decode cX10_comesTo 147 = .ok (.if_icmp .ne 7, 3) := by decide +kernel
theorem dX10_comesTo_150 : decode cX10_comesTo 150 = .ok (.iconst 1, 1) := by decide +kernel
theorem dX10_comesTo_151 : decode cX10_comesTo 151 = .ok (.goto 4, 3) := by decide +kernel
theorem dX10_comesTo_154 : decode cX10_comesTo 154 = .ok (.iconst 0, 1) := by decide +kernel
theorem dX10_comesTo_155 : decode cX10_comesTo 155 = .ok (.if_icmp .ne 13, 3) := by decide +kernel
theorem dX10_comesTo_158 : decode cX10_comesTo 158 = .ok (.iload 4, 2) := by decide +kernel
theorem dX10_comesTo_160 : decode cX10_comesTo 160 = .ok (.iload 7, 2) := by decide +kernel
theorem dX10_comesTo_162 : decode cX10_comesTo 162 = .ok (.iadd, 1) := by decide +kernel
theorem dX10_comesTo_163 : decode cX10_comesTo 163 = .ok (.istore 5, 2) := by decide +kernel
theorem dX10_comesTo_165 : decode cX10_comesTo 165 = .ok (.goto 65, 3) := by decide +kernel
theorem dX10_comesTo_168 : decode cX10_comesTo 168 = .ok (.iload_n 3, 1) := by decide +kernel
theorem dX10_comesTo_169 : decode cX10_comesTo 169 = .ok (.iconst 1, 1) := by decide +kernel
theorem dX10_comesTo_170 : decode cX10_comesTo 170 = .ok (.isub, 1) := by decide +kernel
theorem dX10_comesTo_171 : decode cX10_comesTo 171 = .ok (.istore_n 3, 1) := by decide +kernel
theorem dX10_comesTo_172 : decode cX10_comesTo 172 = .ok (.goto 58, 3) := by decide +kernel
theorem dX10_comesTo_175 : decode cX10_comesTo 175 = .ok (.iload_n 3, 1) := by decide +kernel
theorem dX10_comesTo_176 : decode cX10_comesTo 176 = .ok (.iconst 1, 1) := by decide +kernel
theorem dX10_comesTo_177 : decode cX10_comesTo 177 = .ok (.isub, 1) := by decide +kernel
theorem dX10_comesTo_178 : decode cX10_comesTo 178 = .ok (.istore_n 3, 1) := by decide +kernel
theorem dX10_comesTo_179 : decode cX10_comesTo 179 = .ok (.iload 6, 2) := by decide +kernel
theorem dX10_comesTo_181 : decode cX10_comesTo 181 = .ok (.iconst 5, 1) := by decide +kernel
theorem dX10_comesTo_182 : decode cX10_comesTo 182 = .ok (.if_icmp .eq 10, 3) := by decide +kernel
theorem dX10_comesTo_185 : decode cX10_comesTo 185 = .ok (.iload 6, 2) := by decide +kernel
theorem dX10_comesTo_187 : decode cX10_comesTo 187 = .ok (.bipush 6, 2) := by decide +kernel
theorem dX10_comesTo_189 : decode cX10_comesTo 189 = .ok (.if_icmp .ne 14, 3) := by decide +kernel
theorem dX10_comesTo_192 : decode cX10_comesTo 192 = .ok (.aload_n 0, 1) := by decide +kernel
theorem dX10_comesTo_193 : decode cX10_comesTo 193 = .ok (.getfield 65, 3) := by decide +kernel
theorem dX10_comesTo_196 : decode cX10_comesTo 196 = .ok (.iload_n 3, 1) := by decide +kernel
theorem dX10_comesTo_197 : decode cX10_comesTo 197 = .ok (.iaload, 1) := by decide +kernel
theorem dX10_comesTo_198 : decode cX10_comesTo 198 = .ok (.ifCond .ne 5, 3) := by decide +kernel
theorem dX10_comesTo_201 : decode cX10_comesTo 201 = .ok (.iconst 0, 1) := by decide +kernel
theorem dX10_comesTo_202 : decode cX10_comesTo 202 = .ok (.ireturn, 1) := by decide +kernel
theorem dX10_comesTo_203 : decode cX10_comesTo 203 = .ok (.aload_n 0, 1) := by decide +kernel
theorem dX10_comesTo_204 : decode cX10_comesTo 204 = .ok (.getfield 65, 3) := by decide +kernel
theorem dX10_comesTo_207 : decode cX10_comesTo 207 = .ok (.iload_n 3, 1) := by decide +kernel
theorem dX10_comesTo_208 : decode cX10_comesTo 208 = .ok (.iconst 1, 1) := by decide +kernel
theorem dX10_comesTo_209 : decode cX10_comesTo 209 = .ok (.isub, 1) := by decide +kernel
theorem dX10_comesTo_210 : decode cX10_comesTo 210 = .ok (.iload 6, 2) := by decide +kernel
theorem dX10_comesTo_212 : decode cX10_comesTo 212 = .ok (.aload_n 0, 1) := by decide +kernel
theorem dX10_comesTo_213 : decode cX10_comesTo 213 = .ok (.getfield 65, 3) := by decide +kernel
theorem dX10_comesTo_216 : decode cX10_comesTo 216 = .ok (.iload_n 3, 1) := by decide +kernel
theorem dX10_comesTo_217 : decode cX10_comesTo 217 = .ok (.iconst 1, 1) := by decide +kernel
theorem dX10_comesTo_218 : decode cX10_comesTo 218 = .ok (.isub, 1) := by decide +kernel
theorem dX10_comesTo_219 : decode cX10_comesTo 219 = .ok (.iaload, 1) := by decide +kernel
theorem dX10_comesTo_220 : decode cX10_comesTo 220 = .ok (.aload_n 0, 1) := by decide +kernel
theorem dX10_comesTo_221 : decode cX10_comesTo 221 = .ok (.getfield 65, 3) := by decide +kernel
theorem dX10_comesTo_224 : decode cX10_comesTo 224 = .ok (.iload_n 3, 1) := by decide +kernel
theorem dX10_comesTo_225 : decode cX10_comesTo 225 = .ok (.iaload, 1) := by decide +kernel
theorem dX10_comesTo_226 : decode cX10_comesTo 226 = .ok (.invokestatic 262, 3) := by decide +kernel
theorem dX10_comesTo_229 : decode cX10_comesTo 229 = .ok (.iastore, 1) := by decide +kernel
theorem dX10_comesTo_230 : decode cX10_comesTo 230 = .ok (.goto (-214), 3) := by decide +kernel
theorem dX10_comesTo_233 : decode cX10_comesTo 233 = .ok (.aload_n 0, 1) := by decide +kernel
theorem dX10_comesTo_234 : decode cX10_comesTo 234 = .ok (.getfield 65, 3) := by decide +kernel
theorem dX10_comesTo_237 : decode cX10_comesTo 237 = .ok (.iconst 0, 1) := by decide +kernel
theorem dX10_comesTo_238 : decode cX10_comesTo 238 = .ok (.iaload, 1) := by decide +kernel
theorem dX10_comesTo_239 : decode cX10_comesTo 239 = .ok (.ireturn, 1) := by decide +kernel
theorem dX10_byLaw_0 : decode cX10_byLaw 0 = .ok (.bipush 12, 2) := by decide +kernel
theorem dX10_byLaw_2 : decode cX10_byLaw 2 = .ok (.iload_n 1, 1) := by decide +kernel
theorem dX10_byLaw_3 : decode cX10_byLaw 3 = .ok (.imul, 1) := by decide +kernel
theorem dX10_byLaw_4 : decode cX10_byLaw 4 = .ok (.istore 4, 2) := by decide +kernel
theorem dX10_byLaw_6 : decode cX10_byLaw 6 = .ok (.iload 4, 2) := by decide +kernel
theorem dX10_byLaw_8 : decode cX10_byLaw 8 = .ok (.bipush 12, 2) := by decide +kernel
theorem dX10_byLaw_10 : decode cX10_byLaw 10 = .ok (.iload_n 1, 1) := by decide +kernel
theorem dX10_byLaw_11 : decode cX10_byLaw 11 = .ok (.imul, 1) := by decide +kernel
theorem dX10_byLaw_12 : decode cX10_byLaw 12 = .ok (.aload_n 0, 1) := by decide +kernel
theorem dX10_byLaw_13 : decode cX10_byLaw 13 = .ok (.getfield 50, 3) := by decide +kernel
theorem dX10_byLaw_16 : decode cX10_byLaw 16 = .ok (.iload_n 1, 1) := by decide +kernel
theorem dX10_byLaw_17 : decode cX10_byLaw 17 = .ok (.iaload, 1) := by decide +kernel
theorem dX10_byLaw_18 : decode cX10_byLaw 18 = .ok (.iadd, 1) := by decide +kernel
theorem dX10_byLaw_19 : decode cX10_byLaw 19 = .ok (.if_icmp .ge 87, 3) := by decide +kernel
theorem dX10_byLaw_22 : decode cX10_byLaw 22 = .ok (.aload_n 0, 1) := by decide +kernel
theorem dX10_byLaw_23 : decode cX10_byLaw 23 = .ok (.getfield 53, 3) := by decide +kernel
theorem dX10_byLaw_26 : decode cX10_byLaw 26 = .ok (.iload 4, 2) := by decide +kernel
theorem dX10_byLaw_28 : decode cX10_byLaw 28 = .ok (.iaload, 1) := by decide +kernel
theorem dX10_byLaw_29 : decode cX10_byLaw 29 = .ok (.iload_n 2, 1) := by decide +kernel
theorem dX10_byLaw_30 : decode cX10_byLaw 30 = .ok (.if_icmp .ne 70, 3) := by decide +kernel
theorem dX10_byLaw_33 : decode cX10_byLaw 33 = .ok (.aload_n 0, 1) := by decide +kernel
theorem dX10_byLaw_34 : decode cX10_byLaw 34 = .ok (.aload_n 0, 1) := by decide +kernel
theorem dX10_byLaw_35 : decode cX10_byLaw 35 = .ok (.getfield 59, 3) := by decide +kernel
theorem dX10_byLaw_38 : decode cX10_byLaw 38 = .ok (.iload 4, 2) := by decide +kernel
theorem dX10_byLaw_40 : decode cX10_byLaw 40 = .ok (.iaload, 1) := by decide +kernel
theorem dX10_byLaw_41 : decode cX10_byLaw 41 = .ok (.aload_n 0, 1) := by decide +kernel
theorem dX10_byLaw_42 : decode cX10_byLaw 42 = .ok (.getfield 62, 3) := by decide +kernel
theorem dX10_byLaw_45 : decode cX10_byLaw 45 = .ok (.iload 4, 2) := by decide +kernel
theorem dX10_byLaw_47 : decode cX10_byLaw 47 = .ok (.iaload, 1) := by decide +kernel
theorem dX10_byLaw_48 : decode cX10_byLaw 48 = .ok (.invokevirtual 266, 3) := by decide +kernel
theorem dX10_byLaw_51 : decode cX10_byLaw 51 = .ok (.iconst 1, 1) := by decide +kernel
theorem dX10_byLaw_52 : decode cX10_byLaw 52 = .ok (.if_icmp .eq 6, 3) := by decide +kernel
theorem dX10_byLaw_55 : decode cX10_byLaw 55 = .ok (.goto 45, 3) := by decide +kernel
theorem dX10_byLaw_58 : decode cX10_byLaw 58 = .ok (.aload_n 0, 1) := by decide +kernel
theorem dX10_byLaw_59 : decode cX10_byLaw 59 = .ok (.aload_n 0, 1) := by decide +kernel
theorem dX10_byLaw_60 : decode cX10_byLaw 60 = .ok (.getfield 56, 3) := by decide +kernel
theorem dX10_byLaw_63 : decode cX10_byLaw 63 = .ok (.iload 4, 2) := by decide +kernel
theorem dX10_byLaw_65 : decode cX10_byLaw 65 = .ok (.iaload, 1) := by decide +kernel
theorem dX10_byLaw_66 : decode cX10_byLaw 66 = .ok (.aload_n 0, 1) := by decide +kernel
theorem dX10_byLaw_67 : decode cX10_byLaw 67 = .ok (.getfield 59, 3) := by decide +kernel
theorem dX10_byLaw_70 : decode cX10_byLaw 70 = .ok (.iload 4, 2) := by decide +kernel
theorem dX10_byLaw_72 : decode cX10_byLaw 72 = .ok (.iaload, 1) := by decide +kernel
theorem dX10_byLaw_73 : decode cX10_byLaw 73 = .ok (.invokevirtual 266, 3) := by decide +kernel
theorem dX10_byLaw_76 : decode cX10_byLaw 76 = .ok (.istore 5, 2) := by decide +kernel
theorem dX10_byLaw_78 : decode cX10_byLaw 78 = .ok (.iload 5, 2) := by decide +kernel
theorem dX10_byLaw_80 : decode cX10_byLaw 80 = .ok (.ifCond .ge 7, 3) := by decide +kernel
theorem dX10_byLaw_83 : decode cX10_byLaw 83 = .ok (.iconst 0, 1) := by decide +kernel
theorem dX10_byLaw_84 : decode cX10_byLaw 84 = .ok (.goto 15, 3) := by decide +kernel
theorem dX10_byLaw_87 : decode cX10_byLaw 87 = .ok (.iload 5, 2) := by decide +kernel
theorem dX10_byLaw_89 : decode cX10_byLaw 89 = .ok (.iload_n 3, 1) := by decide +kernel
theorem dX10_byLaw_90 : decode cX10_byLaw 90 = .ok (.if_icmp .le 7, 3) := by decide +kernel
theorem dX10_byLaw_93 : decode cX10_byLaw 93 = .ok (.iload_n 3, 1) := by decide +kernel
theorem dX10_byLaw_94 : decode cX10_byLaw 94 = .ok (.goto 5, 3) := by decide +kernel
theorem dX10_byLaw_97 : decode cX10_byLaw 97 = .ok (.iload 5, 2) := by decide +kernel
theorem dX10_byLaw_99 : decode cX10_byLaw 99 = .ok (.ireturn, 1) := by decide +kernel
theorem dX10_byLaw_100 : decode cX10_byLaw 100 = .ok (.iinc 4 1, 3) := by decide +kernel
theorem dX10_byLaw_103 : decode cX10_byLaw 103 = .ok (.goto (-97), 3) := by decide +kernel
theorem dX10_byLaw_106 : decode cX10_byLaw 106 = .ok (.iconst 0, 1) := by decide +kernel
theorem dX10_byLaw_107 : decode cX10_byLaw 107 = .ok (.ireturn, 1) := by decide +kernel
theorem dX10_anyBy_0 : decode cX10_anyBy 0 = .ok (.bipush 12, 2) := by decide +kernel
theorem dX10_anyBy_2 : decode cX10_anyBy 2 = .ok (.iload_n 1, 1) := by decide +kernel
theorem dX10_anyBy_3 : decode cX10_anyBy 3 = .ok (.imul, 1) := by decide +kernel
theorem dX10_anyBy_4 : decode cX10_anyBy 4 = .ok (.istore_n 3, 1) := by decide +kernel
theorem dX10_anyBy_5 : decode cX10_anyBy 5 = .ok (.iload_n 3, 1) := by decide +kernel
theorem dX10_anyBy_6 : decode cX10_anyBy 6 = .ok (.bipush 12, 2) := by decide +kernel
theorem dX10_anyBy_8 : decode cX10_anyBy 8 = .ok (.iload_n 1, 1) := by decide +kernel
theorem dX10_anyBy_9 : decode cX10_anyBy 9 = .ok (.imul, 1) := by decide +kernel
theorem dX10_anyBy_10 : decode cX10_anyBy 10 = .ok (.aload_n 0, 1) := by decide +kernel
theorem dX10_anyBy_11 : decode cX10_anyBy 11 = .ok (.getfield 50, 3) := by decide +kernel
theorem dX10_anyBy_14 : decode cX10_anyBy 14 = .ok (.iload_n 1, 1) := by decide +kernel
theorem dX10_anyBy_15 : decode cX10_anyBy 15 = .ok (.iaload, 1) := by decide +kernel
theorem dX10_anyBy_16 : decode cX10_anyBy 16 = .ok (.iadd, 1) := by decide +kernel
theorem dX10_anyBy_17 : decode cX10_anyBy 17 = .ok (.if_icmp .ge 41, 3) := by decide +kernel
theorem dX10_anyBy_20 : decode cX10_anyBy 20 = .ok (.aload_n 0, 1) := by decide +kernel
theorem dX10_anyBy_21 : decode cX10_anyBy 21 = .ok (.getfield 53, 3) := by decide +kernel
theorem dX10_anyBy_24 : decode cX10_anyBy 24 = .ok (.iload_n 3, 1) := by decide +kernel
theorem dX10_anyBy_25 : decode cX10_anyBy 25 = .ok (.iaload, 1) := by decide +kernel
theorem dX10_anyBy_26 : decode cX10_anyBy 26 = .ok (.iload_n 2, 1) := by decide +kernel
theorem dX10_anyBy_27 : decode cX10_anyBy 27 = .ok (.if_icmp .ne 25, 3) := by decide +kernel
theorem dX10_anyBy_30 : decode cX10_anyBy 30 = .ok (.aload_n 0, 1) := by decide +kernel
theorem dX10_anyBy_31 : decode cX10_anyBy 31 = .ok (.aload_n 0, 1) := by decide +kernel
theorem dX10_anyBy_32 : decode cX10_anyBy 32 = .ok (.getfield 59, 3) := by decide +kernel
theorem dX10_anyBy_35 : decode cX10_anyBy 35 = .ok (.iload_n 3, 1) := by decide +kernel
theorem dX10_anyBy_36 : decode cX10_anyBy 36 = .ok (.iaload, 1) := by decide +kernel
theorem dX10_anyBy_37 : decode cX10_anyBy 37 = .ok (.aload_n 0, 1) := by decide +kernel
theorem dX10_anyBy_38 : decode cX10_anyBy 38 = .ok (.getfield 62, 3) := by decide +kernel
theorem dX10_anyBy_41 : decode cX10_anyBy 41 = .ok (.iload_n 3, 1) := by decide +kernel
theorem dX10_anyBy_42 : decode cX10_anyBy 42 = .ok (.iaload, 1) := by decide +kernel
theorem dX10_anyBy_43 : decode cX10_anyBy 43 = .ok (.invokevirtual 266, 3) := by decide +kernel
theorem dX10_anyBy_46 : decode cX10_anyBy 46 = .ok (.iconst 1, 1) := by decide +kernel
theorem dX10_anyBy_47 : decode cX10_anyBy 47 = .ok (.if_icmp .ne 5, 3) := by decide +kernel
theorem dX10_anyBy_50 : decode cX10_anyBy 50 = .ok (.iconst 1, 1) := by decide +kernel
theorem dX10_anyBy_51 : decode cX10_anyBy 51 = .ok (.ireturn, 1) := by decide +kernel
theorem dX10_anyBy_52 : decode cX10_anyBy 52 = .ok (.iinc 3 1, 3) := by decide +kernel
theorem dX10_anyBy_55 : decode cX10_anyBy 55 = .ok (.goto (-50), 3) := by decide +kernel
theorem dX10_anyBy_58 : decode cX10_anyBy 58 = .ok (.iconst 0, 1) := by decide +kernel
theorem dX10_anyBy_59 : decode cX10_anyBy 59 = .ok (.ireturn, 1) := by decide +kernel
theorem dX10_feels_0 : decode cX10_feels 0 = .ok (.bipush 6, 2) := by decide +kernel
theorem dX10_feels_2 : decode cX10_feels 2 = .ok (.istore_n 2, 1) := by decide +kernel
theorem dX10_feels_3 : decode cX10_feels 3 = .ok (.iload_n 2, 1) := by decide +kernel
theorem dX10_feels_4 : decode cX10_feels 4 = .ok (.bipush 12, 2) := by decide +kernel
theorem dX10_feels_6 : decode cX10_feels 6 = .ok (.if_icmp .ge 16, 3) := by decide +kernel
theorem dX10_feels_9 : decode cX10_feels 9 = .ok (.aload_n 0, 1) := by decide +kernel
theorem dX10_feels_10 : decode cX10_feels 10 = .ok (.getfield 68, 3) := by decide +kernel
theorem dX10_feels_13 : decode cX10_feels 13 = .ok (.iload_n 2, 1) := by decide +kernel
theorem dX10_feels_14 : decode cX10_feels 14 = .ok (.iconst 0, 1) := by decide +kernel
theorem dX10_feels_15 : decode cX10_feels 15 = .ok (.iastore, 1) := by decide +kernel
theorem dX10_feels_16 : decode cX10_feels 16 = .ok (.iinc 2 1, 3) := by decide +kernel
theorem dX10_feels_19 : decode cX10_feels 19 = .ok (.goto (-16), 3) := by decide +kernel
theorem dX10_feels_22 : decode cX10_feels 22 = .ok (.aload_n 0, 1) := by decide +kernel
theorem dX10_feels_23 : decode cX10_feels 23 = .ok (.getfield 68, 3) := by decide +kernel
theorem dX10_feels_26 : decode cX10_feels 26 = .ok (.iconst 0, 1) := by decide +kernel
theorem dX10_feels_27 : decode cX10_feels 27 = .ok (.aload_n 0, 1) := by decide +kernel
theorem dX10_feels_28 : decode cX10_feels 28 = .ok (.iload_n 1, 1) := by decide +kernel
theorem dX10_feels_29 : decode cX10_feels 29 = .ok (.invokevirtual 159, 3) := by decide +kernel
theorem dX10_feels_32 : decode cX10_feels 32 = .ok (.iastore, 1) := by decide +kernel
theorem dX10_feels_33 : decode cX10_feels 33 = .ok (.aload_n 0, 1) := by decide +kernel
theorem dX10_feels_34 : decode cX10_feels 34 = .ok (.getfield 68, 3) := by decide +kernel
theorem dX10_feels_37 : decode cX10_feels 37 = .ok (.iconst 1, 1) := by decide +kernel
theorem dX10_feels_38 : decode cX10_feels 38 = .ok (.aload_n 0, 1) := by decide +kernel
theorem dX10_feels_39 : decode cX10_feels 39 = .ok (.getfield 13, 3) := by decide +kernel
theorem dX10_feels_42 : decode cX10_feels 42 = .ok (.iload_n 1, 1) := by decide +kernel
theorem dX10_feels_43 : decode cX10_feels 43 = .ok (.iaload, 1) := by decide +kernel
theorem dX10_feels_44 : decode cX10_feels 44 = .ok (.iastore, 1) := by decide +kernel
theorem dX10_feels_45 : decode cX10_feels 45 = .ok (.aload_n 0, 1) := by decide +kernel
theorem dX10_feels_46 : decode cX10_feels 46 = .ok (.getfield 68, 3) := by decide +kernel
theorem dX10_feels_49 : decode cX10_feels 49 = .ok (.iconst 2, 1) := by decide +kernel
theorem dX10_feels_50 : decode cX10_feels 50 = .ok (.aload_n 0, 1) := by decide +kernel
theorem dX10_feels_51 : decode cX10_feels 51 = .ok (.getfield 16, 3) := by decide +kernel
theorem dX10_feels_54 : decode cX10_feels 54 = .ok (.iload_n 1, 1) := by decide +kernel
theorem dX10_feels_55 : decode cX10_feels 55 = .ok (.iaload, 1) := by decide +kernel
theorem dX10_feels_56 : decode cX10_feels 56 = .ok (.iastore, 1) := by decide +kernel
theorem dX10_feels_57 : decode cX10_feels 57 = .ok (.aload_n 0, 1) := by decide +kernel
theorem dX10_feels_58 : decode cX10_feels 58 = .ok (.getfield 68, 3) := by decide +kernel
theorem dX10_feels_61 : decode cX10_feels 61 = .ok (.iconst 3, 1) := by decide +kernel
theorem dX10_feels_62 : decode cX10_feels 62 = .ok (.aload_n 0, 1) := by decide +kernel
theorem dX10_feels_63 : decode cX10_feels 63 = .ok (.getfield 19, 3) := by decide +kernel
theorem dX10_feels_66 : decode cX10_feels 66 = .ok (.iload_n 1, 1) := by decide +kernel
theorem dX10_feels_67 : decode cX10_feels 67 = .ok (.iaload, 1) := by decide +kernel
theorem dX10_feels_68 : decode cX10_feels 68 = .ok (.iastore, 1) := by decide +kernel
theorem dX10_feels_69 : decode cX10_feels 69 = .ok (.aload_n 0, 1) := by decide +kernel
theorem dX10_feels_70 : decode cX10_feels 70 = .ok (.getfield 68, 3) := by decide +kernel
theorem dX10_feels_73 : decode cX10_feels 73 = .ok (.iconst 4, 1) := by decide +kernel
theorem dX10_feels_74 : decode cX10_feels 74 = .ok (.aload_n 0, 1) := by decide +kernel
theorem dX10_feels_75 : decode cX10_feels 75 = .ok (.getfield 7, 3) := by decide +kernel
theorem dX10_feels_78 : decode cX10_feels 78 = .ok (.iload_n 1, 1) := by decide +kernel
theorem dX10_feels_79 : decode cX10_feels 79 = .ok (.iaload, 1) := by decide +kernel
theorem dX10_feels_80 : decode cX10_feels 80 = .ok (.iastore, 1) := by decide +kernel
theorem dX10_feels_81 : decode cX10_feels 81 = .ok (.aload_n 0, 1) := by decide +kernel
theorem dX10_feels_82 : decode cX10_feels 82 = .ok (.getfield 68, 3) := by decide +kernel
theorem dX10_feels_85 : decode cX10_feels 85 = .ok (.iconst 5, 1) := by decide +kernel
theorem dX10_feels_86 : decode cX10_feels 86 = .ok (.iload_n 1, 1) := by decide +kernel
theorem dX10_feels_87 : decode cX10_feels 87 = .ok (.iastore, 1) := by decide +kernel
theorem dX10_feels_88 : decode cX10_feels 88 = .ok (.aload_n 0, 1) := by decide +kernel
theorem dX10_feels_89 : decode cX10_feels 89 = .ok (.getfield 68, 3) := by decide +kernel
theorem dX10_feels_92 : decode cX10_feels 92 = .ok (.bipush 10, 2) := by decide +kernel
theorem dX10_feels_94 : decode cX10_feels 94 = .ok (.aload_n 0, 1) := by decide +kernel
theorem dX10_feels_95 : decode cX10_feels 95 = .ok (.getfield 270, 3) := by decide +kernel
theorem dX10_feels_98 : decode cX10_feels 98 = .ok (.iastore, 1) := by decide +kernel
theorem dX10_feels_99 : decode cX10_feels 99 = .ok (.return_, 1) := by decide +kernel
theorem dX10_stepBy_0 : decode cX10_stepBy 0 = .ok (.iload_n 2, 1) := by decide +kernel
theorem dX10_stepBy_1 : decode cX10_stepBy 1 = .ok (.iload_n 3, 1) := by decide +kernel
theorem dX10_stepBy_2 : decode cX10_stepBy 2 = .ok (.if_icmp .eq 48, 3) := by decide +kernel
theorem dX10_stepBy_5 : decode cX10_stepBy 5 = .ok (.aload_n 0, 1) := by decide +kernel
theorem dX10_stepBy_6 : decode cX10_stepBy 6 = .ok (.getfield 145, 3) := by decide +kernel
theorem dX10_stepBy_9 : decode cX10_stepBy 9 = .ok (.iload_n 2, 1) := by decide +kernel
theorem dX10_stepBy_10 : decode cX10_stepBy 10 = .ok (.invokestatic 148, 3) := by decide +kernel
theorem dX10_stepBy_13 : decode cX10_stepBy 13 = .ok (.ifCond .eq 37, 3) := by decide +kernel
theorem dX10_stepBy_16 : decode cX10_stepBy 16 = .ok (.aload_n 0, 1) := by decide +kernel
theorem dX10_stepBy_17 : decode cX10_stepBy 17 = .ok (.getfield 145, 3) := by decide +kernel
theorem dX10_stepBy_20 : decode cX10_stepBy 20 = .ok (.iload_n 3, 1) := by decide +kernel
theorem dX10_stepBy_21 : decode cX10_stepBy 21 = .ok (.invokestatic 148, 3) := by decide +kernel
theorem dX10_stepBy_24 : decode cX10_stepBy 24 = .ok (.ifCond .eq 26, 3) := by decide +kernel
theorem dX10_stepBy_27 : decode cX10_stepBy 27 = .ok (.aload_n 0, 1) := by decide +kernel
theorem dX10_stepBy_28 : decode cX10_stepBy 28 = .ok (.iload_n 3, 1) := by decide +kernel
theorem dX10_stepBy_29 : decode cX10_stepBy 29 = .ok (.invokevirtual 159, 3) := by decide +kernel
theorem dX10_stepBy_32 : decode cX10_stepBy 32 = .ok (.aload_n 0, 1) := by decide +kernel
theorem dX10_stepBy_33 : decode cX10_stepBy 33 = .ok (.iload_n 2, 1) := by decide +kernel
theorem dX10_stepBy_34 : decode cX10_stepBy 34 = .ok (.invokevirtual 159, 3) := by decide +kernel
theorem dX10_stepBy_37 : decode cX10_stepBy 37 = .ok (.if_icmp .le 13, 3) := by decide +kernel
theorem dX10_stepBy_40 : decode cX10_stepBy 40 = .ok (.aload_n 0, 1) := by decide +kernel
theorem dX10_stepBy_41 : decode cX10_stepBy 41 = .ok (.getfield 7, 3) := by decide +kernel
theorem dX10_stepBy_44 : decode cX10_stepBy 44 = .ok (.iload_n 3, 1) := by decide +kernel
theorem dX10_stepBy_45 : decode cX10_stepBy 45 = .ok (.iaload, 1) := by decide +kernel
theorem dX10_stepBy_46 : decode cX10_stepBy 46 = .ok (.iconst 3, 1) := by decide +kernel
theorem dX10_stepBy_47 : decode cX10_stepBy 47 = .ok (.if_icmp .ne 7, 3) := by decide +kernel
theorem dX10_stepBy_50 : decode cX10_stepBy 50 = .ok (.ldc_w 273, 3) := by decide +kernel
theorem dX10_stepBy_53 : decode cX10_stepBy 53 = .ok (.ireturn, 1) := by decide +kernel
theorem dX10_stepBy_54 : decode cX10_stepBy 54 = .ok (.aload_n 0, 1) := by decide +kernel
theorem dX10_stepBy_55 : decode cX10_stepBy 55 = .ok (.iload_n 3, 1) := by decide +kernel
theorem dX10_stepBy_56 : decode cX10_stepBy 56 = .ok (.invokevirtual 274, 3) := by decide +kernel
theorem dX10_stepBy_59 : decode cX10_stepBy 59 = .ok (.aload_n 0, 1) := by decide +kernel
theorem dX10_stepBy_60 : decode cX10_stepBy 60 = .ok (.getfield 68, 3) := by decide +kernel
theorem dX10_stepBy_63 : decode cX10_stepBy 63 = .ok (.bipush 6, 2) := by decide +kernel
theorem dX10_stepBy_65 : decode cX10_stepBy 65 = .ok (.aload_n 0, 1) := by decide +kernel
theorem dX10_stepBy_66 : decode cX10_stepBy 66 = .ok (.iload_n 2, 1) := by decide +kernel
theorem dX10_stepBy_67 : decode cX10_stepBy 67 = .ok (.invokevirtual 159, 3) := by decide +kernel
theorem dX10_stepBy_70 : decode cX10_stepBy 70 = .ok (.iastore, 1) := by decide +kernel
theorem dX10_stepBy_71 : decode cX10_stepBy 71 = .ok (.aload_n 0, 1) := by decide +kernel
theorem dX10_stepBy_72 : decode cX10_stepBy 72 = .ok (.getfield 68, 3) := by decide +kernel
theorem dX10_stepBy_75 : decode cX10_stepBy 75 = .ok (.bipush 7, 2) := by decide +kernel
theorem dX10_stepBy_77 : decode cX10_stepBy 77 = .ok (.aload_n 0, 1) := by decide +kernel
theorem dX10_stepBy_78 : decode cX10_stepBy 78 = .ok (.getfield 13, 3) := by decide +kernel
theorem dX10_stepBy_81 : decode cX10_stepBy 81 = .ok (.iload_n 2, 1) := by decide +kernel
theorem dX10_stepBy_82 : decode cX10_stepBy 82 = .ok (.iaload, 1) := by decide +kernel
theorem dX10_stepBy_83 : decode cX10_stepBy 83 = .ok (.iastore, 1) := by decide +kernel
theorem dX10_stepBy_84 : decode cX10_stepBy 84 = .ok (.aload_n 0, 1) := by decide +kernel
theorem dX10_stepBy_85 : decode cX10_stepBy 85 = .ok (.getfield 68, 3) := by decide +kernel
theorem dX10_stepBy_88 : decode cX10_stepBy 88 = .ok (.bipush 8, 2) := by decide +kernel
theorem dX10_stepBy_90 : decode cX10_stepBy 90 = .ok (.aload_n 0, 1) := by decide +kernel
theorem dX10_stepBy_91 : decode cX10_stepBy 91 = .ok (.getfield 16, 3) := by decide +kernel
theorem dX10_stepBy_94 : decode cX10_stepBy 94 = .ok (.iload_n 2, 1) := by decide +kernel
theorem dX10_stepBy_95 : decode cX10_stepBy 95 = .ok (.iaload, 1) := by decide +kernel
theorem dX10_stepBy_96 : decode cX10_stepBy 96 = .ok (.iastore, 1) := by decide +kernel
theorem dX10_stepBy_97 : decode cX10_stepBy 97 = .ok (.aload_n 0, 1) := by decide +kernel
theorem dX10_stepBy_98 : decode cX10_stepBy 98 = .ok (.getfield 68, 3) := by decide +kernel
theorem dX10_stepBy_101 : decode cX10_stepBy 101 = .ok (.bipush 9, 2) := by decide +kernel
theorem dX10_stepBy_103 : decode cX10_stepBy 103 = .ok (.aload_n 0, 1) := by decide +kernel
theorem dX10_stepBy_104 : decode cX10_stepBy 104 = .ok (.getfield 7, 3) := by decide +kernel
theorem dX10_stepBy_107 : decode cX10_stepBy 107 = .ok (.iload_n 2, 1) := by decide +kernel
theorem dX10_stepBy_108 : decode cX10_stepBy 108 = .ok (.iaload, 1) := by decide +kernel
theorem dX10_stepBy_109 : decode cX10_stepBy 109 = .ok (.iastore, 1) := by decide +kernel
theorem dX10_stepBy_110 : decode cX10_stepBy 110 = .ok (.aload_n 0, 1) := by decide +kernel
theorem dX10_stepBy_111 : decode cX10_stepBy 111 = .ok (.iload_n 1, 1) := by decide +kernel
theorem dX10_stepBy_112 : decode cX10_stepBy 112 = .ok (.bipush 110, 2) := by decide +kernel
theorem dX10_stepBy_114 : decode cX10_stepBy 114 = .ok (.invokevirtual 277, 3) := by decide +kernel
theorem dX10_stepBy_117 : decode cX10_stepBy 117 = .ok (.ifCond .eq 7, 3) := by decide +kernel
theorem dX10_stepBy_120 : decode cX10_stepBy 120 = .ok (.ldc_w 273, 3) := by decide +kernel
theorem dX10_stepBy_123 : decode cX10_stepBy 123 = .ok (.ireturn, 1) := by decide +kernel
theorem dX10_stepBy_124 : decode cX10_stepBy 124 = .ok (.aload_n 0, 1) := by decide +kernel
theorem dX10_stepBy_125 : decode cX10_stepBy 125 = .ok (.getfield 7, 3) := by decide +kernel
theorem dX10_stepBy_128 : decode cX10_stepBy 128 = .ok (.iload_n 3, 1) := by decide +kernel
theorem dX10_stepBy_129 : decode cX10_stepBy 129 = .ok (.iaload, 1) := by decide +kernel
theorem dX10_stepBy_130 : decode cX10_stepBy 130 = .ok (.iconst 1, 1) := by decide +kernel
theorem dX10_stepBy_131 : decode cX10_stepBy 131 = .ok (.if_icmp .ne 12, 3) := by decide +kernel
theorem dX10_stepBy_134 : decode cX10_stepBy 134 = .ok (.aload_n 0, 1) := by decide +kernel
theorem dX10_stepBy_135 : decode cX10_stepBy 135 = .ok (.getfield 22, 3) := by decide +kernel
theorem dX10_stepBy_138 : decode cX10_stepBy 138 = .ok (.iload_n 3, 1) := by decide +kernel
theorem dX10_stepBy_139 : decode cX10_stepBy 139 = .ok (.iaload, 1) := by decide +kernel
theorem dX10_stepBy_140 : decode cX10_stepBy 140 = .ok (.goto 4, 3) := by decide +kernel
theorem dX10_stepBy_143 : decode cX10_stepBy 143 = .ok (.iconst 0, 1) := by decide +kernel
theorem dX10_stepBy_144 : decode cX10_stepBy 144 = .ok (.aload_n 0, 1) := by decide +kernel
theorem dX10_stepBy_145 : decode cX10_stepBy 145 = .ok (.iload_n 1, 1) := by decide +kernel
theorem dX10_stepBy_146 : decode cX10_stepBy 146 = .ok (.bipush 112, 2) := by decide +kernel
theorem dX10_stepBy_148 : decode cX10_stepBy 148 = .ok (.sipush 999, 3) := by decide +kernel
theorem dX10_stepBy_151 : decode cX10_stepBy 151 = .ok (.invokevirtual 280, 3) := by decide +kernel
theorem dX10_stepBy_154 : decode cX10_stepBy 154 = .ok (.iadd, 1) := by decide +kernel
theorem dX10_stepBy_155 : decode cX10_stepBy 155 = .ok (.ireturn, 1) := by decide +kernel
theorem dX10_laysSteps_0 : decode cX10_laysSteps 0 = .ok (.iconst 0, 1) := by decide +kernel
theorem dX10_laysSteps_1 : decode cX10_laysSteps 1 = .ok (.istore_n 2, 1) := by decide +kernel
theorem dX10_laysSteps_2 : decode cX10_laysSteps 2 = .ok (.iload_n 2, 1) := by decide +kernel
theorem dX10_laysSteps_3 : decode cX10_laysSteps 3 = .ok (.aload_n 0, 1) := by decide +kernel
theorem dX10_laysSteps_4 : decode cX10_laysSteps 4 = .ok (.getfield 138, 3) := by decide +kernel
theorem dX10_laysSteps_7 : decode cX10_laysSteps 7 = .ok (.if_icmp .ge 43, 3) := by decide +kernel
theorem dX10_laysSteps_10 : decode cX10_laysSteps 10 = .ok (.iconst 0, 1) := by decide +kernel
theorem dX10_laysSteps_11 : decode cX10_laysSteps 11 = .ok (.istore_n 3, 1) := by decide +kernel
theorem dX10_laysSteps_12 : decode cX10_laysSteps 12 = .ok (.iload_n 3, 1) := by decide +kernel
theorem dX10_laysSteps_13 : decode cX10_laysSteps 13 = .ok (.aload_n 0, 1) := by decide +kernel
theorem dX10_laysSteps_14 : decode cX10_laysSteps 14 = .ok (.getfield 138, 3) := by decide +kernel
theorem dX10_laysSteps_17 : decode cX10_laysSteps 17 = .ok (.if_icmp .ge 27, 3) := by decide +kernel
theorem dX10_laysSteps_20 : decode cX10_laysSteps 20 = .ok (.aload_n 0, 1) := by decide +kernel
theorem dX10_laysSteps_21 : decode cX10_laysSteps 21 = .ok (.getfield 71, 3) := by decide +kernel
theorem dX10_laysSteps_24 : decode cX10_laysSteps 24 = .ok (.bipush 16, 2) := by decide +kernel
theorem dX10_laysSteps_26 : decode cX10_laysSteps 26 = .ok (.iload_n 2, 1) := by decide +kernel
theorem dX10_laysSteps_27 : decode cX10_laysSteps 27 = .ok (.imul, 1) := by decide +kernel
theorem dX10_laysSteps_28 : decode cX10_laysSteps 28 = .ok (.iload_n 3, 1) := by decide +kernel
theorem dX10_laysSteps_29 : decode cX10_laysSteps 29 = .ok (.iadd, 1) := by decide +kernel
theorem dX10_laysSteps_30 : decode cX10_laysSteps 30 = .ok (.aload_n 0, 1) := by decide +kernel
theorem dX10_laysSteps_31 : decode cX10_laysSteps 31 = .ok (.iload_n 1, 1) := by decide +kernel
theorem dX10_laysSteps_32 : decode cX10_laysSteps 32 = .ok (.iload_n 2, 1) := by decide +kernel
theorem dX10_laysSteps_33 : decode cX10_laysSteps 33 = .ok (.iload_n 3, 1) := by decide +kernel
theorem dX10_laysSteps_34 : decode cX10_laysSteps 34 = .ok (.invokevirtual 283, 3) := by decide +kernel
theorem dX10_laysSteps_37 : decode cX10_laysSteps 37 = .ok (.iastore, 1) := by decide +kernel
theorem dX10_laysSteps_38 : decode cX10_laysSteps 38 = .ok (.iinc 3 1, 3) := by decide +kernel
theorem dX10_laysSteps_41 : decode cX10_laysSteps 41 = .ok (.goto (-29), 3) := by decide +kernel
theorem dX10_laysSteps_44 : decode cX10_laysSteps 44 = .ok (.iinc 2 1, 3) := by decide +kernel
theorem dX10_laysSteps_47 : decode cX10_laysSteps 47 = .ok (.goto (-45), 3) := by decide +kernel
theorem dX10_laysSteps_50 : decode cX10_laysSteps 50 = .ok (.return_, 1) := by decide +kernel
theorem dX10_isStep_0 : decode cX10_isStep 0 = .ok (.aload_n 0, 1) := by decide +kernel
theorem dX10_isStep_1 : decode cX10_isStep 1 = .ok (.getfield 71, 3) := by decide +kernel
theorem dX10_isStep_4 : decode cX10_isStep 4 = .ok (.bipush 16, 2) := by decide +kernel
theorem dX10_isStep_6 : decode cX10_isStep 6 = .ok (.iload_n 1, 1) := by decide +kernel
theorem dX10_isStep_7 : decode cX10_isStep 7 = .ok (.imul, 1) := by decide +kernel
theorem dX10_isStep_8 : decode cX10_isStep 8 = .ok (.iload_n 2, 1) := by decide +kernel
theorem dX10_isStep_9 : decode cX10_isStep 9 = .ok (.iadd, 1) := by decide +kernel
theorem dX10_isStep_10 : decode cX10_isStep 10 = .ok (.iaload, 1) := by decide +kernel
theorem dX10_isStep_11 : decode cX10_isStep 11 = .ok (.ldc_w 273, 3) := by decide +kernel
theorem dX10_isStep_14 : decode cX10_isStep 14 = .ok (.if_icmp .ge 7, 3) := by decide +kernel
theorem dX10_isStep_17 : decode cX10_isStep 17 = .ok (.iconst 1, 1) := by decide +kernel
theorem dX10_isStep_18 : decode cX10_isStep 18 = .ok (.goto 4, 3) := by decide +kernel
theorem dX10_isStep_21 : decode cX10_isStep 21 = .ok (.iconst 0, 1) := by decide +kernel
theorem dX10_isStep_22 : decode cX10_isStep 22 = .ok (.ireturn, 1) := by decide +kernel
theorem dX10_step_0 : decode cX10_step 0 = .ok (.aload_n 0, 1) := by decide +kernel
theorem dX10_step_1 : decode cX10_step 1 = .ok (.iload_n 1, 1) := by decide +kernel
theorem dX10_step_2 : decode cX10_step 2 = .ok (.invokevirtual 141, 3) := by decide +kernel
theorem dX10_step_5 : decode cX10_step 5 = .ok (.ifCond .eq 16, 3) := by decide +kernel
theorem dX10_step_8 : decode cX10_step 8 = .ok (.aload_n 0, 1) := by decide +kernel
theorem dX10_step_9 : decode cX10_step 9 = .ok (.iload_n 2, 1) := by decide +kernel
theorem dX10_step_10 : decode cX10_step 10 = .ok (.invokevirtual 141, 3) := by decide +kernel
theorem dX10_step_13 : decode cX10_step 13 = .ok (.ifCond .eq 8, 3) := by decide +kernel
theorem dX10_step_16 : decode cX10_step 16 = .ok (.iload_n 1, 1) := by decide +kernel
theorem dX10_step_17 : decode cX10_step 17 = .ok (.iload_n 2, 1) := by decide +kernel
theorem dX10_step_18 : decode cX10_step 18 = .ok (.if_icmp .ne 5, 3) := by decide +kernel
theorem dX10_step_21 : decode cX10_step 21 = .ok (.iconst (-1), 1) := by decide +kernel
theorem dX10_step_22 : decode cX10_step 22 = .ok (.ireturn, 1) := by decide +kernel
theorem dX10_step_23 : decode cX10_step 23 = .ok (.aload_n 0, 1) := by decide +kernel
theorem dX10_step_24 : decode cX10_step 24 = .ok (.iconst 0, 1) := by decide +kernel
theorem dX10_step_25 : decode cX10_step 25 = .ok (.iload_n 1, 1) := by decide +kernel
theorem dX10_step_26 : decode cX10_step 26 = .ok (.iload_n 2, 1) := by decide +kernel
theorem dX10_step_27 : decode cX10_step 27 = .ok (.invokevirtual 283, 3) := by decide +kernel
theorem dX10_step_30 : decode cX10_step 30 = .ok (.istore_n 3, 1) := by decide +kernel
theorem dX10_step_31 : decode cX10_step 31 = .ok (.iload_n 3, 1) := by decide +kernel
theorem dX10_step_32 : decode cX10_step 32 = .ok (.ldc_w 273, 3) := by decide +kernel
theorem dX10_step_35 : decode cX10_step 35 = .ok (.if_icmp .ne 8, 3) := by decide +kernel
theorem dX10_step_38 : decode cX10_step 38 = .ok (.bipush (-2), 2) := by decide +kernel
theorem dX10_step_40 : decode cX10_step 40 = .ok (.goto 4, 3) := by decide +kernel
theorem dX10_step_43 : decode cX10_step 43 = .ok (.iload_n 3, 1) := by decide +kernel
theorem dX10_step_44 : decode cX10_step 44 = .ok (.ireturn, 1) := by decide +kernel
theorem dX10_isOath_0 : decode cX10_isOath 0 = .ok (.iload_n 1, 1) := by decide +kernel
theorem dX10_isOath_1 : decode cX10_isOath 1 = .ok (.ifCond .lt 15, 3) := by decide +kernel
theorem dX10_isOath_4 : decode cX10_isOath 4 = .ok (.iload_n 1, 1) := by decide +kernel
theorem dX10_isOath_5 : decode cX10_isOath 5 = .ok (.aload_n 0, 1) := by decide +kernel
theorem dX10_isOath_6 : decode cX10_isOath 6 = .ok (.getfield 286, 3) := by decide +kernel
theorem dX10_isOath_9 : decode cX10_isOath 9 = .ok (.if_icmp .ge 7, 3) := by decide +kernel
theorem dX10_isOath_12 : decode cX10_isOath 12 = .ok (.iconst 1, 1) := by decide +kernel
theorem dX10_isOath_13 : decode cX10_isOath 13 = .ok (.goto 4, 3) := by decide +kernel
theorem dX10_isOath_16 : decode cX10_isOath 16 = .ok (.iconst 0, 1) := by decide +kernel
theorem dX10_isOath_17 : decode cX10_isOath 17 = .ok (.ireturn, 1) := by decide +kernel
theorem dX10_oath_0 : decode cX10_oath 0 = .ok (.aload_n 0, 1) := by decide +kernel
theorem dX10_oath_1 : decode cX10_oath 1 = .ok (.iload_n 1, 1) := by decide +kernel
theorem dX10_oath_2 : decode cX10_oath 2 = .ok (.invokevirtual 156, 3) := by decide +kernel
theorem dX10_oath_5 : decode cX10_oath 5 = .ok (.ifCond .eq 21, 3) := by decide +kernel
theorem dX10_oath_8 : decode cX10_oath 8 = .ok (.iload_n 2, 1) := by decide +kernel
theorem dX10_oath_9 : decode cX10_oath 9 = .ok (.iconst 0, 1) := by decide +kernel
theorem dX10_oath_10 : decode cX10_oath 10 = .ok (.iconst 3, 1) := by decide +kernel
theorem dX10_oath_11 : decode cX10_oath 11 = .ok (.invokestatic 152, 3) := by decide +kernel
theorem dX10_oath_14 : decode cX10_oath 14 = .ok (.ifCond .eq 12, 3) := by decide +kernel
theorem dX10_oath_17 : decode cX10_oath 17 = .ok (.aload_n 0, 1) := by decide +kernel
theorem dX10_oath_18 : decode cX10_oath 18 = .ok (.getfield 286, 3) := by decide +kernel
theorem dX10_oath_21 : decode cX10_oath 21 = .ok (.bipush 12, 2) := by decide +kernel
theorem dX10_oath_23 : decode cX10_oath 23 = .ok (.if_icmp .ne 5, 3) := by decide +kernel
theorem dX10_oath_26 : decode cX10_oath 26 = .ok (.iconst (-1), 1) := by decide +kernel
theorem dX10_oath_27 : decode cX10_oath 27 = .ok (.ireturn, 1) := by decide +kernel
theorem dX10_oath_28 : decode cX10_oath 28 = .ok (.aload_n 0, 1) := by decide +kernel
theorem dX10_oath_29 : decode cX10_oath 29 = .ok (.getfield 74, 3) := by decide +kernel
theorem dX10_oath_32 : decode cX10_oath 32 = .ok (.aload_n 0, 1) := by decide +kernel
theorem dX10_oath_33 : decode cX10_oath 33 = .ok (.getfield 286, 3) := by decide +kernel
theorem dX10_oath_36 : decode cX10_oath 36 = .ok (.iload_n 1, 1) := by decide +kernel
theorem dX10_oath_37 : decode cX10_oath 37 = .ok (.iastore, 1) := by decide +kernel
theorem dX10_oath_38 : decode cX10_oath 38 = .ok (.aload_n 0, 1) := by decide +kernel
theorem dX10_oath_39 : decode cX10_oath 39 = .ok (.getfield 77, 3) := by decide +kernel
theorem dX10_oath_42 : decode cX10_oath 42 = .ok (.aload_n 0, 1) := by decide +kernel
theorem dX10_oath_43 : decode cX10_oath 43 = .ok (.getfield 286, 3) := by decide +kernel
theorem dX10_oath_46 : decode cX10_oath 46 = .ok (.iload_n 2, 1) := by decide +kernel
theorem dX10_oath_47 : decode cX10_oath 47 = .ok (.iastore, 1) := by decide +kernel
theorem dX10_oath_48 : decode cX10_oath 48 = .ok (.aload_n 0, 1) := by decide +kernel
theorem dX10_oath_49 : decode cX10_oath 49 = .ok (.getfield 80, 3) := by decide +kernel
theorem dX10_oath_52 : decode cX10_oath 52 = .ok (.aload_n 0, 1) := by decide +kernel
theorem dX10_oath_53 : decode cX10_oath 53 = .ok (.getfield 286, 3) := by decide +kernel
theorem dX10_oath_56 : decode cX10_oath 56 = .ok (.iconst 1, 1) := by decide +kernel
theorem dX10_oath_57 : decode cX10_oath 57 = .ok (.iload_n 1, 1) := by decide +kernel
theorem dX10_oath_58 : decode cX10_oath 58 = .ok (.ishl, 1) := by decide +kernel
theorem dX10_oath_59 : decode cX10_oath 59 = .ok (.iastore, 1) := by decide +kernel
theorem dX10_oath_60 : decode cX10_oath 60 = .ok (.aload_n 0, 1) := by decide +kernel
theorem dX10_oath_61 : decode cX10_oath 61 = .ok (.aload_n 0, 1) := by decide +kernel
theorem dX10_oath_62 : decode cX10_oath 62 = .ok (.getfield 286, 3) := by decide +kernel
theorem dX10_oath_65 : decode cX10_oath 65 = .ok (.iconst 1, 1) := by decide +kernel
theorem dX10_oath_66 : decode cX10_oath 66 = .ok (.iadd, 1) := by decide +kernel
theorem dX10_oath_67 : decode cX10_oath 67 = .ok (.putfield 286, 3) := by decide +kernel
theorem dX10_oath_70 : decode cX10_oath 70 = .ok (.aload_n 0, 1) := by decide +kernel
theorem dX10_oath_71 : decode cX10_oath 71 = .ok (.getfield 286, 3) := by decide +kernel
theorem dX10_oath_74 : decode cX10_oath 74 = .ok (.iconst 1, 1) := by decide +kernel
theorem dX10_oath_75 : decode cX10_oath 75 = .ok (.isub, 1) := by decide +kernel
theorem dX10_oath_76 : decode cX10_oath 76 = .ok (.ireturn, 1) := by decide +kernel
theorem dX10_leastBy_0 : decode cX10_leastBy 0 = .ok (.ldc_w 273, 3) := by decide +kernel
theorem dX10_leastBy_3 : decode cX10_leastBy 3 = .ok (.istore_n 3, 1) := by decide +kernel
theorem dX10_leastBy_4 : decode cX10_leastBy 4 = .ok (.iconst 0, 1) := by decide +kernel
theorem dX10_leastBy_5 : decode cX10_leastBy 5 = .ok (.istore 4, 2) := by decide +kernel
theorem dX10_leastBy_7 : decode cX10_leastBy 7 = .ok (.iload 4, 2) := by decide +kernel
theorem dX10_leastBy_9 : decode cX10_leastBy 9 = .ok (.aload_n 0, 1) := by decide +kernel
theorem dX10_leastBy_10 : decode cX10_leastBy 10 = .ok (.getfield 138, 3) := by decide +kernel
