theorem dX8_init_0 : decode cX8_init 0 = .ok (.aload_n 0, 1) := by decide +kernel
theorem dX8_init_1 : decode cX8_init 1 = .ok (.invokespecial 1, 3) := by decide +kernel
theorem dX8_init_4 : decode cX8_init 4 = .ok (.aload_n 0, 1) := by decide +kernel
theorem dX8_init_5 : decode cX8_init 5 = .ok (.sipush 3000, 3) := by decide +kernel
theorem dX8_init_8 : decode cX8_init 8 = .ok (.newarray .byte, 2) := by decide +kernel
theorem dX8_init_10 : decode cX8_init 10 = .ok (.putfield 7, 3) := by decide +kernel
theorem dX8_init_13 : decode cX8_init 13 = .ok (.aload_n 0, 1) := by decide +kernel
theorem dX8_init_14 : decode cX8_init 14 = .ok (.sipush 1000, 3) := by decide +kernel
theorem dX8_init_17 : decode cX8_init 17 = .ok (.newarray .int, 2) := by decide +kernel
theorem dX8_init_19 : decode cX8_init 19 = .ok (.putfield 13, 3) := by decide +kernel
theorem dX8_init_22 : decode cX8_init 22 = .ok (.aload_n 0, 1) := by decide +kernel
theorem dX8_init_23 : decode cX8_init 23 = .ok (.bipush 96, 2) := by decide +kernel
theorem dX8_init_25 : decode cX8_init 25 = .ok (.newarray .int, 2) := by decide +kernel
theorem dX8_init_27 : decode cX8_init 27 = .ok (.putfield 17, 3) := by decide +kernel
theorem dX8_init_30 : decode cX8_init 30 = .ok (.aload_n 0, 1) := by decide +kernel
theorem dX8_init_31 : decode cX8_init 31 = .ok (.bipush 96, 2) := by decide +kernel
theorem dX8_init_33 : decode cX8_init 33 = .ok (.newarray .int, 2) := by decide +kernel
theorem dX8_init_35 : decode cX8_init 35 = .ok (.putfield 20, 3) := by decide +kernel
theorem dX8_init_38 : decode cX8_init 38 = .ok (.aload_n 0, 1) := by decide +kernel
theorem dX8_init_39 : decode cX8_init 39 = .ok (.iconst 2, 1) := by decide +kernel
theorem dX8_init_40 : decode cX8_init 40 = .ok (.newarray .int, 2) := by decide +kernel
theorem dX8_init_42 : decode cX8_init 42 = .ok (.putfield 23, 3) := by decide +kernel
theorem dX8_init_45 : decode cX8_init 45 = .ok (.aload_n 0, 1) := by decide +kernel
theorem dX8_init_46 : decode cX8_init 46 = .ok (.iconst 2, 1) := by decide +kernel
theorem dX8_init_47 : decode cX8_init 47 = .ok (.newarray .int, 2) := by decide +kernel
theorem dX8_init_49 : decode cX8_init 49 = .ok (.putfield 26, 3) := by decide +kernel
theorem dX8_init_52 : decode cX8_init 52 = .ok (.aload_n 0, 1) := by decide +kernel
theorem dX8_init_53 : decode cX8_init 53 = .ok (.iconst 2, 1) := by decide +kernel
theorem dX8_init_54 : decode cX8_init 54 = .ok (.newarray .int, 2) := by decide +kernel
theorem dX8_init_56 : decode cX8_init 56 = .ok (.putfield 29, 3) := by decide +kernel
theorem dX8_init_59 : decode cX8_init 59 = .ok (.aload_n 0, 1) := by decide +kernel
theorem dX8_init_60 : decode cX8_init 60 = .ok (.iconst 2, 1) := by decide +kernel
theorem dX8_init_61 : decode cX8_init 61 = .ok (.newarray .boolean, 2) := by decide +kernel
theorem dX8_init_63 : decode cX8_init 63 = .ok (.putfield 32, 3) := by decide +kernel
theorem dX8_init_66 : decode cX8_init 66 = .ok (.aload_n 0, 1) := by decide +kernel
theorem dX8_init_67 : decode cX8_init 67 = .ok (.sipush 1001, 3) := by decide +kernel
theorem dX8_init_70 : decode cX8_init 70 = .ok (.newarray .int, 2) := by decide +kernel
theorem dX8_init_72 : decode cX8_init 72 = .ok (.putfield 36, 3) := by decide +kernel
theorem dX8_init_75 : decode cX8_init 75 = .ok (.aload_n 0, 1) := by decide +kernel
theorem dX8_init_76 : decode cX8_init 76 = .ok (.sipush 4010, 3) := by decide +kernel
theorem dX8_init_79 : decode cX8_init 79 = .ok (.newarray .int, 2) := by decide +kernel
theorem dX8_init_81 : decode cX8_init 81 = .ok (.putfield 39, 3) := by decide +kernel
theorem dX8_init_84 : decode cX8_init 84 = .ok (.aload_n 0, 1) := by decide +kernel
theorem dX8_init_85 : decode cX8_init 85 = .ok (.iconst 4, 1) := by decide +kernel
theorem dX8_init_86 : decode cX8_init 86 = .ok (.newarray .int, 2) := by decide +kernel
theorem dX8_init_88 : decode cX8_init 88 = .ok (.putfield 42, 3) := by decide +kernel
theorem dX8_init_91 : decode cX8_init 91 = .ok (.aload_n 0, 1) := by decide +kernel
theorem dX8_init_92 : decode cX8_init 92 = .ok (.ldc 45, 2) := by decide +kernel
theorem dX8_init_94 : decode cX8_init 94 = .ok (.newarray .int, 2) := by decide +kernel
theorem dX8_init_96 : decode cX8_init 96 = .ok (.putfield 46, 3) := by decide +kernel
theorem dX8_init_99 : decode cX8_init 99 = .ok (.aload_n 0, 1) := by decide +kernel
theorem dX8_init_100 : decode cX8_init 100 = .ok (.bipush 96, 2) := by decide +kernel
theorem dX8_init_102 : decode cX8_init 102 = .ok (.newarray .int, 2) := by decide +kernel
theorem dX8_init_104 : decode cX8_init 104 = .ok (.putfield 49, 3) := by decide +kernel
theorem dX8_init_107 : decode cX8_init 107 = .ok (.aload_n 0, 1) := by decide +kernel
theorem dX8_init_108 : decode cX8_init 108 = .ok (.sipush 1001, 3) := by decide +kernel
theorem dX8_init_111 : decode cX8_init 111 = .ok (.newarray .int, 2) := by decide +kernel
theorem dX8_init_113 : decode cX8_init 113 = .ok (.putfield 52, 3) := by decide +kernel
theorem dX8_init_116 : decode cX8_init 116 = .ok (.aload_n 0, 1) := by decide +kernel
theorem dX8_init_117 : decode cX8_init 117 = .ok (.sipush 1001, 3) := by decide +kernel
theorem dX8_init_120 : decode cX8_init 120 = .ok (.newarray .int, 2) := by decide +kernel
theorem dX8_init_122 : decode cX8_init 122 = .ok (.putfield 55, 3) := by decide +kernel
theorem dX8_init_125 : decode cX8_init 125 = .ok (.aload_n 0, 1) := by decide +kernel
theorem dX8_init_126 : decode cX8_init 126 = .ok (.iconst 2, 1) := by decide +kernel
theorem dX8_init_127 : decode cX8_init 127 = .ok (.newarray .int, 2) := by decide +kernel
theorem dX8_init_129 : decode cX8_init 129 = .ok (.putfield 58, 3) := by decide +kernel
theorem dX8_init_132 : decode cX8_init 132 = .ok (.aload_n 0, 1) := by decide +kernel
theorem dX8_init_133 : decode cX8_init 133 = .ok (.iconst 2, 1) := by decide +kernel
theorem dX8_init_134 : decode cX8_init 134 = .ok (.newarray .int, 2) := by decide +kernel
theorem dX8_init_136 : decode cX8_init 136 = .ok (.putfield 61, 3) := by decide +kernel
theorem dX8_init_139 : decode cX8_init 139 = .ok (.aload_n 0, 1) := by decide +kernel
theorem dX8_init_140 : decode cX8_init 140 = .ok (.iconst 2, 1) := by decide +kernel
theorem dX8_init_141 : decode cX8_init 141 = .ok (.newarray .int, 2) := by decide +kernel
theorem dX8_init_143 : decode cX8_init 143 = .ok (.putfield 64, 3) := by decide +kernel
theorem dX8_init_146 : decode cX8_init 146 = .ok (.aload_n 0, 1) := by decide +kernel
theorem dX8_init_147 : decode cX8_init 147 = .ok (.bipush 40, 2) := by decide +kernel
theorem dX8_init_149 : decode cX8_init 149 = .ok (.newarray .long, 2) := by decide +kernel
theorem dX8_init_151 : decode cX8_init 151 = .ok (.putfield 67, 3) := by decide +kernel
theorem dX8_init_154 : decode cX8_init 154 = .ok (.aload_n 0, 1) := by decide +kernel
theorem dX8_init_155 : decode cX8_init 155 = .ok (.sipush 1024, 3) := by decide +kernel
theorem dX8_init_158 : decode cX8_init 158 = .ok (.newarray .boolean, 2) := by decide +kernel
theorem dX8_init_160 : decode cX8_init 160 = .ok (.putfield 71, 3) := by decide +kernel
theorem dX8_init_163 : decode cX8_init 163 = .ok (.aload_n 0, 1) := by decide +kernel
theorem dX8_init_164 : decode cX8_init 164 = .ok (.sipush 1000, 3) := by decide +kernel
theorem dX8_init_167 : decode cX8_init 167 = .ok (.newarray .int, 2) := by decide +kernel
theorem dX8_init_169 : decode cX8_init 169 = .ok (.putfield 74, 3) := by decide +kernel
theorem dX8_init_172 : decode cX8_init 172 = .ok (.aload_n 0, 1) := by decide +kernel
theorem dX8_init_173 : decode cX8_init 173 = .ok (.sipush 1000, 3) := by decide +kernel
theorem dX8_init_176 : decode cX8_init 176 = .ok (.newarray .int, 2) := by decide +kernel
theorem dX8_init_178 : decode cX8_init 178 = .ok (.putfield 77, 3) := by decide +kernel
theorem dX8_init_181 : decode cX8_init 181 = .ok (.aload_n 0, 1) := by decide +kernel
theorem dX8_init_182 : decode cX8_init 182 = .ok (.sipush 1000, 3) := by decide +kernel
theorem dX8_init_185 : decode cX8_init 185 = .ok (.newarray .int, 2) := by decide +kernel
theorem dX8_init_187 : decode cX8_init 187 = .ok (.putfield 80, 3) := by decide +kernel
theorem dX8_init_190 : decode cX8_init 190 = .ok (.aload_n 0, 1) := by decide +kernel
theorem dX8_init_191 : decode cX8_init 191 = .ok (.iload_n 1, 1) := by decide +kernel
theorem dX8_init_192 : decode cX8_init 192 = .ok (.iconst 1, 1) := by decide +kernel
theorem dX8_init_193 : decode cX8_init 193 = .ok (.if_icmp .ge 7, 3) := by decide +kernel
theorem dX8_init_196 : decode cX8_init 196 = .ok (.iconst 1, 1) := by decide +kernel
theorem dX8_init_197 : decode cX8_init 197 = .ok (.goto 15, 3) := by decide +kernel
theorem dX8_init_200 : decode cX8_init 200 = .ok (.iload_n 1, 1) := by decide +kernel
theorem dX8_init_201 : decode cX8_init 201 = .ok (.bipush 8, 2) := by decide +kernel
theorem dX8_init_203 : decode cX8_init 203 = .ok (.if_icmp .le 8, 3) := by decide +kernel
theorem dX8_init_206 : decode cX8_init 206 = .ok (.bipush 8, 2) := by decide +kernel
theorem dX8_init_208 : decode cX8_init 208 = .ok (.goto 4, 3) := by decide +kernel
theorem dX8_init_211 : decode cX8_init 211 = .ok (.iload_n 1, 1) := by decide +kernel
theorem dX8_init_212 : decode cX8_init 212 = .ok (.putfield 83, 3) := by decide +kernel
theorem dX8_init_215 : decode cX8_init 215 = .ok (.iconst 0, 1) := by decide +kernel
theorem dX8_init_216 : decode cX8_init 216 = .ok (.istore_n 2, 1) := by decide +kernel
theorem dX8_init_217 : decode cX8_init 217 = .ok (.iload_n 2, 1) := by decide +kernel
theorem dX8_init_218 : decode cX8_init 218 = .ok (.bipush 26, 2) := by decide +kernel
theorem dX8_init_220 : decode cX8_init 220 = .ok (.if_icmp .ge 35, 3) := by decide +kernel
theorem dX8_init_223 : decode cX8_init 223 = .ok (.aload_n 0, 1) := by decide +kernel
theorem dX8_init_224 : decode cX8_init 224 = .ok (.getfield 17, 3) := by decide +kernel
theorem dX8_init_227 : decode cX8_init 227 = .ok (.bipush 6, 2) := by decide +kernel
theorem dX8_init_229 : decode cX8_init 229 = .ok (.iload_n 2, 1) := by decide +kernel
theorem dX8_init_230 : decode cX8_init 230 = .ok (.iadd, 1) := by decide +kernel
theorem dX8_init_231 : decode cX8_init 231 = .ok (.bipush 97, 2) := by decide +kernel
theorem dX8_init_233 : decode cX8_init 233 = .ok (.iload_n 2, 1) := by decide +kernel
theorem dX8_init_234 : decode cX8_init 234 = .ok (.iadd, 1) := by decide +kernel
theorem dX8_init_235 : decode cX8_init 235 = .ok (.iastore, 1) := by decide +kernel
theorem dX8_init_236 : decode cX8_init 236 = .ok (.aload_n 0, 1) := by decide +kernel
theorem dX8_init_237 : decode cX8_init 237 = .ok (.getfield 17, 3) := by decide +kernel
theorem dX8_init_240 : decode cX8_init 240 = .ok (.bipush 38, 2) := by decide +kernel
theorem dX8_init_242 : decode cX8_init 242 = .ok (.iload_n 2, 1) := by decide +kernel
theorem dX8_init_243 : decode cX8_init 243 = .ok (.iadd, 1) := by decide +kernel
theorem dX8_init_244 : decode cX8_init 244 = .ok (.bipush 65, 2) := by decide +kernel
theorem dX8_init_246 : decode cX8_init 246 = .ok (.iload_n 2, 1) := by decide +kernel
theorem dX8_init_247 : decode cX8_init 247 = .ok (.iadd, 1) := by decide +kernel
theorem dX8_init_248 : decode cX8_init 248 = .ok (.iastore, 1) := by decide +kernel
theorem dX8_init_249 : decode cX8_init 249 = .ok (.iinc 2 1, 3) := by decide +kernel
theorem dX8_init_252 : decode cX8_init 252 = .ok (.goto (-35), 3) := by decide +kernel
theorem dX8_init_255 : decode cX8_init 255 = .ok (.bipush 70, 2) := by decide +kernel
theorem dX8_init_257 : decode cX8_init 257 = .ok (.istore_n 2, 1) := by decide +kernel
theorem dX8_init_258 : decode cX8_init 258 = .ok (.aload_n 0, 1) := by decide +kernel
theorem dX8_init_259 : decode cX8_init 259 = .ok (.getfield 17, 3) := by decide +kernel
theorem dX8_init_262 : decode cX8_init 262 = .ok (.iload_n 2, 1) := by decide +kernel
theorem dX8_init_263 : decode cX8_init 263 = .ok (.iconst (-1), 1) := by decide +kernel
theorem dX8_init_264 : decode cX8_init 264 = .ok (.iastore, 1) := by decide +kernel
theorem dX8_init_265 : decode cX8_init 265 = .ok (.iinc 2 1, 3) := by decide +kernel
theorem dX8_init_268 : decode cX8_init 268 = .ok (.aload_n 0, 1) := by decide +kernel
theorem dX8_init_269 : decode cX8_init 269 = .ok (.getfield 83, 3) := by decide +kernel
theorem dX8_init_272 : decode cX8_init 272 = .ok (.iconst 1, 1) := by decide +kernel
theorem dX8_init_273 : decode cX8_init 273 = .ok (.if_icmp .le 14, 3) := by decide +kernel
theorem dX8_init_276 : decode cX8_init 276 = .ok (.aload_n 0, 1) := by decide +kernel
theorem dX8_init_277 : decode cX8_init 277 = .ok (.getfield 17, 3) := by decide +kernel
theorem dX8_init_280 : decode cX8_init 280 = .ok (.iload_n 2, 1) := by decide +kernel
theorem dX8_init_281 : decode cX8_init 281 = .ok (.bipush 13, 2) := by decide +kernel
theorem dX8_init_283 : decode cX8_init 283 = .ok (.iastore, 1) := by decide +kernel
theorem dX8_init_284 : decode cX8_init 284 = .ok (.iinc 2 1, 3) := by decide +kernel
theorem dX8_init_287 : decode cX8_init 287 = .ok (.iconst 0, 1) := by decide +kernel
theorem dX8_init_288 : decode cX8_init 288 = .ok (.istore_n 3, 1) := by decide +kernel
theorem dX8_init_289 : decode cX8_init 289 = .ok (.iload_n 3, 1) := by decide +kernel
theorem dX8_init_290 : decode cX8_init 290 = .ok (.bipush 10, 2) := by decide +kernel
theorem dX8_init_292 : decode cX8_init 292 = .ok (.if_icmp .ge 22, 3) := by decide +kernel
theorem dX8_init_295 : decode cX8_init 295 = .ok (.aload_n 0, 1) := by decide +kernel
theorem dX8_init_296 : decode cX8_init 296 = .ok (.getfield 17, 3) := by decide +kernel
theorem dX8_init_299 : decode cX8_init 299 = .ok (.iload_n 2, 1) := by decide +kernel
theorem dX8_init_300 : decode cX8_init 300 = .ok (.bipush 48, 2) := by decide +kernel
theorem dX8_init_302 : decode cX8_init 302 = .ok (.iload_n 3, 1) := by decide +kernel
theorem dX8_init_303 : decode cX8_init 303 = .ok (.iadd, 1) := by decide +kernel
theorem dX8_init_304 : decode cX8_init 304 = .ok (.iastore, 1) := by decide +kernel
theorem dX8_init_305 : decode cX8_init 305 = .ok (.iinc 2 1, 3) := by decide +kernel
theorem dX8_init_308 : decode cX8_init 308 = .ok (.iinc 3 1, 3) := by decide +kernel
theorem dX8_init_311 : decode cX8_init 311 = .ok (.goto (-22), 3) := by decide +kernel
theorem dX8_init_314 : decode cX8_init 314 = .ok (.iconst 0, 1) := by decide +kernel
theorem dX8_init_315 : decode cX8_init 315 = .ok (.istore_n 3, 1) := by decide +kernel
theorem dX8_init_316 : decode cX8_init 316 = .ok (.iload_n 3, 1) := by decide +kernel
theorem dX8_init_317 : decode cX8_init 317 = .ok (.bipush 15, 2) := by decide +kernel
theorem dX8_init_319 : decode cX8_init 319 = .ok (.if_icmp .ge 36, 3) := by decide +kernel
theorem dX8_init_322 : decode cX8_init 322 = .ok (.iload_n 3, 1) := by decide +kernel
theorem dX8_init_323 : decode cX8_init 323 = .ok (.bipush 10, 2) := by decide +kernel
theorem dX8_init_325 : decode cX8_init 325 = .ok (.if_icmp .ne 11, 3) := by decide +kernel
theorem dX8_init_328 : decode cX8_init 328 = .ok (.aload_n 0, 1) := by decide +kernel
theorem dX8_init_329 : decode cX8_init 329 = .ok (.getfield 83, 3) := by decide +kernel
theorem dX8_init_332 : decode cX8_init 332 = .ok (.iconst 1, 1) := by decide +kernel
theorem dX8_init_333 : decode cX8_init 333 = .ok (.if_icmp .ne 16, 3) := by decide +kernel
theorem dX8_init_336 : decode cX8_init 336 = .ok (.aload_n 0, 1) := by decide +kernel
theorem dX8_init_337 : decode cX8_init 337 = .ok (.getfield 17, 3) := by decide +kernel
theorem dX8_init_340 : decode cX8_init 340 = .ok (.iload_n 2, 1) := by decide +kernel
theorem dX8_init_341 : decode cX8_init 341 = .ok (.iload_n 3, 1) := by decide +kernel
theorem dX8_init_342 : decode cX8_init 342 = .ok (.invokestatic 87, 3) := by decide +kernel
theorem dX8_init_345 : decode cX8_init 345 = .ok (.iastore, 1) := by decide +kernel
theorem dX8_init_346 : decode cX8_init 346 = .ok (.iinc 2 1, 3) := by decide +kernel
theorem dX8_init_349 : decode cX8_init 349 = .ok (.iinc 3 1, 3) := by decide +kernel
theorem dX8_init_352 : decode cX8_init 352 = .ok (.goto (-36), 3) := by decide +kernel
theorem dX8_init_355 : decode cX8_init 355 = .ok (.iconst 0, 1) := by decide +kernel
theorem dX8_init_356 : decode cX8_init 356 = .ok (.istore_n 3, 1) := by decide +kernel
theorem dX8_init_357 : decode cX8_init 357 = .ok (.iload_n 3, 1) := by decide +kernel
theorem dX8_init_358 : decode cX8_init 358 = .ok (.bipush 96, 2) := by decide +kernel
theorem dX8_init_360 : decode cX8_init 360 = .ok (.if_icmp .ge 16, 3) := by decide +kernel
theorem dX8_init_363 : decode cX8_init 363 = .ok (.aload_n 0, 1) := by decide +kernel
theorem dX8_init_364 : decode cX8_init 364 = .ok (.getfield 20, 3) := by decide +kernel
theorem dX8_init_367 : decode cX8_init 367 = .ok (.iload_n 3, 1) := by decide +kernel
theorem dX8_init_368 : decode cX8_init 368 = .ok (.iconst (-1), 1) := by decide +kernel
theorem dX8_init_369 : decode cX8_init 369 = .ok (.iastore, 1) := by decide +kernel
theorem dX8_init_370 : decode cX8_init 370 = .ok (.iinc 3 1, 3) := by decide +kernel
theorem dX8_init_373 : decode cX8_init 373 = .ok (.goto (-16), 3) := by decide +kernel
theorem dX8_init_376 : decode cX8_init 376 = .ok (.return_, 1) := by decide +kernel
theorem dX8_sign15_0 : decode cX8_sign15 0 = .ok (.iload_n 0, 1) := by decide +kernel
theorem dX8_sign15_1 : decode cX8_sign15 1 = .ok (.tableswitch 113 0 13 #[71, 74, 77, 80, 83, 86, 89, 92, 95, 98, 101, 104, 107, 110], 71) := by decide +kernel
theorem dX8_sign15_72 : decode cX8_sign15 72 = .ok (.bipush 46, 2) := by decide +kernel
theorem dX8_sign15_74 : decode cX8_sign15 74 = .ok (.ireturn, 1) := by decide +kernel
theorem dX8_sign15_75 : decode cX8_sign15 75 = .ok (.bipush 44, 2) := by decide +kernel
theorem dX8_sign15_77 : decode cX8_sign15 77 = .ok (.ireturn, 1) := by decide +kernel
theorem dX8_sign15_78 : decode cX8_sign15 78 = .ok (.bipush 33, 2) := by decide +kernel
theorem dX8_sign15_80 : decode cX8_sign15 80 = .ok (.ireturn, 1) := by decide +kernel
theorem dX8_sign15_81 : decode cX8_sign15 81 = .ok (.bipush 63, 2) := by decide +kernel
theorem dX8_sign15_83 : decode cX8_sign15 83 = .ok (.ireturn, 1) := by decide +kernel
theorem dX8_sign15_84 : decode cX8_sign15 84 = .ok (.bipush 95, 2) := by decide +kernel
theorem dX8_sign15_86 : decode cX8_sign15 86 = .ok (.ireturn, 1) := by decide +kernel
theorem dX8_sign15_87 : decode cX8_sign15 87 = .ok (.bipush 35, 2) := by decide +kernel
theorem dX8_sign15_89 : decode cX8_sign15 89 = .ok (.ireturn, 1) := by decide +kernel
theorem dX8_sign15_90 : decode cX8_sign15 90 = .ok (.bipush 39, 2) := by decide +kernel
theorem dX8_sign15_92 : decode cX8_sign15 92 = .ok (.ireturn, 1) := by decide +kernel
theorem dX8_sign15_93 : decode cX8_sign15 93 = .ok (.bipush 34, 2) := by decide +kernel
theorem dX8_sign15_95 : decode cX8_sign15 95 = .ok (.ireturn, 1) := by decide +kernel
theorem dX8_sign15_96 : decode cX8_sign15 96 = .ok (.bipush 47, 2) := by decide +kernel
theorem dX8_sign15_98 : decode cX8_sign15 98 = .ok (.ireturn, 1) := by decide +kernel
theorem dX8_sign15_99 : decode cX8_sign15 99 = .ok (.bipush 92, 2) := by decide +kernel
theorem dX8_sign15_101 : decode cX8_sign15 101 = .ok (.ireturn, 1) := by decide +kernel
theorem dX8_sign15_102 : decode cX8_sign15 102 = .ok (.bipush 60, 2) := by decide +kernel
theorem dX8_sign15_104 : decode cX8_sign15 104 = .ok (.ireturn, 1) := by decide +kernel
theorem dX8_sign15_105 : decode cX8_sign15 105 = .ok (.bipush 45, 2) := by decide +kernel
theorem dX8_sign15_107 : decode cX8_sign15 107 = .ok (.ireturn, 1) := by decide +kernel
theorem dX8_sign15_108 : decode cX8_sign15 108 = .ok (.bipush 58, 2) := by decide +kernel
theorem dX8_sign15_110 : decode cX8_sign15 110 = .ok (.ireturn, 1) := by decide +kernel
theorem dX8_sign15_111 : decode cX8_sign15 111 = .ok (.bipush 40, 2) := by decide +kernel
theorem dX8_sign15_113 : decode cX8_sign15 113 = .ok (.ireturn, 1) := by decide +kernel
theorem dX8_sign15_114 : decode cX8_sign15 114 = .ok (.bipush 41, 2) := by decide +kernel
theorem dX8_sign15_116 : decode cX8_sign15 116 = .ok (.ireturn, 1) := by decide +kernel
theorem dX8_version_0 : decode cX8_version 0 = .ok (.aload_n 0, 1) := by decide +kernel
theorem dX8_version_1 : decode cX8_version 1 = .ok (.getfield 83, 3) := by decide +kernel
theorem dX8_version_4 : decode cX8_version 4 = .ok (.ireturn, 1) := by decide +kernel
theorem dX8_feed_0 : decode cX8_feed 0 = .ok (.iload_n 3, 1) := by decide +kernel
theorem dX8_feed_1 : decode cX8_feed 1 = .ok (.ifCond .lt 9, 3) := by decide +kernel
theorem dX8_feed_4 : decode cX8_feed 4 = .ok (.iload_n 3, 1) := by decide +kernel
theorem dX8_feed_5 : decode cX8_feed 5 = .ok (.bipush 8, 2) := by decide +kernel
theorem dX8_feed_7 : decode cX8_feed 7 = .ok (.if_icmp .le 6, 3) := by decide +kernel
theorem dX8_feed_10 : decode cX8_feed 10 = .ok (.bipush (-2), 2) := by decide +kernel
theorem dX8_feed_12 : decode cX8_feed 12 = .ok (.ireturn, 1) := by decide +kernel
theorem dX8_feed_13 : decode cX8_feed 13 = .ok (.aload_n 0, 1) := by decide +kernel
theorem dX8_feed_14 : decode cX8_feed 14 = .ok (.getfield 91, 3) := by decide +kernel
theorem dX8_feed_17 : decode cX8_feed 17 = .ok (.iload_n 3, 1) := by decide +kernel
theorem dX8_feed_18 : decode cX8_feed 18 = .ok (.iadd, 1) := by decide +kernel
theorem dX8_feed_19 : decode cX8_feed 19 = .ok (.sipush 3000, 3) := by decide +kernel
theorem dX8_feed_22 : decode cX8_feed 22 = .ok (.if_icmp .le 6, 3) := by decide +kernel
theorem dX8_feed_25 : decode cX8_feed 25 = .ok (.bipush (-4), 2) := by decide +kernel
theorem dX8_feed_27 : decode cX8_feed 27 = .ok (.ireturn, 1) := by decide +kernel
theorem dX8_feed_28 : decode cX8_feed 28 = .ok (.iload_n 3, 1) := by decide +kernel
theorem dX8_feed_29 : decode cX8_feed 29 = .ok (.iconst 1, 1) := by decide +kernel
theorem dX8_feed_30 : decode cX8_feed 30 = .ok (.isub, 1) := by decide +kernel
theorem dX8_feed_31 : decode cX8_feed 31 = .ok (.istore 4, 2) := by decide +kernel
theorem dX8_feed_33 : decode cX8_feed 33 = .ok (.iload 4, 2) := by decide +kernel
theorem dX8_feed_35 : decode cX8_feed 35 = .ok (.ifCond .lt 37, 3) := by decide +kernel
theorem dX8_feed_38 : decode cX8_feed 38 = .ok (.aload_n 0, 1) := by decide +kernel
theorem dX8_feed_39 : decode cX8_feed 39 = .ok (.getfield 7, 3) := by decide +kernel
theorem dX8_feed_42 : decode cX8_feed 42 = .ok (.aload_n 0, 1) := by decide +kernel
theorem dX8_feed_43 : decode cX8_feed 43 = .ok (.getfield 91, 3) := by decide +kernel
theorem dX8_feed_46 : decode cX8_feed 46 = .ok (.lload_n 1, 1) := by decide +kernel
theorem dX8_feed_47 : decode cX8_feed 47 = .ok (.bipush 8, 2) := by decide +kernel
theorem dX8_feed_49 : decode cX8_feed 49 = .ok (.iload 4, 2) := by decide +kernel
theorem dX8_feed_51 : decode cX8_feed 51 = .ok (.imul, 1) := by decide +kernel
theorem dX8_feed_52 : decode cX8_feed 52 = .ok (.lushr, 1) := by decide +kernel
theorem dX8_feed_53 : decode cX8_feed 53 = .ok (.l2i, 1) := by decide +kernel
theorem dX8_feed_54 : decode cX8_feed 54 = .ok (.i2b, 1) := by decide +kernel
theorem dX8_feed_55 : decode cX8_feed 55 = .ok (.bastore, 1) := by decide +kernel
theorem dX8_feed_56 : decode cX8_feed 56 = .ok (.aload_n 0, 1) := by decide +kernel
theorem dX8_feed_57 : decode cX8_feed 57 = .ok (.dup, 1) := by decide +kernel
theorem dX8_feed_58 : decode cX8_feed 58 = .ok (.getfield 91, 3) := by decide +kernel
theorem dX8_feed_61 : decode cX8_feed 61 = .ok (.iconst 1, 1) := by decide +kernel
theorem dX8_feed_62 : decode cX8_feed 62 = .ok (.iadd, 1) := by decide +kernel
theorem dX8_feed_63 : decode cX8_feed 63 = .ok (.putfield 91, 3) := by decide +kernel
theorem dX8_feed_66 : decode cX8_feed 66 = .ok (.iinc 4 (-1), 3) := by decide +kernel
theorem dX8_feed_69 : decode cX8_feed 69 = .ok (.goto (-36), 3) := by decide +kernel
theorem dX8_feed_72 : decode cX8_feed 72 = .ok (.aload_n 0, 1) := by decide +kernel
theorem dX8_feed_73 : decode cX8_feed 73 = .ok (.getfield 91, 3) := by decide +kernel
theorem dX8_feed_76 : decode cX8_feed 76 = .ok (.ireturn, 1) := by decide +kernel
theorem dX8_byteAt_0 : decode cX8_byteAt 0 = .ok (.iload_n 1, 1) := by decide +kernel
theorem dX8_byteAt_1 : decode cX8_byteAt 1 = .ok (.ifCond .lt 24, 3) := by decide +kernel
theorem dX8_byteAt_4 : decode cX8_byteAt 4 = .ok (.iload_n 1, 1) := by decide +kernel
theorem dX8_byteAt_5 : decode cX8_byteAt 5 = .ok (.aload_n 0, 1) := by decide +kernel
theorem dX8_byteAt_6 : decode cX8_byteAt 6 = .ok (.getfield 91, 3) := by decide +kernel
theorem dX8_byteAt_9 : decode cX8_byteAt 9 = .ok (.if_icmp .ge 16, 3) := by decide +kernel
theorem dX8_byteAt_12 : decode cX8_byteAt 12 = .ok (.aload_n 0, 1) := by decide +kernel
theorem dX8_byteAt_13 : decode cX8_byteAt 13 = .ok (.getfield 7, 3) := by decide +kernel
theorem dX8_byteAt_16 : decode cX8_byteAt 16 = .ok (.iload_n 1, 1) := by decide +kernel
theorem dX8_byteAt_17 : decode cX8_byteAt 17 = .ok (.baload, 1) := by decide +kernel
theorem dX8_byteAt_18 : decode cX8_byteAt 18 = .ok (.sipush 255, 3) := by decide +kernel
theorem dX8_byteAt_21 : decode cX8_byteAt 21 = .ok (.iand, 1) := by decide +kernel
theorem dX8_byteAt_22 : decode cX8_byteAt 22 = .ok (.goto 4, 3) := by decide +kernel
theorem dX8_byteAt_25 : decode cX8_byteAt 25 = .ok (.iconst (-1), 1) := by decide +kernel
theorem dX8_byteAt_26 : decode cX8_byteAt 26 = .ok (.ireturn, 1) := by decide +kernel
theorem dX8_poke_0 : decode cX8_poke 0 = .ok (.iload_n 1, 1) := by decide +kernel
theorem dX8_poke_1 : decode cX8_poke 1 = .ok (.ifCond .lt 11, 3) := by decide +kernel
theorem dX8_poke_4 : decode cX8_poke 4 = .ok (.iload_n 1, 1) := by decide +kernel
theorem dX8_poke_5 : decode cX8_poke 5 = .ok (.aload_n 0, 1) := by decide +kernel
theorem dX8_poke_6 : decode cX8_poke 6 = .ok (.getfield 91, 3) := by decide +kernel
theorem dX8_poke_9 : decode cX8_poke 9 = .ok (.if_icmp .lt 5, 3) := by decide +kernel
theorem dX8_poke_12 : decode cX8_poke 12 = .ok (.iconst (-1), 1) := by decide +kernel
theorem dX8_poke_13 : decode cX8_poke 13 = .ok (.ireturn, 1) := by decide +kernel
theorem dX8_poke_14 : decode cX8_poke 14 = .ok (.iload_n 2, 1) := by decide +kernel
theorem dX8_poke_15 : decode cX8_poke 15 = .ok (.ifCond .lt 10, 3) := by decide +kernel
theorem dX8_poke_18 : decode cX8_poke 18 = .ok (.iload_n 2, 1) := by decide +kernel
theorem dX8_poke_19 : decode cX8_poke 19 = .ok (.sipush 255, 3) := by decide +kernel
theorem dX8_poke_22 : decode cX8_poke 22 = .ok (.if_icmp .le 6, 3) := by decide +kernel
theorem dX8_poke_25 : decode cX8_poke 25 = .ok (.bipush (-2), 2) := by decide +kernel
theorem dX8_poke_27 : decode cX8_poke 27 = .ok (.ireturn, 1) := by decide +kernel
theorem dX8_poke_28 : decode cX8_poke 28 = .ok (.aload_n 0, 1) := by decide +kernel
theorem dX8_poke_29 : decode cX8_poke 29 = .ok (.getfield 7, 3) := by decide +kernel
theorem dX8_poke_32 : decode cX8_poke 32 = .ok (.iload_n 1, 1) := by decide +kernel
theorem dX8_poke_33 : decode cX8_poke 33 = .ok (.baload, 1) := by decide +kernel
theorem dX8_poke_34 : decode cX8_poke 34 = .ok (.sipush 255, 3) := by decide +kernel
theorem dX8_poke_37 : decode cX8_poke 37 = .ok (.iand, 1) := by decide +kernel
theorem dX8_poke_38 : decode cX8_poke 38 = .ok (.istore_n 3, 1) := by decide +kernel
theorem dX8_poke_39 : decode cX8_poke 39 = .ok (.aload_n 0, 1) := by decide +kernel
theorem dX8_poke_40 : decode cX8_poke 40 = .ok (.getfield 7, 3) := by decide +kernel
theorem dX8_poke_43 : decode cX8_poke 43 = .ok (.iload_n 1, 1) := by decide +kernel
theorem dX8_poke_44 : decode cX8_poke 44 = .ok (.iload_n 2, 1) := by decide +kernel
theorem dX8_poke_45 : decode cX8_poke 45 = .ok (.i2b, 1) := by decide +kernel
theorem dX8_poke_46 : decode cX8_poke 46 = .ok (.bastore, 1) := by decide +kernel
theorem dX8_poke_47 : decode cX8_poke 47 = .ok (.iload_n 3, 1) := by decide +kernel
theorem dX8_poke_48 : decode cX8_poke 48 = .ok (.ireturn, 1) := by decide +kernel
theorem dX8_keep_0 : decode cX8_keep 0 = .ok (.iload_n 1, 1) := by decide +kernel
theorem dX8_keep_1 : decode cX8_keep 1 = .ok (.ifCond .lt 11, 3) := by decide +kernel
theorem dX8_keep_4 : decode cX8_keep 4 = .ok (.iload_n 1, 1) := by decide +kernel
theorem dX8_keep_5 : decode cX8_keep 5 = .ok (.aload_n 0, 1) := by decide +kernel
theorem dX8_keep_6 : decode cX8_keep 6 = .ok (.getfield 91, 3) := by decide +kernel
theorem dX8_keep_9 : decode cX8_keep 9 = .ok (.if_icmp .le 6, 3) := by decide +kernel
theorem dX8_keep_12 : decode cX8_keep 12 = .ok (.bipush (-2), 2) := by decide +kernel
theorem dX8_keep_14 : decode cX8_keep 14 = .ok (.ireturn, 1) := by decide +kernel
theorem dX8_keep_15 : decode cX8_keep 15 = .ok (.aload_n 0, 1) := by decide +kernel
theorem dX8_keep_16 : decode cX8_keep 16 = .ok (.getfield 91, 3) := by decide +kernel
theorem dX8_keep_19 : decode cX8_keep 19 = .ok (.istore_n 2, 1) := by decide +kernel
theorem dX8_keep_20 : decode cX8_keep 20 = .ok (.aload_n 0, 1) := by decide +kernel
theorem dX8_keep_21 : decode cX8_keep 21 = .ok (.iload_n 1, 1) := by decide +kernel
theorem dX8_keep_22 : decode cX8_keep 22 = .ok (.putfield 91, 3) := by decide +kernel
theorem dX8_keep_25 : decode cX8_keep 25 = .ok (.iload_n 2, 1) := by decide +kernel
theorem dX8_keep_26 : decode cX8_keep 26 = .ok (.ireturn, 1) := by decide +kernel
theorem dX8_sign_0 : decode cX8_sign 0 = .ok (.iload_n 1, 1) := by decide +kernel
theorem dX8_sign_1 : decode cX8_sign 1 = .ok (.iconst (-1), 1) := by decide +kernel
theorem dX8_sign_2 : decode cX8_sign 2 = .ok (.if_icmp .lt 10, 3) := by decide +kernel
theorem dX8_sign_5 : decode cX8_sign 5 = .ok (.iload_n 1, 1) := by decide +kernel
theorem dX8_sign_6 : decode cX8_sign 6 = .ok (.sipush 1023, 3) := by decide +kernel
theorem dX8_sign_9 : decode cX8_sign 9 = .ok (.if_icmp .le 6, 3) := by decide +kernel
theorem dX8_sign_12 : decode cX8_sign 12 = .ok (.bipush (-2), 2) := by decide +kernel
theorem dX8_sign_14 : decode cX8_sign 14 = .ok (.ireturn, 1) := by decide +kernel
theorem dX8_sign_15 : decode cX8_sign 15 = .ok (.iload_n 1, 1) := by decide +kernel
theorem dX8_sign_16 : decode cX8_sign 16 = .ok (.ifCond .ge 10, 3) := by decide +kernel
theorem dX8_sign_19 : decode cX8_sign 19 = .ok (.aload_n 0, 1) := by decide +kernel
theorem dX8_sign_20 : decode cX8_sign 20 = .ok (.iconst 0, 1) := by decide +kernel
theorem dX8_sign_21 : decode cX8_sign 21 = .ok (.putfield 94, 3) := by decide +kernel
theorem dX8_sign_24 : decode cX8_sign 24 = .ok (.iconst 0, 1) := by decide +kernel
theorem dX8_sign_25 : decode cX8_sign 25 = .ok (.ireturn, 1) := by decide +kernel
theorem dX8_sign_26 : decode cX8_sign 26 = .ok (.aload_n 0, 1) := by decide +kernel
theorem dX8_sign_27 : decode cX8_sign 27 = .ok (.getfield 94, 3) := by decide +kernel
theorem dX8_sign_30 : decode cX8_sign 30 = .ok (.sipush 1000, 3) := by decide +kernel
theorem dX8_sign_33 : decode cX8_sign 33 = .ok (.if_icmp .ne 6, 3) := by decide +kernel
theorem dX8_sign_36 : decode cX8_sign 36 = .ok (.bipush (-4), 2) := by decide +kernel
theorem dX8_sign_38 : decode cX8_sign 38 = .ok (.ireturn, 1) := by decide +kernel
theorem dX8_sign_39 : decode cX8_sign 39 = .ok (.aload_n 0, 1) := by decide +kernel
theorem dX8_sign_40 : decode cX8_sign 40 = .ok (.getfield 13, 3) := by decide +kernel
theorem dX8_sign_43 : decode cX8_sign 43 = .ok (.aload_n 0, 1) := by decide +kernel
theorem dX8_sign_44 : decode cX8_sign 44 = .ok (.getfield 94, 3) := by decide +kernel
theorem dX8_sign_47 : decode cX8_sign 47 = .ok (.iload_n 1, 1) := by decide +kernel
theorem dX8_sign_48 : decode cX8_sign 48 = .ok (.iastore, 1) := by decide +kernel
theorem dX8_sign_49 : decode cX8_sign 49 = .ok (.aload_n 0, 1) := by decide +kernel
theorem dX8_sign_50 : decode cX8_sign 50 = .ok (.dup, 1) := by decide +kernel
theorem dX8_sign_51 : decode cX8_sign 51 = .ok (.getfield 94, 3) := by decide +kernel
theorem dX8_sign_54 : decode cX8_sign 54 = .ok (.iconst 1, 1) := by decide +kernel
theorem dX8_sign_55 : decode cX8_sign 55 = .ok (.iadd, 1) := by decide +kernel
theorem dX8_sign_56 : decode cX8_sign 56 = .ok (.putfield 94, 3) := by decide +kernel
theorem dX8_sign_59 : decode cX8_sign 59 = .ok (.aload_n 0, 1) := by decide +kernel
theorem dX8_sign_60 : decode cX8_sign 60 = .ok (.getfield 94, 3) := by decide +kernel
theorem dX8_sign_63 : decode cX8_sign 63 = .ok (.ireturn, 1) := by decide +kernel
theorem dX8_type_0 : decode cX8_type 0 = .ok (.iload_n 3, 1) := by decide +kernel
theorem dX8_type_1 : decode cX8_type 1 = .ok (.ifCond .lt 9, 3) := by decide +kernel
theorem dX8_type_4 : decode cX8_type 4 = .ok (.iload_n 3, 1) := by decide +kernel
theorem dX8_type_5 : decode cX8_type 5 = .ok (.bipush 8, 2) := by decide +kernel
theorem dX8_type_7 : decode cX8_type 7 = .ok (.if_icmp .le 6, 3) := by decide +kernel
theorem dX8_type_10 : decode cX8_type 10 = .ok (.bipush (-2), 2) := by decide +kernel
theorem dX8_type_12 : decode cX8_type 12 = .ok (.ireturn, 1) := by decide +kernel
theorem dX8_type_13 : decode cX8_type 13 = .ok (.aload_n 0, 1) := by decide +kernel
theorem dX8_type_14 : decode cX8_type 14 = .ok (.getfield 94, 3) := by decide +kernel
theorem dX8_type_17 : decode cX8_type 17 = .ok (.iload_n 3, 1) := by decide +kernel
theorem dX8_type_18 : decode cX8_type 18 = .ok (.iadd, 1) := by decide +kernel
theorem dX8_type_19 : decode cX8_type 19 = .ok (.sipush 1000, 3) := by decide +kernel
theorem dX8_type_22 : decode cX8_type 22 = .ok (.if_icmp .le 6, 3) := by decide +kernel
theorem dX8_type_25 : decode cX8_type 25 = .ok (.bipush (-4), 2) := by decide +kernel
theorem dX8_type_27 : decode cX8_type 27 = .ok (.ireturn, 1) := by decide +kernel
theorem dX8_type_28 : decode cX8_type 28 = .ok (.iload_n 3, 1) := by decide +kernel
theorem dX8_type_29 : decode cX8_type 29 = .ok (.iconst 1, 1) := by decide +kernel
theorem dX8_type_30 : decode cX8_type 30 = .ok (.isub, 1) := by decide +kernel
theorem dX8_type_31 : decode cX8_type 31 = .ok (.istore 4, 2) := by decide +kernel
theorem dX8_type_33 : decode cX8_type 33 = .ok (.iload 4, 2) := by decide +kernel
theorem dX8_type_35 : decode cX8_type 35 = .ok (.ifCond .lt 40, 3) := by decide +kernel
theorem dX8_type_38 : decode cX8_type 38 = .ok (.aload_n 0, 1) := by decide +kernel
theorem dX8_type_39 : decode cX8_type 39 = .ok (.getfield 13, 3) := by decide +kernel
theorem dX8_type_42 : decode cX8_type 42 = .ok (.aload_n 0, 1) := by decide +kernel
theorem dX8_type_43 : decode cX8_type 43 = .ok (.getfield 94, 3) := by decide +kernel
theorem dX8_type_46 : decode cX8_type 46 = .ok (.lload_n 1, 1) := by decide +kernel
theorem dX8_type_47 : decode cX8_type 47 = .ok (.bipush 8, 2) := by decide +kernel
theorem dX8_type_49 : decode cX8_type 49 = .ok (.iload 4, 2) := by decide +kernel
theorem dX8_type_51 : decode cX8_type 51 = .ok (.imul, 1) := by decide +kernel
theorem dX8_type_52 : decode cX8_type 52 = .ok (.lushr, 1) := by decide +kernel
theorem dX8_type_53 : decode cX8_type 53 = .ok (.ldc2_w 97, 3) := by decide +kernel
theorem dX8_type_56 : decode cX8_type 56 = .ok (.land, 1) := by decide +kernel
theorem dX8_type_57 : decode cX8_type 57 = .ok (.l2i, 1) := by decide +kernel
theorem dX8_type_58 : decode cX8_type 58 = .ok (.iastore, 1) := by decide +kernel
theorem dX8_type_59 : decode cX8_type 59 = .ok (.aload_n 0, 1) := by decide +kernel
theorem dX8_type_60 : decode cX8_type 60 = .ok (.dup, 1) := by decide +kernel
theorem dX8_type_61 : decode cX8_type 61 = .ok (.getfield 94, 3) := by decide +kernel
theorem dX8_type_64 : decode cX8_type 64 = .ok (.iconst 1, 1) := by decide +kernel
theorem dX8_type_65 : decode cX8_type 65 = .ok (.iadd, 1) := by decide +kernel
theorem dX8_type_66 : decode cX8_type 66 = .ok (.putfield 94, 3) := by decide +kernel
theorem dX8_type_69 : decode cX8_type 69 = .ok (.iinc 4 (-1), 3) := by decide +kernel
theorem dX8_type_72 : decode cX8_type 72 = .ok (.goto (-39), 3) := by decide +kernel
theorem dX8_type_75 : decode cX8_type 75 = .ok (.aload_n 0, 1) := by decide +kernel
theorem dX8_type_76 : decode cX8_type 76 = .ok (.getfield 94, 3) := by decide +kernel
theorem dX8_type_79 : decode cX8_type 79 = .ok (.ireturn, 1) := by decide +kernel
theorem dX8_size_0 : decode cX8_size 0 = .ok (.aload_n 0, 1) := by decide +kernel
theorem dX8_size_1 : decode cX8_size 1 = .ok (.getfield 94, 3) := by decide +kernel
theorem dX8_size_4 : decode cX8_size 4 = .ok (.ireturn, 1) := by decide +kernel
theorem dX8_at_0 : decode cX8_at 0 = .ok (.iload_n 1, 1) := by decide +kernel
theorem dX8_at_1 : decode cX8_at 1 = .ok (.ifCond .lt 20, 3) := by decide +kernel
theorem dX8_at_4 : decode cX8_at 4 = .ok (.iload_n 1, 1) := by decide +kernel
theorem dX8_at_5 : decode cX8_at 5 = .ok (.aload_n 0, 1) := by decide +kernel
theorem dX8_at_6 : decode cX8_at 6 = .ok (.getfield 94, 3) := by decide +kernel
theorem dX8_at_9 : decode cX8_at 9 = .ok (.if_icmp .ge 12, 3) := by decide +kernel
theorem dX8_at_12 : decode cX8_at 12 = .ok (.aload_n 0, 1) := by decide +kernel
theorem dX8_at_13 : decode cX8_at 13 = .ok (.getfield 13, 3) := by decide +kernel
theorem dX8_at_16 : decode cX8_at 16 = .ok (.iload_n 1, 1) := by decide +kernel
theorem dX8_at_17 : decode cX8_at 17 = .ok (.iaload, 1) := by decide +kernel
theorem dX8_at_18 : decode cX8_at 18 = .ok (.goto 4, 3) := by decide +kernel
theorem dX8_at_21 : decode cX8_at 21 = .ok (.iconst (-1), 1) := by decide +kernel
theorem dX8_at_22 : decode cX8_at 22 = .ok (.ireturn, 1) := by decide +kernel
theorem dX8_alphabet_0 : decode cX8_alphabet 0 = .ok (.aload_n 0, 1) := by decide +kernel
theorem dX8_alphabet_1 : decode cX8_alphabet 1 = .ok (.getfield 83, 3) := by decide +kernel
theorem dX8_alphabet_4 : decode cX8_alphabet 4 = .ok (.iconst 5, 1) := by decide +kernel
theorem dX8_alphabet_5 : decode cX8_alphabet 5 = .ok (.if_icmp .ge 6, 3) := by decide +kernel
theorem dX8_alphabet_8 : decode cX8_alphabet 8 = .ok (.bipush (-3), 2) := by decide +kernel
theorem dX8_alphabet_10 : decode cX8_alphabet 10 = .ok (.ireturn, 1) := by decide +kernel
theorem dX8_alphabet_11 : decode cX8_alphabet 11 = .ok (.iload_n 1, 1) := by decide +kernel
theorem dX8_alphabet_12 : decode cX8_alphabet 12 = .ok (.ifCond .lt 31, 3) := by decide +kernel
theorem dX8_alphabet_15 : decode cX8_alphabet 15 = .ok (.iload_n 1, 1) := by decide +kernel
theorem dX8_alphabet_16 : decode cX8_alphabet 16 = .ok (.iconst 2, 1) := by decide +kernel
theorem dX8_alphabet_17 : decode cX8_alphabet 17 = .ok (.if_icmp .gt 26, 3) := by decide +kernel
theorem dX8_alphabet_20 : decode cX8_alphabet 20 = .ok (.iload_n 2, 1) := by decide +kernel
theorem dX8_alphabet_21 : decode cX8_alphabet 21 = .ok (.bipush 6, 2) := by decide +kernel
theorem dX8_alphabet_23 : decode cX8_alphabet 23 = .ok (.if_icmp .lt 20, 3) := by decide +kernel
theorem dX8_alphabet_26 : decode cX8_alphabet 26 = .ok (.iload_n 2, 1) := by decide +kernel
theorem dX8_alphabet_27 : decode cX8_alphabet 27 = .ok (.bipush 31, 2) := by decide +kernel
theorem dX8_alphabet_29 : decode cX8_alphabet 29 = .ok (.if_icmp .gt 14, 3) := by decide +kernel
theorem dX8_alphabet_32 : decode cX8_alphabet 32 = .ok (.iload_n 1, 1) := by decide +kernel
theorem dX8_alphabet_33 : decode cX8_alphabet 33 = .ok (.iconst 2, 1) := by decide +kernel
theorem dX8_alphabet_34 : decode cX8_alphabet 34 = .ok (.if_icmp .ne 11, 3) := by decide +kernel
theorem dX8_alphabet_37 : decode cX8_alphabet 37 = .ok (.iload_n 2, 1) := by decide +kernel
theorem dX8_alphabet_38 : decode cX8_alphabet 38 = .ok (.bipush 8, 2) := by decide +kernel
theorem dX8_alphabet_40 : decode cX8_alphabet 40 = .ok (.if_icmp .ge 5, 3) := by decide +kernel
theorem dX8_alphabet_43 : decode cX8_alphabet 43 = .ok (.iconst (-1), 1) := by decide +kernel
theorem dX8_alphabet_44 : decode cX8_alphabet 44 = .ok (.ireturn, 1) := by decide +kernel
theorem dX8_alphabet_45 : decode cX8_alphabet 45 = .ok (.iload_n 3, 1) := by decide +kernel
theorem dX8_alphabet_46 : decode cX8_alphabet 46 = .ok (.ifCond .lt 10, 3) := by decide +kernel
theorem dX8_alphabet_49 : decode cX8_alphabet 49 = .ok (.iload_n 3, 1) := by decide +kernel
theorem dX8_alphabet_50 : decode cX8_alphabet 50 = .ok (.sipush 1023, 3) := by decide +kernel
theorem dX8_alphabet_53 : decode cX8_alphabet 53 = .ok (.if_icmp .le 6, 3) := by decide +kernel
theorem dX8_alphabet_56 : decode cX8_alphabet 56 = .ok (.bipush (-2), 2) := by decide +kernel
theorem dX8_alphabet_58 : decode cX8_alphabet 58 = .ok (.ireturn, 1) := by decide +kernel
theorem dX8_alphabet_59 : decode cX8_alphabet 59 = .ok (.aload_n 0, 1) := by decide +kernel
theorem dX8_alphabet_60 : decode cX8_alphabet 60 = .ok (.getfield 17, 3) := by decide +kernel
theorem dX8_alphabet_63 : decode cX8_alphabet 63 = .ok (.bipush 32, 2) := by decide +kernel
theorem dX8_alphabet_65 : decode cX8_alphabet 65 = .ok (.iload_n 1, 1) := by decide +kernel
theorem dX8_alphabet_66 : decode cX8_alphabet 66 = .ok (.imul, 1) := by decide +kernel
theorem dX8_alphabet_67 : decode cX8_alphabet 67 = .ok (.iload_n 2, 1) := by decide +kernel
theorem dX8_alphabet_68 : decode cX8_alphabet 68 = .ok (.iadd, 1) := by decide +kernel
theorem dX8_alphabet_69 : decode cX8_alphabet 69 = .ok (.iaload, 1) := by decide +kernel
theorem dX8_alphabet_70 : decode cX8_alphabet 70 = .ok (.istore 4, 2) := by decide +kernel
theorem dX8_alphabet_72 : decode cX8_alphabet 72 = .ok (.aload_n 0, 1) := by decide +kernel
theorem dX8_alphabet_73 : decode cX8_alphabet 73 = .ok (.getfield 17, 3) := by decide +kernel
theorem dX8_alphabet_76 : decode cX8_alphabet 76 = .ok (.bipush 32, 2) := by decide +kernel
theorem dX8_alphabet_78 : decode cX8_alphabet 78 = .ok (.iload_n 1, 1) := by decide +kernel
theorem dX8_alphabet_79 : decode cX8_alphabet 79 = .ok (.imul, 1) := by decide +kernel
theorem dX8_alphabet_80 : decode cX8_alphabet 80 = .ok (.iload_n 2, 1) := by decide +kernel
theorem dX8_alphabet_81 : decode cX8_alphabet 81 = .ok (.iadd, 1) := by decide +kernel
theorem dX8_alphabet_82 : decode cX8_alphabet 82 = .ok (.iload_n 3, 1) := by decide +kernel
theorem dX8_alphabet_83 : decode cX8_alphabet 83 = .ok (.iastore, 1) := by decide +kernel
theorem dX8_alphabet_84 : decode cX8_alphabet 84 = .ok (.iload 4, 2) := by decide +kernel
theorem dX8_alphabet_86 : decode cX8_alphabet 86 = .ok (.ireturn, 1) := by decide +kernel
theorem dX8_entry_0 : decode cX8_entry 0 = .ok (.iload_n 1, 1) := by decide +kernel
theorem dX8_entry_1 : decode cX8_entry 1 = .ok (.ifCond .lt 9, 3) := by decide +kernel
theorem dX8_entry_4 : decode cX8_entry 4 = .ok (.iload_n 1, 1) := by decide +kernel
theorem dX8_entry_5 : decode cX8_entry 5 = .ok (.bipush 95, 2) := by decide +kernel
theorem dX8_entry_7 : decode cX8_entry 7 = .ok (.if_icmp .le 5, 3) := by decide +kernel
theorem dX8_entry_10 : decode cX8_entry 10 = .ok (.iconst (-1), 1) := by decide +kernel
theorem dX8_entry_11 : decode cX8_entry 11 = .ok (.ireturn, 1) := by decide +kernel
theorem dX8_entry_12 : decode cX8_entry 12 = .ok (.iload_n 2, 1) := by decide +kernel
theorem dX8_entry_13 : decode cX8_entry 13 = .ok (.iconst (-1), 1) := by decide +kernel
theorem dX8_entry_14 : decode cX8_entry 14 = .ok (.if_icmp .lt 10, 3) := by decide +kernel
theorem dX8_entry_17 : decode cX8_entry 17 = .ok (.iload_n 2, 1) := by decide +kernel
theorem dX8_entry_18 : decode cX8_entry 18 = .ok (.sipush 3000, 3) := by decide +kernel
theorem dX8_entry_21 : decode cX8_entry 21 = .ok (.if_icmp .le 6, 3) := by decide +kernel
theorem dX8_entry_24 : decode cX8_entry 24 = .ok (.bipush (-2), 2) := by decide +kernel
theorem dX8_entry_26 : decode cX8_entry 26 = .ok (.ireturn, 1) := by decide +kernel
theorem dX8_entry_27 : decode cX8_entry 27 = .ok (.aload_n 0, 1) := by decide +kernel
theorem dX8_entry_28 : decode cX8_entry 28 = .ok (.getfield 20, 3) := by decide +kernel
theorem dX8_entry_31 : decode cX8_entry 31 = .ok (.iload_n 1, 1) := by decide +kernel
theorem dX8_entry_32 : decode cX8_entry 32 = .ok (.iaload, 1) := by decide +kernel
theorem dX8_entry_33 : decode cX8_entry 33 = .ok (.istore_n 3, 1) := by decide +kernel
theorem dX8_entry_34 : decode cX8_entry 34 = .ok (.aload_n 0, 1) := by decide +kernel
theorem dX8_entry_35 : decode cX8_entry 35 = .ok (.getfield 20, 3) := by decide +kernel
theorem dX8_entry_38 : decode cX8_entry 38 = .ok (.iload_n 1, 1) := by decide +kernel
theorem dX8_entry_39 : decode cX8_entry 39 = .ok (.iload_n 2, 1) := by decide +kernel
theorem dX8_entry_40 : decode cX8_entry 40 = .ok (.iastore, 1) := by decide +kernel
theorem dX8_entry_41 : decode cX8_entry 41 = .ok (.iload_n 3, 1) := by decide +kernel
theorem dX8_entry_42 : decode cX8_entry 42 = .ok (.ireturn, 1) := by decide +kernel
theorem dX8_tell_0 : decode cX8_tell 0 = .ok (.iload_n 1, 1) := by decide +kernel
theorem dX8_tell_1 : decode cX8_tell 1 = .ok (.ifCond .lt 10, 3) := by decide +kernel
theorem dX8_tell_4 : decode cX8_tell 4 = .ok (.iload_n 1, 1) := by decide +kernel
theorem dX8_tell_5 : decode cX8_tell 5 = .ok (.sipush 3000, 3) := by decide +kernel
theorem dX8_tell_8 : decode cX8_tell 8 = .ok (.if_icmp .le 6, 3) := by decide +kernel
theorem dX8_tell_11 : decode cX8_tell 11 = .ok (.bipush (-2), 2) := by decide +kernel
theorem dX8_tell_13 : decode cX8_tell 13 = .ok (.ireturn, 1) := by decide +kernel
theorem dX8_tell_14 : decode cX8_tell 14 = .ok (.aload_n 0, 1) := by decide +kernel
theorem dX8_tell_15 : decode cX8_tell 15 = .ok (.iconst 0, 1) := by decide +kernel
theorem dX8_tell_16 : decode cX8_tell 16 = .ok (.putfield 99, 3) := by decide +kernel
theorem dX8_tell_19 : decode cX8_tell 19 = .ok (.aload_n 0, 1) := by decide +kernel
theorem dX8_tell_20 : decode cX8_tell 20 = .ok (.iconst 0, 1) := by decide +kernel
theorem dX8_tell_21 : decode cX8_tell 21 = .ok (.putfield 103, 3) := by decide +kernel
theorem dX8_tell_24 : decode cX8_tell 24 = .ok (.aload_n 0, 1) := by decide +kernel
theorem dX8_tell_25 : decode cX8_tell 25 = .ok (.iload_n 1, 1) := by decide +kernel
theorem dX8_tell_26 : decode cX8_tell 26 = .ok (.iconst 0, 1) := by decide +kernel
theorem dX8_tell_27 : decode cX8_tell 27 = .ok (.invokevirtual 117, 3) := by decide +kernel
theorem dX8_tell_30 : decode cX8_tell 30 = .ok (.aload_n 0, 1) := by decide +kernel
theorem dX8_tell_31 : decode cX8_tell 31 = .ok (.getfield 99, 3) := by decide +kernel
theorem dX8_tell_34 : decode cX8_tell 34 = .ok (.ifCond .le 16, 3) := by decide +kernel
theorem dX8_tell_37 : decode cX8_tell 37 = .ok (.aload_n 0, 1) := by decide +kernel
theorem dX8_tell_38 : decode cX8_tell 38 = .ok (.iconst 0, 1) := by decide +kernel
theorem dX8_tell_39 : decode cX8_tell 39 = .ok (.putfield 120, 3) := by decide +kernel
theorem dX8_tell_42 : decode cX8_tell 42 = .ok (.bipush (-10), 2) := by decide +kernel
theorem dX8_tell_44 : decode cX8_tell 44 = .ok (.aload_n 0, 1) := by decide +kernel
theorem dX8_tell_45 : decode cX8_tell 45 = .ok (.getfield 99, 3) := by decide +kernel
theorem dX8_tell_48 : decode cX8_tell 48 = .ok (.isub, 1) := by decide +kernel
theorem dX8_tell_49 : decode cX8_tell 49 = .ok (.ireturn, 1) := by decide +kernel
theorem dX8_tell_50 : decode cX8_tell 50 = .ok (.aload_n 0, 1) := by decide +kernel
theorem dX8_tell_51 : decode cX8_tell 51 = .ok (.aload_n 0, 1) := by decide +kernel
theorem dX8_tell_52 : decode cX8_tell 52 = .ok (.getfield 23, 3) := by decide +kernel
theorem dX8_tell_55 : decode cX8_tell 55 = .ok (.iconst 0, 1) := by decide +kernel
theorem dX8_tell_56 : decode cX8_tell 56 = .ok (.iaload, 1) := by decide +kernel
theorem dX8_tell_57 : decode cX8_tell 57 = .ok (.putfield 120, 3) := by decide +kernel
theorem dX8_tell_60 : decode cX8_tell 60 = .ok (.iconst 0, 1) := by decide +kernel
theorem dX8_tell_61 : decode cX8_tell 61 = .ok (.istore_n 2, 1) := by decide +kernel
theorem dX8_tell_62 : decode cX8_tell 62 = .ok (.iload_n 2, 1) := by decide +kernel
theorem dX8_tell_63 : decode cX8_tell 63 = .ok (.aload_n 0, 1) := by decide +kernel
theorem dX8_tell_64 : decode cX8_tell 64 = .ok (.getfield 103, 3) := by decide +kernel
theorem dX8_tell_67 : decode cX8_tell 67 = .ok (.if_icmp .ge 21, 3) := by decide +kernel
theorem dX8_tell_70 : decode cX8_tell 70 = .ok (.aload_n 0, 1) := by decide +kernel
theorem dX8_tell_71 : decode cX8_tell 71 = .ok (.getfield 13, 3) := by decide +kernel
theorem dX8_tell_74 : decode cX8_tell 74 = .ok (.iload_n 2, 1) := by decide +kernel
theorem dX8_tell_75 : decode cX8_tell 75 = .ok (.aload_n 0, 1) := by decide +kernel
theorem dX8_tell_76 : decode cX8_tell 76 = .ok (.getfield 36, 3) := by decide +kernel
theorem dX8_tell_79 : decode cX8_tell 79 = .ok (.iload_n 2, 1) := by decide +kernel
theorem dX8_tell_80 : decode cX8_tell 80 = .ok (.iaload, 1) := by decide +kernel
theorem dX8_tell_81 : decode cX8_tell 81 = .ok (.iastore, 1) := by decide +kernel
theorem dX8_tell_82 : decode cX8_tell 82 = .ok (.iinc 2 1, 3) := by decide +kernel
theorem dX8_tell_85 : decode cX8_tell 85 = .ok (.goto (-23), 3) := by decide +kernel
theorem dX8_tell_88 : decode cX8_tell 88 = .ok (.aload_n 0, 1) := by decide +kernel
theorem dX8_tell_89 : decode cX8_tell 89 = .ok (.aload_n 0, 1) := by decide +kernel
theorem dX8_tell_90 : decode cX8_tell 90 = .ok (.getfield 103, 3) := by decide +kernel
theorem dX8_tell_93 : decode cX8_tell 93 = .ok (.putfield 94, 3) := by decide +kernel
theorem dX8_tell_96 : decode cX8_tell 96 = .ok (.aload_n 0, 1) := by decide +kernel
theorem dX8_tell_97 : decode cX8_tell 97 = .ok (.getfield 94, 3) := by decide +kernel
theorem dX8_tell_100 : decode cX8_tell 100 = .ok (.ireturn, 1) := by decide +kernel
theorem dX8_tellFrom_0 : decode cX8_tellFrom 0 = .ok (.iload_n 2, 1) := by decide +kernel
theorem dX8_tellFrom_1 : decode cX8_tellFrom 1 = .ok (.istore_n 3, 1) := by decide +kernel
theorem dX8_tellFrom_2 : decode cX8_tellFrom 2 = .ok (.aload_n 0, 1) := by decide +kernel
theorem dX8_tellFrom_3 : decode cX8_tellFrom 3 = .ok (.iload_n 3, 1) := by decide +kernel
theorem dX8_tellFrom_4 : decode cX8_tellFrom 4 = .ok (.iload_n 1, 1) := by decide +kernel
theorem dX8_tellFrom_5 : decode cX8_tellFrom 5 = .ok (.invokevirtual 106, 3) := by decide +kernel
theorem dX8_tellFrom_8 : decode cX8_tellFrom 8 = .ok (.iconst 0, 1) := by decide +kernel
theorem dX8_tellFrom_9 : decode cX8_tellFrom 9 = .ok (.istore 4, 2) := by decide +kernel
theorem dX8_tellFrom_11 : decode cX8_tellFrom 11 = .ok (.iconst 0, 1) := by decide +kernel
theorem dX8_tellFrom_12 : decode cX8_tellFrom 12 = .ok (.istore 5, 2) := by decide +kernel
theorem dX8_tellFrom_14 : decode cX8_tellFrom 14 = .ok (.iconst (-1), 1) := by decide +kernel
theorem dX8_tellFrom_15 : decode cX8_tellFrom 15 = .ok (.istore 6, 2) := by decide +kernel
theorem dX8_tellFrom_17 : decode cX8_tellFrom 17 = .ok (.aload_n 0, 1) := by decide +kernel
theorem dX8_tellFrom_18 : decode cX8_tellFrom 18 = .ok (.getfield 99, 3) := by decide +kernel
theorem dX8_tellFrom_21 : decode cX8_tellFrom 21 = .ok (.ifCond .ne 347, 3) := by decide +kernel
theorem dX8_tellFrom_24 : decode cX8_tellFrom 24 = .ok (.aload_n 0, 1) := by decide +kernel
theorem dX8_tellFrom_25 : decode cX8_tellFrom 25 = .ok (.iload_n 3, 1) := by decide +kernel
theorem dX8_tellFrom_26 : decode cX8_tellFrom 26 = .ok (.invokevirtual 110, 3) := by decide +kernel
theorem dX8_tellFrom_29 : decode cX8_tellFrom 29 = .ok (.istore 7, 2) := by decide +kernel
theorem dX8_tellFrom_31 : decode cX8_tellFrom 31 = .ok (.aload_n 0, 1) := by decide +kernel
theorem dX8_tellFrom_32 : decode cX8_tellFrom 32 = .ok (.getfield 99, 3) := by decide +kernel
theorem dX8_tellFrom_35 : decode cX8_tellFrom 35 = .ok (.ifCond .le 4, 3) := by decide +kernel
theorem dX8_tellFrom_38 : decode cX8_tellFrom 38 = .ok (.return_, 1) := by decide +kernel
theorem dX8_tellFrom_39 : decode cX8_tellFrom 39 = .ok (.iload 7, 2) := by decide +kernel
theorem dX8_tellFrom_41 : decode cX8_tellFrom 41 = .ok (.ifCond .ge 21, 3) := by decide +kernel
theorem dX8_tellFrom_44 : decode cX8_tellFrom 44 = .ok (.iload_n 3, 1) := by decide +kernel
theorem dX8_tellFrom_45 : decode cX8_tellFrom 45 = .ok (.iload_n 2, 1) := by decide +kernel
theorem dX8_tellFrom_46 : decode cX8_tellFrom 46 = .ok (.if_icmp .ne 4, 3) := by decide +kernel
theorem dX8_tellFrom_49 : decode cX8_tellFrom 49 = .ok (.return_, 1) := by decide +kernel
theorem dX8_tellFrom_50 : decode cX8_tellFrom 50 = .ok (.iload_n 2, 1) := by decide +kernel
theorem dX8_tellFrom_51 : decode cX8_tellFrom 51 = .ok (.istore_n 3, 1) := by decide +kernel
theorem dX8_tellFrom_52 : decode cX8_tellFrom 52 = .ok (.iload 4, 2) := by decide +kernel
theorem dX8_tellFrom_54 : decode cX8_tellFrom 54 = .ok (.istore 5, 2) := by decide +kernel
theorem dX8_tellFrom_56 : decode cX8_tellFrom 56 = .ok (.iconst (-1), 1) := by decide +kernel
theorem dX8_tellFrom_57 : decode cX8_tellFrom 57 = .ok (.istore 6, 2) := by decide +kernel
theorem dX8_tellFrom_59 : decode cX8_tellFrom 59 = .ok (.goto (-42), 3) := by decide +kernel
theorem dX8_tellFrom_62 : decode cX8_tellFrom 62 = .ok (.iload 6, 2) := by decide +kernel
theorem dX8_tellFrom_64 : decode cX8_tellFrom 64 = .ok (.ifCond .lt 8, 3) := by decide +kernel
theorem dX8_tellFrom_67 : decode cX8_tellFrom 67 = .ok (.iload 6, 2) := by decide +kernel
theorem dX8_tellFrom_69 : decode cX8_tellFrom 69 = .ok (.goto 5, 3) := by decide +kernel
theorem dX8_tellFrom_72 : decode cX8_tellFrom 72 = .ok (.iload 5, 2) := by decide +kernel
theorem dX8_tellFrom_74 : decode cX8_tellFrom 74 = .ok (.istore 8, 2) := by decide +kernel
theorem dX8_tellFrom_76 : decode cX8_tellFrom 76 = .ok (.iconst (-1), 1) := by decide +kernel
theorem dX8_tellFrom_77 : decode cX8_tellFrom 77 = .ok (.istore 6, 2) := by decide +kernel
theorem dX8_tellFrom_79 : decode cX8_tellFrom 79 = .ok (.aload_n 0, 1) := by decide +kernel
theorem dX8_tellFrom_80 : decode cX8_tellFrom 80 = .ok (.getfield 83, 3) := by decide +kernel
theorem dX8_tellFrom_83 : decode cX8_tellFrom 83 = .ok (.iconst 3, 1) := by decide +kernel
theorem dX8_tellFrom_84 : decode cX8_tellFrom 84 = .ok (.if_icmp .ge 7, 3) := by decide +kernel
theorem dX8_tellFrom_87 : decode cX8_tellFrom 87 = .ok (.iconst 1, 1) := by decide +kernel
theorem dX8_tellFrom_88 : decode cX8_tellFrom 88 = .ok (.goto 4, 3) := by decide +kernel
theorem dX8_tellFrom_91 : decode cX8_tellFrom 91 = .ok (.iconst 0, 1) := by decide +kernel
theorem dX8_tellFrom_92 : decode cX8_tellFrom 92 = .ok (.istore 9, 2) := by decide +kernel
theorem dX8_tellFrom_94 : decode cX8_tellFrom 94 = .ok (.iload 7, 2) := by decide +kernel
theorem dX8_tellFrom_96 : decode cX8_tellFrom 96 = .ok (.ifCond .ne 12, 3) := by decide +kernel
theorem dX8_tellFrom_99 : decode cX8_tellFrom 99 = .ok (.aload_n 0, 1) := by decide +kernel
theorem dX8_tellFrom_100 : decode cX8_tellFrom 100 = .ok (.bipush 32, 2) := by decide +kernel
theorem dX8_tellFrom_102 : decode cX8_tellFrom 102 = .ok (.invokevirtual 113, 3) := by decide +kernel
theorem dX8_tellFrom_105 : decode cX8_tellFrom 105 = .ok (.goto 260, 3) := by decide +kernel
theorem dX8_tellFrom_108 : decode cX8_tellFrom 108 = .ok (.iload 7, 2) := by decide +kernel
theorem dX8_tellFrom_110 : decode cX8_tellFrom 110 = .ok (.iconst 1, 1) := by decide +kernel
theorem dX8_tellFrom_111 : decode cX8_tellFrom 111 = .ok (.if_icmp .ne 20, 3) := by decide +kernel
theorem dX8_tellFrom_114 : decode cX8_tellFrom 114 = .ok (.aload_n 0, 1) := by decide +kernel
theorem dX8_tellFrom_115 : decode cX8_tellFrom 115 = .ok (.getfield 83, 3) := by decide +kernel
theorem dX8_tellFrom_118 : decode cX8_tellFrom 118 = .ok (.iconst 1, 1) := by decide +kernel
theorem dX8_tellFrom_119 : decode cX8_tellFrom 119 = .ok (.if_icmp .ne 12, 3) := by decide +kernel
theorem dX8_tellFrom_122 : decode cX8_tellFrom 122 = .ok (.aload_n 0, 1) := by decide +kernel
theorem dX8_tellFrom_123 : decode cX8_tellFrom 123 = .ok (.bipush 13, 2) := by decide +kernel
theorem dX8_tellFrom_125 : decode cX8_tellFrom 125 = .ok (.invokevirtual 113, 3) := by decide +kernel
theorem dX8_tellFrom_128 : decode cX8_tellFrom 128 = .ok (.goto 237, 3) := by decide +kernel
theorem dX8_tellFrom_131 : decode cX8_tellFrom 131 = .ok (.iload 7, 2) := by decide +kernel
theorem dX8_tellFrom_133 : decode cX8_tellFrom 133 = .ok (.iconst 1, 1) := by decide +kernel
theorem dX8_tellFrom_134 : decode cX8_tellFrom 134 = .ok (.if_icmp .eq 14, 3) := by decide +kernel
theorem dX8_tellFrom_137 : decode cX8_tellFrom 137 = .ok (.iload 7, 2) := by decide +kernel
theorem dX8_tellFrom_139 : decode cX8_tellFrom 139 = .ok (.iconst 4, 1) := by decide +kernel
theorem dX8_tellFrom_140 : decode cX8_tellFrom 140 = .ok (.if_icmp .ge 90, 3) := by decide +kernel
theorem dX8_tellFrom_143 : decode cX8_tellFrom 143 = .ok (.iload 9, 2) := by decide +kernel
theorem dX8_tellFrom_145 : decode cX8_tellFrom 145 = .ok (.ifCond .ne 85, 3) := by decide +kernel
theorem dX8_tellFrom_148 : decode cX8_tellFrom 148 = .ok (.iconst (-1), 1) := by decide +kernel
theorem dX8_tellFrom_149 : decode cX8_tellFrom 149 = .ok (.istore 10, 2) := by decide +kernel
theorem dX8_tellFrom_151 : decode cX8_tellFrom 151 = .ok (.iload_n 3, 1) := by decide +kernel
theorem dX8_tellFrom_152 : decode cX8_tellFrom 152 = .ok (.iconst 1, 1) := by decide +kernel
theorem dX8_tellFrom_153 : decode cX8_tellFrom 153 = .ok (.if_icmp .ne 11, 3) := by decide +kernel
theorem dX8_tellFrom_156 : decode cX8_tellFrom 156 = .ok (.aload_n 0, 1) := by decide +kernel
theorem dX8_tellFrom_157 : decode cX8_tellFrom 157 = .ok (.iconst 1, 1) := by decide +kernel
theorem dX8_tellFrom_158 : decode cX8_tellFrom 158 = .ok (.putfield 99, 3) := by decide +kernel
theorem dX8_tellFrom_161 : decode cX8_tellFrom 161 = .ok (.goto 10, 3) := by decide +kernel
theorem dX8_tellFrom_164 : decode cX8_tellFrom 164 = .ok (.aload_n 0, 1) := by decide +kernel
theorem dX8_tellFrom_165 : decode cX8_tellFrom 165 = .ok (.iload_n 3, 1) := by decide +kernel
theorem dX8_tellFrom_166 : decode cX8_tellFrom 166 = .ok (.invokevirtual 110, 3) := by decide +kernel
theorem dX8_tellFrom_169 : decode cX8_tellFrom 169 = .ok (.istore 10, 2) := by decide +kernel
theorem dX8_tellFrom_171 : decode cX8_tellFrom 171 = .ok (.iload 10, 2) := by decide +kernel
theorem dX8_tellFrom_173 : decode cX8_tellFrom 173 = .ok (.ifCond .lt 54, 3) := by decide +kernel
theorem dX8_tellFrom_176 : decode cX8_tellFrom 176 = .ok (.bipush 32, 2) := by decide +kernel
theorem dX8_tellFrom_178 : decode cX8_tellFrom 178 = .ok (.iload 7, 2) := by decide +kernel
theorem dX8_tellFrom_180 : decode cX8_tellFrom 180 = .ok (.iconst 1, 1) := by decide +kernel
theorem dX8_tellFrom_181 : decode cX8_tellFrom 181 = .ok (.isub, 1) := by decide +kernel
theorem dX8_tellFrom_182 : decode cX8_tellFrom 182 = .ok (.imul, 1) := by decide +kernel
theorem dX8_tellFrom_183 : decode cX8_tellFrom 183 = .ok (.iload 10, 2) := by decide +kernel
theorem dX8_tellFrom_185 : decode cX8_tellFrom 185 = .ok (.iadd, 1) := by decide +kernel
theorem dX8_tellFrom_186 : decode cX8_tellFrom 186 = .ok (.istore 11, 2) := by decide +kernel
theorem dX8_tellFrom_188 : decode cX8_tellFrom 188 = .ok (.aload_n 0, 1) := by decide +kernel
theorem dX8_tellFrom_189 : decode cX8_tellFrom 189 = .ok (.getfield 20, 3) := by decide +kernel
theorem dX8_tellFrom_192 : decode cX8_tellFrom 192 = .ok (.iload 11, 2) := by decide +kernel
theorem dX8_tellFrom_194 : decode cX8_tellFrom 194 = .ok (.iaload, 1) := by decide +kernel
theorem dX8_tellFrom_195 : decode cX8_tellFrom 195 = .ok (.ifCond .ge 11, 3) := by decide +kernel
theorem dX8_tellFrom_198 : decode cX8_tellFrom 198 = .ok (.aload_n 0, 1) := by decide +kernel
theorem dX8_tellFrom_199 : decode cX8_tellFrom 199 = .ok (.iconst 3, 1) := by decide +kernel
theorem dX8_tellFrom_200 : decode cX8_tellFrom 200 = .ok (.putfield 99, 3) := by decide +kernel
theorem dX8_tellFrom_203 : decode cX8_tellFrom 203 = .ok (.goto 24, 3) := by decide +kernel
theorem dX8_tellFrom_206 : decode cX8_tellFrom 206 = .ok (.iload 5, 2) := by decide +kernel
theorem dX8_tellFrom_208 : decode cX8_tellFrom 208 = .ok (.istore 4, 2) := by decide +kernel
theorem dX8_tellFrom_210 : decode cX8_tellFrom 210 = .ok (.iconst 0, 1) := by decide +kernel
theorem dX8_tellFrom_211 : decode cX8_tellFrom 211 = .ok (.istore 5, 2) := by decide +kernel
theorem dX8_tellFrom_213 : decode cX8_tellFrom 213 = .ok (.iconst 1, 1) := by decide +kernel
theorem dX8_tellFrom_214 : decode cX8_tellFrom 214 = .ok (.istore_n 3, 1) := by decide +kernel
theorem dX8_tellFrom_215 : decode cX8_tellFrom 215 = .ok (.aload_n 0, 1) := by decide +kernel
theorem dX8_tellFrom_216 : decode cX8_tellFrom 216 = .ok (.iconst 1, 1) := by decide +kernel
theorem dX8_tellFrom_217 : decode cX8_tellFrom 217 = .ok (.aload_n 0, 1) := by decide +kernel
theorem dX8_tellFrom_218 : decode cX8_tellFrom 218 = .ok (.getfield 20, 3) := by decide +kernel
theorem dX8_tellFrom_221 : decode cX8_tellFrom 221 = .ok (.iload 11, 2) := by decide +kernel
theorem dX8_tellFrom_223 : decode cX8_tellFrom 223 = .ok (.iaload, 1) := by decide +kernel
theorem dX8_tellFrom_224 : decode cX8_tellFrom 224 = .ok (.invokevirtual 106, 3) := by decide +kernel
theorem dX8_tellFrom_227 : decode cX8_tellFrom 227 = .ok (.goto 138, 3) := by decide +kernel
theorem dX8_tellFrom_230 : decode cX8_tellFrom 230 = .ok (.iload 7, 2) := by decide +kernel
theorem dX8_tellFrom_232 : decode cX8_tellFrom 232 = .ok (.iconst 4, 1) := by decide +kernel
theorem dX8_tellFrom_233 : decode cX8_tellFrom 233 = .ok (.if_icmp .ge 17, 3) := by decide +kernel
theorem dX8_tellFrom_236 : decode cX8_tellFrom 236 = .ok (.iload 5, 2) := by decide +kernel
theorem dX8_tellFrom_238 : decode cX8_tellFrom 238 = .ok (.iload 7, 2) := by decide +kernel
theorem dX8_tellFrom_240 : decode cX8_tellFrom 240 = .ok (.iadd, 1) := by decide +kernel
theorem dX8_tellFrom_241 : decode cX8_tellFrom 241 = .ok (.iconst 1, 1) := by decide +kernel
theorem dX8_tellFrom_242 : decode cX8_tellFrom 242 = .ok (.isub, 1) := by decide +kernel
theorem dX8_tellFrom_243 : decode cX8_tellFrom 243 = .ok (.iconst 3, 1) := by decide +kernel
theorem dX8_tellFrom_244 : decode cX8_tellFrom 244 = .ok (.irem, 1) := by decide +kernel
theorem dX8_tellFrom_245 : decode cX8_tellFrom 245 = .ok (.istore 6, 2) := by decide +kernel
theorem dX8_tellFrom_247 : decode cX8_tellFrom 247 = .ok (.goto 118, 3) := by decide +kernel
theorem dX8_tellFrom_250 : decode cX8_tellFrom 250 = .ok (.iload 7, 2) := by decide +kernel
theorem dX8_tellFrom_252 : decode cX8_tellFrom 252 = .ok (.bipush 6, 2) := by decide +kernel
theorem dX8_tellFrom_254 : decode cX8_tellFrom 254 = .ok (.if_icmp .ge 22, 3) := by decide +kernel
theorem dX8_tellFrom_257 : decode cX8_tellFrom 257 = .ok (.iload 9, 2) := by decide +kernel
theorem dX8_tellFrom_259 : decode cX8_tellFrom 259 = .ok (.ifCond .eq 17, 3) := by decide +kernel
theorem dX8_tellFrom_262 : decode cX8_tellFrom 262 = .ok (.iload 5, 2) := by decide +kernel
theorem dX8_tellFrom_264 : decode cX8_tellFrom 264 = .ok (.iload 7, 2) := by decide +kernel
theorem dX8_tellFrom_266 : decode cX8_tellFrom 266 = .ok (.iadd, 1) := by decide +kernel
theorem dX8_tellFrom_267 : decode cX8_tellFrom 267 = .ok (.iconst 3, 1) := by decide +kernel
theorem dX8_tellFrom_268 : decode cX8_tellFrom 268 = .ok (.isub, 1) := by decide +kernel
theorem dX8_tellFrom_269 : decode cX8_tellFrom 269 = .ok (.iconst 3, 1) := by decide +kernel
theorem dX8_tellFrom_270 : decode cX8_tellFrom 270 = .ok (.irem, 1) := by decide +kernel
theorem dX8_tellFrom_271 : decode cX8_tellFrom 271 = .ok (.istore 5, 2) := by decide +kernel
theorem dX8_tellFrom_273 : decode cX8_tellFrom 273 = .ok (.goto 92, 3) := by decide +kernel
theorem dX8_tellFrom_276 : decode cX8_tellFrom 276 = .ok (.iload 7, 2) := by decide +kernel
theorem dX8_tellFrom_278 : decode cX8_tellFrom 278 = .ok (.bipush 6, 2) := by decide +kernel
theorem dX8_tellFrom_280 : decode cX8_tellFrom 280 = .ok (.if_icmp .ge 12, 3) := by decide +kernel
theorem dX8_tellFrom_283 : decode cX8_tellFrom 283 = .ok (.iload 7, 2) := by decide +kernel
theorem dX8_tellFrom_285 : decode cX8_tellFrom 285 = .ok (.iconst 3, 1) := by decide +kernel
theorem dX8_tellFrom_286 : decode cX8_tellFrom 286 = .ok (.isub, 1) := by decide +kernel
theorem dX8_tellFrom_287 : decode cX8_tellFrom 287 = .ok (.istore 6, 2) := by decide +kernel
theorem dX8_tellFrom_289 : decode cX8_tellFrom 289 = .ok (.goto 76, 3) := by decide +kernel
theorem dX8_tellFrom_292 : decode cX8_tellFrom 292 = .ok (.iload 8, 2) := by decide +kernel
theorem dX8_tellFrom_294 : decode cX8_tellFrom 294 = .ok (.iconst 2, 1) := by decide +kernel
theorem dX8_tellFrom_295 : decode cX8_tellFrom 295 = .ok (.if_icmp .ne 53, 3) := by decide +kernel
theorem dX8_tellFrom_298 : decode cX8_tellFrom 298 = .ok (.iload 7, 2) := by decide +kernel
theorem dX8_tellFrom_300 : decode cX8_tellFrom 300 = .ok (.bipush 6, 2) := by decide +kernel
theorem dX8_tellFrom_302 : decode cX8_tellFrom 302 = .ok (.if_icmp .ne 46, 3) := by decide +kernel
theorem dX8_tellFrom_305 : decode cX8_tellFrom 305 = .ok (.aload_n 0, 1) := by decide +kernel
theorem dX8_tellFrom_306 : decode cX8_tellFrom 306 = .ok (.iload_n 3, 1) := by decide +kernel
theorem dX8_tellFrom_307 : decode cX8_tellFrom 307 = .ok (.invokevirtual 110, 3) := by decide +kernel
theorem dX8_tellFrom_310 : decode cX8_tellFrom 310 = .ok (.istore 10, 2) := by decide +kernel
theorem dX8_tellFrom_312 : decode cX8_tellFrom 312 = .ok (.iload 10, 2) := by decide +kernel
theorem dX8_tellFrom_314 : decode cX8_tellFrom 314 = .ok (.ifCond .ge 7, 3) := by decide +kernel
theorem dX8_tellFrom_317 : decode cX8_tellFrom 317 = .ok (.iconst (-1), 1) := by decide +kernel
theorem dX8_tellFrom_318 : decode cX8_tellFrom 318 = .ok (.goto 8, 3) := by decide +kernel
theorem dX8_tellFrom_321 : decode cX8_tellFrom 321 = .ok (.aload_n 0, 1) := by decide +kernel
theorem dX8_tellFrom_322 : decode cX8_tellFrom 322 = .ok (.iload_n 3, 1) := by decide +kernel
theorem dX8_tellFrom_323 : decode cX8_tellFrom 323 = .ok (.invokevirtual 110, 3) := by decide +kernel
theorem dX8_tellFrom_326 : decode cX8_tellFrom 326 = .ok (.istore 11, 2) := by decide +kernel
theorem dX8_tellFrom_328 : decode cX8_tellFrom 328 = .ok (.iload 11, 2) := by decide +kernel
theorem dX8_tellFrom_330 : decode cX8_tellFrom 330 = .ok (.ifCond .lt 15, 3) := by decide +kernel
theorem dX8_tellFrom_333 : decode cX8_tellFrom 333 = .ok (.aload_n 0, 1) := by decide +kernel
theorem dX8_tellFrom_334 : decode cX8_tellFrom 334 = .ok (.bipush 32, 2) := by decide +kernel
theorem dX8_tellFrom_336 : decode cX8_tellFrom 336 = .ok (.iload 10, 2) := by decide +kernel
theorem dX8_tellFrom_338 : decode cX8_tellFrom 338 = .ok (.imul, 1) := by decide +kernel
theorem dX8_tellFrom_339 : decode cX8_tellFrom 339 = .ok (.iload 11, 2) := by decide +kernel
theorem dX8_tellFrom_341 : decode cX8_tellFrom 341 = .ok (.iadd, 1) := by decide +kernel
theorem dX8_tellFrom_342 : decode cX8_tellFrom 342 = .ok (.invokevirtual 113, 3) := by decide +kernel
theorem dX8_tellFrom_345 : decode cX8_tellFrom 345 = .ok (.goto 20, 3) := by decide +kernel
theorem dX8_tellFrom_348 : decode cX8_tellFrom 348 = .ok (.aload_n 0, 1) := by decide +kernel
theorem dX8_tellFrom_349 : decode cX8_tellFrom 349 = .ok (.aload_n 0, 1) := by decide +kernel
theorem dX8_tellFrom_350 : decode cX8_tellFrom 350 = .ok (.getfield 17, 3) := by decide +kernel
theorem dX8_tellFrom_353 : decode cX8_tellFrom 353 = .ok (.bipush 32, 2) := by decide +kernel
theorem dX8_tellFrom_355 : decode cX8_tellFrom 355 = .ok (.iload 8, 2) := by decide +kernel
theorem dX8_tellFrom_357 : decode cX8_tellFrom 357 = .ok (.imul, 1) := by decide +kernel
theorem dX8_tellFrom_358 : decode cX8_tellFrom 358 = .ok (.iload 7, 2) := by decide +kernel
theorem dX8_tellFrom_360 : decode cX8_tellFrom 360 = .ok (.iadd, 1) := by decide +kernel
theorem dX8_tellFrom_361 : decode cX8_tellFrom 361 = .ok (.iaload, 1) := by decide +kernel
theorem dX8_tellFrom_362 : decode cX8_tellFrom 362 = .ok (.invokevirtual 113, 3) := by decide +kernel
theorem dX8_tellFrom_365 : decode cX8_tellFrom 365 = .ok (.goto (-348), 3) := by decide +kernel
theorem dX8_tellFrom_368 : decode cX8_tellFrom 368 = .ok (.return_, 1) := by decide +kernel
theorem dX8_start_0 : decode cX8_start 0 = .ok (.aload_n 0, 1) := by decide +kernel
theorem dX8_start_1 : decode cX8_start 1 = .ok (.getfield 23, 3) := by decide +kernel
theorem dX8_start_4 : decode cX8_start 4 = .ok (.iload_n 1, 1) := by decide +kernel
theorem dX8_start_5 : decode cX8_start 5 = .ok (.iload_n 2, 1) := by decide +kernel
theorem dX8_start_6 : decode cX8_start 6 = .ok (.iastore, 1) := by decide +kernel
theorem dX8_start_7 : decode cX8_start 7 = .ok (.aload_n 0, 1) := by decide +kernel
theorem dX8_start_8 : decode cX8_start 8 = .ok (.getfield 26, 3) := by decide +kernel
theorem dX8_start_11 : decode cX8_start 11 = .ok (.iload_n 1, 1) := by decide +kernel
theorem dX8_start_12 : decode cX8_start 12 = .ok (.iconst 0, 1) := by decide +kernel
theorem dX8_start_13 : decode cX8_start 13 = .ok (.iastore, 1) := by decide +kernel
theorem dX8_start_14 : decode cX8_start 14 = .ok (.aload_n 0, 1) := by decide +kernel
theorem dX8_start_15 : decode cX8_start 15 = .ok (.getfield 32, 3) := by decide +kernel
theorem dX8_start_18 : decode cX8_start 18 = .ok (.iload_n 1, 1) := by decide +kernel
theorem dX8_start_19 : decode cX8_start 19 = .ok (.iconst 0, 1) := by decide +kernel
theorem dX8_start_20 : decode cX8_start 20 = .ok (.bastore, 1) := by decide +kernel
theorem dX8_start_21 : decode cX8_start 21 = .ok (.return_, 1) := by decide +kernel
theorem dX8_number_0 : decode cX8_number 0 = .ok (.aload_n 0, 1) := by decide +kernel
theorem dX8_number_1 : decode cX8_number 1 = .ok (.getfield 26, 3) := by decide +kernel
theorem dX8_number_4 : decode cX8_number 4 = .ok (.iload_n 1, 1) := by decide +kernel
theorem dX8_number_5 : decode cX8_number 5 = .ok (.iaload, 1) := by decide +kernel
theorem dX8_number_6 : decode cX8_number 6 = .ok (.ifCond .ne 109, 3) := by decide +kernel
theorem dX8_number_9 : decode cX8_number 9 = .ok (.aload_n 0, 1) := by decide +kernel
theorem dX8_number_10 : decode cX8_number 10 = .ok (.getfield 32, 3) := by decide +kernel
theorem dX8_number_13 : decode cX8_number 13 = .ok (.iload_n 1, 1) := by decide +kernel
theorem dX8_number_14 : decode cX8_number 14 = .ok (.baload, 1) := by decide +kernel
theorem dX8_number_15 : decode cX8_number 15 = .ok (.ifCond .eq 5, 3) := by decide +kernel
theorem dX8_number_18 : decode cX8_number 18 = .ok (.iconst (-1), 1) := by decide +kernel
theorem dX8_number_19 : decode cX8_number 19 = .ok (.ireturn, 1) := by decide +kernel
theorem dX8_number_20 : decode cX8_number 20 = .ok (.aload_n 0, 1) := by decide +kernel
theorem dX8_number_21 : decode cX8_number 21 = .ok (.getfield 23, 3) := by decide +kernel
theorem dX8_number_24 : decode cX8_number 24 = .ok (.iload_n 1, 1) := by decide +kernel
theorem dX8_number_25 : decode cX8_number 25 = .ok (.iaload, 1) := by decide +kernel
theorem dX8_number_26 : decode cX8_number 26 = .ok (.istore_n 2, 1) := by decide +kernel
theorem dX8_number_27 : decode cX8_number 27 = .ok (.iload_n 2, 1) := by decide +kernel
theorem dX8_number_28 : decode cX8_number 28 = .ok (.iconst 2, 1) := by decide +kernel
theorem dX8_number_29 : decode cX8_number 29 = .ok (.iadd, 1) := by decide +kernel
theorem dX8_number_30 : decode cX8_number 30 = .ok (.aload_n 0, 1) := by decide +kernel
theorem dX8_number_31 : decode cX8_number 31 = .ok (.getfield 91, 3) := by decide +kernel
theorem dX8_number_34 : decode cX8_number 34 = .ok (.if_icmp .le 10, 3) := by decide +kernel
theorem dX8_number_37 : decode cX8_number 37 = .ok (.aload_n 0, 1) := by decide +kernel
theorem dX8_number_38 : decode cX8_number 38 = .ok (.iconst 2, 1) := by decide +kernel
theorem dX8_number_39 : decode cX8_number 39 = .ok (.putfield 99, 3) := by decide +kernel
theorem dX8_number_42 : decode cX8_number 42 = .ok (.iconst (-1), 1) := by decide +kernel
theorem dX8_number_43 : decode cX8_number 43 = .ok (.ireturn, 1) := by decide +kernel
theorem dX8_number_44 : decode cX8_number 44 = .ok (.aload_n 0, 1) := by decide +kernel
theorem dX8_number_45 : decode cX8_number 45 = .ok (.getfield 29, 3) := by decide +kernel
theorem dX8_number_48 : decode cX8_number 48 = .ok (.iload_n 1, 1) := by decide +kernel
theorem dX8_number_49 : decode cX8_number 49 = .ok (.aload_n 0, 1) := by decide +kernel
theorem dX8_number_50 : decode cX8_number 50 = .ok (.getfield 7, 3) := by decide +kernel
theorem dX8_number_53 : decode cX8_number 53 = .ok (.iload_n 2, 1) := by decide +kernel
theorem dX8_number_54 : decode cX8_number 54 = .ok (.baload, 1) := by decide +kernel
theorem dX8_number_55 : decode cX8_number 55 = .ok (.sipush 255, 3) := by decide +kernel
theorem dX8_number_58 : decode cX8_number 58 = .ok (.iand, 1) := by decide +kernel
theorem dX8_number_59 : decode cX8_number 59 = .ok (.bipush 8, 2) := by decide +kernel
theorem dX8_number_61 : decode cX8_number 61 = .ok (.ishl, 1) := by decide +kernel
theorem dX8_number_62 : decode cX8_number 62 = .ok (.aload_n 0, 1) := by decide +kernel
theorem dX8_number_63 : decode cX8_number 63 = .ok (.getfield 7, 3) := by decide +kernel
theorem dX8_number_66 : decode cX8_number 66 = .ok (.iload_n 2, 1) := by decide +kernel
theorem dX8_number_67 : decode cX8_number 67 = .ok (.iconst 1, 1) := by decide +kernel
theorem dX8_number_68 : decode cX8_number 68 = .ok (.iadd, 1) := by decide +kernel
theorem dX8_number_69 : decode cX8_number 69 = .ok (.baload, 1) := by decide +kernel
theorem dX8_number_70 : decode cX8_number 70 = .ok (.sipush 255, 3) := by decide +kernel
theorem dX8_number_73 : decode cX8_number 73 = .ok (.iand, 1) := by decide +kernel
theorem dX8_number_74 : decode cX8_number 74 = .ok (.ior, 1) := by decide +kernel
theorem dX8_number_75 : decode cX8_number 75 = .ok (.iastore, 1) := by decide +kernel
theorem dX8_number_76 : decode cX8_number 76 = .ok (.aload_n 0, 1) := by decide +kernel
theorem dX8_number_77 : decode cX8_number 77 = .ok (.getfield 32, 3) := by decide +kernel
theorem dX8_number_80 : decode cX8_number 80 = .ok (.iload_n 1, 1) := by decide +kernel
theorem dX8_number_81 : decode cX8_number 81 = .ok (.aload_n 0, 1) := by decide +kernel
theorem dX8_number_82 : decode cX8_number 82 = .ok (.getfield 29, 3) := by decide +kernel
theorem dX8_number_85 : decode cX8_number 85 = .ok (.iload_n 1, 1) := by decide +kernel
theorem dX8_number_86 : decode cX8_number 86 = .ok (.iaload, 1) := by decide +kernel
theorem dX8_number_87 : decode cX8_number 87 = .ok (.ldc 102, 2) := by decide +kernel
theorem dX8_number_89 : decode cX8_number 89 = .ok (.iand, 1) := by decide +kernel
theorem dX8_number_90 : decode cX8_number 90 = .ok (.ifCond .eq 7, 3) := by decide +kernel
theorem dX8_number_93 : decode cX8_number 93 = .ok (.iconst 1, 1) := by decide +kernel
theorem dX8_number_94 : decode cX8_number 94 = .ok (.goto 4, 3) := by decide +kernel
theorem dX8_number_97 : decode cX8_number 97 = .ok (.iconst 0, 1) := by decide +kernel
theorem dX8_number_98 : decode cX8_number 98 = .ok (.bastore, 1) := by decide +kernel
theorem dX8_number_99 : decode cX8_number 99 = .ok (.aload_n 0, 1) := by decide +kernel
theorem dX8_number_100 : decode cX8_number 100 = .ok (.getfield 23, 3) := by decide +kernel
theorem dX8_number_103 : decode cX8_number 103 = .ok (.iload_n 1, 1) := by decide +kernel
theorem dX8_number_104 : decode cX8_number 104 = .ok (.iload_n 2, 1) := by decide +kernel
theorem dX8_number_105 : decode cX8_number 105 = .ok (.iconst 2, 1) := by decide +kernel
theorem dX8_number_106 : decode cX8_number 106 = .ok (.iadd, 1) := by decide +kernel
theorem dX8_number_107 : decode cX8_number 107 = .ok (.iastore, 1) := by decide +kernel
theorem dX8_number_108 : decode cX8_number 108 = .ok (.aload_n 0, 1) := by decide +kernel
theorem dX8_number_109 : decode cX8_number 109 = .ok (.getfield 26, 3) := by decide +kernel
theorem dX8_number_112 : decode cX8_number 112 = .ok (.iload_n 1, 1) := by decide +kernel
theorem dX8_number_113 : decode cX8_number 113 = .ok (.iconst 3, 1) := by decide +kernel
theorem dX8_number_114 : decode cX8_number 114 = .ok (.iastore, 1) := by decide +kernel
theorem dX8_number_115 : decode cX8_number 115 = .ok (.aload_n 0, 1) := by decide +kernel
theorem dX8_number_116 : decode cX8_number 116 = .ok (.getfield 26, 3) := by decide +kernel
theorem dX8_number_119 : decode cX8_number 119 = .ok (.iload_n 1, 1) := by decide +kernel
theorem dX8_number_120 : decode cX8_number 120 = .ok (.dup2, 1) := by decide +kernel
theorem dX8_number_121 : decode cX8_number 121 = .ok (.iaload, 1) := by decide +kernel
theorem dX8_number_122 : decode cX8_number 122 = .ok (.iconst 1, 1) := by decide +kernel
theorem dX8_number_123 : decode cX8_number 123 = .ok (.isub, 1) := by decide +kernel
theorem dX8_number_124 : decode cX8_number 124 = .ok (.iastore, 1) := by decide +kernel
theorem dX8_number_125 : decode cX8_number 125 = .ok (.aload_n 0, 1) := by decide +kernel
theorem dX8_number_126 : decode cX8_number 126 = .ok (.getfield 29, 3) := by decide +kernel
theorem dX8_number_129 : decode cX8_number 129 = .ok (.iload_n 1, 1) := by decide +kernel
theorem dX8_number_130 : decode cX8_number 130 = .ok (.iaload, 1) := by decide +kernel
theorem dX8_number_131 : decode cX8_number 131 = .ok (.iconst 5, 1) := by decide +kernel
theorem dX8_number_132 : decode cX8_number 132 = .ok (.aload_n 0, 1) := by decide +kernel
theorem dX8_number_133 : decode cX8_number 133 = .ok (.getfield 26, 3) := by decide +kernel
theorem dX8_number_136 : decode cX8_number 136 = .ok (.iload_n 1, 1) := by decide +kernel
theorem dX8_number_137 : decode cX8_number 137 = .ok (.iaload, 1) := by decide +kernel
theorem dX8_number_138 : decode cX8_number 138 = .ok (.imul, 1) := by decide +kernel
theorem dX8_number_139 : decode cX8_number 139 = .ok (.ishr, 1) := by decide +kernel
theorem dX8_number_140 : decode cX8_number 140 = .ok (.bipush 31, 2) := by decide +kernel
theorem dX8_number_142 : decode cX8_number 142 = .ok (.iand, 1) := by decide +kernel
theorem dX8_number_143 : decode cX8_number 143 = .ok (.ireturn, 1) := by decide +kernel
theorem dX8_tells_0 : decode cX8_tells 0 = .ok (.aload_n 0, 1) := by decide +kernel
theorem dX8_tells_1 : decode cX8_tells 1 = .ok (.getfield 103, 3) := by decide +kernel
theorem dX8_tells_4 : decode cX8_tells 4 = .ok (.sipush 1000, 3) := by decide +kernel
theorem dX8_tells_7 : decode cX8_tells 7 = .ok (.if_icmp .ne 9, 3) := by decide +kernel
theorem dX8_tells_10 : decode cX8_tells 10 = .ok (.aload_n 0, 1) := by decide +kernel
theorem dX8_tells_11 : decode cX8_tells 11 = .ok (.iconst 4, 1) := by decide +kernel
theorem dX8_tells_12 : decode cX8_tells 12 = .ok (.putfield 99, 3) := by decide +kernel
theorem dX8_tells_15 : decode cX8_tells 15 = .ok (.return_, 1) := by decide +kernel
theorem dX8_tells_16 : decode cX8_tells 16 = .ok (.aload_n 0, 1) := by decide +kernel
theorem dX8_tells_17 : decode cX8_tells 17 = .ok (.getfield 36, 3) := by decide +kernel
theorem dX8_tells_20 : decode cX8_tells 20 = .ok (.aload_n 0, 1) := by decide +kernel
theorem dX8_tells_21 : decode cX8_tells 21 = .ok (.getfield 103, 3) := by decide +kernel
theorem dX8_tells_24 : decode cX8_tells 24 = .ok (.iload_n 1, 1) := by decide +kernel
theorem dX8_tells_25 : decode cX8_tells 25 = .ok (.iastore, 1) := by decide +kernel
theorem dX8_tells_26 : decode cX8_tells 26 = .ok (.aload_n 0, 1) := by decide +kernel
theorem dX8_tells_27 : decode cX8_tells 27 = .ok (.dup, 1) := by decide +kernel
theorem dX8_tells_28 : decode cX8_tells 28 = .ok (.getfield 103, 3) := by decide +kernel
theorem dX8_tells_31 : decode cX8_tells 31 = .ok (.iconst 1, 1) := by decide +kernel
theorem dX8_tells_32 : decode cX8_tells 32 = .ok (.iadd, 1) := by decide +kernel
theorem dX8_tells_33 : decode cX8_tells 33 = .ok (.putfield 103, 3) := by decide +kernel
theorem dX8_tells_36 : decode cX8_tells 36 = .ok (.return_, 1) := by decide +kernel
theorem dX8_behind_0 : decode cX8_behind 0 = .ok (.aload_n 0, 1) := by decide +kernel
theorem dX8_behind_1 : decode cX8_behind 1 = .ok (.getfield 120, 3) := by decide +kernel
theorem dX8_behind_4 : decode cX8_behind 4 = .ok (.ireturn, 1) := by decide +kernel
theorem dX8_numbers_0 : decode cX8_numbers 0 = .ok (.iload_n 1, 1) := by decide +kernel
theorem dX8_numbers_1 : decode cX8_numbers 1 = .ok (.ifCond .lt 8, 3) := by decide +kernel
theorem dX8_numbers_4 : decode cX8_numbers 4 = .ok (.iload_n 1, 1) := by decide +kernel
theorem dX8_numbers_5 : decode cX8_numbers 5 = .ok (.iconst 1, 1) := by decide +kernel
theorem dX8_numbers_6 : decode cX8_numbers 6 = .ok (.if_icmp .le 6, 3) := by decide +kernel
theorem dX8_numbers_9 : decode cX8_numbers 9 = .ok (.bipush (-2), 2) := by decide +kernel
theorem dX8_numbers_11 : decode cX8_numbers 11 = .ok (.ireturn, 1) := by decide +kernel
theorem dX8_numbers_12 : decode cX8_numbers 12 = .ok (.aload_n 0, 1) := by decide +kernel
theorem dX8_numbers_13 : decode cX8_numbers 13 = .ok (.iload_n 1, 1) := by decide +kernel
theorem dX8_numbers_14 : decode cX8_numbers 14 = .ok (.invokevirtual 158, 3) := by decide +kernel
theorem dX8_numbers_17 : decode cX8_numbers 17 = .ok (.aload_n 0, 1) := by decide +kernel
theorem dX8_numbers_18 : decode cX8_numbers 18 = .ok (.getfield 123, 3) := by decide +kernel
theorem dX8_numbers_21 : decode cX8_numbers 21 = .ok (.ireturn, 1) := by decide +kernel
theorem dX8_makeNumbers_0 : decode cX8_makeNumbers 0 = .ok (.iload_n 1, 1) := by decide +kernel
theorem dX8_makeNumbers_1 : decode cX8_makeNumbers 1 = .ok (.ifCond .ne 14, 3) := by decide +kernel
theorem dX8_makeNumbers_4 : decode cX8_makeNumbers 4 = .ok (.aload_n 0, 1) := by decide +kernel
theorem dX8_makeNumbers_5 : decode cX8_makeNumbers 5 = .ok (.aload_n 0, 1) := by decide +kernel
theorem dX8_makeNumbers_6 : decode cX8_makeNumbers 6 = .ok (.getfield 94, 3) := by decide +kernel
theorem dX8_makeNumbers_9 : decode cX8_makeNumbers 9 = .ok (.invokevirtual 152, 3) := by decide +kernel
theorem dX8_makeNumbers_12 : decode cX8_makeNumbers 12 = .ok (.goto 7, 3) := by decide +kernel
theorem dX8_makeNumbers_15 : decode cX8_makeNumbers 15 = .ok (.aload_n 0, 1) := by decide +kernel
theorem dX8_makeNumbers_16 : decode cX8_makeNumbers 16 = .ok (.invokevirtual 155, 3) := by decide +kernel
theorem dX8_makeNumbers_19 : decode cX8_makeNumbers 19 = .ok (.return_, 1) := by decide +kernel
theorem dX8_makePlain_0 : decode cX8_makePlain 0 = .ok (.aload_n 0, 1) := by decide +kernel
theorem dX8_makePlain_1 : decode cX8_makePlain 1 = .ok (.iconst 0, 1) := by decide +kernel
theorem dX8_makePlain_2 : decode cX8_makePlain 2 = .ok (.putfield 123, 3) := by decide +kernel
theorem dX8_makePlain_5 : decode cX8_makePlain 5 = .ok (.iconst 0, 1) := by decide +kernel
theorem dX8_makePlain_6 : decode cX8_makePlain 6 = .ok (.istore_n 2, 1) := by decide +kernel
theorem dX8_makePlain_7 : decode cX8_makePlain 7 = .ok (.iload_n 2, 1) := by decide +kernel
theorem dX8_makePlain_8 : decode cX8_makePlain 8 = .ok (.iload_n 1, 1) := by decide +kernel
theorem dX8_makePlain_9 : decode cX8_makePlain 9 = .ok (.if_icmp .ge 46, 3) := by decide +kernel
theorem dX8_makePlain_12 : decode cX8_makePlain 12 = .ok (.aload_n 0, 1) := by decide +kernel
theorem dX8_makePlain_13 : decode cX8_makePlain 13 = .ok (.aload_n 0, 1) := by decide +kernel
theorem dX8_makePlain_14 : decode cX8_makePlain 14 = .ok (.getfield 13, 3) := by decide +kernel
theorem dX8_makePlain_17 : decode cX8_makePlain 17 = .ok (.iload_n 2, 1) := by decide +kernel
theorem dX8_makePlain_18 : decode cX8_makePlain 18 = .ok (.iaload, 1) := by decide +kernel
theorem dX8_makePlain_19 : decode cX8_makePlain 19 = .ok (.invokevirtual 132, 3) := by decide +kernel
theorem dX8_makePlain_22 : decode cX8_makePlain 22 = .ok (.istore_n 3, 1) := by decide +kernel
theorem dX8_makePlain_23 : decode cX8_makePlain 23 = .ok (.iconst 0, 1) := by decide +kernel
theorem dX8_makePlain_24 : decode cX8_makePlain 24 = .ok (.istore 4, 2) := by decide +kernel
theorem dX8_makePlain_26 : decode cX8_makePlain 26 = .ok (.iload 4, 2) := by decide +kernel
theorem dX8_makePlain_28 : decode cX8_makePlain 28 = .ok (.iload_n 3, 1) := by decide +kernel
theorem dX8_makePlain_29 : decode cX8_makePlain 29 = .ok (.if_icmp .ge 20, 3) := by decide +kernel
theorem dX8_makePlain_32 : decode cX8_makePlain 32 = .ok (.aload_n 0, 1) := by decide +kernel
theorem dX8_makePlain_33 : decode cX8_makePlain 33 = .ok (.aload_n 0, 1) := by decide +kernel
theorem dX8_makePlain_34 : decode cX8_makePlain 34 = .ok (.getfield 42, 3) := by decide +kernel
theorem dX8_makePlain_37 : decode cX8_makePlain 37 = .ok (.iload 4, 2) := by decide +kernel
theorem dX8_makePlain_39 : decode cX8_makePlain 39 = .ok (.iaload, 1) := by decide +kernel
theorem dX8_makePlain_40 : decode cX8_makePlain 40 = .ok (.invokevirtual 135, 3) := by decide +kernel
theorem dX8_makePlain_43 : decode cX8_makePlain 43 = .ok (.iinc 4 1, 3) := by decide +kernel
theorem dX8_makePlain_46 : decode cX8_makePlain 46 = .ok (.goto (-20), 3) := by decide +kernel
theorem dX8_makePlain_49 : decode cX8_makePlain 49 = .ok (.iinc 2 1, 3) := by decide +kernel
theorem dX8_makePlain_52 : decode cX8_makePlain 52 = .ok (.goto (-45), 3) := by decide +kernel
theorem dX8_makePlain_55 : decode cX8_makePlain 55 = .ok (.return_, 1) := by decide +kernel
theorem dX8_numbersOf_0 : decode cX8_numbersOf 0 = .ok (.iload_n 1, 1) := by decide +kernel
theorem dX8_numbersOf_1 : decode cX8_numbersOf 1 = .ok (.bipush 32, 2) := by decide +kernel
theorem dX8_numbersOf_3 : decode cX8_numbersOf 3 = .ok (.if_icmp .ne 12, 3) := by decide +kernel
theorem dX8_numbersOf_6 : decode cX8_numbersOf 6 = .ok (.aload_n 0, 1) := by decide +kernel
theorem dX8_numbersOf_7 : decode cX8_numbersOf 7 = .ok (.getfield 42, 3) := by decide +kernel
theorem dX8_numbersOf_10 : decode cX8_numbersOf 10 = .ok (.iconst 0, 1) := by decide +kernel
theorem dX8_numbersOf_11 : decode cX8_numbersOf 11 = .ok (.iconst 0, 1) := by decide +kernel
theorem dX8_numbersOf_12 : decode cX8_numbersOf 12 = .ok (.iastore, 1) := by decide +kernel
theorem dX8_numbersOf_13 : decode cX8_numbersOf 13 = .ok (.iconst 1, 1) := by decide +kernel
theorem dX8_numbersOf_14 : decode cX8_numbersOf 14 = .ok (.ireturn, 1) := by decide +kernel
theorem dX8_numbersOf_15 : decode cX8_numbersOf 15 = .ok (.iload_n 1, 1) := by decide +kernel
theorem dX8_numbersOf_16 : decode cX8_numbersOf 16 = .ok (.bipush 13, 2) := by decide +kernel
theorem dX8_numbersOf_18 : decode cX8_numbersOf 18 = .ok (.if_icmp .ne 20, 3) := by decide +kernel
theorem dX8_numbersOf_21 : decode cX8_numbersOf 21 = .ok (.aload_n 0, 1) := by decide +kernel
theorem dX8_numbersOf_22 : decode cX8_numbersOf 22 = .ok (.getfield 83, 3) := by decide +kernel
theorem dX8_numbersOf_25 : decode cX8_numbersOf 25 = .ok (.iconst 1, 1) := by decide +kernel
theorem dX8_numbersOf_26 : decode cX8_numbersOf 26 = .ok (.if_icmp .ne 12, 3) := by decide +kernel
theorem dX8_numbersOf_29 : decode cX8_numbersOf 29 = .ok (.aload_n 0, 1) := by decide +kernel
theorem dX8_numbersOf_30 : decode cX8_numbersOf 30 = .ok (.getfield 42, 3) := by decide +kernel
theorem dX8_numbersOf_33 : decode cX8_numbersOf 33 = .ok (.iconst 0, 1) := by decide +kernel
theorem dX8_numbersOf_34 : decode cX8_numbersOf 34 = .ok (.iconst 1, 1) := by decide +kernel
theorem dX8_numbersOf_35 : decode cX8_numbersOf 35 = .ok (.iastore, 1) := by decide +kernel
theorem dX8_numbersOf_36 : decode cX8_numbersOf 36 = .ok (.iconst 1, 1) := by decide +kernel
theorem dX8_numbersOf_37 : decode cX8_numbersOf 37 = .ok (.ireturn, 1) := by decide +kernel
theorem dX8_numbersOf_38 : decode cX8_numbersOf 38 = .ok (.aload_n 0, 1) := by decide +kernel
theorem dX8_numbersOf_39 : decode cX8_numbersOf 39 = .ok (.iload_n 1, 1) := by decide +kernel
theorem dX8_numbersOf_40 : decode cX8_numbersOf 40 = .ok (.invokevirtual 126, 3) := by decide +kernel
theorem dX8_numbersOf_43 : decode cX8_numbersOf 43 = .ok (.istore_n 2, 1) := by decide +kernel
theorem dX8_numbersOf_44 : decode cX8_numbersOf 44 = .ok (.iload_n 2, 1) := by decide +kernel
theorem dX8_numbersOf_45 : decode cX8_numbersOf 45 = .ok (.ifCond .lt 18, 3) := by decide +kernel
theorem dX8_numbersOf_48 : decode cX8_numbersOf 48 = .ok (.iload_n 2, 1) := by decide +kernel
theorem dX8_numbersOf_49 : decode cX8_numbersOf 49 = .ok (.bipush 32, 2) := by decide +kernel
theorem dX8_numbersOf_51 : decode cX8_numbersOf 51 = .ok (.if_icmp .ge 12, 3) := by decide +kernel
theorem dX8_numbersOf_54 : decode cX8_numbersOf 54 = .ok (.aload_n 0, 1) := by decide +kernel
theorem dX8_numbersOf_55 : decode cX8_numbersOf 55 = .ok (.getfield 42, 3) := by decide +kernel
theorem dX8_numbersOf_58 : decode cX8_numbersOf 58 = .ok (.iconst 0, 1) := by decide +kernel
theorem dX8_numbersOf_59 : decode cX8_numbersOf 59 = .ok (.iload_n 2, 1) := by decide +kernel
theorem dX8_numbersOf_60 : decode cX8_numbersOf 60 = .ok (.iastore, 1) := by decide +kernel
theorem dX8_numbersOf_61 : decode cX8_numbersOf 61 = .ok (.iconst 1, 1) := by decide +kernel
theorem dX8_numbersOf_62 : decode cX8_numbersOf 62 = .ok (.ireturn, 1) := by decide +kernel
theorem dX8_numbersOf_63 : decode cX8_numbersOf 63 = .ok (.iload_n 2, 1) := by decide +kernel
theorem dX8_numbersOf_64 : decode cX8_numbersOf 64 = .ok (.ifCond .lt 29, 3) := by decide +kernel
theorem dX8_numbersOf_67 : decode cX8_numbersOf 67 = .ok (.aload_n 0, 1) := by decide +kernel
theorem dX8_numbersOf_68 : decode cX8_numbersOf 68 = .ok (.getfield 42, 3) := by decide +kernel
theorem dX8_numbersOf_71 : decode cX8_numbersOf 71 = .ok (.iconst 0, 1) := by decide +kernel
theorem dX8_numbersOf_72 : decode cX8_numbersOf 72 = .ok (.aload_n 0, 1) := by decide +kernel
theorem dX8_numbersOf_73 : decode cX8_numbersOf 73 = .ok (.iload_n 2, 1) := by decide +kernel
theorem dX8_numbersOf_74 : decode cX8_numbersOf 74 = .ok (.bipush 32, 2) := by decide +kernel
theorem dX8_numbersOf_76 : decode cX8_numbersOf 76 = .ok (.idiv, 1) := by decide +kernel
theorem dX8_numbersOf_77 : decode cX8_numbersOf 77 = .ok (.invokevirtual 129, 3) := by decide +kernel
theorem dX8_numbersOf_80 : decode cX8_numbersOf 80 = .ok (.iastore, 1) := by decide +kernel
theorem dX8_numbersOf_81 : decode cX8_numbersOf 81 = .ok (.aload_n 0, 1) := by decide +kernel
theorem dX8_numbersOf_82 : decode cX8_numbersOf 82 = .ok (.getfield 42, 3) := by decide +kernel
theorem dX8_numbersOf_85 : decode cX8_numbersOf 85 = .ok (.iconst 1, 1) := by decide +kernel
theorem dX8_numbersOf_86 : decode cX8_numbersOf 86 = .ok (.iload_n 2, 1) := by decide +kernel
theorem dX8_numbersOf_87 : decode cX8_numbersOf 87 = .ok (.bipush 32, 2) := by decide +kernel
theorem dX8_numbersOf_89 : decode cX8_numbersOf 89 = .ok (.irem, 1) := by decide +kernel
theorem dX8_numbersOf_90 : decode cX8_numbersOf 90 = .ok (.iastore, 1) := by decide +kernel
theorem dX8_numbersOf_91 : decode cX8_numbersOf 91 = .ok (.iconst 2, 1) := by decide +kernel
theorem dX8_numbersOf_92 : decode cX8_numbersOf 92 = .ok (.ireturn, 1) := by decide +kernel
theorem dX8_numbersOf_93 : decode cX8_numbersOf 93 = .ok (.aload_n 0, 1) := by decide +kernel
theorem dX8_numbersOf_94 : decode cX8_numbersOf 94 = .ok (.getfield 42, 3) := by decide +kernel
theorem dX8_numbersOf_97 : decode cX8_numbersOf 97 = .ok (.iconst 0, 1) := by decide +kernel
theorem dX8_numbersOf_98 : decode cX8_numbersOf 98 = .ok (.aload_n 0, 1) := by decide +kernel
theorem dX8_numbersOf_99 : decode cX8_numbersOf 99 = .ok (.iconst 2, 1) := by decide +kernel
theorem dX8_numbersOf_100 : decode cX8_numbersOf 100 = .ok (.invokevirtual 129, 3) := by decide +kernel
theorem dX8_numbersOf_103 : decode cX8_numbersOf 103 = .ok (.iastore, 1) := by decide +kernel
theorem dX8_numbersOf_104 : decode cX8_numbersOf 104 = .ok (.aload_n 0, 1) := by decide +kernel
theorem dX8_numbersOf_105 : decode cX8_numbersOf 105 = .ok (.getfield 42, 3) := by decide +kernel
theorem dX8_numbersOf_108 : decode cX8_numbersOf 108 = .ok (.iconst 1, 1) := by decide +kernel
theorem dX8_numbersOf_109 : decode cX8_numbersOf 109 = .ok (.bipush 6, 2) := by decide +kernel
theorem dX8_numbersOf_111 : decode cX8_numbersOf 111 = .ok (.iastore, 1) := by decide +kernel
theorem dX8_numbersOf_112 : decode cX8_numbersOf 112 = .ok (.aload_n 0, 1) := by decide +kernel
theorem dX8_numbersOf_113 : decode cX8_numbersOf 113 = .ok (.getfield 42, 3) := by decide +kernel
theorem dX8_numbersOf_116 : decode cX8_numbersOf 116 = .ok (.iconst 2, 1) := by decide +kernel
theorem dX8_numbersOf_117 : decode cX8_numbersOf 117 = .ok (.iload_n 1, 1) := by decide +kernel
theorem dX8_numbersOf_118 : decode cX8_numbersOf 118 = .ok (.bipush 32, 2) := by decide +kernel
theorem dX8_numbersOf_120 : decode cX8_numbersOf 120 = .ok (.idiv, 1) := by decide +kernel
theorem dX8_numbersOf_121 : decode cX8_numbersOf 121 = .ok (.iastore, 1) := by decide +kernel
theorem dX8_numbersOf_122 : decode cX8_numbersOf 122 = .ok (.aload_n 0, 1) := by decide +kernel
theorem dX8_numbersOf_123 : decode cX8_numbersOf 123 = .ok (.getfield 42, 3) := by decide +kernel
theorem dX8_numbersOf_126 : decode cX8_numbersOf 126 = .ok (.iconst 3, 1) := by decide +kernel
theorem dX8_numbersOf_127 : decode cX8_numbersOf 127 = .ok (.iload_n 1, 1) := by decide +kernel
theorem dX8_numbersOf_128 : decode cX8_numbersOf 128 = .ok (.bipush 32, 2) := by decide +kernel
theorem dX8_numbersOf_130 : decode cX8_numbersOf 130 = .ok (.irem, 1) := by decide +kernel
theorem dX8_numbersOf_131 : decode cX8_numbersOf 131 = .ok (.iastore, 1) := by decide +kernel
theorem dX8_numbersOf_132 : decode cX8_numbersOf 132 = .ok (.iconst 4, 1) := by decide +kernel
theorem dX8_numbersOf_133 : decode cX8_numbersOf 133 = .ok (.ireturn, 1) := by decide +kernel
theorem dX8_letterOf_0 : decode cX8_letterOf 0 = .ok (.iconst 0, 1) := by decide +kernel
theorem dX8_letterOf_1 : decode cX8_letterOf 1 = .ok (.istore_n 2, 1) := by decide +kernel
theorem dX8_letterOf_2 : decode cX8_letterOf 2 = .ok (.iload_n 2, 1) := by decide +kernel
theorem dX8_letterOf_3 : decode cX8_letterOf 3 = .ok (.iconst 3, 1) := by decide +kernel
theorem dX8_letterOf_4 : decode cX8_letterOf 4 = .ok (.if_icmp .ge 57, 3) := by decide +kernel
theorem dX8_letterOf_7 : decode cX8_letterOf 7 = .ok (.bipush 6, 2) := by decide +kernel
theorem dX8_letterOf_9 : decode cX8_letterOf 9 = .ok (.istore_n 3, 1) := by decide +kernel
theorem dX8_letterOf_10 : decode cX8_letterOf 10 = .ok (.iload_n 3, 1) := by decide +kernel
theorem dX8_letterOf_11 : decode cX8_letterOf 11 = .ok (.bipush 32, 2) := by decide +kernel
theorem dX8_letterOf_13 : decode cX8_letterOf 13 = .ok (.if_icmp .ge 42, 3) := by decide +kernel
theorem dX8_letterOf_16 : decode cX8_letterOf 16 = .ok (.aload_n 0, 1) := by decide +kernel
theorem dX8_letterOf_17 : decode cX8_letterOf 17 = .ok (.getfield 17, 3) := by decide +kernel
theorem dX8_letterOf_20 : decode cX8_letterOf 20 = .ok (.bipush 32, 2) := by decide +kernel
theorem dX8_letterOf_22 : decode cX8_letterOf 22 = .ok (.iload_n 2, 1) := by decide +kernel
theorem dX8_letterOf_23 : decode cX8_letterOf 23 = .ok (.imul, 1) := by decide +kernel
theorem dX8_letterOf_24 : decode cX8_letterOf 24 = .ok (.iload_n 3, 1) := by decide +kernel
theorem dX8_letterOf_25 : decode cX8_letterOf 25 = .ok (.iadd, 1) := by decide +kernel
theorem dX8_letterOf_26 : decode cX8_letterOf 26 = .ok (.iaload, 1) := by decide +kernel
theorem dX8_letterOf_27 : decode cX8_letterOf 27 = .ok (.iload_n 1, 1) := by decide +kernel
theorem dX8_letterOf_28 : decode cX8_letterOf 28 = .ok (.if_icmp .ne 21, 3) := by decide +kernel
theorem dX8_letterOf_31 : decode cX8_letterOf 31 = .ok (.iload_n 2, 1) := by decide +kernel
theorem dX8_letterOf_32 : decode cX8_letterOf 32 = .ok (.iconst 2, 1) := by decide +kernel
theorem dX8_letterOf_33 : decode cX8_letterOf 33 = .ok (.if_icmp .lt 9, 3) := by decide +kernel
theorem dX8_letterOf_36 : decode cX8_letterOf 36 = .ok (.iload_n 3, 1) := by decide +kernel
theorem dX8_letterOf_37 : decode cX8_letterOf 37 = .ok (.bipush 6, 2) := by decide +kernel
theorem dX8_letterOf_39 : decode cX8_letterOf 39 = .ok (.if_icmp .le 10, 3) := by decide +kernel
theorem dX8_letterOf_42 : decode cX8_letterOf 42 = .ok (.bipush 32, 2) := by decide +kernel
theorem dX8_letterOf_44 : decode cX8_letterOf 44 = .ok (.iload_n 2, 1) := by decide +kernel
theorem dX8_letterOf_45 : decode cX8_letterOf 45 = .ok (.imul, 1) := by decide +kernel
theorem dX8_letterOf_46 : decode cX8_letterOf 46 = .ok (.iload_n 3, 1) := by decide +kernel
theorem dX8_letterOf_47 : decode cX8_letterOf 47 = .ok (.iadd, 1) := by decide +kernel
theorem dX8_letterOf_48 : decode cX8_letterOf 48 = .ok (.ireturn, 1) := by decide +kernel
theorem dX8_letterOf_49 : decode cX8_letterOf 49 = .ok (.iinc 3 1, 3) := by decide +kernel
theorem dX8_letterOf_52 : decode cX8_letterOf 52 = .ok (.goto (-42), 3) := by decide +kernel
theorem dX8_letterOf_55 : decode cX8_letterOf 55 = .ok (.iinc 2 1, 3) := by decide +kernel
theorem dX8_letterOf_58 : decode cX8_letterOf 58 = .ok (.goto (-56), 3) := by decide +kernel
theorem dX8_letterOf_61 : decode cX8_letterOf 61 = .ok (.iconst (-1), 1) := by decide +kernel
theorem dX8_letterOf_62 : decode cX8_letterOf 62 = .ok (.ireturn, 1) := by decide +kernel
theorem dX8_shift_0 : decode cX8_shift 0 = .ok (.aload_n 0, 1) := by decide +kernel
theorem dX8_shift_1 : decode cX8_shift 1 = .ok (.getfield 83, 3) := by decide +kernel
theorem dX8_shift_4 : decode cX8_shift 4 = .ok (.iconst 3, 1) := by decide +kernel
theorem dX8_shift_5 : decode cX8_shift 5 = .ok (.if_icmp .ge 9, 3) := by decide +kernel
theorem dX8_shift_8 : decode cX8_shift 8 = .ok (.iconst 1, 1) := by decide +kernel
theorem dX8_shift_9 : decode cX8_shift 9 = .ok (.iload_n 1, 1) := by decide +kernel
theorem dX8_shift_10 : decode cX8_shift 10 = .ok (.iadd, 1) := by decide +kernel
theorem dX8_shift_11 : decode cX8_shift 11 = .ok (.goto 6, 3) := by decide +kernel
theorem dX8_shift_14 : decode cX8_shift 14 = .ok (.iconst 3, 1) := by decide +kernel
theorem dX8_shift_15 : decode cX8_shift 15 = .ok (.iload_n 1, 1) := by decide +kernel
theorem dX8_shift_16 : decode cX8_shift 16 = .ok (.iadd, 1) := by decide +kernel
theorem dX8_shift_17 : decode cX8_shift 17 = .ok (.ireturn, 1) := by decide +kernel
theorem dX8_put_0 : decode cX8_put 0 = .ok (.aload_n 0, 1) := by decide +kernel
theorem dX8_put_1 : decode cX8_put 1 = .ok (.getfield 39, 3) := by decide +kernel
theorem dX8_put_4 : decode cX8_put 4 = .ok (.aload_n 0, 1) := by decide +kernel
theorem dX8_put_5 : decode cX8_put 5 = .ok (.getfield 123, 3) := by decide +kernel
theorem dX8_put_8 : decode cX8_put 8 = .ok (.iload_n 1, 1) := by decide +kernel
theorem dX8_put_9 : decode cX8_put 9 = .ok (.iastore, 1) := by decide +kernel
theorem dX8_put_10 : decode cX8_put 10 = .ok (.aload_n 0, 1) := by decide +kernel
theorem dX8_put_11 : decode cX8_put 11 = .ok (.dup, 1) := by decide +kernel
theorem dX8_put_12 : decode cX8_put 12 = .ok (.getfield 123, 3) := by decide +kernel
theorem dX8_put_15 : decode cX8_put 15 = .ok (.iconst 1, 1) := by decide +kernel
theorem dX8_put_16 : decode cX8_put 16 = .ok (.iadd, 1) := by decide +kernel
theorem dX8_put_17 : decode cX8_put 17 = .ok (.putfield 123, 3) := by decide +kernel
theorem dX8_put_20 : decode cX8_put 20 = .ok (.return_, 1) := by decide +kernel
theorem dX8_makeBest_0 : decode cX8_makeBest 0 = .ok (.aload_n 0, 1) := by decide +kernel
theorem dX8_makeBest_1 : decode cX8_makeBest 1 = .ok (.invokevirtual 141, 3) := by decide +kernel
theorem dX8_makeBest_4 : decode cX8_makeBest 4 = .ok (.aload_n 0, 1) := by decide +kernel
theorem dX8_makeBest_5 : decode cX8_makeBest 5 = .ok (.getfield 52, 3) := by decide +kernel
theorem dX8_makeBest_8 : decode cX8_makeBest 8 = .ok (.aload_n 0, 1) := by decide +kernel
theorem dX8_makeBest_9 : decode cX8_makeBest 9 = .ok (.getfield 94, 3) := by decide +kernel
theorem dX8_makeBest_12 : decode cX8_makeBest 12 = .ok (.iconst 0, 1) := by decide +kernel
theorem dX8_makeBest_13 : decode cX8_makeBest 13 = .ok (.iastore, 1) := by decide +kernel
theorem dX8_makeBest_14 : decode cX8_makeBest 14 = .ok (.aload_n 0, 1) := by decide +kernel
theorem dX8_makeBest_15 : decode cX8_makeBest 15 = .ok (.getfield 94, 3) := by decide +kernel
theorem dX8_makeBest_18 : decode cX8_makeBest 18 = .ok (.iconst 1, 1) := by decide +kernel
theorem dX8_makeBest_19 : decode cX8_makeBest 19 = .ok (.isub, 1) := by decide +kernel
theorem dX8_makeBest_20 : decode cX8_makeBest 20 = .ok (.istore_n 1, 1) := by decide +kernel
theorem dX8_makeBest_21 : decode cX8_makeBest 21 = .ok (.iload_n 1, 1) := by decide +kernel
theorem dX8_makeBest_22 : decode cX8_makeBest 22 = .ok (.ifCond .lt 132, 3) := by decide +kernel
theorem dX8_makeBest_25 : decode cX8_makeBest 25 = .ok (.aload_n 0, 1) := by decide +kernel
theorem dX8_makeBest_26 : decode cX8_makeBest 26 = .ok (.getfield 55, 3) := by decide +kernel
theorem dX8_makeBest_29 : decode cX8_makeBest 29 = .ok (.iload_n 1, 1) := by decide +kernel
theorem dX8_makeBest_30 : decode cX8_makeBest 30 = .ok (.iconst (-1), 1) := by decide +kernel
theorem dX8_makeBest_31 : decode cX8_makeBest 31 = .ok (.iastore, 1) := by decide +kernel
theorem dX8_makeBest_32 : decode cX8_makeBest 32 = .ok (.aload_n 0, 1) := by decide +kernel
theorem dX8_makeBest_33 : decode cX8_makeBest 33 = .ok (.getfield 52, 3) := by decide +kernel
theorem dX8_makeBest_36 : decode cX8_makeBest 36 = .ok (.iload_n 1, 1) := by decide +kernel
theorem dX8_makeBest_37 : decode cX8_makeBest 37 = .ok (.aload_n 0, 1) := by decide +kernel
theorem dX8_makeBest_38 : decode cX8_makeBest 38 = .ok (.aload_n 0, 1) := by decide +kernel
theorem dX8_makeBest_39 : decode cX8_makeBest 39 = .ok (.getfield 13, 3) := by decide +kernel
theorem dX8_makeBest_42 : decode cX8_makeBest 42 = .ok (.iload_n 1, 1) := by decide +kernel
theorem dX8_makeBest_43 : decode cX8_makeBest 43 = .ok (.iaload, 1) := by decide +kernel
theorem dX8_makeBest_44 : decode cX8_makeBest 44 = .ok (.invokevirtual 132, 3) := by decide +kernel
theorem dX8_makeBest_47 : decode cX8_makeBest 47 = .ok (.aload_n 0, 1) := by decide +kernel
theorem dX8_makeBest_48 : decode cX8_makeBest 48 = .ok (.getfield 52, 3) := by decide +kernel
theorem dX8_makeBest_51 : decode cX8_makeBest 51 = .ok (.iload_n 1, 1) := by decide +kernel
theorem dX8_makeBest_52 : decode cX8_makeBest 52 = .ok (.iconst 1, 1) := by decide +kernel
theorem dX8_makeBest_53 : decode cX8_makeBest 53 = .ok (.iadd, 1) := by decide +kernel
theorem dX8_makeBest_54 : decode cX8_makeBest 54 = .ok (.iaload, 1) := by decide +kernel
theorem dX8_makeBest_55 : decode cX8_makeBest 55 = .ok (.iadd, 1) := by decide +kernel
theorem dX8_makeBest_56 : decode cX8_makeBest 56 = .ok (.iastore, 1) := by decide +kernel
theorem dX8_makeBest_57 : decode cX8_makeBest 57 = .ok (.iconst 0, 1) := by decide +kernel
theorem dX8_makeBest_58 : decode cX8_makeBest 58 = .ok (.istore_n 2, 1) := by decide +kernel
theorem dX8_makeBest_59 : decode cX8_makeBest 59 = .ok (.iload_n 2, 1) := by decide +kernel
theorem dX8_makeBest_60 : decode cX8_makeBest 60 = .ok (.bipush 96, 2) := by decide +kernel
theorem dX8_makeBest_62 : decode cX8_makeBest 62 = .ok (.if_icmp .ge 86, 3) := by decide +kernel
theorem dX8_makeBest_65 : decode cX8_makeBest 65 = .ok (.aload_n 0, 1) := by decide +kernel
theorem dX8_makeBest_66 : decode cX8_makeBest 66 = .ok (.iload_n 2, 1) := by decide +kernel
theorem dX8_makeBest_67 : decode cX8_makeBest 67 = .ok (.iload_n 1, 1) := by decide +kernel
theorem dX8_makeBest_68 : decode cX8_makeBest 68 = .ok (.invokevirtual 144, 3) := by decide +kernel
theorem dX8_makeBest_71 : decode cX8_makeBest 71 = .ok (.ifCond .ne 6, 3) := by decide +kernel
theorem dX8_makeBest_74 : decode cX8_makeBest 74 = .ok (.goto 68, 3) := by decide +kernel
theorem dX8_makeBest_77 : decode cX8_makeBest 77 = .ok (.iconst 2, 1) := by decide +kernel
theorem dX8_makeBest_78 : decode cX8_makeBest 78 = .ok (.aload_n 0, 1) := by decide +kernel
theorem dX8_makeBest_79 : decode cX8_makeBest 79 = .ok (.getfield 52, 3) := by decide +kernel
theorem dX8_makeBest_82 : decode cX8_makeBest 82 = .ok (.iload_n 1, 1) := by decide +kernel
theorem dX8_makeBest_83 : decode cX8_makeBest 83 = .ok (.aload_n 0, 1) := by decide +kernel
theorem dX8_makeBest_84 : decode cX8_makeBest 84 = .ok (.getfield 49, 3) := by decide +kernel
theorem dX8_makeBest_87 : decode cX8_makeBest 87 = .ok (.iload_n 2, 1) := by decide +kernel
theorem dX8_makeBest_88 : decode cX8_makeBest 88 = .ok (.iaload, 1) := by decide +kernel
theorem dX8_makeBest_89 : decode cX8_makeBest 89 = .ok (.iadd, 1) := by decide +kernel
theorem dX8_makeBest_90 : decode cX8_makeBest 90 = .ok (.iaload, 1) := by decide +kernel
theorem dX8_makeBest_91 : decode cX8_makeBest 91 = .ok (.iadd, 1) := by decide +kernel
theorem dX8_makeBest_92 : decode cX8_makeBest 92 = .ok (.istore_n 3, 1) := by decide +kernel
theorem dX8_makeBest_93 : decode cX8_makeBest 93 = .ok (.iload_n 3, 1) := by decide +kernel
theorem dX8_makeBest_94 : decode cX8_makeBest 94 = .ok (.aload_n 0, 1) := by decide +kernel
theorem dX8_makeBest_95 : decode cX8_makeBest 95 = .ok (.getfield 52, 3) := by decide +kernel
theorem dX8_makeBest_98 : decode cX8_makeBest 98 = .ok (.iload_n 1, 1) := by decide +kernel
theorem dX8_makeBest_99 : decode cX8_makeBest 99 = .ok (.iaload, 1) := by decide +kernel
theorem dX8_makeBest_100 : decode cX8_makeBest 100 = .ok (.if_icmp .lt 28, 3) := by decide +kernel
theorem dX8_makeBest_103 : decode cX8_makeBest 103 = .ok (.iload_n 3, 1) := by decide +kernel
theorem dX8_makeBest_104 : decode cX8_makeBest 104 = .ok (.aload_n 0, 1) := by decide +kernel
theorem dX8_makeBest_105 : decode cX8_makeBest 105 = .ok (.getfield 52, 3) := by decide +kernel
theorem dX8_makeBest_108 : decode cX8_makeBest 108 = .ok (.iload_n 1, 1) := by decide +kernel
theorem dX8_makeBest_109 : decode cX8_makeBest 109 = .ok (.iaload, 1) := by decide +kernel
theorem dX8_makeBest_110 : decode cX8_makeBest 110 = .ok (.if_icmp .ne 32, 3) := by decide +kernel
theorem dX8_makeBest_113 : decode cX8_makeBest 113 = .ok (.aload_n 0, 1) := by decide +kernel
theorem dX8_makeBest_114 : decode cX8_makeBest 114 = .ok (.iload_n 1, 1) := by decide +kernel
theorem dX8_makeBest_115 : decode cX8_makeBest 115 = .ok (.iload_n 2, 1) := by decide +kernel
theorem dX8_makeBest_116 : decode cX8_makeBest 116 = .ok (.aload_n 0, 1) := by decide +kernel
theorem dX8_makeBest_117 : decode cX8_makeBest 117 = .ok (.getfield 55, 3) := by decide +kernel
theorem dX8_makeBest_120 : decode cX8_makeBest 120 = .ok (.iload_n 1, 1) := by decide +kernel
theorem dX8_makeBest_121 : decode cX8_makeBest 121 = .ok (.iaload, 1) := by decide +kernel
theorem dX8_makeBest_122 : decode cX8_makeBest 122 = .ok (.invokevirtual 148, 3) := by decide +kernel
theorem dX8_makeBest_125 : decode cX8_makeBest 125 = .ok (.ifCond .eq 17, 3) := by decide +kernel
theorem dX8_makeBest_128 : decode cX8_makeBest 128 = .ok (.aload_n 0, 1) := by decide +kernel
theorem dX8_makeBest_129 : decode cX8_makeBest 129 = .ok (.getfield 52, 3) := by decide +kernel
theorem dX8_makeBest_132 : decode cX8_makeBest 132 = .ok (.iload_n 1, 1) := by decide +kernel
theorem dX8_makeBest_133 : decode cX8_makeBest 133 = .ok (.iload_n 3, 1) := by decide +kernel
theorem dX8_makeBest_134 : decode cX8_makeBest 134 = .ok (.iastore, 1) := by decide +kernel
theorem dX8_makeBest_135 : decode cX8_makeBest 135 = .ok (.aload_n 0, 1) := by decide +kernel
theorem dX8_makeBest_136 : decode cX8_makeBest 136 = .ok (.getfield 55, 3) := by decide +kernel
theorem dX8_makeBest_139 : decode cX8_makeBest 139 = .ok (.iload_n 1, 1) := by decide +kernel
theorem dX8_makeBest_140 : decode cX8_makeBest 140 = .ok (.iload_n 2, 1) := by decide +kernel
theorem dX8_makeBest_141 : decode cX8_makeBest 141 = .ok (.iastore, 1) := by decide +kernel
theorem dX8_makeBest_142 : decode cX8_makeBest 142 = .ok (.iinc 2 1, 3) := by decide +kernel
theorem dX8_makeBest_145 : decode cX8_makeBest 145 = .ok (.goto (-86), 3) := by decide +kernel
theorem dX8_makeBest_148 : decode cX8_makeBest 148 = .ok (.iinc 1 (-1), 3) := by decide +kernel
theorem dX8_makeBest_151 : decode cX8_makeBest 151 = .ok (.goto (-130), 3) := by decide +kernel
theorem dX8_makeBest_154 : decode cX8_makeBest 154 = .ok (.aload_n 0, 1) := by decide +kernel
theorem dX8_makeBest_155 : decode cX8_makeBest 155 = .ok (.iconst 0, 1) := by decide +kernel
theorem dX8_makeBest_156 : decode cX8_makeBest 156 = .ok (.putfield 123, 3) := by decide +kernel
theorem dX8_makeBest_159 : decode cX8_makeBest 159 = .ok (.aload_n 0, 1) := by decide +kernel
theorem dX8_makeBest_160 : decode cX8_makeBest 160 = .ok (.getfield 58, 3) := by decide +kernel
theorem dX8_makeBest_163 : decode cX8_makeBest 163 = .ok (.iconst 0, 1) := by decide +kernel
theorem dX8_makeBest_164 : decode cX8_makeBest 164 = .ok (.iconst 0, 1) := by decide +kernel
theorem dX8_makeBest_165 : decode cX8_makeBest 165 = .ok (.iastore, 1) := by decide +kernel
theorem dX8_makeBest_166 : decode cX8_makeBest 166 = .ok (.aload_n 0, 1) := by decide +kernel
theorem dX8_makeBest_167 : decode cX8_makeBest 167 = .ok (.getfield 61, 3) := by decide +kernel
theorem dX8_makeBest_170 : decode cX8_makeBest 170 = .ok (.iconst 0, 1) := by decide +kernel
theorem dX8_makeBest_171 : decode cX8_makeBest 171 = .ok (.aload_n 0, 1) := by decide +kernel
theorem dX8_makeBest_172 : decode cX8_makeBest 172 = .ok (.getfield 94, 3) := by decide +kernel
theorem dX8_makeBest_175 : decode cX8_makeBest 175 = .ok (.ifCond .le 12, 3) := by decide +kernel
theorem dX8_makeBest_178 : decode cX8_makeBest 178 = .ok (.aload_n 0, 1) := by decide +kernel
theorem dX8_makeBest_179 : decode cX8_makeBest 179 = .ok (.getfield 55, 3) := by decide +kernel
theorem dX8_makeBest_182 : decode cX8_makeBest 182 = .ok (.iconst 0, 1) := by decide +kernel
theorem dX8_makeBest_183 : decode cX8_makeBest 183 = .ok (.iaload, 1) := by decide +kernel
theorem dX8_makeBest_184 : decode cX8_makeBest 184 = .ok (.goto 4, 3) := by decide +kernel
theorem dX8_makeBest_187 : decode cX8_makeBest 187 = .ok (.iconst (-1), 1) := by decide +kernel
theorem dX8_makeBest_188 : decode cX8_makeBest 188 = .ok (.iastore, 1) := by decide +kernel
theorem dX8_makeBest_189 : decode cX8_makeBest 189 = .ok (.aload_n 0, 1) := by decide +kernel
theorem dX8_makeBest_190 : decode cX8_makeBest 190 = .ok (.getfield 64, 3) := by decide +kernel
theorem dX8_makeBest_193 : decode cX8_makeBest 193 = .ok (.iconst 0, 1) := by decide +kernel
theorem dX8_makeBest_194 : decode cX8_makeBest 194 = .ok (.iconst 0, 1) := by decide +kernel
theorem dX8_makeBest_195 : decode cX8_makeBest 195 = .ok (.iastore, 1) := by decide +kernel
theorem dX8_makeBest_196 : decode cX8_makeBest 196 = .ok (.aload_n 0, 1) := by decide +kernel
theorem dX8_makeBest_197 : decode cX8_makeBest 197 = .ok (.iconst 0, 1) := by decide +kernel
theorem dX8_makeBest_198 : decode cX8_makeBest 198 = .ok (.invokevirtual 138, 3) := by decide +kernel
theorem dX8_makeBest_201 : decode cX8_makeBest 201 = .ok (.istore_n 1, 1) := by decide +kernel
theorem dX8_makeBest_202 : decode cX8_makeBest 202 = .ok (.iload_n 1, 1) := by decide +kernel
theorem dX8_makeBest_203 : decode cX8_makeBest 203 = .ok (.ifCond .lt 17, 3) := by decide +kernel
theorem dX8_makeBest_206 : decode cX8_makeBest 206 = .ok (.aload_n 0, 1) := by decide +kernel
theorem dX8_makeBest_207 : decode cX8_makeBest 207 = .ok (.iload_n 1, 1) := by decide +kernel
theorem dX8_makeBest_208 : decode cX8_makeBest 208 = .ok (.invokevirtual 135, 3) := by decide +kernel
theorem dX8_makeBest_211 : decode cX8_makeBest 211 = .ok (.aload_n 0, 1) := by decide +kernel
theorem dX8_makeBest_212 : decode cX8_makeBest 212 = .ok (.iconst 0, 1) := by decide +kernel
theorem dX8_makeBest_213 : decode cX8_makeBest 213 = .ok (.invokevirtual 138, 3) := by decide +kernel
theorem dX8_makeBest_216 : decode cX8_makeBest 216 = .ok (.istore_n 1, 1) := by decide +kernel
theorem dX8_makeBest_217 : decode cX8_makeBest 217 = .ok (.goto (-15), 3) := by decide +kernel
theorem dX8_makeBest_220 : decode cX8_makeBest 220 = .ok (.return_, 1) := by decide +kernel
theorem dX8_findEntries_0 : decode cX8_findEntries 0 = .ok (.aload_n 0, 1) := by decide +kernel
theorem dX8_findEntries_1 : decode cX8_findEntries 1 = .ok (.getfield 83, 3) := by decide +kernel
theorem dX8_findEntries_4 : decode cX8_findEntries 4 = .ok (.iconst 1, 1) := by decide +kernel
theorem dX8_findEntries_5 : decode cX8_findEntries 5 = .ok (.if_icmp .ne 7, 3) := by decide +kernel
theorem dX8_findEntries_8 : decode cX8_findEntries 8 = .ok (.iconst 0, 1) := by decide +kernel
theorem dX8_findEntries_9 : decode cX8_findEntries 9 = .ok (.goto 18, 3) := by decide +kernel
theorem dX8_findEntries_12 : decode cX8_findEntries 12 = .ok (.aload_n 0, 1) := by decide +kernel
theorem dX8_findEntries_13 : decode cX8_findEntries 13 = .ok (.getfield 83, 3) := by decide +kernel
theorem dX8_findEntries_16 : decode cX8_findEntries 16 = .ok (.iconst 2, 1) := by decide +kernel
theorem dX8_findEntries_17 : decode cX8_findEntries 17 = .ok (.if_icmp .ne 8, 3) := by decide +kernel
theorem dX8_findEntries_20 : decode cX8_findEntries 20 = .ok (.bipush 32, 2) := by decide +kernel
theorem dX8_findEntries_22 : decode cX8_findEntries 22 = .ok (.goto 5, 3) := by decide +kernel
theorem dX8_findEntries_25 : decode cX8_findEntries 25 = .ok (.bipush 96, 2) := by decide +kernel
theorem dX8_findEntries_27 : decode cX8_findEntries 27 = .ok (.istore_n 1, 1) := by decide +kernel
theorem dX8_findEntries_28 : decode cX8_findEntries 28 = .ok (.iconst 0, 1) := by decide +kernel
theorem dX8_findEntries_29 : decode cX8_findEntries 29 = .ok (.istore_n 2, 1) := by decide +kernel
theorem dX8_findEntries_30 : decode cX8_findEntries 30 = .ok (.iload_n 2, 1) := by decide +kernel
theorem dX8_findEntries_31 : decode cX8_findEntries 31 = .ok (.bipush 96, 2) := by decide +kernel
theorem dX8_findEntries_33 : decode cX8_findEntries 33 = .ok (.if_icmp .ge 111, 3) := by decide +kernel
theorem dX8_findEntries_36 : decode cX8_findEntries 36 = .ok (.aload_n 0, 1) := by decide +kernel
theorem dX8_findEntries_37 : decode cX8_findEntries 37 = .ok (.getfield 49, 3) := by decide +kernel
theorem dX8_findEntries_40 : decode cX8_findEntries 40 = .ok (.iload_n 2, 1) := by decide +kernel
theorem dX8_findEntries_41 : decode cX8_findEntries 41 = .ok (.iconst 0, 1) := by decide +kernel
theorem dX8_findEntries_42 : decode cX8_findEntries 42 = .ok (.iastore, 1) := by decide +kernel
theorem dX8_findEntries_43 : decode cX8_findEntries 43 = .ok (.iload_n 2, 1) := by decide +kernel
theorem dX8_findEntries_44 : decode cX8_findEntries 44 = .ok (.iload_n 1, 1) := by decide +kernel
theorem dX8_findEntries_45 : decode cX8_findEntries 45 = .ok (.if_icmp .ge 93, 3) := by decide +kernel
theorem dX8_findEntries_48 : decode cX8_findEntries 48 = .ok (.aload_n 0, 1) := by decide +kernel
theorem dX8_findEntries_49 : decode cX8_findEntries 49 = .ok (.getfield 20, 3) := by decide +kernel
theorem dX8_findEntries_52 : decode cX8_findEntries 52 = .ok (.iload_n 2, 1) := by decide +kernel
theorem dX8_findEntries_53 : decode cX8_findEntries 53 = .ok (.iaload, 1) := by decide +kernel
theorem dX8_findEntries_54 : decode cX8_findEntries 54 = .ok (.ifCond .ge 6, 3) := by decide +kernel
theorem dX8_findEntries_57 : decode cX8_findEntries 57 = .ok (.goto 81, 3) := by decide +kernel
theorem dX8_findEntries_60 : decode cX8_findEntries 60 = .ok (.aload_n 0, 1) := by decide +kernel
theorem dX8_findEntries_61 : decode cX8_findEntries 61 = .ok (.iconst 0, 1) := by decide +kernel
theorem dX8_findEntries_62 : decode cX8_findEntries 62 = .ok (.putfield 99, 3) := by decide +kernel
theorem dX8_findEntries_65 : decode cX8_findEntries 65 = .ok (.aload_n 0, 1) := by decide +kernel
theorem dX8_findEntries_66 : decode cX8_findEntries 66 = .ok (.iconst 0, 1) := by decide +kernel
theorem dX8_findEntries_67 : decode cX8_findEntries 67 = .ok (.putfield 103, 3) := by decide +kernel
theorem dX8_findEntries_70 : decode cX8_findEntries 70 = .ok (.aload_n 0, 1) := by decide +kernel
theorem dX8_findEntries_71 : decode cX8_findEntries 71 = .ok (.aload_n 0, 1) := by decide +kernel
theorem dX8_findEntries_72 : decode cX8_findEntries 72 = .ok (.getfield 20, 3) := by decide +kernel
theorem dX8_findEntries_75 : decode cX8_findEntries 75 = .ok (.iload_n 2, 1) := by decide +kernel
theorem dX8_findEntries_76 : decode cX8_findEntries 76 = .ok (.iaload, 1) := by decide +kernel
theorem dX8_findEntries_77 : decode cX8_findEntries 77 = .ok (.iconst 1, 1) := by decide +kernel
theorem dX8_findEntries_78 : decode cX8_findEntries 78 = .ok (.invokevirtual 117, 3) := by decide +kernel
theorem dX8_findEntries_81 : decode cX8_findEntries 81 = .ok (.aload_n 0, 1) := by decide +kernel
theorem dX8_findEntries_82 : decode cX8_findEntries 82 = .ok (.getfield 49, 3) := by decide +kernel
theorem dX8_findEntries_85 : decode cX8_findEntries 85 = .ok (.iload_n 2, 1) := by decide +kernel
theorem dX8_findEntries_86 : decode cX8_findEntries 86 = .ok (.aload_n 0, 1) := by decide +kernel
theorem dX8_findEntries_87 : decode cX8_findEntries 87 = .ok (.getfield 99, 3) := by decide +kernel
theorem dX8_findEntries_90 : decode cX8_findEntries 90 = .ok (.ifCond .le 7, 3) := by decide +kernel
theorem dX8_findEntries_93 : decode cX8_findEntries 93 = .ok (.iconst 0, 1) := by decide +kernel
theorem dX8_findEntries_94 : decode cX8_findEntries 94 = .ok (.goto 7, 3) := by decide +kernel
theorem dX8_findEntries_97 : decode cX8_findEntries 97 = .ok (.aload_n 0, 1) := by decide +kernel
theorem dX8_findEntries_98 : decode cX8_findEntries 98 = .ok (.getfield 103, 3) := by decide +kernel
theorem dX8_findEntries_101 : decode cX8_findEntries 101 = .ok (.iastore, 1) := by decide +kernel
theorem dX8_findEntries_102 : decode cX8_findEntries 102 = .ok (.iconst 0, 1) := by decide +kernel
theorem dX8_findEntries_103 : decode cX8_findEntries 103 = .ok (.istore_n 3, 1) := by decide +kernel
theorem dX8_findEntries_104 : decode cX8_findEntries 104 = .ok (.iload_n 3, 1) := by decide +kernel
theorem dX8_findEntries_105 : decode cX8_findEntries 105 = .ok (.aload_n 0, 1) := by decide +kernel
theorem dX8_findEntries_106 : decode cX8_findEntries 106 = .ok (.getfield 49, 3) := by decide +kernel
theorem dX8_findEntries_109 : decode cX8_findEntries 109 = .ok (.iload_n 2, 1) := by decide +kernel
theorem dX8_findEntries_110 : decode cX8_findEntries 110 = .ok (.iaload, 1) := by decide +kernel
theorem dX8_findEntries_111 : decode cX8_findEntries 111 = .ok (.if_icmp .ge 27, 3) := by decide +kernel
theorem dX8_findEntries_114 : decode cX8_findEntries 114 = .ok (.aload_n 0, 1) := by decide +kernel
theorem dX8_findEntries_115 : decode cX8_findEntries 115 = .ok (.getfield 46, 3) := by decide +kernel
theorem dX8_findEntries_118 : decode cX8_findEntries 118 = .ok (.sipush 1000, 3) := by decide +kernel
theorem dX8_findEntries_121 : decode cX8_findEntries 121 = .ok (.iload_n 2, 1) := by decide +kernel
theorem dX8_findEntries_122 : decode cX8_findEntries 122 = .ok (.imul, 1) := by decide +kernel
theorem dX8_findEntries_123 : decode cX8_findEntries 123 = .ok (.iload_n 3, 1) := by decide +kernel
theorem dX8_findEntries_124 : decode cX8_findEntries 124 = .ok (.iadd, 1) := by decide +kernel
theorem dX8_findEntries_125 : decode cX8_findEntries 125 = .ok (.aload_n 0, 1) := by decide +kernel
theorem dX8_findEntries_126 : decode cX8_findEntries 126 = .ok (.getfield 36, 3) := by decide +kernel
theorem dX8_findEntries_129 : decode cX8_findEntries 129 = .ok (.iload_n 3, 1) := by decide +kernel
theorem dX8_findEntries_130 : decode cX8_findEntries 130 = .ok (.iaload, 1) := by decide +kernel
theorem dX8_findEntries_131 : decode cX8_findEntries 131 = .ok (.iastore, 1) := by decide +kernel
theorem dX8_findEntries_132 : decode cX8_findEntries 132 = .ok (.iinc 3 1, 3) := by decide +kernel
theorem dX8_findEntries_135 : decode cX8_findEntries 135 = .ok (.goto (-31), 3) := by decide +kernel
theorem dX8_findEntries_138 : decode cX8_findEntries 138 = .ok (.iinc 2 1, 3) := by decide +kernel
theorem dX8_findEntries_141 : decode cX8_findEntries 141 = .ok (.goto (-111), 3) := by decide +kernel
theorem dX8_findEntries_144 : decode cX8_findEntries 144 = .ok (.return_, 1) := by decide +kernel
theorem dX8_fits_0 : decode cX8_fits 0 = .ok (.aload_n 0, 1) := by decide +kernel
theorem dX8_fits_1 : decode cX8_fits 1 = .ok (.getfield 49, 3) := by decide +kernel
theorem dX8_fits_4 : decode cX8_fits 4 = .ok (.iload_n 1, 1) := by decide +kernel
theorem dX8_fits_5 : decode cX8_fits 5 = .ok (.iaload, 1) := by decide +kernel
theorem dX8_fits_6 : decode cX8_fits 6 = .ok (.ifCond .eq 18, 3) := by decide +kernel
theorem dX8_fits_9 : decode cX8_fits 9 = .ok (.iload_n 2, 1) := by decide +kernel
theorem dX8_fits_10 : decode cX8_fits 10 = .ok (.aload_n 0, 1) := by decide +kernel
theorem dX8_fits_11 : decode cX8_fits 11 = .ok (.getfield 49, 3) := by decide +kernel
theorem dX8_fits_14 : decode cX8_fits 14 = .ok (.iload_n 1, 1) := by decide +kernel
theorem dX8_fits_15 : decode cX8_fits 15 = .ok (.iaload, 1) := by decide +kernel
theorem dX8_fits_16 : decode cX8_fits 16 = .ok (.iadd, 1) := by decide +kernel
theorem dX8_fits_17 : decode cX8_fits 17 = .ok (.aload_n 0, 1) := by decide +kernel
theorem dX8_fits_18 : decode cX8_fits 18 = .ok (.getfield 94, 3) := by decide +kernel
theorem dX8_fits_21 : decode cX8_fits 21 = .ok (.if_icmp .le 5, 3) := by decide +kernel
theorem dX8_fits_24 : decode cX8_fits 24 = .ok (.iconst 0, 1) := by decide +kernel
theorem dX8_fits_25 : decode cX8_fits 25 = .ok (.ireturn, 1) := by decide +kernel
theorem dX8_fits_26 : decode cX8_fits 26 = .ok (.iconst 0, 1) := by decide +kernel
theorem dX8_fits_27 : decode cX8_fits 27 = .ok (.istore_n 3, 1) := by decide +kernel
theorem dX8_fits_28 : decode cX8_fits 28 = .ok (.iload_n 3, 1) := by decide +kernel
theorem dX8_fits_29 : decode cX8_fits 29 = .ok (.aload_n 0, 1) := by decide +kernel
theorem dX8_fits_30 : decode cX8_fits 30 = .ok (.getfield 49, 3) := by decide +kernel
theorem dX8_fits_33 : decode cX8_fits 33 = .ok (.iload_n 1, 1) := by decide +kernel
theorem dX8_fits_34 : decode cX8_fits 34 = .ok (.iaload, 1) := by decide +kernel
theorem dX8_fits_35 : decode cX8_fits 35 = .ok (.if_icmp .ge 34, 3) := by decide +kernel
theorem dX8_fits_38 : decode cX8_fits 38 = .ok (.aload_n 0, 1) := by decide +kernel
theorem dX8_fits_39 : decode cX8_fits 39 = .ok (.getfield 46, 3) := by decide +kernel
theorem dX8_fits_42 : decode cX8_fits 42 = .ok (.sipush 1000, 3) := by decide +kernel
theorem dX8_fits_45 : decode cX8_fits 45 = .ok (.iload_n 1, 1) := by decide +kernel
theorem dX8_fits_46 : decode cX8_fits 46 = .ok (.imul, 1) := by decide +kernel
theorem dX8_fits_47 : decode cX8_fits 47 = .ok (.iload_n 3, 1) := by decide +kernel
theorem dX8_fits_48 : decode cX8_fits 48 = .ok (.iadd, 1) := by decide +kernel
theorem dX8_fits_49 : decode cX8_fits 49 = .ok (.iaload, 1) := by decide +kernel
theorem dX8_fits_50 : decode cX8_fits 50 = .ok (.aload_n 0, 1) := by decide +kernel
theorem dX8_fits_51 : decode cX8_fits 51 = .ok (.getfield 13, 3) := by decide +kernel
theorem dX8_fits_54 : decode cX8_fits 54 = .ok (.iload_n 2, 1) := by decide +kernel
theorem dX8_fits_55 : decode cX8_fits 55 = .ok (.iload_n 3, 1) := by decide +kernel
theorem dX8_fits_56 : decode cX8_fits 56 = .ok (.iadd, 1) := by decide +kernel
theorem dX8_fits_57 : decode cX8_fits 57 = .ok (.iaload, 1) := by decide +kernel
theorem dX8_fits_58 : decode cX8_fits 58 = .ok (.if_icmp .eq 5, 3) := by decide +kernel
theorem dX8_fits_61 : decode cX8_fits 61 = .ok (.iconst 0, 1) := by decide +kernel
theorem dX8_fits_62 : decode cX8_fits 62 = .ok (.ireturn, 1) := by decide +kernel
theorem dX8_fits_63 : decode cX8_fits 63 = .ok (.iinc 3 1, 3) := by decide +kernel
theorem dX8_fits_66 : decode cX8_fits 66 = .ok (.goto (-38), 3) := by decide +kernel
theorem dX8_fits_69 : decode cX8_fits 69 = .ok (.iconst 1, 1) := by decide +kernel
theorem dX8_fits_70 : decode cX8_fits 70 = .ok (.ireturn, 1) := by decide +kernel
theorem dX8_isAhead_0 : decode cX8_isAhead 0 = .ok (.iconst 0, 1) := by decide +kernel
theorem dX8_isAhead_1 : decode cX8_isAhead 1 = .ok (.istore 4, 2) := by decide +kernel
theorem dX8_isAhead_3 : decode cX8_isAhead 3 = .ok (.iload 4, 2) := by decide +kernel
theorem dX8_isAhead_5 : decode cX8_isAhead 5 = .ok (.iconst 2, 1) := by decide +kernel
theorem dX8_isAhead_6 : decode cX8_isAhead 6 = .ok (.if_icmp .ge 42, 3) := by decide +kernel
theorem dX8_isAhead_9 : decode cX8_isAhead 9 = .ok (.aload_n 0, 1) := by decide +kernel
theorem dX8_isAhead_10 : decode cX8_isAhead 10 = .ok (.getfield 58, 3) := by decide +kernel
theorem dX8_isAhead_13 : decode cX8_isAhead 13 = .ok (.iload 4, 2) := by decide +kernel
theorem dX8_isAhead_15 : decode cX8_isAhead 15 = .ok (.iload_n 1, 1) := by decide +kernel
theorem dX8_isAhead_16 : decode cX8_isAhead 16 = .ok (.iastore, 1) := by decide +kernel
theorem dX8_isAhead_17 : decode cX8_isAhead 17 = .ok (.aload_n 0, 1) := by decide +kernel
theorem dX8_isAhead_18 : decode cX8_isAhead 18 = .ok (.getfield 61, 3) := by decide +kernel
theorem dX8_isAhead_21 : decode cX8_isAhead 21 = .ok (.iload 4, 2) := by decide +kernel
theorem dX8_isAhead_23 : decode cX8_isAhead 23 = .ok (.iload 4, 2) := by decide +kernel
theorem dX8_isAhead_25 : decode cX8_isAhead 25 = .ok (.ifCond .ne 7, 3) := by decide +kernel
theorem dX8_isAhead_28 : decode cX8_isAhead 28 = .ok (.iload_n 2, 1) := by decide +kernel
theorem dX8_isAhead_29 : decode cX8_isAhead 29 = .ok (.goto 4, 3) := by decide +kernel
theorem dX8_isAhead_32 : decode cX8_isAhead 32 = .ok (.iload_n 3, 1) := by decide +kernel
theorem dX8_isAhead_33 : decode cX8_isAhead 33 = .ok (.iastore, 1) := by decide +kernel
theorem dX8_isAhead_34 : decode cX8_isAhead 34 = .ok (.aload_n 0, 1) := by decide +kernel
theorem dX8_isAhead_35 : decode cX8_isAhead 35 = .ok (.getfield 64, 3) := by decide +kernel
theorem dX8_isAhead_38 : decode cX8_isAhead 38 = .ok (.iload 4, 2) := by decide +kernel
theorem dX8_isAhead_40 : decode cX8_isAhead 40 = .ok (.iconst 0, 1) := by decide +kernel
theorem dX8_isAhead_41 : decode cX8_isAhead 41 = .ok (.iastore, 1) := by decide +kernel
theorem dX8_isAhead_42 : decode cX8_isAhead 42 = .ok (.iinc 4 1, 3) := by decide +kernel
theorem dX8_isAhead_45 : decode cX8_isAhead 45 = .ok (.goto (-42), 3) := by decide +kernel
theorem dX8_isAhead_48 : decode cX8_isAhead 48 = .ok (.aload_n 0, 1) := by decide +kernel
theorem dX8_isAhead_49 : decode cX8_isAhead 49 = .ok (.iconst 0, 1) := by decide +kernel
theorem dX8_isAhead_50 : decode cX8_isAhead 50 = .ok (.invokevirtual 138, 3) := by decide +kernel
theorem dX8_isAhead_53 : decode cX8_isAhead 53 = .ok (.istore 4, 2) := by decide +kernel
theorem dX8_isAhead_55 : decode cX8_isAhead 55 = .ok (.aload_n 0, 1) := by decide +kernel
theorem dX8_isAhead_56 : decode cX8_isAhead 56 = .ok (.iconst 1, 1) := by decide +kernel
theorem dX8_isAhead_57 : decode cX8_isAhead 57 = .ok (.invokevirtual 138, 3) := by decide +kernel
theorem dX8_isAhead_60 : decode cX8_isAhead 60 = .ok (.istore 5, 2) := by decide +kernel
theorem dX8_isAhead_62 : decode cX8_isAhead 62 = .ok (.iload 4, 2) := by decide +kernel
theorem dX8_isAhead_64 : decode cX8_isAhead 64 = .ok (.iload 5, 2) := by decide +kernel
theorem dX8_isAhead_66 : decode cX8_isAhead 66 = .ok (.if_icmp .ne 25, 3) := by decide +kernel
theorem dX8_isAhead_69 : decode cX8_isAhead 69 = .ok (.iload 4, 2) := by decide +kernel
theorem dX8_isAhead_71 : decode cX8_isAhead 71 = .ok (.ifCond .lt 20, 3) := by decide +kernel
theorem dX8_isAhead_74 : decode cX8_isAhead 74 = .ok (.aload_n 0, 1) := by decide +kernel
theorem dX8_isAhead_75 : decode cX8_isAhead 75 = .ok (.iconst 0, 1) := by decide +kernel
theorem dX8_isAhead_76 : decode cX8_isAhead 76 = .ok (.invokevirtual 138, 3) := by decide +kernel
theorem dX8_isAhead_79 : decode cX8_isAhead 79 = .ok (.istore 4, 2) := by decide +kernel
theorem dX8_isAhead_81 : decode cX8_isAhead 81 = .ok (.aload_n 0, 1) := by decide +kernel
theorem dX8_isAhead_82 : decode cX8_isAhead 82 = .ok (.iconst 1, 1) := by decide +kernel
theorem dX8_isAhead_83 : decode cX8_isAhead 83 = .ok (.invokevirtual 138, 3) := by decide +kernel
theorem dX8_isAhead_86 : decode cX8_isAhead 86 = .ok (.istore 5, 2) := by decide +kernel
theorem dX8_isAhead_88 : decode cX8_isAhead 88 = .ok (.goto (-26), 3) := by decide +kernel
theorem dX8_isAhead_91 : decode cX8_isAhead 91 = .ok (.iload 4, 2) := by decide +kernel
theorem dX8_isAhead_93 : decode cX8_isAhead 93 = .ok (.iload 5, 2) := by decide +kernel
theorem dX8_isAhead_95 : decode cX8_isAhead 95 = .ok (.if_icmp .ge 7, 3) := by decide +kernel
theorem dX8_isAhead_98 : decode cX8_isAhead 98 = .ok (.iconst 1, 1) := by decide +kernel
theorem dX8_isAhead_99 : decode cX8_isAhead 99 = .ok (.goto 4, 3) := by decide +kernel
theorem dX8_isAhead_102 : decode cX8_isAhead 102 = .ok (.iconst 0, 1) := by decide +kernel
theorem dX8_isAhead_103 : decode cX8_isAhead 103 = .ok (.ireturn, 1) := by decide +kernel
theorem dX8_next_0 : decode cX8_next 0 = .ok (.aload_n 0, 1) := by decide +kernel
theorem dX8_next_1 : decode cX8_next 1 = .ok (.getfield 58, 3) := by decide +kernel
theorem dX8_next_4 : decode cX8_next 4 = .ok (.iload_n 1, 1) := by decide +kernel
theorem dX8_next_5 : decode cX8_next 5 = .ok (.iaload, 1) := by decide +kernel
theorem dX8_next_6 : decode cX8_next 6 = .ok (.aload_n 0, 1) := by decide +kernel
theorem dX8_next_7 : decode cX8_next 7 = .ok (.getfield 94, 3) := by decide +kernel
theorem dX8_next_10 : decode cX8_next 10 = .ok (.if_icmp .lt 5, 3) := by decide +kernel
theorem dX8_next_13 : decode cX8_next 13 = .ok (.iconst (-1), 1) := by decide +kernel
theorem dX8_next_14 : decode cX8_next 14 = .ok (.ireturn, 1) := by decide +kernel
theorem dX8_next_15 : decode cX8_next 15 = .ok (.aload_n 0, 1) := by decide +kernel
theorem dX8_next_16 : decode cX8_next 16 = .ok (.getfield 61, 3) := by decide +kernel
theorem dX8_next_19 : decode cX8_next 19 = .ok (.iload_n 1, 1) := by decide +kernel
theorem dX8_next_20 : decode cX8_next 20 = .ok (.iaload, 1) := by decide +kernel
theorem dX8_next_21 : decode cX8_next 21 = .ok (.istore_n 2, 1) := by decide +kernel
theorem dX8_next_22 : decode cX8_next 22 = .ok (.iconst 2, 1) := by decide +kernel
theorem dX8_next_23 : decode cX8_next 23 = .ok (.istore_n 3, 1) := by decide +kernel
theorem dX8_next_24 : decode cX8_next 24 = .ok (.iconst 0, 1) := by decide +kernel
theorem dX8_next_25 : decode cX8_next 25 = .ok (.istore 4, 2) := by decide +kernel
theorem dX8_next_27 : decode cX8_next 27 = .ok (.iload_n 2, 1) := by decide +kernel
theorem dX8_next_28 : decode cX8_next 28 = .ok (.ifCond .ge 35, 3) := by decide +kernel
theorem dX8_next_31 : decode cX8_next 31 = .ok (.aload_n 0, 1) := by decide +kernel
theorem dX8_next_32 : decode cX8_next 32 = .ok (.aload_n 0, 1) := by decide +kernel
theorem dX8_next_33 : decode cX8_next 33 = .ok (.getfield 13, 3) := by decide +kernel
theorem dX8_next_36 : decode cX8_next 36 = .ok (.aload_n 0, 1) := by decide +kernel
theorem dX8_next_37 : decode cX8_next 37 = .ok (.getfield 58, 3) := by decide +kernel
theorem dX8_next_40 : decode cX8_next 40 = .ok (.iload_n 1, 1) := by decide +kernel
theorem dX8_next_41 : decode cX8_next 41 = .ok (.iaload, 1) := by decide +kernel
theorem dX8_next_42 : decode cX8_next 42 = .ok (.iaload, 1) := by decide +kernel
theorem dX8_next_43 : decode cX8_next 43 = .ok (.invokevirtual 132, 3) := by decide +kernel
theorem dX8_next_46 : decode cX8_next 46 = .ok (.istore_n 3, 1) := by decide +kernel
theorem dX8_next_47 : decode cX8_next 47 = .ok (.aload_n 0, 1) := by decide +kernel
theorem dX8_next_48 : decode cX8_next 48 = .ok (.getfield 42, 3) := by decide +kernel
theorem dX8_next_51 : decode cX8_next 51 = .ok (.aload_n 0, 1) := by decide +kernel
theorem dX8_next_52 : decode cX8_next 52 = .ok (.getfield 64, 3) := by decide +kernel
theorem dX8_next_55 : decode cX8_next 55 = .ok (.iload_n 1, 1) := by decide +kernel
theorem dX8_next_56 : decode cX8_next 56 = .ok (.iaload, 1) := by decide +kernel
theorem dX8_next_57 : decode cX8_next 57 = .ok (.iaload, 1) := by decide +kernel
theorem dX8_next_58 : decode cX8_next 58 = .ok (.istore 4, 2) := by decide +kernel
theorem dX8_next_60 : decode cX8_next 60 = .ok (.goto 27, 3) := by decide +kernel
theorem dX8_next_63 : decode cX8_next 63 = .ok (.aload_n 0, 1) := by decide +kernel
theorem dX8_next_64 : decode cX8_next 64 = .ok (.getfield 64, 3) := by decide +kernel
theorem dX8_next_67 : decode cX8_next 67 = .ok (.iload_n 1, 1) := by decide +kernel
theorem dX8_next_68 : decode cX8_next 68 = .ok (.iaload, 1) := by decide +kernel
theorem dX8_next_69 : decode cX8_next 69 = .ok (.ifCond .ne 12, 3) := by decide +kernel
theorem dX8_next_72 : decode cX8_next 72 = .ok (.iconst 1, 1) := by decide +kernel
theorem dX8_next_73 : decode cX8_next 73 = .ok (.iload_n 2, 1) := by decide +kernel
theorem dX8_next_74 : decode cX8_next 74 = .ok (.bipush 32, 2) := by decide +kernel
theorem dX8_next_76 : decode cX8_next 76 = .ok (.idiv, 1) := by decide +kernel
theorem dX8_next_77 : decode cX8_next 77 = .ok (.iadd, 1) := by decide +kernel
theorem dX8_next_78 : decode cX8_next 78 = .ok (.goto 7, 3) := by decide +kernel
theorem dX8_next_81 : decode cX8_next 81 = .ok (.iload_n 2, 1) := by decide +kernel
theorem dX8_next_82 : decode cX8_next 82 = .ok (.bipush 32, 2) := by decide +kernel
theorem dX8_next_84 : decode cX8_next 84 = .ok (.irem, 1) := by decide +kernel
theorem dX8_next_85 : decode cX8_next 85 = .ok (.istore 4, 2) := by decide +kernel
theorem dX8_next_87 : decode cX8_next 87 = .ok (.aload_n 0, 1) := by decide +kernel
theorem dX8_next_88 : decode cX8_next 88 = .ok (.getfield 64, 3) := by decide +kernel
theorem dX8_next_91 : decode cX8_next 91 = .ok (.iload_n 1, 1) := by decide +kernel
theorem dX8_next_92 : decode cX8_next 92 = .ok (.dup2, 1) := by decide +kernel
theorem dX8_next_93 : decode cX8_next 93 = .ok (.iaload, 1) := by decide +kernel
theorem dX8_next_94 : decode cX8_next 94 = .ok (.iconst 1, 1) := by decide +kernel
theorem dX8_next_95 : decode cX8_next 95 = .ok (.iadd, 1) := by decide +kernel
theorem dX8_next_96 : decode cX8_next 96 = .ok (.iastore, 1) := by decide +kernel
theorem dX8_next_97 : decode cX8_next 97 = .ok (.aload_n 0, 1) := by decide +kernel
theorem dX8_next_98 : decode cX8_next 98 = .ok (.getfield 64, 3) := by decide +kernel
theorem dX8_next_101 : decode cX8_next 101 = .ok (.iload_n 1, 1) := by decide +kernel
theorem dX8_next_102 : decode cX8_next 102 = .ok (.iaload, 1) := by decide +kernel
theorem dX8_next_103 : decode cX8_next 103 = .ok (.iload_n 3, 1) := by decide +kernel
theorem dX8_next_104 : decode cX8_next 104 = .ok (.if_icmp .ne 67, 3) := by decide +kernel
theorem dX8_next_107 : decode cX8_next 107 = .ok (.aload_n 0, 1) := by decide +kernel
theorem dX8_next_108 : decode cX8_next 108 = .ok (.getfield 64, 3) := by decide +kernel
theorem dX8_next_111 : decode cX8_next 111 = .ok (.iload_n 1, 1) := by decide +kernel
theorem dX8_next_112 : decode cX8_next 112 = .ok (.iconst 0, 1) := by decide +kernel
theorem dX8_next_113 : decode cX8_next 113 = .ok (.iastore, 1) := by decide +kernel
theorem dX8_next_114 : decode cX8_next 114 = .ok (.aload_n 0, 1) := by decide +kernel
theorem dX8_next_115 : decode cX8_next 115 = .ok (.getfield 58, 3) := by decide +kernel
theorem dX8_next_118 : decode cX8_next 118 = .ok (.iload_n 1, 1) := by decide +kernel
theorem dX8_next_119 : decode cX8_next 119 = .ok (.dup2, 1) := by decide +kernel
theorem dX8_next_120 : decode cX8_next 120 = .ok (.iaload, 1) := by decide +kernel
theorem dX8_next_121 : decode cX8_next 121 = .ok (.iload_n 2, 1) := by decide +kernel
theorem dX8_next_122 : decode cX8_next 122 = .ok (.ifCond .ge 7, 3) := by decide +kernel
theorem dX8_next_125 : decode cX8_next 125 = .ok (.iconst 1, 1) := by decide +kernel
theorem dX8_next_126 : decode cX8_next 126 = .ok (.goto 9, 3) := by decide +kernel
theorem dX8_next_129 : decode cX8_next 129 = .ok (.aload_n 0, 1) := by decide +kernel
theorem dX8_next_130 : decode cX8_next 130 = .ok (.getfield 49, 3) := by decide +kernel
theorem dX8_next_133 : decode cX8_next 133 = .ok (.iload_n 2, 1) := by decide +kernel
theorem dX8_next_134 : decode cX8_next 134 = .ok (.iaload, 1) := by decide +kernel
theorem dX8_next_135 : decode cX8_next 135 = .ok (.iadd, 1) := by decide +kernel
theorem dX8_next_136 : decode cX8_next 136 = .ok (.iastore, 1) := by decide +kernel
theorem dX8_next_137 : decode cX8_next 137 = .ok (.aload_n 0, 1) := by decide +kernel
theorem dX8_next_138 : decode cX8_next 138 = .ok (.getfield 61, 3) := by decide +kernel
theorem dX8_next_141 : decode cX8_next 141 = .ok (.iload_n 1, 1) := by decide +kernel
theorem dX8_next_142 : decode cX8_next 142 = .ok (.aload_n 0, 1) := by decide +kernel
theorem dX8_next_143 : decode cX8_next 143 = .ok (.getfield 58, 3) := by decide +kernel
theorem dX8_next_146 : decode cX8_next 146 = .ok (.iload_n 1, 1) := by decide +kernel
theorem dX8_next_147 : decode cX8_next 147 = .ok (.iaload, 1) := by decide +kernel
theorem dX8_next_148 : decode cX8_next 148 = .ok (.aload_n 0, 1) := by decide +kernel
theorem dX8_next_149 : decode cX8_next 149 = .ok (.getfield 94, 3) := by decide +kernel
theorem dX8_next_152 : decode cX8_next 152 = .ok (.if_icmp .ge 17, 3) := by decide +kernel
theorem dX8_next_155 : decode cX8_next 155 = .ok (.aload_n 0, 1) := by decide +kernel
theorem dX8_next_156 : decode cX8_next 156 = .ok (.getfield 55, 3) := by decide +kernel
theorem dX8_next_159 : decode cX8_next 159 = .ok (.aload_n 0, 1) := by decide +kernel
theorem dX8_next_160 : decode cX8_next 160 = .ok (.getfield 58, 3) := by decide +kernel
theorem dX8_next_163 : decode cX8_next 163 = .ok (.iload_n 1, 1) := by decide +kernel
theorem dX8_next_164 : decode cX8_next 164 = .ok (.iaload, 1) := by decide +kernel
theorem dX8_next_165 : decode cX8_next 165 = .ok (.iaload, 1) := by decide +kernel
theorem dX8_next_166 : decode cX8_next 166 = .ok (.goto 4, 3) := by decide +kernel
theorem dX8_next_169 : decode cX8_next 169 = .ok (.iconst (-1), 1) := by decide +kernel
theorem dX8_next_170 : decode cX8_next 170 = .ok (.iastore, 1) := by decide +kernel
theorem dX8_next_171 : decode cX8_next 171 = .ok (.iload 4, 2) := by decide +kernel
theorem dX8_next_173 : decode cX8_next 173 = .ok (.ireturn, 1) := by decide +kernel
theorem dX8_make_0 : decode cX8_make 0 = .ok (.iload_n 1, 1) := by decide +kernel
theorem dX8_make_1 : decode cX8_make 1 = .ok (.ifCond .lt 8, 3) := by decide +kernel
theorem dX8_make_4 : decode cX8_make 4 = .ok (.iload_n 1, 1) := by decide +kernel
theorem dX8_make_5 : decode cX8_make 5 = .ok (.iconst 1, 1) := by decide +kernel
theorem dX8_make_6 : decode cX8_make 6 = .ok (.if_icmp .le 6, 3) := by decide +kernel
theorem dX8_make_9 : decode cX8_make 9 = .ok (.bipush (-2), 2) := by decide +kernel
theorem dX8_make_11 : decode cX8_make 11 = .ok (.ireturn, 1) := by decide +kernel
theorem dX8_make_12 : decode cX8_make 12 = .ok (.aload_n 0, 1) := by decide +kernel
theorem dX8_make_13 : decode cX8_make 13 = .ok (.iload_n 1, 1) := by decide +kernel
theorem dX8_make_14 : decode cX8_make 14 = .ok (.invokevirtual 158, 3) := by decide +kernel
theorem dX8_make_17 : decode cX8_make 17 = .ok (.aload_n 0, 1) := by decide +kernel
theorem dX8_make_18 : decode cX8_make 18 = .ok (.getfield 123, 3) := by decide +kernel
theorem dX8_make_21 : decode cX8_make 21 = .ok (.ifCond .eq 12, 3) := by decide +kernel
theorem dX8_make_24 : decode cX8_make 24 = .ok (.aload_n 0, 1) := by decide +kernel
theorem dX8_make_25 : decode cX8_make 25 = .ok (.getfield 123, 3) := by decide +kernel
theorem dX8_make_28 : decode cX8_make 28 = .ok (.iconst 3, 1) := by decide +kernel
theorem dX8_make_29 : decode cX8_make 29 = .ok (.irem, 1) := by decide +kernel
theorem dX8_make_30 : decode cX8_make 30 = .ok (.ifCond .eq 11, 3) := by decide +kernel
theorem dX8_make_33 : decode cX8_make 33 = .ok (.aload_n 0, 1) := by decide +kernel
theorem dX8_make_34 : decode cX8_make 34 = .ok (.iconst 5, 1) := by decide +kernel
theorem dX8_make_35 : decode cX8_make 35 = .ok (.invokevirtual 135, 3) := by decide +kernel
theorem dX8_make_38 : decode cX8_make 38 = .ok (.goto (-21), 3) := by decide +kernel
theorem dX8_make_41 : decode cX8_make 41 = .ok (.aload_n 0, 1) := by decide +kernel
theorem dX8_make_42 : decode cX8_make 42 = .ok (.getfield 91, 3) := by decide +kernel
theorem dX8_make_45 : decode cX8_make 45 = .ok (.aload_n 0, 1) := by decide +kernel
theorem dX8_make_46 : decode cX8_make 46 = .ok (.getfield 123, 3) := by decide +kernel
theorem dX8_make_49 : decode cX8_make 49 = .ok (.iconst 3, 1) := by decide +kernel
theorem dX8_make_50 : decode cX8_make 50 = .ok (.idiv, 1) := by decide +kernel
theorem dX8_make_51 : decode cX8_make 51 = .ok (.iconst 2, 1) := by decide +kernel
theorem dX8_make_52 : decode cX8_make 52 = .ok (.imul, 1) := by decide +kernel
theorem dX8_make_53 : decode cX8_make 53 = .ok (.iadd, 1) := by decide +kernel
theorem dX8_make_54 : decode cX8_make 54 = .ok (.sipush 3000, 3) := by decide +kernel
theorem dX8_make_57 : decode cX8_make 57 = .ok (.if_icmp .le 6, 3) := by decide +kernel
theorem dX8_make_60 : decode cX8_make 60 = .ok (.bipush (-4), 2) := by decide +kernel
theorem dX8_make_62 : decode cX8_make 62 = .ok (.ireturn, 1) := by decide +kernel
theorem dX8_make_63 : decode cX8_make 63 = .ok (.aload_n 0, 1) := by decide +kernel
theorem dX8_make_64 : decode cX8_make 64 = .ok (.getfield 91, 3) := by decide +kernel
theorem dX8_make_67 : decode cX8_make 67 = .ok (.istore_n 2, 1) := by decide +kernel
theorem dX8_make_68 : decode cX8_make 68 = .ok (.iconst 0, 1) := by decide +kernel
theorem dX8_make_69 : decode cX8_make 69 = .ok (.istore_n 3, 1) := by decide +kernel
theorem dX8_make_70 : decode cX8_make 70 = .ok (.iload_n 3, 1) := by decide +kernel
theorem dX8_make_71 : decode cX8_make 71 = .ok (.aload_n 0, 1) := by decide +kernel
theorem dX8_make_72 : decode cX8_make 72 = .ok (.getfield 123, 3) := by decide +kernel
theorem dX8_make_75 : decode cX8_make 75 = .ok (.if_icmp .ge 96, 3) := by decide +kernel
theorem dX8_make_78 : decode cX8_make 78 = .ok (.aload_n 0, 1) := by decide +kernel
theorem dX8_make_79 : decode cX8_make 79 = .ok (.getfield 39, 3) := by decide +kernel
theorem dX8_make_82 : decode cX8_make 82 = .ok (.iload_n 3, 1) := by decide +kernel
theorem dX8_make_83 : decode cX8_make 83 = .ok (.iaload, 1) := by decide +kernel
theorem dX8_make_84 : decode cX8_make 84 = .ok (.bipush 10, 2) := by decide +kernel
theorem dX8_make_86 : decode cX8_make 86 = .ok (.ishl, 1) := by decide +kernel
theorem dX8_make_87 : decode cX8_make 87 = .ok (.aload_n 0, 1) := by decide +kernel
theorem dX8_make_88 : decode cX8_make 88 = .ok (.getfield 39, 3) := by decide +kernel
theorem dX8_make_91 : decode cX8_make 91 = .ok (.iload_n 3, 1) := by decide +kernel
theorem dX8_make_92 : decode cX8_make 92 = .ok (.iconst 1, 1) := by decide +kernel
theorem dX8_make_93 : decode cX8_make 93 = .ok (.iadd, 1) := by decide +kernel
theorem dX8_make_94 : decode cX8_make 94 = .ok (.iaload, 1) := by decide +kernel
theorem dX8_make_95 : decode cX8_make 95 = .ok (.iconst 5, 1) := by decide +kernel
theorem dX8_make_96 : decode cX8_make 96 = .ok (.ishl, 1) := by decide +kernel
theorem dX8_make_97 : decode cX8_make 97 = .ok (.ior, 1) := by decide +kernel
theorem dX8_make_98 : decode cX8_make 98 = .ok (.aload_n 0, 1) := by decide +kernel
theorem dX8_make_99 : decode cX8_make 99 = .ok (.getfield 39, 3) := by decide +kernel
theorem dX8_make_102 : decode cX8_make 102 = .ok (.iload_n 3, 1) := by decide +kernel
theorem dX8_make_103 : decode cX8_make 103 = .ok (.iconst 2, 1) := by decide +kernel
theorem dX8_make_104 : decode cX8_make 104 = .ok (.iadd, 1) := by decide +kernel
theorem dX8_make_105 : decode cX8_make 105 = .ok (.iaload, 1) := by decide +kernel
theorem dX8_make_106 : decode cX8_make 106 = .ok (.ior, 1) := by decide +kernel
theorem dX8_make_107 : decode cX8_make 107 = .ok (.iload_n 3, 1) := by decide +kernel
theorem dX8_make_108 : decode cX8_make 108 = .ok (.iconst 3, 1) := by decide +kernel
theorem dX8_make_109 : decode cX8_make 109 = .ok (.iadd, 1) := by decide +kernel
theorem dX8_make_110 : decode cX8_make 110 = .ok (.aload_n 0, 1) := by decide +kernel
theorem dX8_make_111 : decode cX8_make 111 = .ok (.getfield 123, 3) := by decide +kernel
theorem dX8_make_114 : decode cX8_make 114 = .ok (.if_icmp .ne 8, 3) := by decide +kernel
theorem dX8_make_117 : decode cX8_make 117 = .ok (.ldc 102, 2) := by decide +kernel
theorem dX8_make_119 : decode cX8_make 119 = .ok (.goto 4, 3) := by decide +kernel
theorem dX8_make_122 : decode cX8_make 122 = .ok (.iconst 0, 1) := by decide +kernel
theorem dX8_make_123 : decode cX8_make 123 = .ok (.ior, 1) := by decide +kernel
theorem dX8_make_124 : decode cX8_make 124 = .ok (.istore 4, 2) := by decide +kernel
theorem dX8_make_126 : decode cX8_make 126 = .ok (.aload_n 0, 1) := by decide +kernel
theorem dX8_make_127 : decode cX8_make 127 = .ok (.getfield 7, 3) := by decide +kernel
theorem dX8_make_130 : decode cX8_make 130 = .ok (.aload_n 0, 1) := by decide +kernel
theorem dX8_make_131 : decode cX8_make 131 = .ok (.getfield 91, 3) := by decide +kernel
theorem dX8_make_134 : decode cX8_make 134 = .ok (.iload 4, 2) := by decide +kernel
theorem dX8_make_136 : decode cX8_make 136 = .ok (.bipush 8, 2) := by decide +kernel
theorem dX8_make_138 : decode cX8_make 138 = .ok (.ishr, 1) := by decide +kernel
theorem dX8_make_139 : decode cX8_make 139 = .ok (.i2b, 1) := by decide +kernel
theorem dX8_make_140 : decode cX8_make 140 = .ok (.bastore, 1) := by decide +kernel
theorem dX8_make_141 : decode cX8_make 141 = .ok (.aload_n 0, 1) := by decide +kernel
theorem dX8_make_142 : decode cX8_make 142 = .ok (.getfield 7, 3) := by decide +kernel
theorem dX8_make_145 : decode cX8_make 145 = .ok (.aload_n 0, 1) := by decide +kernel
theorem dX8_make_146 : decode cX8_make 146 = .ok (.getfield 91, 3) := by decide +kernel
theorem dX8_make_149 : decode cX8_make 149 = .ok (.iconst 1, 1) := by decide +kernel
theorem dX8_make_150 : decode cX8_make 150 = .ok (.iadd, 1) := by decide +kernel
theorem dX8_make_151 : decode cX8_make 151 = .ok (.iload 4, 2) := by decide +kernel
theorem dX8_make_153 : decode cX8_make 153 = .ok (.i2b, 1) := by decide +kernel
theorem dX8_make_154 : decode cX8_make 154 = .ok (.bastore, 1) := by decide +kernel
theorem dX8_make_155 : decode cX8_make 155 = .ok (.aload_n 0, 1) := by decide +kernel
theorem dX8_make_156 : decode cX8_make 156 = .ok (.dup, 1) := by decide +kernel
theorem dX8_make_157 : decode cX8_make 157 = .ok (.getfield 91, 3) := by decide +kernel
theorem dX8_make_160 : decode cX8_make 160 = .ok (.iconst 2, 1) := by decide +kernel
theorem dX8_make_161 : decode cX8_make 161 = .ok (.iadd, 1) := by decide +kernel
theorem dX8_make_162 : decode cX8_make 162 = .ok (.putfield 91, 3) := by decide +kernel
theorem dX8_make_165 : decode cX8_make 165 = .ok (.iinc 3 3, 3) := by decide +kernel
theorem dX8_make_168 : decode cX8_make 168 = .ok (.goto (-98), 3) := by decide +kernel
theorem dX8_make_171 : decode cX8_make 171 = .ok (.iload_n 2, 1) := by decide +kernel
theorem dX8_make_172 : decode cX8_make 172 = .ok (.ireturn, 1) := by decide +kernel
theorem dX8_word_0 : decode cX8_word 0 = .ok (.aload_n 0, 1) := by decide +kernel
theorem dX8_word_1 : decode cX8_word 1 = .ok (.iconst 0, 1) := by decide +kernel
theorem dX8_word_2 : decode cX8_word 2 = .ok (.aload_n 0, 1) := by decide +kernel
theorem dX8_word_3 : decode cX8_word 3 = .ok (.getfield 94, 3) := by decide +kernel
theorem dX8_word_6 : decode cX8_word 6 = .ok (.iconst 0, 1) := by decide +kernel
theorem dX8_word_7 : decode cX8_word 7 = .ok (.invokevirtual 168, 3) := by decide +kernel
theorem dX8_word_10 : decode cX8_word 10 = .ok (.lstore_n 1, 1) := by decide +kernel
theorem dX8_word_11 : decode cX8_word 11 = .ok (.aload_n 0, 1) := by decide +kernel
theorem dX8_word_12 : decode cX8_word 12 = .ok (.lload_n 1, 1) := by decide +kernel
theorem dX8_word_13 : decode cX8_word 13 = .ok (.invokevirtual 172, 3) := by decide +kernel
theorem dX8_word_16 : decode cX8_word 16 = .ok (.istore_n 3, 1) := by decide +kernel
theorem dX8_word_17 : decode cX8_word 17 = .ok (.iload_n 3, 1) := by decide +kernel
theorem dX8_word_18 : decode cX8_word 18 = .ok (.ifCond .lt 5, 3) := by decide +kernel
theorem dX8_word_21 : decode cX8_word 21 = .ok (.iload_n 3, 1) := by decide +kernel
theorem dX8_word_22 : decode cX8_word 22 = .ok (.ireturn, 1) := by decide +kernel
theorem dX8_word_23 : decode cX8_word 23 = .ok (.aload_n 0, 1) := by decide +kernel
theorem dX8_word_24 : decode cX8_word 24 = .ok (.getfield 165, 3) := by decide +kernel
theorem dX8_word_27 : decode cX8_word 27 = .ok (.bipush 40, 2) := by decide +kernel
theorem dX8_word_29 : decode cX8_word 29 = .ok (.if_icmp .ne 6, 3) := by decide +kernel
theorem dX8_word_32 : decode cX8_word 32 = .ok (.bipush (-4), 2) := by decide +kernel
theorem dX8_word_34 : decode cX8_word 34 = .ok (.ireturn, 1) := by decide +kernel
theorem dX8_word_35 : decode cX8_word 35 = .ok (.aload_n 0, 1) := by decide +kernel
theorem dX8_word_36 : decode cX8_word 36 = .ok (.getfield 67, 3) := by decide +kernel
theorem dX8_word_39 : decode cX8_word 39 = .ok (.aload_n 0, 1) := by decide +kernel
theorem dX8_word_40 : decode cX8_word 40 = .ok (.getfield 165, 3) := by decide +kernel
theorem dX8_word_43 : decode cX8_word 43 = .ok (.lload_n 1, 1) := by decide +kernel
theorem dX8_word_44 : decode cX8_word 44 = .ok (.lastore, 1) := by decide +kernel
theorem dX8_word_45 : decode cX8_word 45 = .ok (.aload_n 0, 1) := by decide +kernel
theorem dX8_word_46 : decode cX8_word 46 = .ok (.dup, 1) := by decide +kernel
theorem dX8_word_47 : decode cX8_word 47 = .ok (.getfield 165, 3) := by decide +kernel
theorem dX8_word_50 : decode cX8_word 50 = .ok (.iconst 1, 1) := by decide +kernel
theorem dX8_word_51 : decode cX8_word 51 = .ok (.iadd, 1) := by decide +kernel
theorem dX8_word_52 : decode cX8_word 52 = .ok (.putfield 165, 3) := by decide +kernel
theorem dX8_word_55 : decode cX8_word 55 = .ok (.aload_n 0, 1) := by decide +kernel
theorem dX8_word_56 : decode cX8_word 56 = .ok (.getfield 165, 3) := by decide +kernel
theorem dX8_word_59 : decode cX8_word 59 = .ok (.iconst 1, 1) := by decide +kernel
theorem dX8_word_60 : decode cX8_word 60 = .ok (.isub, 1) := by decide +kernel
theorem dX8_word_61 : decode cX8_word 61 = .ok (.ireturn, 1) := by decide +kernel
theorem dX8_wordFrom_0 : decode cX8_wordFrom 0 = .ok (.aload_n 0, 1) := by decide +kernel
theorem dX8_wordFrom_1 : decode cX8_wordFrom 1 = .ok (.invokevirtual 161, 3) := by decide +kernel
theorem dX8_wordFrom_4 : decode cX8_wordFrom 4 = .ok (.istore 4, 2) := by decide +kernel
theorem dX8_wordFrom_6 : decode cX8_wordFrom 6 = .ok (.aload_n 0, 1) := by decide +kernel
theorem dX8_wordFrom_7 : decode cX8_wordFrom 7 = .ok (.iconst 0, 1) := by decide +kernel
theorem dX8_wordFrom_8 : decode cX8_wordFrom 8 = .ok (.putfield 123, 3) := by decide +kernel
theorem dX8_wordFrom_11 : decode cX8_wordFrom 11 = .ok (.iconst 0, 1) := by decide +kernel
theorem dX8_wordFrom_12 : decode cX8_wordFrom 12 = .ok (.istore 5, 2) := by decide +kernel
theorem dX8_wordFrom_14 : decode cX8_wordFrom 14 = .ok (.iload 5, 2) := by decide +kernel
theorem dX8_wordFrom_16 : decode cX8_wordFrom 16 = .ok (.iload_n 2, 1) := by decide +kernel
theorem dX8_wordFrom_17 : decode cX8_wordFrom 17 = .ok (.if_icmp .ge 90, 3) := by decide +kernel
theorem dX8_wordFrom_20 : decode cX8_wordFrom 20 = .ok (.aload_n 0, 1) := by decide +kernel
theorem dX8_wordFrom_21 : decode cX8_wordFrom 21 = .ok (.getfield 123, 3) := by decide +kernel
theorem dX8_wordFrom_24 : decode cX8_wordFrom 24 = .ok (.iload 4, 2) := by decide +kernel
theorem dX8_wordFrom_26 : decode cX8_wordFrom 26 = .ok (.if_icmp .ge 81, 3) := by decide +kernel
theorem dX8_wordFrom_29 : decode cX8_wordFrom 29 = .ok (.aload_n 0, 1) := by decide +kernel
theorem dX8_wordFrom_30 : decode cX8_wordFrom 30 = .ok (.getfield 13, 3) := by decide +kernel
theorem dX8_wordFrom_33 : decode cX8_wordFrom 33 = .ok (.iload_n 1, 1) := by decide +kernel
theorem dX8_wordFrom_34 : decode cX8_wordFrom 34 = .ok (.iload 5, 2) := by decide +kernel
theorem dX8_wordFrom_36 : decode cX8_wordFrom 36 = .ok (.iadd, 1) := by decide +kernel
theorem dX8_wordFrom_37 : decode cX8_wordFrom 37 = .ok (.iaload, 1) := by decide +kernel
theorem dX8_wordFrom_38 : decode cX8_wordFrom 38 = .ok (.istore 6, 2) := by decide +kernel
theorem dX8_wordFrom_40 : decode cX8_wordFrom 40 = .ok (.aload_n 0, 1) := by decide +kernel
theorem dX8_wordFrom_41 : decode cX8_wordFrom 41 = .ok (.iload_n 3, 1) := by decide +kernel
theorem dX8_wordFrom_42 : decode cX8_wordFrom 42 = .ok (.ifCond .eq 25, 3) := by decide +kernel
theorem dX8_wordFrom_45 : decode cX8_wordFrom 45 = .ok (.iload 6, 2) := by decide +kernel
theorem dX8_wordFrom_47 : decode cX8_wordFrom 47 = .ok (.bipush 65, 2) := by decide +kernel
theorem dX8_wordFrom_49 : decode cX8_wordFrom 49 = .ok (.if_icmp .lt 18, 3) := by decide +kernel
theorem dX8_wordFrom_52 : decode cX8_wordFrom 52 = .ok (.iload 6, 2) := by decide +kernel
theorem dX8_wordFrom_54 : decode cX8_wordFrom 54 = .ok (.bipush 90, 2) := by decide +kernel
theorem dX8_wordFrom_56 : decode cX8_wordFrom 56 = .ok (.if_icmp .gt 11, 3) := by decide +kernel
theorem dX8_wordFrom_59 : decode cX8_wordFrom 59 = .ok (.iload 6, 2) := by decide +kernel
theorem dX8_wordFrom_61 : decode cX8_wordFrom 61 = .ok (.bipush 32, 2) := by decide +kernel
theorem dX8_wordFrom_63 : decode cX8_wordFrom 63 = .ok (.iadd, 1) := by decide +kernel
theorem dX8_wordFrom_64 : decode cX8_wordFrom 64 = .ok (.goto 5, 3) := by decide +kernel
theorem dX8_wordFrom_67 : decode cX8_wordFrom 67 = .ok (.iload 6, 2) := by decide +kernel
theorem dX8_wordFrom_69 : decode cX8_wordFrom 69 = .ok (.invokevirtual 132, 3) := by decide +kernel
theorem dX8_wordFrom_72 : decode cX8_wordFrom 72 = .ok (.istore 7, 2) := by decide +kernel
theorem dX8_wordFrom_74 : decode cX8_wordFrom 74 = .ok (.iconst 0, 1) := by decide +kernel
theorem dX8_wordFrom_75 : decode cX8_wordFrom 75 = .ok (.istore 8, 2) := by decide +kernel
theorem dX8_wordFrom_77 : decode cX8_wordFrom 77 = .ok (.iload 8, 2) := by decide +kernel
theorem dX8_wordFrom_79 : decode cX8_wordFrom 79 = .ok (.iload 7, 2) := by decide +kernel
theorem dX8_wordFrom_81 : decode cX8_wordFrom 81 = .ok (.if_icmp .ge 20, 3) := by decide +kernel
theorem dX8_wordFrom_84 : decode cX8_wordFrom 84 = .ok (.aload_n 0, 1) := by decide +kernel
theorem dX8_wordFrom_85 : decode cX8_wordFrom 85 = .ok (.aload_n 0, 1) := by decide +kernel
theorem dX8_wordFrom_86 : decode cX8_wordFrom 86 = .ok (.getfield 42, 3) := by decide +kernel
theorem dX8_wordFrom_89 : decode cX8_wordFrom 89 = .ok (.iload 8, 2) := by decide +kernel
theorem dX8_wordFrom_91 : decode cX8_wordFrom 91 = .ok (.iaload, 1) := by decide +kernel
theorem dX8_wordFrom_92 : decode cX8_wordFrom 92 = .ok (.invokevirtual 135, 3) := by decide +kernel
theorem dX8_wordFrom_95 : decode cX8_wordFrom 95 = .ok (.iinc 8 1, 3) := by decide +kernel
theorem dX8_wordFrom_98 : decode cX8_wordFrom 98 = .ok (.goto (-21), 3) := by decide +kernel
theorem dX8_wordFrom_101 : decode cX8_wordFrom 101 = .ok (.iinc 5 1, 3) := by decide +kernel
theorem dX8_wordFrom_104 : decode cX8_wordFrom 104 = .ok (.goto (-90), 3) := by decide +kernel
theorem dX8_wordFrom_107 : decode cX8_wordFrom 107 = .ok (.lconst 0, 1) := by decide +kernel
theorem dX8_wordFrom_108 : decode cX8_wordFrom 108 = .ok (.lstore 5, 2) := by decide +kernel
theorem dX8_wordFrom_110 : decode cX8_wordFrom 110 = .ok (.iconst 0, 1) := by decide +kernel
theorem dX8_wordFrom_111 : decode cX8_wordFrom 111 = .ok (.istore 7, 2) := by decide +kernel
theorem dX8_wordFrom_113 : decode cX8_wordFrom 113 = .ok (.iload 7, 2) := by decide +kernel
theorem dX8_wordFrom_115 : decode cX8_wordFrom 115 = .ok (.iload 4, 2) := by decide +kernel
theorem dX8_wordFrom_117 : decode cX8_wordFrom 117 = .ok (.if_icmp .ge 65, 3) := by decide +kernel
theorem dX8_wordFrom_120 : decode cX8_wordFrom 120 = .ok (.iload 7, 2) := by decide +kernel
theorem dX8_wordFrom_122 : decode cX8_wordFrom 122 = .ok (.iconst 3, 1) := by decide +kernel
theorem dX8_wordFrom_123 : decode cX8_wordFrom 123 = .ok (.irem, 1) := by decide +kernel
theorem dX8_wordFrom_124 : decode cX8_wordFrom 124 = .ok (.ifCond .ne 24, 3) := by decide +kernel
theorem dX8_wordFrom_127 : decode cX8_wordFrom 127 = .ok (.lload 5, 2) := by decide +kernel
theorem dX8_wordFrom_129 : decode cX8_wordFrom 129 = .ok (.iconst 1, 1) := by decide +kernel
theorem dX8_wordFrom_130 : decode cX8_wordFrom 130 = .ok (.lshl, 1) := by decide +kernel
theorem dX8_wordFrom_131 : decode cX8_wordFrom 131 = .ok (.iload 7, 2) := by decide +kernel
theorem dX8_wordFrom_133 : decode cX8_wordFrom 133 = .ok (.iconst 3, 1) := by decide +kernel
theorem dX8_wordFrom_134 : decode cX8_wordFrom 134 = .ok (.iadd, 1) := by decide +kernel
theorem dX8_wordFrom_135 : decode cX8_wordFrom 135 = .ok (.iload 4, 2) := by decide +kernel
theorem dX8_wordFrom_137 : decode cX8_wordFrom 137 = .ok (.if_icmp .ne 7, 3) := by decide +kernel
theorem dX8_wordFrom_140 : decode cX8_wordFrom 140 = .ok (.lconst 1, 1) := by decide +kernel
theorem dX8_wordFrom_141 : decode cX8_wordFrom 141 = .ok (.goto 4, 3) := by decide +kernel
theorem dX8_wordFrom_144 : decode cX8_wordFrom 144 = .ok (.lconst 0, 1) := by decide +kernel
theorem dX8_wordFrom_145 : decode cX8_wordFrom 145 = .ok (.lor, 1) := by decide +kernel
theorem dX8_wordFrom_146 : decode cX8_wordFrom 146 = .ok (.lstore 5, 2) := by decide +kernel
theorem dX8_wordFrom_148 : decode cX8_wordFrom 148 = .ok (.lload 5, 2) := by decide +kernel
theorem dX8_wordFrom_150 : decode cX8_wordFrom 150 = .ok (.iconst 5, 1) := by decide +kernel
theorem dX8_wordFrom_151 : decode cX8_wordFrom 151 = .ok (.lshl, 1) := by decide +kernel
theorem dX8_wordFrom_152 : decode cX8_wordFrom 152 = .ok (.iload 7, 2) := by decide +kernel
theorem dX8_wordFrom_154 : decode cX8_wordFrom 154 = .ok (.aload_n 0, 1) := by decide +kernel
theorem dX8_wordFrom_155 : decode cX8_wordFrom 155 = .ok (.getfield 123, 3) := by decide +kernel
theorem dX8_wordFrom_158 : decode cX8_wordFrom 158 = .ok (.if_icmp .ge 13, 3) := by decide +kernel
theorem dX8_wordFrom_161 : decode cX8_wordFrom 161 = .ok (.aload_n 0, 1) := by decide +kernel
theorem dX8_wordFrom_162 : decode cX8_wordFrom 162 = .ok (.getfield 39, 3) := by decide +kernel
theorem dX8_wordFrom_165 : decode cX8_wordFrom 165 = .ok (.iload 7, 2) := by decide +kernel
theorem dX8_wordFrom_167 : decode cX8_wordFrom 167 = .ok (.iaload, 1) := by decide +kernel
theorem dX8_wordFrom_168 : decode cX8_wordFrom 168 = .ok (.goto 4, 3) := by decide +kernel
theorem dX8_wordFrom_171 : decode cX8_wordFrom 171 = .ok (.iconst 5, 1) := by decide +kernel
theorem dX8_wordFrom_172 : decode cX8_wordFrom 172 = .ok (.i2l, 1) := by decide +kernel
theorem dX8_wordFrom_173 : decode cX8_wordFrom 173 = .ok (.lor, 1) := by decide +kernel
theorem dX8_wordFrom_174 : decode cX8_wordFrom 174 = .ok (.lstore 5, 2) := by decide +kernel
theorem dX8_wordFrom_176 : decode cX8_wordFrom 176 = .ok (.iinc 7 1, 3) := by decide +kernel
theorem dX8_wordFrom_179 : decode cX8_wordFrom 179 = .ok (.goto (-66), 3) := by decide +kernel
theorem dX8_wordFrom_182 : decode cX8_wordFrom 182 = .ok (.lload 5, 2) := by decide +kernel
theorem dX8_wordFrom_184 : decode cX8_wordFrom 184 = .ok (.lreturn, 1) := by decide +kernel
theorem dX8_wordNumbers_0 : decode cX8_wordNumbers 0 = .ok (.aload_n 0, 1) := by decide +kernel
theorem dX8_wordNumbers_1 : decode cX8_wordNumbers 1 = .ok (.getfield 83, 3) := by decide +kernel
theorem dX8_wordNumbers_4 : decode cX8_wordNumbers 4 = .ok (.iconst 4, 1) := by decide +kernel
theorem dX8_wordNumbers_5 : decode cX8_wordNumbers 5 = .ok (.if_icmp .ge 8, 3) := by decide +kernel
theorem dX8_wordNumbers_8 : decode cX8_wordNumbers 8 = .ok (.bipush 6, 2) := by decide +kernel
theorem dX8_wordNumbers_10 : decode cX8_wordNumbers 10 = .ok (.goto 5, 3) := by decide +kernel
theorem dX8_wordNumbers_13 : decode cX8_wordNumbers 13 = .ok (.bipush 9, 2) := by decide +kernel
theorem dX8_wordNumbers_15 : decode cX8_wordNumbers 15 = .ok (.ireturn, 1) := by decide +kernel
theorem dX8_find_0 : decode cX8_find 0 = .ok (.iconst 0, 1) := by decide +kernel
theorem dX8_find_1 : decode cX8_find 1 = .ok (.istore_n 3, 1) := by decide +kernel
theorem dX8_find_2 : decode cX8_find 2 = .ok (.iload_n 3, 1) := by decide +kernel
theorem dX8_find_3 : decode cX8_find 3 = .ok (.aload_n 0, 1) := by decide +kernel
theorem dX8_find_4 : decode cX8_find 4 = .ok (.getfield 165, 3) := by decide +kernel
theorem dX8_find_7 : decode cX8_find 7 = .ok (.if_icmp .ge 22, 3) := by decide +kernel
theorem dX8_find_10 : decode cX8_find 10 = .ok (.aload_n 0, 1) := by decide +kernel
theorem dX8_find_11 : decode cX8_find 11 = .ok (.getfield 67, 3) := by decide +kernel
theorem dX8_find_14 : decode cX8_find 14 = .ok (.iload_n 3, 1) := by decide +kernel
theorem dX8_find_15 : decode cX8_find 15 = .ok (.laload, 1) := by decide +kernel
theorem dX8_find_16 : decode cX8_find 16 = .ok (.lload_n 1, 1) := by decide +kernel
theorem dX8_find_17 : decode cX8_find 17 = .ok (.lcmp, 1) := by decide +kernel
theorem dX8_find_18 : decode cX8_find 18 = .ok (.ifCond .ne 5, 3) := by decide +kernel
theorem dX8_find_21 : decode cX8_find 21 = .ok (.iload_n 3, 1) := by decide +kernel
theorem dX8_find_22 : decode cX8_find 22 = .ok (.ireturn, 1) := by decide +kernel
theorem dX8_find_23 : decode cX8_find 23 = .ok (.iinc 3 1, 3) := by decide +kernel
theorem dX8_find_26 : decode cX8_find 26 = .ok (.goto (-24), 3) := by decide +kernel
theorem dX8_find_29 : decode cX8_find 29 = .ok (.iconst (-1), 1) := by decide +kernel
theorem dX8_find_30 : decode cX8_find 30 = .ok (.ireturn, 1) := by decide +kernel
theorem dX8_wordByte_0 : decode cX8_wordByte 0 = .ok (.aload_n 0, 1) := by decide +kernel
theorem dX8_wordByte_1 : decode cX8_wordByte 1 = .ok (.invokevirtual 161, 3) := by decide +kernel
theorem dX8_wordByte_4 : decode cX8_wordByte 4 = .ok (.iconst 3, 1) := by decide +kernel
theorem dX8_wordByte_5 : decode cX8_wordByte 5 = .ok (.idiv, 1) := by decide +kernel
theorem dX8_wordByte_6 : decode cX8_wordByte 6 = .ok (.iconst 2, 1) := by decide +kernel
theorem dX8_wordByte_7 : decode cX8_wordByte 7 = .ok (.imul, 1) := by decide +kernel
theorem dX8_wordByte_8 : decode cX8_wordByte 8 = .ok (.istore_n 3, 1) := by decide +kernel
theorem dX8_wordByte_9 : decode cX8_wordByte 9 = .ok (.iload_n 1, 1) := by decide +kernel
theorem dX8_wordByte_10 : decode cX8_wordByte 10 = .ok (.ifCond .lt 43, 3) := by decide +kernel
theorem dX8_wordByte_13 : decode cX8_wordByte 13 = .ok (.iload_n 1, 1) := by decide +kernel
theorem dX8_wordByte_14 : decode cX8_wordByte 14 = .ok (.aload_n 0, 1) := by decide +kernel
theorem dX8_wordByte_15 : decode cX8_wordByte 15 = .ok (.getfield 165, 3) := by decide +kernel
theorem dX8_wordByte_18 : decode cX8_wordByte 18 = .ok (.if_icmp .ge 35, 3) := by decide +kernel
theorem dX8_wordByte_21 : decode cX8_wordByte 21 = .ok (.iload_n 2, 1) := by decide +kernel
theorem dX8_wordByte_22 : decode cX8_wordByte 22 = .ok (.ifCond .lt 31, 3) := by decide +kernel
theorem dX8_wordByte_25 : decode cX8_wordByte 25 = .ok (.iload_n 2, 1) := by decide +kernel
theorem dX8_wordByte_26 : decode cX8_wordByte 26 = .ok (.iload_n 3, 1) := by decide +kernel
theorem dX8_wordByte_27 : decode cX8_wordByte 27 = .ok (.if_icmp .ge 26, 3) := by decide +kernel
theorem dX8_wordByte_30 : decode cX8_wordByte 30 = .ok (.aload_n 0, 1) := by decide +kernel
theorem dX8_wordByte_31 : decode cX8_wordByte 31 = .ok (.getfield 67, 3) := by decide +kernel
theorem dX8_wordByte_34 : decode cX8_wordByte 34 = .ok (.iload_n 1, 1) := by decide +kernel
theorem dX8_wordByte_35 : decode cX8_wordByte 35 = .ok (.laload, 1) := by decide +kernel
theorem dX8_wordByte_36 : decode cX8_wordByte 36 = .ok (.bipush 8, 2) := by decide +kernel
theorem dX8_wordByte_38 : decode cX8_wordByte 38 = .ok (.iload_n 3, 1) := by decide +kernel
theorem dX8_wordByte_39 : decode cX8_wordByte 39 = .ok (.iconst 1, 1) := by decide +kernel
theorem dX8_wordByte_40 : decode cX8_wordByte 40 = .ok (.isub, 1) := by decide +kernel
theorem dX8_wordByte_41 : decode cX8_wordByte 41 = .ok (.iload_n 2, 1) := by decide +kernel
theorem dX8_wordByte_42 : decode cX8_wordByte 42 = .ok (.isub, 1) := by decide +kernel
theorem dX8_wordByte_43 : decode cX8_wordByte 43 = .ok (.imul, 1) := by decide +kernel
theorem dX8_wordByte_44 : decode cX8_wordByte 44 = .ok (.lushr, 1) := by decide +kernel
theorem dX8_wordByte_45 : decode cX8_wordByte 45 = .ok (.ldc2_w 97, 3) := by decide +kernel
theorem dX8_wordByte_48 : decode cX8_wordByte 48 = .ok (.land, 1) := by decide +kernel
theorem dX8_wordByte_49 : decode cX8_wordByte 49 = .ok (.l2i, 1) := by decide +kernel
theorem dX8_wordByte_50 : decode cX8_wordByte 50 = .ok (.goto 4, 3) := by decide +kernel
theorem dX8_wordByte_53 : decode cX8_wordByte 53 = .ok (.iconst (-1), 1) := by decide +kernel
theorem dX8_wordByte_54 : decode cX8_wordByte 54 = .ok (.ireturn, 1) := by decide +kernel
theorem dX8_words_0 : decode cX8_words 0 = .ok (.aload_n 0, 1) := by decide +kernel
theorem dX8_words_1 : decode cX8_words 1 = .ok (.getfield 165, 3) := by decide +kernel
theorem dX8_words_4 : decode cX8_words 4 = .ok (.ireturn, 1) := by decide +kernel
theorem dX8_separator_0 : decode cX8_separator 0 = .ok (.iload_n 1, 1) := by decide +kernel
theorem dX8_separator_1 : decode cX8_separator 1 = .ok (.ifCond .lt 16, 3) := by decide +kernel
theorem dX8_separator_4 : decode cX8_separator 4 = .ok (.iload_n 1, 1) := by decide +kernel
theorem dX8_separator_5 : decode cX8_separator 5 = .ok (.sipush 1023, 3) := by decide +kernel
theorem dX8_separator_8 : decode cX8_separator 8 = .ok (.if_icmp .gt 9, 3) := by decide +kernel
theorem dX8_separator_11 : decode cX8_separator 11 = .ok (.iload_n 1, 1) := by decide +kernel
theorem dX8_separator_12 : decode cX8_separator 12 = .ok (.bipush 32, 2) := by decide +kernel
theorem dX8_separator_14 : decode cX8_separator 14 = .ok (.if_icmp .ne 6, 3) := by decide +kernel
theorem dX8_separator_17 : decode cX8_separator 17 = .ok (.bipush (-2), 2) := by decide +kernel
theorem dX8_separator_19 : decode cX8_separator 19 = .ok (.ireturn, 1) := by decide +kernel
theorem dX8_separator_20 : decode cX8_separator 20 = .ok (.aload_n 0, 1) := by decide +kernel
theorem dX8_separator_21 : decode cX8_separator 21 = .ok (.getfield 71, 3) := by decide +kernel
theorem dX8_separator_24 : decode cX8_separator 24 = .ok (.iload_n 1, 1) := by decide +kernel
theorem dX8_separator_25 : decode cX8_separator 25 = .ok (.baload, 1) := by decide +kernel
theorem dX8_separator_26 : decode cX8_separator 26 = .ok (.istore_n 3, 1) := by decide +kernel
theorem dX8_separator_27 : decode cX8_separator 27 = .ok (.aload_n 0, 1) := by decide +kernel
theorem dX8_separator_28 : decode cX8_separator 28 = .ok (.getfield 71, 3) := by decide +kernel
theorem dX8_separator_31 : decode cX8_separator 31 = .ok (.iload_n 1, 1) := by decide +kernel
theorem dX8_separator_32 : decode cX8_separator 32 = .ok (.iload_n 2, 1) := by decide +kernel
theorem dX8_separator_33 : decode cX8_separator 33 = .ok (.bastore, 1) := by decide +kernel
theorem dX8_separator_34 : decode cX8_separator 34 = .ok (.iload_n 3, 1) := by decide +kernel
theorem dX8_separator_35 : decode cX8_separator 35 = .ok (.ifCond .eq 7, 3) := by decide +kernel
theorem dX8_separator_38 : decode cX8_separator 38 = .ok (.iconst 1, 1) := by decide +kernel
theorem dX8_separator_39 : decode cX8_separator 39 = .ok (.goto 4, 3) := by decide +kernel
theorem dX8_separator_42 : decode cX8_separator 42 = .ok (.iconst 0, 1) := by decide +kernel
theorem dX8_separator_43 : decode cX8_separator 43 = .ok (.ireturn, 1) := by decide +kernel
theorem dX8_part_0 : decode cX8_part 0 = .ok (.aload_n 0, 1) := by decide +kernel
theorem dX8_part_1 : decode cX8_part 1 = .ok (.iconst 0, 1) := by decide +kernel
theorem dX8_part_2 : decode cX8_part 2 = .ok (.putfield 176, 3) := by decide +kernel
theorem dX8_part_5 : decode cX8_part 5 = .ok (.iconst 0, 1) := by decide +kernel
theorem dX8_part_6 : decode cX8_part 6 = .ok (.istore_n 1, 1) := by decide +kernel
theorem dX8_part_7 : decode cX8_part 7 = .ok (.iload_n 1, 1) := by decide +kernel
theorem dX8_part_8 : decode cX8_part 8 = .ok (.aload_n 0, 1) := by decide +kernel
theorem dX8_part_9 : decode cX8_part 9 = .ok (.getfield 94, 3) := by decide +kernel
theorem dX8_part_12 : decode cX8_part 12 = .ok (.if_icmp .ge 135, 3) := by decide +kernel
theorem dX8_part_15 : decode cX8_part 15 = .ok (.aload_n 0, 1) := by decide +kernel
theorem dX8_part_16 : decode cX8_part 16 = .ok (.getfield 13, 3) := by decide +kernel
theorem dX8_part_19 : decode cX8_part 19 = .ok (.iload_n 1, 1) := by decide +kernel
theorem dX8_part_20 : decode cX8_part 20 = .ok (.iaload, 1) := by decide +kernel
theorem dX8_part_21 : decode cX8_part 21 = .ok (.bipush 32, 2) := by decide +kernel
theorem dX8_part_23 : decode cX8_part 23 = .ok (.if_icmp .ne 9, 3) := by decide +kernel
theorem dX8_part_26 : decode cX8_part 26 = .ok (.iinc 1 1, 3) := by decide +kernel
theorem dX8_part_29 : decode cX8_part 29 = .ok (.goto (-22), 3) := by decide +kernel
theorem dX8_part_32 : decode cX8_part 32 = .ok (.iload_n 1, 1) := by decide +kernel
theorem dX8_part_33 : decode cX8_part 33 = .ok (.istore_n 2, 1) := by decide +kernel
theorem dX8_part_34 : decode cX8_part 34 = .ok (.iinc 1 1, 3) := by decide +kernel
theorem dX8_part_37 : decode cX8_part 37 = .ok (.aload_n 0, 1) := by decide +kernel
theorem dX8_part_38 : decode cX8_part 38 = .ok (.getfield 71, 3) := by decide +kernel
theorem dX8_part_41 : decode cX8_part 41 = .ok (.aload_n 0, 1) := by decide +kernel
theorem dX8_part_42 : decode cX8_part 42 = .ok (.getfield 13, 3) := by decide +kernel
theorem dX8_part_45 : decode cX8_part 45 = .ok (.iload_n 2, 1) := by decide +kernel
theorem dX8_part_46 : decode cX8_part 46 = .ok (.iaload, 1) := by decide +kernel
theorem dX8_part_47 : decode cX8_part 47 = .ok (.baload, 1) := by decide +kernel
theorem dX8_part_48 : decode cX8_part 48 = .ok (.ifCond .ne 42, 3) := by decide +kernel
theorem dX8_part_51 : decode cX8_part 51 = .ok (.iload_n 1, 1) := by decide +kernel
theorem dX8_part_52 : decode cX8_part 52 = .ok (.aload_n 0, 1) := by decide +kernel
theorem dX8_part_53 : decode cX8_part 53 = .ok (.getfield 94, 3) := by decide +kernel
theorem dX8_part_56 : decode cX8_part 56 = .ok (.if_icmp .ge 34, 3) := by decide +kernel
theorem dX8_part_59 : decode cX8_part 59 = .ok (.aload_n 0, 1) := by decide +kernel
theorem dX8_part_60 : decode cX8_part 60 = .ok (.getfield 13, 3) := by decide +kernel
theorem dX8_part_63 : decode cX8_part 63 = .ok (.iload_n 1, 1) := by decide +kernel
theorem dX8_part_64 : decode cX8_part 64 = .ok (.iaload, 1) := by decide +kernel
theorem dX8_part_65 : decode cX8_part 65 = .ok (.bipush 32, 2) := by decide +kernel
theorem dX8_part_67 : decode cX8_part 67 = .ok (.if_icmp .eq 23, 3) := by decide +kernel
theorem dX8_part_70 : decode cX8_part 70 = .ok (.aload_n 0, 1) := by decide +kernel
theorem dX8_part_71 : decode cX8_part 71 = .ok (.getfield 71, 3) := by decide +kernel
theorem dX8_part_74 : decode cX8_part 74 = .ok (.aload_n 0, 1) := by decide +kernel
theorem dX8_part_75 : decode cX8_part 75 = .ok (.getfield 13, 3) := by decide +kernel
theorem dX8_part_78 : decode cX8_part 78 = .ok (.iload_n 1, 1) := by decide +kernel
theorem dX8_part_79 : decode cX8_part 79 = .ok (.iaload, 1) := by decide +kernel
theorem dX8_part_80 : decode cX8_part 80 = .ok (.baload, 1) := by decide +kernel
theorem dX8_part_81 : decode cX8_part 81 = .ok (.ifCond .ne 9, 3) := by decide +kernel
theorem dX8_part_84 : decode cX8_part 84 = .ok (.iinc 1 1, 3) := by decide +kernel
theorem dX8_part_87 : decode cX8_part 87 = .ok (.goto (-50), 3) := by decide +kernel
theorem dX8_part_90 : decode cX8_part 90 = .ok (.aload_n 0, 1) := by decide +kernel
theorem dX8_part_91 : decode cX8_part 91 = .ok (.getfield 74, 3) := by decide +kernel
theorem dX8_part_94 : decode cX8_part 94 = .ok (.aload_n 0, 1) := by decide +kernel
theorem dX8_part_95 : decode cX8_part 95 = .ok (.getfield 176, 3) := by decide +kernel
theorem dX8_part_98 : decode cX8_part 98 = .ok (.iload_n 2, 1) := by decide +kernel
theorem dX8_part_99 : decode cX8_part 99 = .ok (.iastore, 1) := by decide +kernel
theorem dX8_part_100 : decode cX8_part 100 = .ok (.aload_n 0, 1) := by decide +kernel
theorem dX8_part_101 : decode cX8_part 101 = .ok (.getfield 77, 3) := by decide +kernel
theorem dX8_part_104 : decode cX8_part 104 = .ok (.aload_n 0, 1) := by decide +kernel
theorem dX8_part_105 : decode cX8_part 105 = .ok (.getfield 176, 3) := by decide +kernel
theorem dX8_part_108 : decode cX8_part 108 = .ok (.iload_n 1, 1) := by decide +kernel
theorem dX8_part_109 : decode cX8_part 109 = .ok (.iload_n 2, 1) := by decide +kernel
theorem dX8_part_110 : decode cX8_part 110 = .ok (.isub, 1) := by decide +kernel
theorem dX8_part_111 : decode cX8_part 111 = .ok (.iastore, 1) := by decide +kernel
theorem dX8_part_112 : decode cX8_part 112 = .ok (.aload_n 0, 1) := by decide +kernel
theorem dX8_part_113 : decode cX8_part 113 = .ok (.getfield 80, 3) := by decide +kernel
theorem dX8_part_116 : decode cX8_part 116 = .ok (.aload_n 0, 1) := by decide +kernel
theorem dX8_part_117 : decode cX8_part 117 = .ok (.getfield 176, 3) := by decide +kernel
theorem dX8_part_120 : decode cX8_part 120 = .ok (.aload_n 0, 1) := by decide +kernel
theorem dX8_part_121 : decode cX8_part 121 = .ok (.aload_n 0, 1) := by decide +kernel
theorem dX8_part_122 : decode cX8_part 122 = .ok (.iload_n 2, 1) := by decide +kernel
theorem dX8_part_123 : decode cX8_part 123 = .ok (.iload_n 1, 1) := by decide +kernel
theorem dX8_part_124 : decode cX8_part 124 = .ok (.iload_n 2, 1) := by decide +kernel
theorem dX8_part_125 : decode cX8_part 125 = .ok (.isub, 1) := by decide +kernel
theorem dX8_part_126 : decode cX8_part 126 = .ok (.iconst 1, 1) := by decide +kernel
theorem dX8_part_127 : decode cX8_part 127 = .ok (.invokevirtual 168, 3) := by decide +kernel
theorem dX8_part_130 : decode cX8_part 130 = .ok (.invokevirtual 172, 3) := by decide +kernel
theorem dX8_part_133 : decode cX8_part 133 = .ok (.iastore, 1) := by decide +kernel
theorem dX8_part_134 : decode cX8_part 134 = .ok (.aload_n 0, 1) := by decide +kernel
theorem dX8_part_135 : decode cX8_part 135 = .ok (.dup, 1) := by decide +kernel
theorem dX8_part_136 : decode cX8_part 136 = .ok (.getfield 176, 3) := by decide +kernel
theorem dX8_part_139 : decode cX8_part 139 = .ok (.iconst 1, 1) := by decide +kernel
theorem dX8_part_140 : decode cX8_part 140 = .ok (.iadd, 1) := by decide +kernel
theorem dX8_part_141 : decode cX8_part 141 = .ok (.putfield 176, 3) := by decide +kernel
theorem dX8_part_144 : decode cX8_part 144 = .ok (.goto (-137), 3) := by decide +kernel
theorem dX8_part_147 : decode cX8_part 147 = .ok (.aload_n 0, 1) := by decide +kernel
theorem dX8_part_148 : decode cX8_part 148 = .ok (.getfield 176, 3) := by decide +kernel
theorem dX8_part_151 : decode cX8_part 151 = .ok (.ireturn, 1) := by decide +kernel
theorem dX8_token_0 : decode cX8_token 0 = .ok (.iload_n 1, 1) := by decide +kernel
theorem dX8_token_1 : decode cX8_token 1 = .ok (.ifCond .lt 11, 3) := by decide +kernel
theorem dX8_token_4 : decode cX8_token 4 = .ok (.iload_n 1, 1) := by decide +kernel
theorem dX8_token_5 : decode cX8_token 5 = .ok (.aload_n 0, 1) := by decide +kernel
theorem dX8_token_6 : decode cX8_token 6 = .ok (.getfield 176, 3) := by decide +kernel
theorem dX8_token_9 : decode cX8_token 9 = .ok (.if_icmp .lt 5, 3) := by decide +kernel
theorem dX8_token_12 : decode cX8_token 12 = .ok (.iconst (-1), 1) := by decide +kernel
theorem dX8_token_13 : decode cX8_token 13 = .ok (.ireturn, 1) := by decide +kernel
theorem dX8_token_14 : decode cX8_token 14 = .ok (.iload_n 2, 1) := by decide +kernel
theorem dX8_token_15 : decode cX8_token 15 = .ok (.ifCond .ne 12, 3) := by decide +kernel
theorem dX8_token_18 : decode cX8_token 18 = .ok (.aload_n 0, 1) := by decide +kernel
theorem dX8_token_19 : decode cX8_token 19 = .ok (.getfield 74, 3) := by decide +kernel
theorem dX8_token_22 : decode cX8_token 22 = .ok (.iload_n 1, 1) := by decide +kernel
theorem dX8_token_23 : decode cX8_token 23 = .ok (.iaload, 1) := by decide +kernel
theorem dX8_token_24 : decode cX8_token 24 = .ok (.goto 33, 3) := by decide +kernel
theorem dX8_token_27 : decode cX8_token 27 = .ok (.iload_n 2, 1) := by decide +kernel
theorem dX8_token_28 : decode cX8_token 28 = .ok (.iconst 1, 1) := by decide +kernel
theorem dX8_token_29 : decode cX8_token 29 = .ok (.if_icmp .ne 12, 3) := by decide +kernel
theorem dX8_token_32 : decode cX8_token 32 = .ok (.aload_n 0, 1) := by decide +kernel
theorem dX8_token_33 : decode cX8_token 33 = .ok (.getfield 77, 3) := by decide +kernel
theorem dX8_token_36 : decode cX8_token 36 = .ok (.iload_n 1, 1) := by decide +kernel
theorem dX8_token_37 : decode cX8_token 37 = .ok (.iaload, 1) := by decide +kernel
theorem dX8_token_38 : decode cX8_token 38 = .ok (.goto 19, 3) := by decide +kernel
theorem dX8_token_41 : decode cX8_token 41 = .ok (.iload_n 2, 1) := by decide +kernel
theorem dX8_token_42 : decode cX8_token 42 = .ok (.iconst 2, 1) := by decide +kernel
theorem dX8_token_43 : decode cX8_token 43 = .ok (.if_icmp .ne 12, 3) := by decide +kernel
theorem dX8_token_46 : decode cX8_token 46 = .ok (.aload_n 0, 1) := by decide +kernel
theorem dX8_token_47 : decode cX8_token 47 = .ok (.getfield 80, 3) := by decide +kernel
theorem dX8_token_50 : decode cX8_token 50 = .ok (.iload_n 1, 1) := by decide +kernel
theorem dX8_token_51 : decode cX8_token 51 = .ok (.iaload, 1) := by decide +kernel
theorem dX8_token_52 : decode cX8_token 52 = .ok (.goto 5, 3) := by decide +kernel
theorem dX8_token_55 : decode cX8_token 55 = .ok (.bipush (-2), 2) := by decide +kernel
theorem dX8_token_57 : decode cX8_token 57 = .ok (.ireturn, 1) := by decide +kernel
