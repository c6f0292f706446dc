theorem dXL_cell_0 : decode cXL_cell 0 = .ok (.iload_n 1, 1) := by decide +kernel
theorem dXL_cell_1 : decode cXL_cell 1 = .ok (.aload_n 0, 1) := by decide +kernel
theorem dXL_cell_2 : decode cXL_cell 2 = .ok (.arraylength, 1) := by decide +kernel
theorem dXL_cell_3 : decode cXL_cell 3 = .ok (.if_icmp .ge 9, 3) := by decide +kernel
theorem dXL_cell_6 : decode cXL_cell 6 = .ok (.aload_n 0, 1) := by decide +kernel
theorem dXL_cell_7 : decode cXL_cell 7 = .ok (.iload_n 1, 1) := by decide +kernel
theorem dXL_cell_8 : decode cXL_cell 8 = .ok (.iaload, 1) := by decide +kernel
theorem dXL_cell_9 : decode cXL_cell 9 = .ok (.goto 4, 3) := by decide +kernel
theorem dXL_cell_12 : decode cXL_cell 12 = .ok (.iconst 0, 1) := by decide +kernel
theorem dXL_cell_13 : decode cXL_cell 13 = .ok (.ireturn, 1) := by decide +kernel
theorem dXL_law_0 : decode cXL_law 0 = .ok (.new 7, 3) := by decide +kernel
theorem dXL_law_3 : decode cXL_law 3 = .ok (.dup, 1) := by decide +kernel
theorem dXL_law_4 : decode cXL_law 4 = .ok (.aload_n 0, 1) := by decide +kernel
theorem dXL_law_5 : decode cXL_law 5 = .ok (.iconst 0, 1) := by decide +kernel
theorem dXL_law_6 : decode cXL_law 6 = .ok (.invokestatic 9, 3) := by decide +kernel
theorem dXL_law_9 : decode cXL_law 9 = .ok (.invokespecial 15, 3) := by decide +kernel
theorem dXL_law_12 : decode cXL_law 12 = .ok (.astore_n 1, 1) := by decide +kernel
theorem dXL_law_13 : decode cXL_law 13 = .ok (.new 18, 3) := by decide +kernel
theorem dXL_law_16 : decode cXL_law 16 = .ok (.dup, 1) := by decide +kernel
theorem dXL_law_17 : decode cXL_law 17 = .ok (.aload_n 0, 1) := by decide +kernel
theorem dXL_law_18 : decode cXL_law 18 = .ok (.iconst 0, 1) := by decide +kernel
theorem dXL_law_19 : decode cXL_law 19 = .ok (.invokestatic 9, 3) := by decide +kernel
theorem dXL_law_22 : decode cXL_law 22 = .ok (.invokespecial 20, 3) := by decide +kernel
theorem dXL_law_25 : decode cXL_law 25 = .ok (.astore_n 2, 1) := by decide +kernel
theorem dXL_law_26 : decode cXL_law 26 = .ok (.iconst 1, 1) := by decide +kernel
theorem dXL_law_27 : decode cXL_law 27 = .ok (.istore_n 3, 1) := by decide +kernel
theorem dXL_law_28 : decode cXL_law 28 = .ok (.iload_n 3, 1) := by decide +kernel
theorem dXL_law_29 : decode cXL_law 29 = .ok (.aload_n 0, 1) := by decide +kernel
theorem dXL_law_30 : decode cXL_law 30 = .ok (.arraylength, 1) := by decide +kernel
theorem dXL_law_31 : decode cXL_law 31 = .ok (.iconst 4, 1) := by decide +kernel
theorem dXL_law_32 : decode cXL_law 32 = .ok (.isub, 1) := by decide +kernel
theorem dXL_law_33 : decode cXL_law 33 = .ok (.if_icmp .gt 702, 3) := by decide +kernel
theorem dXL_law_36 : decode cXL_law 36 = .ok (.aload_n 0, 1) := by decide +kernel
theorem dXL_law_37 : decode cXL_law 37 = .ok (.iload_n 3, 1) := by decide +kernel
theorem dXL_law_38 : decode cXL_law 38 = .ok (.iaload, 1) := by decide +kernel
theorem dXL_law_39 : decode cXL_law 39 = .ok (.bipush 31, 2) := by decide +kernel
theorem dXL_law_41 : decode cXL_law 41 = .ok (.iand, 1) := by decide +kernel
theorem dXL_law_42 : decode cXL_law 42 = .ok (.tableswitch 687 0 20 #[98, 111, 174, 197, 230, 253, 276, 339, 352, 375, 418, 451, 474, 487, 510, 533, 546, 579, 592, 641, 654], 98) := by decide +kernel
theorem dXL_law_140 : decode cXL_law 140 = .ok (.aload_n 1, 1) := by decide +kernel
theorem dXL_law_141 : decode cXL_law 141 = .ok (.invokevirtual 21, 3) := by decide +kernel
theorem dXL_law_144 : decode cXL_law 144 = .ok (.aload_n 2, 1) := by decide +kernel
theorem dXL_law_145 : decode cXL_law 145 = .ok (.invokevirtual 25, 3) := by decide +kernel
theorem dXL_law_148 : decode cXL_law 148 = .ok (.if_icmp .eq 581, 3) := by decide +kernel
theorem dXL_law_151 : decode cXL_law 151 = .ok (.iconst 0, 1) := by decide +kernel
theorem dXL_law_152 : decode cXL_law 152 = .ok (.ireturn, 1) := by decide +kernel
theorem dXL_law_153 : decode cXL_law 153 = .ok (.aload_n 1, 1) := by decide +kernel
theorem dXL_law_154 : decode cXL_law 154 = .ok (.aload_n 0, 1) := by decide +kernel
theorem dXL_law_155 : decode cXL_law 155 = .ok (.iload_n 3, 1) := by decide +kernel
theorem dXL_law_156 : decode cXL_law 156 = .ok (.iconst 1, 1) := by decide +kernel
theorem dXL_law_157 : decode cXL_law 157 = .ok (.iadd, 1) := by decide +kernel
theorem dXL_law_158 : decode cXL_law 158 = .ok (.iaload, 1) := by decide +kernel
theorem dXL_law_159 : decode cXL_law 159 = .ok (.i2l, 1) := by decide +kernel
theorem dXL_law_160 : decode cXL_law 160 = .ok (.bipush 32, 2) := by decide +kernel
theorem dXL_law_162 : decode cXL_law 162 = .ok (.lshl, 1) := by decide +kernel
theorem dXL_law_163 : decode cXL_law 163 = .ok (.aload_n 0, 1) := by decide +kernel
theorem dXL_law_164 : decode cXL_law 164 = .ok (.iload_n 3, 1) := by decide +kernel
theorem dXL_law_165 : decode cXL_law 165 = .ok (.iconst 2, 1) := by decide +kernel
theorem dXL_law_166 : decode cXL_law 166 = .ok (.iadd, 1) := by decide +kernel
theorem dXL_law_167 : decode cXL_law 167 = .ok (.iaload, 1) := by decide +kernel
theorem dXL_law_168 : decode cXL_law 168 = .ok (.i2l, 1) := by decide +kernel
theorem dXL_law_169 : decode cXL_law 169 = .ok (.ldc2_w 26, 3) := by decide +kernel
theorem dXL_law_172 : decode cXL_law 172 = .ok (.land, 1) := by decide +kernel
theorem dXL_law_173 : decode cXL_law 173 = .ok (.lor, 1) := by decide +kernel
theorem dXL_law_174 : decode cXL_law 174 = .ok (.aload_n 0, 1) := by decide +kernel
theorem dXL_law_175 : decode cXL_law 175 = .ok (.iload_n 3, 1) := by decide +kernel
theorem dXL_law_176 : decode cXL_law 176 = .ok (.iconst 3, 1) := by decide +kernel
theorem dXL_law_177 : decode cXL_law 177 = .ok (.iadd, 1) := by decide +kernel
theorem dXL_law_178 : decode cXL_law 178 = .ok (.iaload, 1) := by decide +kernel
theorem dXL_law_179 : decode cXL_law 179 = .ok (.invokevirtual 28, 3) := by decide +kernel
theorem dXL_law_182 : decode cXL_law 182 = .ok (.aload_n 2, 1) := by decide +kernel
theorem dXL_law_183 : decode cXL_law 183 = .ok (.aload_n 0, 1) := by decide +kernel
theorem dXL_law_184 : decode cXL_law 184 = .ok (.iload_n 3, 1) := by decide +kernel
theorem dXL_law_185 : decode cXL_law 185 = .ok (.iconst 1, 1) := by decide +kernel
theorem dXL_law_186 : decode cXL_law 186 = .ok (.iadd, 1) := by decide +kernel
theorem dXL_law_187 : decode cXL_law 187 = .ok (.iaload, 1) := by decide +kernel
theorem dXL_law_188 : decode cXL_law 188 = .ok (.i2l, 1) := by decide +kernel
theorem dXL_law_189 : decode cXL_law 189 = .ok (.bipush 32, 2) := by decide +kernel
theorem dXL_law_191 : decode cXL_law 191 = .ok (.lshl, 1) := by decide +kernel
theorem dXL_law_192 : decode cXL_law 192 = .ok (.aload_n 0, 1) := by decide +kernel
theorem dXL_law_193 : decode cXL_law 193 = .ok (.iload_n 3, 1) := by decide +kernel
theorem dXL_law_194 : decode cXL_law 194 = .ok (.iconst 2, 1) := by decide +kernel
theorem dXL_law_195 : decode cXL_law 195 = .ok (.iadd, 1) := by decide +kernel
theorem dXL_law_196 : decode cXL_law 196 = .ok (.iaload, 1) := by decide +kernel
theorem dXL_law_197 : decode cXL_law 197 = .ok (.i2l, 1) := by decide +kernel
theorem dXL_law_198 : decode cXL_law 198 = .ok (.ldc2_w 26, 3) := by decide +kernel
theorem dXL_law_201 : decode cXL_law 201 = .ok (.land, 1) := by decide +kernel
theorem dXL_law_202 : decode cXL_law 202 = .ok (.lor, 1) := by decide +kernel
theorem dXL_law_203 : decode cXL_law 203 = .ok (.aload_n 0, 1) := by decide +kernel
theorem dXL_law_204 : decode cXL_law 204 = .ok (.iload_n 3, 1) := by decide +kernel
theorem dXL_law_205 : decode cXL_law 205 = .ok (.iconst 3, 1) := by decide +kernel
theorem dXL_law_206 : decode cXL_law 206 = .ok (.iadd, 1) := by decide +kernel
theorem dXL_law_207 : decode cXL_law 207 = .ok (.iaload, 1) := by decide +kernel
theorem dXL_law_208 : decode cXL_law 208 = .ok (.invokevirtual 32, 3) := by decide +kernel
theorem dXL_law_211 : decode cXL_law 211 = .ok (.if_icmp .eq 518, 3) := by decide +kernel
theorem dXL_law_214 : decode cXL_law 214 = .ok (.iconst 0, 1) := by decide +kernel
theorem dXL_law_215 : decode cXL_law 215 = .ok (.ireturn, 1) := by decide +kernel
theorem dXL_law_216 : decode cXL_law 216 = .ok (.aload_n 1, 1) := by decide +kernel
theorem dXL_law_217 : decode cXL_law 217 = .ok (.aload_n 0, 1) := by decide +kernel
theorem dXL_law_218 : decode cXL_law 218 = .ok (.iload_n 3, 1) := by decide +kernel
theorem dXL_law_219 : decode cXL_law 219 = .ok (.iconst 1, 1) := by decide +kernel
theorem dXL_law_220 : decode cXL_law 220 = .ok (.iadd, 1) := by decide +kernel
theorem dXL_law_221 : decode cXL_law 221 = .ok (.iaload, 1) := by decide +kernel
theorem dXL_law_222 : decode cXL_law 222 = .ok (.invokevirtual 33, 3) := by decide +kernel
theorem dXL_law_225 : decode cXL_law 225 = .ok (.aload_n 2, 1) := by decide +kernel
theorem dXL_law_226 : decode cXL_law 226 = .ok (.aload_n 0, 1) := by decide +kernel
theorem dXL_law_227 : decode cXL_law 227 = .ok (.iload_n 3, 1) := by decide +kernel
theorem dXL_law_228 : decode cXL_law 228 = .ok (.iconst 1, 1) := by decide +kernel
theorem dXL_law_229 : decode cXL_law 229 = .ok (.iadd, 1) := by decide +kernel
theorem dXL_law_230 : decode cXL_law 230 = .ok (.iaload, 1) := by decide +kernel
theorem dXL_law_231 : decode cXL_law 231 = .ok (.invokevirtual 37, 3) := by decide +kernel
theorem dXL_law_234 : decode cXL_law 234 = .ok (.if_icmp .eq 495, 3) := by decide +kernel
theorem dXL_law_237 : decode cXL_law 237 = .ok (.iconst 0, 1) := by decide +kernel
theorem dXL_law_238 : decode cXL_law 238 = .ok (.ireturn, 1) := by decide +kernel
theorem dXL_law_239 : decode cXL_law 239 = .ok (.aload_n 1, 1) := by decide +kernel
theorem dXL_law_240 : decode cXL_law 240 = .ok (.aload_n 0, 1) := by decide +kernel
theorem dXL_law_241 : decode cXL_law 241 = .ok (.iload_n 3, 1) := by decide +kernel
theorem dXL_law_242 : decode cXL_law 242 = .ok (.iconst 1, 1) := by decide +kernel
theorem dXL_law_243 : decode cXL_law 243 = .ok (.iadd, 1) := by decide +kernel
theorem dXL_law_244 : decode cXL_law 244 = .ok (.iaload, 1) := by decide +kernel
theorem dXL_law_245 : decode cXL_law 245 = .ok (.aload_n 0, 1) := by decide +kernel
theorem dXL_law_246 : decode cXL_law 246 = .ok (.iload_n 3, 1) := by decide +kernel
theorem dXL_law_247 : decode cXL_law 247 = .ok (.iconst 2, 1) := by decide +kernel
theorem dXL_law_248 : decode cXL_law 248 = .ok (.iadd, 1) := by decide +kernel
theorem dXL_law_249 : decode cXL_law 249 = .ok (.iaload, 1) := by decide +kernel
theorem dXL_law_250 : decode cXL_law 250 = .ok (.invokevirtual 38, 3) := by decide +kernel
theorem dXL_law_253 : decode cXL_law 253 = .ok (.aload_n 2, 1) := by decide +kernel
theorem dXL_law_254 : decode cXL_law 254 = .ok (.aload_n 0, 1) := by decide +kernel
theorem dXL_law_255 : decode cXL_law 255 = .ok (.iload_n 3, 1) := by decide +kernel
theorem dXL_law_256 : decode cXL_law 256 = .ok (.iconst 1, 1) := by decide +kernel
theorem dXL_law_257 : decode cXL_law 257 = .ok (.iadd, 1) := by decide +kernel
theorem dXL_law_258 : decode cXL_law 258 = .ok (.iaload, 1) := by decide +kernel
theorem dXL_law_259 : decode cXL_law 259 = .ok (.aload_n 0, 1) := by decide +kernel
theorem dXL_law_260 : decode cXL_law 260 = .ok (.iload_n 3, 1) := by decide +kernel
theorem dXL_law_261 : decode cXL_law 261 = .ok (.iconst 2, 1) := by decide +kernel
theorem dXL_law_262 : decode cXL_law 262 = .ok (.iadd, 1) := by decide +kernel
theorem dXL_law_263 : decode cXL_law 263 = .ok (.iaload, 1) := by decide +kernel
theorem dXL_law_264 : decode cXL_law 264 = .ok (.invokevirtual 42, 3) := by decide +kernel
theorem dXL_law_267 : decode cXL_law 267 = .ok (.if_icmp .eq 462, 3) := by decide +kernel
theorem dXL_law_270 : decode cXL_law 270 = .ok (.iconst 0, 1) := by decide +kernel
theorem dXL_law_271 : decode cXL_law 271 = .ok (.ireturn, 1) := by decide +kernel
theorem dXL_law_272 : decode cXL_law 272 = .ok (.aload_n 1, 1) := by decide +kernel
theorem dXL_law_273 : decode cXL_law 273 = .ok (.aload_n 0, 1) := by decide +kernel
theorem dXL_law_274 : decode cXL_law 274 = .ok (.iload_n 3, 1) := by decide +kernel
theorem dXL_law_275 : decode cXL_law 275 = .ok (.iconst 1, 1) := by decide +kernel
theorem dXL_law_276 : decode cXL_law 276 = .ok (.iadd, 1) := by decide +kernel
theorem dXL_law_277 : decode cXL_law 277 = .ok (.iaload, 1) := by decide +kernel
theorem dXL_law_278 : decode cXL_law 278 = .ok (.invokevirtual 43, 3) := by decide +kernel
theorem dXL_law_281 : decode cXL_law 281 = .ok (.aload_n 2, 1) := by decide +kernel
theorem dXL_law_282 : decode cXL_law 282 = .ok (.aload_n 0, 1) := by decide +kernel
theorem dXL_law_283 : decode cXL_law 283 = .ok (.iload_n 3, 1) := by decide +kernel
theorem dXL_law_284 : decode cXL_law 284 = .ok (.iconst 1, 1) := by decide +kernel
theorem dXL_law_285 : decode cXL_law 285 = .ok (.iadd, 1) := by decide +kernel
theorem dXL_law_286 : decode cXL_law 286 = .ok (.iaload, 1) := by decide +kernel
theorem dXL_law_287 : decode cXL_law 287 = .ok (.invokevirtual 46, 3) := by decide +kernel
theorem dXL_law_290 : decode cXL_law 290 = .ok (.if_icmp .eq 439, 3) := by decide +kernel
theorem dXL_law_293 : decode cXL_law 293 = .ok (.iconst 0, 1) := by decide +kernel
theorem dXL_law_294 : decode cXL_law 294 = .ok (.ireturn, 1) := by decide +kernel
theorem dXL_law_295 : decode cXL_law 295 = .ok (.aload_n 1, 1) := by decide +kernel
theorem dXL_law_296 : decode cXL_law 296 = .ok (.aload_n 0, 1) := by decide +kernel
theorem dXL_law_297 : decode cXL_law 297 = .ok (.iload_n 3, 1) := by decide +kernel
theorem dXL_law_298 : decode cXL_law 298 = .ok (.iconst 1, 1) := by decide +kernel
theorem dXL_law_299 : decode cXL_law 299 = .ok (.iadd, 1) := by decide +kernel
theorem dXL_law_300 : decode cXL_law 300 = .ok (.iaload, 1) := by decide +kernel
theorem dXL_law_301 : decode cXL_law 301 = .ok (.invokevirtual 47, 3) := by decide +kernel
theorem dXL_law_304 : decode cXL_law 304 = .ok (.aload_n 2, 1) := by decide +kernel
theorem dXL_law_305 : decode cXL_law 305 = .ok (.aload_n 0, 1) := by decide +kernel
theorem dXL_law_306 : decode cXL_law 306 = .ok (.iload_n 3, 1) := by decide +kernel
theorem dXL_law_307 : decode cXL_law 307 = .ok (.iconst 1, 1) := by decide +kernel
theorem dXL_law_308 : decode cXL_law 308 = .ok (.iadd, 1) := by decide +kernel
theorem dXL_law_309 : decode cXL_law 309 = .ok (.iaload, 1) := by decide +kernel
theorem dXL_law_310 : decode cXL_law 310 = .ok (.invokevirtual 50, 3) := by decide +kernel
theorem dXL_law_313 : decode cXL_law 313 = .ok (.if_icmp .eq 416, 3) := by decide +kernel
theorem dXL_law_316 : decode cXL_law 316 = .ok (.iconst 0, 1) := by decide +kernel
theorem dXL_law_317 : decode cXL_law 317 = .ok (.ireturn, 1) := by decide +kernel
theorem dXL_law_318 : decode cXL_law 318 = .ok (.aload_n 1, 1) := by decide +kernel
theorem dXL_law_319 : decode cXL_law 319 = .ok (.aload_n 0, 1) := by decide +kernel
theorem dXL_law_320 : decode cXL_law 320 = .ok (.iload_n 3, 1) := by decide +kernel
theorem dXL_law_321 : decode cXL_law 321 = .ok (.iconst 1, 1) := by decide +kernel
theorem dXL_law_322 : decode cXL_law 322 = .ok (.iadd, 1) := by decide +kernel
theorem dXL_law_323 : decode cXL_law 323 = .ok (.iaload, 1) := by decide +kernel
theorem dXL_law_324 : decode cXL_law 324 = .ok (.i2l, 1) := by decide +kernel
theorem dXL_law_325 : decode cXL_law 325 = .ok (.bipush 32, 2) := by decide +kernel
theorem dXL_law_327 : decode cXL_law 327 = .ok (.lshl, 1) := by decide +kernel
theorem dXL_law_328 : decode cXL_law 328 = .ok (.aload_n 0, 1) := by decide +kernel
theorem dXL_law_329 : decode cXL_law 329 = .ok (.iload_n 3, 1) := by decide +kernel
theorem dXL_law_330 : decode cXL_law 330 = .ok (.iconst 2, 1) := by decide +kernel
theorem dXL_law_331 : decode cXL_law 331 = .ok (.iadd, 1) := by decide +kernel
theorem dXL_law_332 : decode cXL_law 332 = .ok (.iaload, 1) := by decide +kernel
theorem dXL_law_333 : decode cXL_law 333 = .ok (.i2l, 1) := by decide +kernel
theorem dXL_law_334 : decode cXL_law 334 = .ok (.ldc2_w 26, 3) := by decide +kernel
theorem dXL_law_337 : decode cXL_law 337 = .ok (.land, 1) := by decide +kernel
theorem dXL_law_338 : decode cXL_law 338 = .ok (.lor, 1) := by decide +kernel
theorem dXL_law_339 : decode cXL_law 339 = .ok (.aload_n 0, 1) := by decide +kernel
theorem dXL_law_340 : decode cXL_law 340 = .ok (.iload_n 3, 1) := by decide +kernel
theorem dXL_law_341 : decode cXL_law 341 = .ok (.iconst 3, 1) := by decide +kernel
theorem dXL_law_342 : decode cXL_law 342 = .ok (.iadd, 1) := by decide +kernel
theorem dXL_law_343 : decode cXL_law 343 = .ok (.iaload, 1) := by decide +kernel
theorem dXL_law_344 : decode cXL_law 344 = .ok (.invokevirtual 51, 3) := by decide +kernel
theorem dXL_law_347 : decode cXL_law 347 = .ok (.aload_n 2, 1) := by decide +kernel
theorem dXL_law_348 : decode cXL_law 348 = .ok (.aload_n 0, 1) := by decide +kernel
theorem dXL_law_349 : decode cXL_law 349 = .ok (.iload_n 3, 1) := by decide +kernel
theorem dXL_law_350 : decode cXL_law 350 = .ok (.iconst 1, 1) := by decide +kernel
theorem dXL_law_351 : decode cXL_law 351 = .ok (.iadd, 1) := by decide +kernel
theorem dXL_law_352 : decode cXL_law 352 = .ok (.iaload, 1) := by decide +kernel
theorem dXL_law_353 : decode cXL_law 353 = .ok (.i2l, 1) := by decide +kernel
theorem dXL_law_354 : decode cXL_law 354 = .ok (.bipush 32, 2) := by decide +kernel
theorem dXL_law_356 : decode cXL_law 356 = .ok (.lshl, 1) := by decide +kernel
theorem dXL_law_357 : decode cXL_law 357 = .ok (.aload_n 0, 1) := by decide +kernel
theorem dXL_law_358 : decode cXL_law 358 = .ok (.iload_n 3, 1) := by decide +kernel
theorem dXL_law_359 : decode cXL_law 359 = .ok (.iconst 2, 1) := by decide +kernel
theorem dXL_law_360 : decode cXL_law 360 = .ok (.iadd, 1) := by decide +kernel
theorem dXL_law_361 : decode cXL_law 361 = .ok (.iaload, 1) := by decide +kernel
theorem dXL_law_362 : decode cXL_law 362 = .ok (.i2l, 1) := by decide +kernel
theorem dXL_law_363 : decode cXL_law 363 = .ok (.ldc2_w 26, 3) := by decide +kernel
theorem dXL_law_366 : decode cXL_law 366 = .ok (.land, 1) := by decide +kernel
theorem dXL_law_367 : decode cXL_law 367 = .ok (.lor, 1) := by decide +kernel
theorem dXL_law_368 : decode cXL_law 368 = .ok (.aload_n 0, 1) := by decide +kernel
theorem dXL_law_369 : decode cXL_law 369 = .ok (.iload_n 3, 1) := by decide +kernel
theorem dXL_law_370 : decode cXL_law 370 = .ok (.iconst 3, 1) := by decide +kernel
theorem dXL_law_371 : decode cXL_law 371 = .ok (.iadd, 1) := by decide +kernel
theorem dXL_law_372 : decode cXL_law 372 = .ok (.iaload, 1) := by decide +kernel
theorem dXL_law_373 : decode cXL_law 373 = .ok (.invokevirtual 54, 3) := by decide +kernel
theorem dXL_law_376 : decode cXL_law 376 = .ok (.if_icmp .eq 353, 3) := by decide +kernel
theorem dXL_law_379 : decode cXL_law 379 = .ok (.iconst 0, 1) := by decide +kernel
theorem dXL_law_380 : decode cXL_law 380 = .ok (.ireturn, 1) := by decide +kernel
theorem dXL_law_381 : decode cXL_law 381 = .ok (.aload_n 1, 1) := by decide +kernel
theorem dXL_law_382 : decode cXL_law 382 = .ok (.invokevirtual 55, 3) := by decide +kernel
theorem dXL_law_385 : decode cXL_law 385 = .ok (.aload_n 2, 1) := by decide +kernel
theorem dXL_law_386 : decode cXL_law 386 = .ok (.invokevirtual 58, 3) := by decide +kernel
theorem dXL_law_389 : decode cXL_law 389 = .ok (.if_icmp .eq 340, 3) := by decide +kernel
theorem dXL_law_392 : decode cXL_law 392 = .ok (.iconst 0, 1) := by decide +kernel
theorem dXL_law_393 : decode cXL_law 393 = .ok (.ireturn, 1) := by decide +kernel
theorem dXL_law_394 : decode cXL_law 394 = .ok (.aload_n 1, 1) := by decide +kernel
theorem dXL_law_395 : decode cXL_law 395 = .ok (.aload_n 0, 1) := by decide +kernel
theorem dXL_law_396 : decode cXL_law 396 = .ok (.iload_n 3, 1) := by decide +kernel
theorem dXL_law_397 : decode cXL_law 397 = .ok (.iconst 1, 1) := by decide +kernel
theorem dXL_law_398 : decode cXL_law 398 = .ok (.iadd, 1) := by decide +kernel
theorem dXL_law_399 : decode cXL_law 399 = .ok (.iaload, 1) := by decide +kernel
theorem dXL_law_400 : decode cXL_law 400 = .ok (.invokevirtual 59, 3) := by decide +kernel
theorem dXL_law_403 : decode cXL_law 403 = .ok (.aload_n 2, 1) := by decide +kernel
theorem dXL_law_404 : decode cXL_law 404 = .ok (.aload_n 0, 1) := by decide +kernel
theorem dXL_law_405 : decode cXL_law 405 = .ok (.iload_n 3, 1) := by decide +kernel
theorem dXL_law_406 : decode cXL_law 406 = .ok (.iconst 1, 1) := by decide +kernel
theorem dXL_law_407 : decode cXL_law 407 = .ok (.iadd, 1) := by decide +kernel
theorem dXL_law_408 : decode cXL_law 408 = .ok (.iaload, 1) := by decide +kernel
theorem dXL_law_409 : decode cXL_law 409 = .ok (.invokevirtual 62, 3) := by decide +kernel
theorem dXL_law_412 : decode cXL_law 412 = .ok (.if_icmp .eq 317, 3) := by decide +kernel
theorem dXL_law_415 : decode cXL_law 415 = .ok (.iconst 0, 1) := by decide +kernel
theorem dXL_law_416 : decode cXL_law 416 = .ok (.ireturn, 1) := by decide +kernel
theorem dXL_law_417 : decode cXL_law 417 = .ok (.aload_n 1, 1) := by decide +kernel
theorem dXL_law_418 : decode cXL_law 418 = .ok (.aload_n 0, 1) := by decide +kernel
theorem dXL_law_419 : decode cXL_law 419 = .ok (.iload_n 3, 1) := by decide +kernel
theorem dXL_law_420 : decode cXL_law 420 = .ok (.iconst 1, 1) := by decide +kernel
theorem dXL_law_421 : decode cXL_law 421 = .ok (.iadd, 1) := by decide +kernel
theorem dXL_law_422 : decode cXL_law 422 = .ok (.iaload, 1) := by decide +kernel
theorem dXL_law_423 : decode cXL_law 423 = .ok (.aload_n 0, 1) := by decide +kernel
theorem dXL_law_424 : decode cXL_law 424 = .ok (.iload_n 3, 1) := by decide +kernel
theorem dXL_law_425 : decode cXL_law 425 = .ok (.iconst 2, 1) := by decide +kernel
theorem dXL_law_426 : decode cXL_law 426 = .ok (.iadd, 1) := by decide +kernel
theorem dXL_law_427 : decode cXL_law 427 = .ok (.iaload, 1) := by decide +kernel
theorem dXL_law_428 : decode cXL_law 428 = .ok (.aload_n 0, 1) := by decide +kernel
theorem dXL_law_429 : decode cXL_law 429 = .ok (.iload_n 3, 1) := by decide +kernel
theorem dXL_law_430 : decode cXL_law 430 = .ok (.iconst 3, 1) := by decide +kernel
theorem dXL_law_431 : decode cXL_law 431 = .ok (.iadd, 1) := by decide +kernel
theorem dXL_law_432 : decode cXL_law 432 = .ok (.iaload, 1) := by decide +kernel
theorem dXL_law_433 : decode cXL_law 433 = .ok (.invokevirtual 63, 3) := by decide +kernel
theorem dXL_law_436 : decode cXL_law 436 = .ok (.aload_n 2, 1) := by decide +kernel
theorem dXL_law_437 : decode cXL_law 437 = .ok (.aload_n 0, 1) := by decide +kernel
theorem dXL_law_438 : decode cXL_law 438 = .ok (.iload_n 3, 1) := by decide +kernel
theorem dXL_law_439 : decode cXL_law 439 = .ok (.iconst 1, 1) := by decide +kernel
theorem dXL_law_440 : decode cXL_law 440 = .ok (.iadd, 1) := by decide +kernel
theorem dXL_law_441 : decode cXL_law 441 = .ok (.iaload, 1) := by decide +kernel
theorem dXL_law_442 : decode cXL_law 442 = .ok (.aload_n 0, 1) := by decide +kernel
theorem dXL_law_443 : decode cXL_law 443 = .ok (.iload_n 3, 1) := by decide +kernel
theorem dXL_law_444 : decode cXL_law 444 = .ok (.iconst 2, 1) := by decide +kernel
theorem dXL_law_445 : decode cXL_law 445 = .ok (.iadd, 1) := by decide +kernel
theorem dXL_law_446 : decode cXL_law 446 = .ok (.iaload, 1) := by decide +kernel
theorem dXL_law_447 : decode cXL_law 447 = .ok (.aload_n 0, 1) := by decide +kernel
theorem dXL_law_448 : decode cXL_law 448 = .ok (.iload_n 3, 1) := by decide +kernel
theorem dXL_law_449 : decode cXL_law 449 = .ok (.iconst 3, 1) := by decide +kernel
theorem dXL_law_450 : decode cXL_law 450 = .ok (.iadd, 1) := by decide +kernel
theorem dXL_law_451 : decode cXL_law 451 = .ok (.iaload, 1) := by decide +kernel
theorem dXL_law_452 : decode cXL_law 452 = .ok (.invokevirtual 67, 3) := by decide +kernel
theorem dXL_law_455 : decode cXL_law 455 = .ok (.if_icmp .eq 274, 3) := by decide +kernel
theorem dXL_law_458 : decode cXL_law 458 = .ok (.iconst 0, 1) := by decide +kernel
theorem dXL_law_459 : decode cXL_law 459 = .ok (.ireturn, 1) := by decide +kernel
theorem dXL_law_460 : decode cXL_law 460 = .ok (.aload_n 1, 1) := by decide +kernel
theorem dXL_law_461 : decode cXL_law 461 = .ok (.aload_n 0, 1) := by decide +kernel
theorem dXL_law_462 : decode cXL_law 462 = .ok (.iload_n 3, 1) := by decide +kernel
theorem dXL_law_463 : decode cXL_law 463 = .ok (.iconst 1, 1) := by decide +kernel
theorem dXL_law_464 : decode cXL_law 464 = .ok (.iadd, 1) := by decide +kernel
theorem dXL_law_465 : decode cXL_law 465 = .ok (.iaload, 1) := by decide +kernel
theorem dXL_law_466 : decode cXL_law 466 = .ok (.aload_n 0, 1) := by decide +kernel
theorem dXL_law_467 : decode cXL_law 467 = .ok (.iload_n 3, 1) := by decide +kernel
theorem dXL_law_468 : decode cXL_law 468 = .ok (.iconst 2, 1) := by decide +kernel
theorem dXL_law_469 : decode cXL_law 469 = .ok (.iadd, 1) := by decide +kernel
theorem dXL_law_470 : decode cXL_law 470 = .ok (.iaload, 1) := by decide +kernel
theorem dXL_law_471 : decode cXL_law 471 = .ok (.invokevirtual 68, 3) := by decide +kernel
theorem dXL_law_474 : decode cXL_law 474 = .ok (.aload_n 2, 1) := by decide +kernel
theorem dXL_law_475 : decode cXL_law 475 = .ok (.aload_n 0, 1) := by decide +kernel
theorem dXL_law_476 : decode cXL_law 476 = .ok (.iload_n 3, 1) := by decide +kernel
theorem dXL_law_477 : decode cXL_law 477 = .ok (.iconst 1, 1) := by decide +kernel
theorem dXL_law_478 : decode cXL_law 478 = .ok (.iadd, 1) := by decide +kernel
theorem dXL_law_479 : decode cXL_law 479 = .ok (.iaload, 1) := by decide +kernel
theorem dXL_law_480 : decode cXL_law 480 = .ok (.aload_n 0, 1) := by decide +kernel
theorem dXL_law_481 : decode cXL_law 481 = .ok (.iload_n 3, 1) := by decide +kernel
theorem dXL_law_482 : decode cXL_law 482 = .ok (.iconst 2, 1) := by decide +kernel
theorem dXL_law_483 : decode cXL_law 483 = .ok (.iadd, 1) := by decide +kernel
theorem dXL_law_484 : decode cXL_law 484 = .ok (.iaload, 1) := by decide +kernel
theorem dXL_law_485 : decode cXL_law 485 = .ok (.invokevirtual 71, 3) := by decide +kernel
theorem dXL_law_488 : decode cXL_law 488 = .ok (.if_icmp .eq 241, 3) := by decide +kernel
theorem dXL_law_491 : decode cXL_law 491 = .ok (.iconst 0, 1) := by decide +kernel
theorem dXL_law_492 : decode cXL_law 492 = .ok (.ireturn, 1) := by decide +kernel
theorem dXL_law_493 : decode cXL_law 493 = .ok (.aload_n 1, 1) := by decide +kernel
theorem dXL_law_494 : decode cXL_law 494 = .ok (.aload_n 0, 1) := by decide +kernel
theorem dXL_law_495 : decode cXL_law 495 = .ok (.iload_n 3, 1) := by decide +kernel
theorem dXL_law_496 : decode cXL_law 496 = .ok (.iconst 1, 1) := by decide +kernel
theorem dXL_law_497 : decode cXL_law 497 = .ok (.iadd, 1) := by decide +kernel
theorem dXL_law_498 : decode cXL_law 498 = .ok (.iaload, 1) := by decide +kernel
theorem dXL_law_499 : decode cXL_law 499 = .ok (.invokevirtual 72, 3) := by decide +kernel
theorem dXL_law_502 : decode cXL_law 502 = .ok (.aload_n 2, 1) := by decide +kernel
theorem dXL_law_503 : decode cXL_law 503 = .ok (.aload_n 0, 1) := by decide +kernel
theorem dXL_law_504 : decode cXL_law 504 = .ok (.iload_n 3, 1) := by decide +kernel
theorem dXL_law_505 : decode cXL_law 505 = .ok (.iconst 1, 1) := by decide +kernel
theorem dXL_law_506 : decode cXL_law 506 = .ok (.iadd, 1) := by decide +kernel
theorem dXL_law_507 : decode cXL_law 507 = .ok (.iaload, 1) := by decide +kernel
theorem dXL_law_508 : decode cXL_law 508 = .ok (.invokevirtual 75, 3) := by decide +kernel
theorem dXL_law_511 : decode cXL_law 511 = .ok (.if_icmp .eq 218, 3) := by decide +kernel
theorem dXL_law_514 : decode cXL_law 514 = .ok (.iconst 0, 1) := by decide +kernel
theorem dXL_law_515 : decode cXL_law 515 = .ok (.ireturn, 1) := by decide +kernel
theorem dXL_law_516 : decode cXL_law 516 = .ok (.aload_n 1, 1) := by decide +kernel
theorem dXL_law_517 : decode cXL_law 517 = .ok (.invokevirtual 76, 3) := by decide +kernel
theorem dXL_law_520 : decode cXL_law 520 = .ok (.aload_n 2, 1) := by decide +kernel
theorem dXL_law_521 : decode cXL_law 521 = .ok (.invokevirtual 79, 3) := by decide +kernel
theorem dXL_law_524 : decode cXL_law 524 = .ok (.if_icmp .eq 205, 3) := by decide +kernel
theorem dXL_law_527 : decode cXL_law 527 = .ok (.iconst 0, 1) := by decide +kernel
theorem dXL_law_528 : decode cXL_law 528 = .ok (.ireturn, 1) := by decide +kernel
theorem dXL_law_529 : decode cXL_law 529 = .ok (.aload_n 1, 1) := by decide +kernel
theorem dXL_law_530 : decode cXL_law 530 = .ok (.aload_n 0, 1) := by decide +kernel
theorem dXL_law_531 : decode cXL_law 531 = .ok (.iload_n 3, 1) := by decide +kernel
theorem dXL_law_532 : decode cXL_law 532 = .ok (.iconst 1, 1) := by decide +kernel
theorem dXL_law_533 : decode cXL_law 533 = .ok (.iadd, 1) := by decide +kernel
theorem dXL_law_534 : decode cXL_law 534 = .ok (.iaload, 1) := by decide +kernel
theorem dXL_law_535 : decode cXL_law 535 = .ok (.invokevirtual 80, 3) := by decide +kernel
theorem dXL_law_538 : decode cXL_law 538 = .ok (.aload_n 2, 1) := by decide +kernel
theorem dXL_law_539 : decode cXL_law 539 = .ok (.aload_n 0, 1) := by decide +kernel
theorem dXL_law_540 : decode cXL_law 540 = .ok (.iload_n 3, 1) := by decide +kernel
theorem dXL_law_541 : decode cXL_law 541 = .ok (.iconst 1, 1) := by decide +kernel
theorem dXL_law_542 : decode cXL_law 542 = .ok (.iadd, 1) := by decide +kernel
theorem dXL_law_543 : decode cXL_law 543 = .ok (.iaload, 1) := by decide +kernel
theorem dXL_law_544 : decode cXL_law 544 = .ok (.invokevirtual 83, 3) := by decide +kernel
theorem dXL_law_547 : decode cXL_law 547 = .ok (.if_icmp .eq 182, 3) := by decide +kernel
theorem dXL_law_550 : decode cXL_law 550 = .ok (.iconst 0, 1) := by decide +kernel
theorem dXL_law_551 : decode cXL_law 551 = .ok (.ireturn, 1) := by decide +kernel
theorem dXL_law_552 : decode cXL_law 552 = .ok (.aload_n 1, 1) := by decide +kernel
theorem dXL_law_553 : decode cXL_law 553 = .ok (.aload_n 0, 1) := by decide +kernel
theorem dXL_law_554 : decode cXL_law 554 = .ok (.iload_n 3, 1) := by decide +kernel
theorem dXL_law_555 : decode cXL_law 555 = .ok (.iconst 1, 1) := by decide +kernel
theorem dXL_law_556 : decode cXL_law 556 = .ok (.iadd, 1) := by decide +kernel
theorem dXL_law_557 : decode cXL_law 557 = .ok (.iaload, 1) := by decide +kernel
theorem dXL_law_558 : decode cXL_law 558 = .ok (.invokevirtual 84, 3) := by decide +kernel
theorem dXL_law_561 : decode cXL_law 561 = .ok (.aload_n 2, 1) := by decide +kernel
theorem dXL_law_562 : decode cXL_law 562 = .ok (.aload_n 0, 1) := by decide +kernel
theorem dXL_law_563 : decode cXL_law 563 = .ok (.iload_n 3, 1) := by decide +kernel
theorem dXL_law_564 : decode cXL_law 564 = .ok (.iconst 1, 1) := by decide +kernel
theorem dXL_law_565 : decode cXL_law 565 = .ok (.iadd, 1) := by decide +kernel
theorem dXL_law_566 : decode cXL_law 566 = .ok (.iaload, 1) := by decide +kernel
theorem dXL_law_567 : decode cXL_law 567 = .ok (.invokevirtual 87, 3) := by decide +kernel
theorem dXL_law_570 : decode cXL_law 570 = .ok (.if_icmp .eq 159, 3) := by decide +kernel
theorem dXL_law_573 : decode cXL_law 573 = .ok (.iconst 0, 1) := by decide +kernel
theorem dXL_law_574 : decode cXL_law 574 = .ok (.ireturn, 1) := by decide +kernel
theorem dXL_law_575 : decode cXL_law 575 = .ok (.aload_n 1, 1) := by decide +kernel
theorem dXL_law_576 : decode cXL_law 576 = .ok (.invokevirtual 88, 3) := by decide +kernel
theorem dXL_law_579 : decode cXL_law 579 = .ok (.aload_n 2, 1) := by decide +kernel
theorem dXL_law_580 : decode cXL_law 580 = .ok (.invokevirtual 91, 3) := by decide +kernel
theorem dXL_law_583 : decode cXL_law 583 = .ok (.if_icmp .eq 146, 3) := by decide +kernel
theorem dXL_law_586 : decode cXL_law 586 = .ok (.iconst 0, 1) := by decide +kernel
theorem dXL_law_587 : decode cXL_law 587 = .ok (.ireturn, 1) := by decide +kernel
theorem dXL_law_588 : decode cXL_law 588 = .ok (.aload_n 1, 1) := by decide +kernel
theorem dXL_law_589 : decode cXL_law 589 = .ok (.aload_n 0, 1) := by decide +kernel
theorem dXL_law_590 : decode cXL_law 590 = .ok (.iload_n 3, 1) := by decide +kernel
theorem dXL_law_591 : decode cXL_law 591 = .ok (.iconst 1, 1) := by decide +kernel
theorem dXL_law_592 : decode cXL_law 592 = .ok (.iadd, 1) := by decide +kernel
theorem dXL_law_593 : decode cXL_law 593 = .ok (.iaload, 1) := by decide +kernel
theorem dXL_law_594 : decode cXL_law 594 = .ok (.aload_n 0, 1) := by decide +kernel
theorem dXL_law_595 : decode cXL_law 595 = .ok (.iload_n 3, 1) := by decide +kernel
theorem dXL_law_596 : decode cXL_law 596 = .ok (.iconst 2, 1) := by decide +kernel
theorem dXL_law_597 : decode cXL_law 597 = .ok (.iadd, 1) := by decide +kernel
theorem dXL_law_598 : decode cXL_law 598 = .ok (.iaload, 1) := by decide +kernel
theorem dXL_law_599 : decode cXL_law 599 = .ok (.invokevirtual 92, 3) := by decide +kernel
theorem dXL_law_602 : decode cXL_law 602 = .ok (.aload_n 2, 1) := by decide +kernel
theorem dXL_law_603 : decode cXL_law 603 = .ok (.aload_n 0, 1) := by decide +kernel
theorem dXL_law_604 : decode cXL_law 604 = .ok (.iload_n 3, 1) := by decide +kernel
theorem dXL_law_605 : decode cXL_law 605 = .ok (.iconst 1, 1) := by decide +kernel
theorem dXL_law_606 : decode cXL_law 606 = .ok (.iadd, 1) := by decide +kernel
theorem dXL_law_607 : decode cXL_law 607 = .ok (.iaload, 1) := by decide +kernel
theorem dXL_law_608 : decode cXL_law 608 = .ok (.aload_n 0, 1) := by decide +kernel
theorem dXL_law_609 : decode cXL_law 609 = .ok (.iload_n 3, 1) := by decide +kernel
theorem dXL_law_610 : decode cXL_law 610 = .ok (.iconst 2, 1) := by decide +kernel
theorem dXL_law_611 : decode cXL_law 611 = .ok (.iadd, 1) := by decide +kernel
theorem dXL_law_612 : decode cXL_law 612 = .ok (.iaload, 1) := by decide +kernel
theorem dXL_law_613 : decode cXL_law 613 = .ok (.invokevirtual 95, 3) := by decide +kernel
theorem dXL_law_616 : decode cXL_law 616 = .ok (.if_icmp .eq 113, 3) := by decide +kernel
theorem dXL_law_619 : decode cXL_law 619 = .ok (.iconst 0, 1) := by decide +kernel
theorem dXL_law_620 : decode cXL_law 620 = .ok (.ireturn, 1) := by decide +kernel
theorem dXL_law_621 : decode cXL_law 621 = .ok (.aload_n 1, 1) := by decide +kernel
theorem dXL_law_622 : decode cXL_law 622 = .ok (.invokevirtual 96, 3) := by decide +kernel
theorem dXL_law_625 : decode cXL_law 625 = .ok (.aload_n 2, 1) := by decide +kernel
theorem dXL_law_626 : decode cXL_law 626 = .ok (.invokevirtual 99, 3) := by decide +kernel
theorem dXL_law_629 : decode cXL_law 629 = .ok (.if_icmp .eq 100, 3) := by decide +kernel
theorem dXL_law_632 : decode cXL_law 632 = .ok (.iconst 0, 1) := by decide +kernel
theorem dXL_law_633 : decode cXL_law 633 = .ok (.ireturn, 1) := by decide +kernel
theorem dXL_law_634 : decode cXL_law 634 = .ok (.aload_n 1, 1) := by decide +kernel
theorem dXL_law_635 : decode cXL_law 635 = .ok (.aload_n 0, 1) := by decide +kernel
theorem dXL_law_636 : decode cXL_law 636 = .ok (.iload_n 3, 1) := by decide +kernel
theorem dXL_law_637 : decode cXL_law 637 = .ok (.iconst 1, 1) := by decide +kernel
theorem dXL_law_638 : decode cXL_law 638 = .ok (.iadd, 1) := by decide +kernel
theorem dXL_law_639 : decode cXL_law 639 = .ok (.iaload, 1) := by decide +kernel
theorem dXL_law_640 : decode cXL_law 640 = .ok (.aload_n 0, 1) := by decide +kernel
theorem dXL_law_641 : decode cXL_law 641 = .ok (.iload_n 3, 1) := by decide +kernel
theorem dXL_law_642 : decode cXL_law 642 = .ok (.iconst 2, 1) := by decide +kernel
theorem dXL_law_643 : decode cXL_law 643 = .ok (.iadd, 1) := by decide +kernel
theorem dXL_law_644 : decode cXL_law 644 = .ok (.iaload, 1) := by decide +kernel
theorem dXL_law_645 : decode cXL_law 645 = .ok (.ifCond .eq 7, 3) := by decide +kernel
theorem dXL_law_648 : decode cXL_law 648 = .ok (.iconst 1, 1) := by decide +kernel
theorem dXL_law_649 : decode cXL_law 649 = .ok (.goto 4, 3) := by decide +kernel
theorem dXL_law_652 : decode cXL_law 652 = .ok (.iconst 0, 1) := by decide +kernel
theorem dXL_law_653 : decode cXL_law 653 = .ok (.invokevirtual 100, 3) := by decide +kernel
theorem dXL_law_656 : decode cXL_law 656 = .ok (.aload_n 2, 1) := by decide +kernel
theorem dXL_law_657 : decode cXL_law 657 = .ok (.aload_n 0, 1) := by decide +kernel
theorem dXL_law_658 : decode cXL_law 658 = .ok (.iload_n 3, 1) := by decide +kernel
theorem dXL_law_659 : decode cXL_law 659 = .ok (.iconst 1, 1) := by decide +kernel
theorem dXL_law_660 : decode cXL_law 660 = .ok (.iadd, 1) := by decide +kernel
theorem dXL_law_661 : decode cXL_law 661 = .ok (.iaload, 1) := by decide +kernel
theorem dXL_law_662 : decode cXL_law 662 = .ok (.aload_n 0, 1) := by decide +kernel
theorem dXL_law_663 : decode cXL_law 663 = .ok (.iload_n 3, 1) := by decide +kernel
theorem dXL_law_664 : decode cXL_law 664 = .ok (.iconst 2, 1) := by decide +kernel
theorem dXL_law_665 : decode cXL_law 665 = .ok (.iadd, 1) := by decide +kernel
theorem dXL_law_666 : decode cXL_law 666 = .ok (.iaload, 1) := by decide +kernel
theorem dXL_law_667 : decode cXL_law 667 = .ok (.ifCond .eq 7, 3) := by decide +kernel
theorem dXL_law_670 : decode cXL_law 670 = .ok (.iconst 1, 1) := by decide +kernel
theorem dXL_law_671 : decode cXL_law 671 = .ok (.goto 4, 3) := by decide +kernel
theorem dXL_law_674 : decode cXL_law 674 = .ok (.iconst 0, 1) := by decide +kernel
theorem dXL_law_675 : decode cXL_law 675 = .ok (.invokevirtual 104, 3) := by decide +kernel
theorem dXL_law_678 : decode cXL_law 678 = .ok (.if_icmp .eq 51, 3) := by decide +kernel
theorem dXL_law_681 : decode cXL_law 681 = .ok (.iconst 0, 1) := by decide +kernel
theorem dXL_law_682 : decode cXL_law 682 = .ok (.ireturn, 1) := by decide +kernel
theorem dXL_law_683 : decode cXL_law 683 = .ok (.aload_n 1, 1) := by decide +kernel
theorem dXL_law_684 : decode cXL_law 684 = .ok (.invokevirtual 105, 3) := by decide +kernel
theorem dXL_law_687 : decode cXL_law 687 = .ok (.aload_n 2, 1) := by decide +kernel
theorem dXL_law_688 : decode cXL_law 688 = .ok (.invokevirtual 108, 3) := by decide +kernel
theorem dXL_law_691 : decode cXL_law 691 = .ok (.if_icmp .eq 38, 3) := by decide +kernel
theorem dXL_law_694 : decode cXL_law 694 = .ok (.iconst 0, 1) := by decide +kernel
theorem dXL_law_695 : decode cXL_law 695 = .ok (.ireturn, 1) := by decide +kernel
theorem dXL_law_696 : decode cXL_law 696 = .ok (.aload_n 1, 1) := by decide +kernel
theorem dXL_law_697 : decode cXL_law 697 = .ok (.aload_n 0, 1) := by decide +kernel
theorem dXL_law_698 : decode cXL_law 698 = .ok (.iload_n 3, 1) := by decide +kernel
theorem dXL_law_699 : decode cXL_law 699 = .ok (.iconst 1, 1) := by decide +kernel
theorem dXL_law_700 : decode cXL_law 700 = .ok (.iadd, 1) := by decide +kernel
theorem dXL_law_701 : decode cXL_law 701 = .ok (.iaload, 1) := by decide +kernel
theorem dXL_law_702 : decode cXL_law 702 = .ok (.aload_n 0, 1) := by decide +kernel
theorem dXL_law_703 : decode cXL_law 703 = .ok (.iload_n 3, 1) := by decide +kernel
theorem dXL_law_704 : decode cXL_law 704 = .ok (.iconst 2, 1) := by decide +kernel
theorem dXL_law_705 : decode cXL_law 705 = .ok (.iadd, 1) := by decide +kernel
theorem dXL_law_706 : decode cXL_law 706 = .ok (.iaload, 1) := by decide +kernel
theorem dXL_law_707 : decode cXL_law 707 = .ok (.invokevirtual 109, 3) := by decide +kernel
theorem dXL_law_710 : decode cXL_law 710 = .ok (.aload_n 2, 1) := by decide +kernel
theorem dXL_law_711 : decode cXL_law 711 = .ok (.aload_n 0, 1) := by decide +kernel
theorem dXL_law_712 : decode cXL_law 712 = .ok (.iload_n 3, 1) := by decide +kernel
theorem dXL_law_713 : decode cXL_law 713 = .ok (.iconst 1, 1) := by decide +kernel
theorem dXL_law_714 : decode cXL_law 714 = .ok (.iadd, 1) := by decide +kernel
theorem dXL_law_715 : decode cXL_law 715 = .ok (.iaload, 1) := by decide +kernel
theorem dXL_law_716 : decode cXL_law 716 = .ok (.aload_n 0, 1) := by decide +kernel
theorem dXL_law_717 : decode cXL_law 717 = .ok (.iload_n 3, 1) := by decide +kernel
theorem dXL_law_718 : decode cXL_law 718 = .ok (.iconst 2, 1) := by decide +kernel
theorem dXL_law_719 : decode cXL_law 719 = .ok (.iadd, 1) := by decide +kernel
theorem dXL_law_720 : decode cXL_law 720 = .ok (.iaload, 1) := by decide +kernel
theorem dXL_law_721 : decode cXL_law 721 = .ok (.invokevirtual 112, 3) := by decide +kernel
theorem dXL_law_724 : decode cXL_law 724 = .ok (.if_icmp .eq 5, 3) := by decide +kernel
theorem dXL_law_727 : decode cXL_law 727 = .ok (.iconst 0, 1) := by decide +kernel
theorem dXL_law_728 : decode cXL_law 728 = .ok (.ireturn, 1) := by decide +kernel
theorem dXL_law_729 : decode cXL_law 729 = .ok (.iinc 3 4, 3) := by decide +kernel
theorem dXL_law_732 : decode cXL_law 732 = .ok (.goto (-704), 3) := by decide +kernel
theorem dXL_law_735 : decode cXL_law 735 = .ok (.iconst 1, 1) := by decide +kernel
theorem dXL_law_736 : decode cXL_law 736 = .ok (.ireturn, 1) := by decide +kernel
