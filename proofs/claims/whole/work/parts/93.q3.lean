abbrev c_L_law : ByteArray := code
theorem d_L_law_0 : decode c_L_law 0 = .ok (.new 8, 3) := by decide +kernel
theorem d_L_law_3 : decode c_L_law 3 = .ok (.dup, 1) := by decide +kernel
theorem d_L_law_4 : decode c_L_law 4 = .ok (.invokespecial 78, 3) := by decide +kernel
theorem d_L_law_7 : decode c_L_law 7 = .ok (.astore_n 1, 1) := by decide +kernel
theorem d_L_law_8 : decode c_L_law 8 = .ok (.new 79, 3) := by decide +kernel
theorem d_L_law_11 : decode c_L_law 11 = .ok (.dup, 1) := by decide +kernel
theorem d_L_law_12 : decode c_L_law 12 = .ok (.invokespecial 81, 3) := by decide +kernel
theorem d_L_law_15 : decode c_L_law 15 = .ok (.astore_n 2, 1) := by decide +kernel
theorem d_L_law_16 : decode c_L_law 16 = .ok (.iconst 1, 1) := by decide +kernel
theorem d_L_law_17 : decode c_L_law 17 = .ok (.newarray .long, 2) := by decide +kernel
theorem d_L_law_19 : decode c_L_law 19 = .ok (.astore_n 3, 1) := by decide +kernel
theorem d_L_law_20 : decode c_L_law 20 = .ok (.iconst 1, 1) := by decide +kernel
theorem d_L_law_21 : decode c_L_law 21 = .ok (.newarray .double, 2) := by decide +kernel
theorem d_L_law_23 : decode c_L_law 23 = .ok (.astore 4, 2) := by decide +kernel
theorem d_L_law_25 : decode c_L_law 25 = .ok (.iconst 0, 1) := by decide +kernel
theorem d_L_law_26 : decode c_L_law 26 = .ok (.istore 5, 2) := by decide +kernel
theorem d_L_law_28 : decode c_L_law 28 = .ok (.iload 5, 2) := by decide +kernel
theorem d_L_law_30 : decode c_L_law 30 = .ok (.aload_n 0, 1) := by decide +kernel
theorem d_L_law_31 : decode c_L_law 31 = .ok (.arraylength, 1) := by decide +kernel
theorem d_L_law_32 : decode c_L_law 32 = .ok (.bipush 6, 2) := by decide +kernel
theorem d_L_law_34 : decode c_L_law 34 = .ok (.isub, 1) := by decide +kernel
theorem d_L_law_35 : decode c_L_law 35 = .ok (.if_icmp .gt 1283, 3) := by decide +kernel
theorem d_L_law_38 : decode c_L_law 38 = .ok (.aload_n 0, 1) := by decide +kernel
theorem d_L_law_39 : decode c_L_law 39 = .ok (.iload 5, 2) := by decide +kernel
theorem d_L_law_41 : decode c_L_law 41 = .ok (.iaload, 1) := by decide +kernel
theorem d_L_law_42 : decode c_L_law 42 = .ok (.bipush 31, 2) := by decide +kernel
theorem d_L_law_44 : decode c_L_law 44 = .ok (.iand, 1) := by decide +kernel
theorem d_L_law_45 : decode c_L_law 45 = .ok (.tableswitch 1267 0 17 #[87, 179, 259, 379, 435, 491, 547, 603, 659, 715, 728, 818, 886, 954, 1022, 1099, 1143, 1211], 87) := by decide +kernel
theorem d_L_law_132 : decode c_L_law 132 = .ok (.aload_n 1, 1) := by decide +kernel
theorem d_L_law_133 : decode c_L_law 133 = .ok (.aload_n 0, 1) := by decide +kernel
theorem d_L_law_134 : decode c_L_law 134 = .ok (.iload 5, 2) := by decide +kernel
theorem d_L_law_136 : decode c_L_law 136 = .ok (.iconst 1, 1) := by decide +kernel
theorem d_L_law_137 : decode c_L_law 137 = .ok (.iadd, 1) := by decide +kernel
theorem d_L_law_138 : decode c_L_law 138 = .ok (.iaload, 1) := by decide +kernel
theorem d_L_law_139 : decode c_L_law 139 = .ok (.aload_n 0, 1) := by decide +kernel
theorem d_L_law_140 : decode c_L_law 140 = .ok (.iload 5, 2) := by decide +kernel
theorem d_L_law_142 : decode c_L_law 142 = .ok (.iconst 2, 1) := by decide +kernel
theorem d_L_law_143 : decode c_L_law 143 = .ok (.iadd, 1) := by decide +kernel
theorem d_L_law_144 : decode c_L_law 144 = .ok (.iaload, 1) := by decide +kernel
theorem d_L_law_145 : decode c_L_law 145 = .ok (.aload_n 0, 1) := by decide +kernel
theorem d_L_law_146 : decode c_L_law 146 = .ok (.iload 5, 2) := by decide +kernel
theorem d_L_law_148 : decode c_L_law 148 = .ok (.iconst 3, 1) := by decide +kernel
theorem d_L_law_149 : decode c_L_law 149 = .ok (.iadd, 1) := by decide +kernel
theorem d_L_law_150 : decode c_L_law 150 = .ok (.iaload, 1) := by decide +kernel
theorem d_L_law_151 : decode c_L_law 151 = .ok (.aload_n 0, 1) := by decide +kernel
theorem d_L_law_152 : decode c_L_law 152 = .ok (.iload 5, 2) := by decide +kernel
theorem d_L_law_154 : decode c_L_law 154 = .ok (.iconst 4, 1) := by decide +kernel
theorem d_L_law_155 : decode c_L_law 155 = .ok (.iadd, 1) := by decide +kernel
theorem d_L_law_156 : decode c_L_law 156 = .ok (.iaload, 1) := by decide +kernel
theorem d_L_law_157 : decode c_L_law 157 = .ok (.aload_n 3, 1) := by decide +kernel
theorem d_L_law_158 : decode c_L_law 158 = .ok (.invokestatic 82, 3) := by decide +kernel
theorem d_L_law_161 : decode c_L_law 161 = .ok (.istore 6, 2) := by decide +kernel
theorem d_L_law_163 : decode c_L_law 163 = .ok (.aload_n 2, 1) := by decide +kernel
theorem d_L_law_164 : decode c_L_law 164 = .ok (.aload_n 0, 1) := by decide +kernel
theorem d_L_law_165 : decode c_L_law 165 = .ok (.iload 5, 2) := by decide +kernel
theorem d_L_law_167 : decode c_L_law 167 = .ok (.iconst 1, 1) := by decide +kernel
theorem d_L_law_168 : decode c_L_law 168 = .ok (.iadd, 1) := by decide +kernel
theorem d_L_law_169 : decode c_L_law 169 = .ok (.iaload, 1) := by decide +kernel
theorem d_L_law_170 : decode c_L_law 170 = .ok (.aload_n 0, 1) := by decide +kernel
theorem d_L_law_171 : decode c_L_law 171 = .ok (.iload 5, 2) := by decide +kernel
theorem d_L_law_173 : decode c_L_law 173 = .ok (.iconst 2, 1) := by decide +kernel
theorem d_L_law_174 : decode c_L_law 174 = .ok (.iadd, 1) := by decide +kernel
theorem d_L_law_175 : decode c_L_law 175 = .ok (.iaload, 1) := by decide +kernel
theorem d_L_law_176 : decode c_L_law 176 = .ok (.aload_n 0, 1) := by decide +kernel
theorem d_L_law_177 : decode c_L_law 177 = .ok (.iload 5, 2) := by decide +kernel
theorem d_L_law_179 : decode c_L_law 179 = .ok (.iconst 3, 1) := by decide +kernel
theorem d_L_law_180 : decode c_L_law 180 = .ok (.iadd, 1) := by decide +kernel
theorem d_L_law_181 : decode c_L_law 181 = .ok (.iaload, 1) := by decide +kernel
theorem d_L_law_182 : decode c_L_law 182 = .ok (.aload_n 0, 1) := by decide +kernel
theorem d_L_law_183 : decode c_L_law 183 = .ok (.iload 5, 2) := by decide +kernel
theorem d_L_law_185 : decode c_L_law 185 = .ok (.iconst 4, 1) := by decide +kernel
theorem d_L_law_186 : decode c_L_law 186 = .ok (.iadd, 1) := by decide +kernel
theorem d_L_law_187 : decode c_L_law 187 = .ok (.iaload, 1) := by decide +kernel
theorem d_L_law_188 : decode c_L_law 188 = .ok (.invokevirtual 87, 3) := by decide +kernel
theorem d_L_law_191 : decode c_L_law 191 = .ok (.istore 7, 2) := by decide +kernel
theorem d_L_law_193 : decode c_L_law 193 = .ok (.aload_n 2, 1) := by decide +kernel
theorem d_L_law_194 : decode c_L_law 194 = .ok (.invokevirtual 88, 3) := by decide +kernel
theorem d_L_law_197 : decode c_L_law 197 = .ok (.iload 6, 2) := by decide +kernel
theorem d_L_law_199 : decode c_L_law 199 = .ok (.if_icmp .eq 5, 3) := by decide +kernel
theorem d_L_law_202 : decode c_L_law 202 = .ok (.iconst 0, 1) := by decide +kernel
theorem d_L_law_203 : decode c_L_law 203 = .ok (.ireturn, 1) := by decide +kernel
theorem d_L_law_204 : decode c_L_law 204 = .ok (.iload 6, 2) := by decide +kernel
theorem d_L_law_206 : decode c_L_law 206 = .ok (.ifCond .ne 15, 3) := by decide +kernel
theorem d_L_law_209 : decode c_L_law 209 = .ok (.aload_n 3, 1) := by decide +kernel
theorem d_L_law_210 : decode c_L_law 210 = .ok (.iconst 0, 1) := by decide +kernel
theorem d_L_law_211 : decode c_L_law 211 = .ok (.laload, 1) := by decide +kernel
theorem d_L_law_212 : decode c_L_law 212 = .ok (.iload 7, 2) := by decide +kernel
theorem d_L_law_214 : decode c_L_law 214 = .ok (.i2l, 1) := by decide +kernel
theorem d_L_law_215 : decode c_L_law 215 = .ok (.lcmp, 1) := by decide +kernel
theorem d_L_law_216 : decode c_L_law 216 = .ok (.ifCond .eq 5, 3) := by decide +kernel
theorem d_L_law_219 : decode c_L_law 219 = .ok (.iconst 0, 1) := by decide +kernel
theorem d_L_law_220 : decode c_L_law 220 = .ok (.ireturn, 1) := by decide +kernel
theorem d_L_law_221 : decode c_L_law 221 = .ok (.goto 1091, 3) := by decide +kernel
theorem d_L_law_224 : decode c_L_law 224 = .ok (.aload_n 1, 1) := by decide +kernel
theorem d_L_law_225 : decode c_L_law 225 = .ok (.aload_n 0, 1) := by decide +kernel
theorem d_L_law_226 : decode c_L_law 226 = .ok (.iload 5, 2) := by decide +kernel
theorem d_L_law_228 : decode c_L_law 228 = .ok (.iconst 1, 1) := by decide +kernel
theorem d_L_law_229 : decode c_L_law 229 = .ok (.iadd, 1) := by decide +kernel
theorem d_L_law_230 : decode c_L_law 230 = .ok (.iaload, 1) := by decide +kernel
theorem d_L_law_231 : decode c_L_law 231 = .ok (.aload_n 0, 1) := by decide +kernel
theorem d_L_law_232 : decode c_L_law 232 = .ok (.iload 5, 2) := by decide +kernel
theorem d_L_law_234 : decode c_L_law 234 = .ok (.iconst 2, 1) := by decide +kernel
theorem d_L_law_235 : decode c_L_law 235 = .ok (.iadd, 1) := by decide +kernel
theorem d_L_law_236 : decode c_L_law 236 = .ok (.iaload, 1) := by decide +kernel
theorem d_L_law_237 : decode c_L_law 237 = .ok (.aload_n 0, 1) := by decide +kernel
theorem d_L_law_238 : decode c_L_law 238 = .ok (.iload 5, 2) := by decide +kernel
theorem d_L_law_240 : decode c_L_law 240 = .ok (.iconst 3, 1) := by decide +kernel
theorem d_L_law_241 : decode c_L_law 241 = .ok (.iadd, 1) := by decide +kernel
theorem d_L_law_242 : decode c_L_law 242 = .ok (.iaload, 1) := by decide +kernel
theorem d_L_law_243 : decode c_L_law 243 = .ok (.aload_n 3, 1) := by decide +kernel
theorem d_L_law_244 : decode c_L_law 244 = .ok (.invokestatic 91, 3) := by decide +kernel
theorem d_L_law_247 : decode c_L_law 247 = .ok (.istore 6, 2) := by decide +kernel
theorem d_L_law_249 : decode c_L_law 249 = .ok (.aload_n 2, 1) := by decide +kernel
theorem d_L_law_250 : decode c_L_law 250 = .ok (.aload_n 0, 1) := by decide +kernel
theorem d_L_law_251 : decode c_L_law 251 = .ok (.iload 5, 2) := by decide +kernel
theorem d_L_law_253 : decode c_L_law 253 = .ok (.iconst 1, 1) := by decide +kernel
theorem d_L_law_254 : decode c_L_law 254 = .ok (.iadd, 1) := by decide +kernel
theorem d_L_law_255 : decode c_L_law 255 = .ok (.iaload, 1) := by decide +kernel
theorem d_L_law_256 : decode c_L_law 256 = .ok (.aload_n 0, 1) := by decide +kernel
theorem d_L_law_257 : decode c_L_law 257 = .ok (.iload 5, 2) := by decide +kernel
theorem d_L_law_259 : decode c_L_law 259 = .ok (.iconst 2, 1) := by decide +kernel
theorem d_L_law_260 : decode c_L_law 260 = .ok (.iadd, 1) := by decide +kernel
theorem d_L_law_261 : decode c_L_law 261 = .ok (.iaload, 1) := by decide +kernel
theorem d_L_law_262 : decode c_L_law 262 = .ok (.aload_n 0, 1) := by decide +kernel
theorem d_L_law_263 : decode c_L_law 263 = .ok (.iload 5, 2) := by decide +kernel
theorem d_L_law_265 : decode c_L_law 265 = .ok (.iconst 3, 1) := by decide +kernel
theorem d_L_law_266 : decode c_L_law 266 = .ok (.iadd, 1) := by decide +kernel
theorem d_L_law_267 : decode c_L_law 267 = .ok (.iaload, 1) := by decide +kernel
theorem d_L_law_268 : decode c_L_law 268 = .ok (.invokevirtual 94, 3) := by decide +kernel
theorem d_L_law_271 : decode c_L_law 271 = .ok (.istore 7, 2) := by decide +kernel
theorem d_L_law_273 : decode c_L_law 273 = .ok (.aload_n 2, 1) := by decide +kernel
theorem d_L_law_274 : decode c_L_law 274 = .ok (.invokevirtual 88, 3) := by decide +kernel
theorem d_L_law_277 : decode c_L_law 277 = .ok (.iload 6, 2) := by decide +kernel
theorem d_L_law_279 : decode c_L_law 279 = .ok (.if_icmp .eq 5, 3) := by decide +kernel
theorem d_L_law_282 : decode c_L_law 282 = .ok (.iconst 0, 1) := by decide +kernel
theorem d_L_law_283 : decode c_L_law 283 = .ok (.ireturn, 1) := by decide +kernel
theorem d_L_law_284 : decode c_L_law 284 = .ok (.iload 6, 2) := by decide +kernel
theorem d_L_law_286 : decode c_L_law 286 = .ok (.ifCond .ne 15, 3) := by decide +kernel
theorem d_L_law_289 : decode c_L_law 289 = .ok (.aload_n 3, 1) := by decide +kernel
theorem d_L_law_290 : decode c_L_law 290 = .ok (.iconst 0, 1) := by decide +kernel
theorem d_L_law_291 : decode c_L_law 291 = .ok (.laload, 1) := by decide +kernel
theorem d_L_law_292 : decode c_L_law 292 = .ok (.iload 7, 2) := by decide +kernel
theorem d_L_law_294 : decode c_L_law 294 = .ok (.i2l, 1) := by decide +kernel
theorem d_L_law_295 : decode c_L_law 295 = .ok (.lcmp, 1) := by decide +kernel
theorem d_L_law_296 : decode c_L_law 296 = .ok (.ifCond .eq 5, 3) := by decide +kernel
theorem d_L_law_299 : decode c_L_law 299 = .ok (.iconst 0, 1) := by decide +kernel
theorem d_L_law_300 : decode c_L_law 300 = .ok (.ireturn, 1) := by decide +kernel
theorem d_L_law_301 : decode c_L_law 301 = .ok (.goto 1011, 3) := by decide +kernel
theorem d_L_law_304 : decode c_L_law 304 = .ok (.aload_n 1, 1) := by decide +kernel
theorem d_L_law_305 : decode c_L_law 305 = .ok (.aload_n 0, 1) := by decide +kernel
theorem d_L_law_306 : decode c_L_law 306 = .ok (.iload 5, 2) := by decide +kernel
theorem d_L_law_308 : decode c_L_law 308 = .ok (.iconst 1, 1) := by decide +kernel
theorem d_L_law_309 : decode c_L_law 309 = .ok (.iadd, 1) := by decide +kernel
theorem d_L_law_310 : decode c_L_law 310 = .ok (.iaload, 1) := by decide +kernel
theorem d_L_law_311 : decode c_L_law 311 = .ok (.aload_n 0, 1) := by decide +kernel
theorem d_L_law_312 : decode c_L_law 312 = .ok (.iload 5, 2) := by decide +kernel
theorem d_L_law_314 : decode c_L_law 314 = .ok (.iconst 2, 1) := by decide +kernel
theorem d_L_law_315 : decode c_L_law 315 = .ok (.iadd, 1) := by decide +kernel
theorem d_L_law_316 : decode c_L_law 316 = .ok (.iaload, 1) := by decide +kernel
theorem d_L_law_317 : decode c_L_law 317 = .ok (.aload_n 0, 1) := by decide +kernel
theorem d_L_law_318 : decode c_L_law 318 = .ok (.iload 5, 2) := by decide +kernel
theorem d_L_law_320 : decode c_L_law 320 = .ok (.iconst 3, 1) := by decide +kernel
theorem d_L_law_321 : decode c_L_law 321 = .ok (.iadd, 1) := by decide +kernel
theorem d_L_law_322 : decode c_L_law 322 = .ok (.iaload, 1) := by decide +kernel
theorem d_L_law_323 : decode c_L_law 323 = .ok (.aload_n 0, 1) := by decide +kernel
theorem d_L_law_324 : decode c_L_law 324 = .ok (.iload 5, 2) := by decide +kernel
theorem d_L_law_326 : decode c_L_law 326 = .ok (.iconst 4, 1) := by decide +kernel
theorem d_L_law_327 : decode c_L_law 327 = .ok (.iadd, 1) := by decide +kernel
theorem d_L_law_328 : decode c_L_law 328 = .ok (.iaload, 1) := by decide +kernel
theorem d_L_law_329 : decode c_L_law 329 = .ok (.aload_n 0, 1) := by decide +kernel
theorem d_L_law_330 : decode c_L_law 330 = .ok (.iload 5, 2) := by decide +kernel
theorem d_L_law_332 : decode c_L_law 332 = .ok (.iconst 5, 1) := by decide +kernel
theorem d_L_law_333 : decode c_L_law 333 = .ok (.iadd, 1) := by decide +kernel
theorem d_L_law_334 : decode c_L_law 334 = .ok (.iaload, 1) := by decide +kernel
theorem d_L_law_335 : decode c_L_law 335 = .ok (.ifCond .eq 7, 3) := by decide +kernel
theorem d_L_law_338 : decode c_L_law 338 = .ok (.iconst 1, 1) := by decide +kernel
theorem d_L_law_339 : decode c_L_law 339 = .ok (.goto 4, 3) := by decide +kernel
theorem d_L_law_342 : decode c_L_law 342 = .ok (.iconst 0, 1) := by decide +kernel
theorem d_L_law_343 : decode c_L_law 343 = .ok (.aload_n 3, 1) := by decide +kernel
theorem d_L_law_344 : decode c_L_law 344 = .ok (.invokestatic 95, 3) := by decide +kernel
theorem d_L_law_347 : decode c_L_law 347 = .ok (.istore 6, 2) := by decide +kernel
theorem d_L_law_349 : decode c_L_law 349 = .ok (.aload_n 2, 1) := by decide +kernel
theorem d_L_law_350 : decode c_L_law 350 = .ok (.aload_n 0, 1) := by decide +kernel
theorem d_L_law_351 : decode c_L_law 351 = .ok (.iload 5, 2) := by decide +kernel
theorem d_L_law_353 : decode c_L_law 353 = .ok (.iconst 1, 1) := by decide +kernel
theorem d_L_law_354 : decode c_L_law 354 = .ok (.iadd, 1) := by decide +kernel
theorem d_L_law_355 : decode c_L_law 355 = .ok (.iaload, 1) := by decide +kernel
theorem d_L_law_356 : decode c_L_law 356 = .ok (.aload_n 0, 1) := by decide +kernel
theorem d_L_law_357 : decode c_L_law 357 = .ok (.iload 5, 2) := by decide +kernel
theorem d_L_law_359 : decode c_L_law 359 = .ok (.iconst 2, 1) := by decide +kernel
theorem d_L_law_360 : decode c_L_law 360 = .ok (.iadd, 1) := by decide +kernel
theorem d_L_law_361 : decode c_L_law 361 = .ok (.iaload, 1) := by decide +kernel
theorem d_L_law_362 : decode c_L_law 362 = .ok (.aload_n 0, 1) := by decide +kernel
theorem d_L_law_363 : decode c_L_law 363 = .ok (.iload 5, 2) := by decide +kernel
theorem d_L_law_365 : decode c_L_law 365 = .ok (.iconst 3, 1) := by decide +kernel
theorem d_L_law_366 : decode c_L_law 366 = .ok (.iadd, 1) := by decide +kernel
theorem d_L_law_367 : decode c_L_law 367 = .ok (.iaload, 1) := by decide +kernel
theorem d_L_law_368 : decode c_L_law 368 = .ok (.aload_n 0, 1) := by decide +kernel
theorem d_L_law_369 : decode c_L_law 369 = .ok (.iload 5, 2) := by decide +kernel
theorem d_L_law_371 : decode c_L_law 371 = .ok (.iconst 4, 1) := by decide +kernel
theorem d_L_law_372 : decode c_L_law 372 = .ok (.iadd, 1) := by decide +kernel
theorem d_L_law_373 : decode c_L_law 373 = .ok (.iaload, 1) := by decide +kernel
theorem d_L_law_374 : decode c_L_law 374 = .ok (.aload_n 0, 1) := by decide +kernel
theorem d_L_law_375 : decode c_L_law 375 = .ok (.iload 5, 2) := by decide +kernel
theorem d_L_law_377 : decode c_L_law 377 = .ok (.iconst 5, 1) := by decide +kernel
theorem d_L_law_378 : decode c_L_law 378 = .ok (.iadd, 1) := by decide +kernel
theorem d_L_law_379 : decode c_L_law 379 = .ok (.iaload, 1) := by decide +kernel
theorem d_L_law_380 : decode c_L_law 380 = .ok (.ifCond .eq 7, 3) := by decide +kernel
theorem d_L_law_383 : decode c_L_law 383 = .ok (.iconst 1, 1) := by decide +kernel
theorem d_L_law_384 : decode c_L_law 384 = .ok (.goto 4, 3) := by decide +kernel
theorem d_L_law_387 : decode c_L_law 387 = .ok (.iconst 0, 1) := by decide +kernel
theorem d_L_law_388 : decode c_L_law 388 = .ok (.invokevirtual 98, 3) := by decide +kernel
theorem d_L_law_391 : decode c_L_law 391 = .ok (.istore 7, 2) := by decide +kernel
theorem d_L_law_393 : decode c_L_law 393 = .ok (.aload_n 2, 1) := by decide +kernel
theorem d_L_law_394 : decode c_L_law 394 = .ok (.invokevirtual 88, 3) := by decide +kernel
theorem d_L_law_397 : decode c_L_law 397 = .ok (.iload 6, 2) := by decide +kernel
theorem d_L_law_399 : decode c_L_law 399 = .ok (.if_icmp .eq 5, 3) := by decide +kernel
theorem d_L_law_402 : decode c_L_law 402 = .ok (.iconst 0, 1) := by decide +kernel
theorem d_L_law_403 : decode c_L_law 403 = .ok (.ireturn, 1) := by decide +kernel
theorem d_L_law_404 : decode c_L_law 404 = .ok (.iload 6, 2) := by decide +kernel
theorem d_L_law_406 : decode c_L_law 406 = .ok (.ifCond .ne 15, 3) := by decide +kernel
theorem d_L_law_409 : decode c_L_law 409 = .ok (.aload_n 3, 1) := by decide +kernel
theorem d_L_law_410 : decode c_L_law 410 = .ok (.iconst 0, 1) := by decide +kernel
theorem d_L_law_411 : decode c_L_law 411 = .ok (.laload, 1) := by decide +kernel
theorem d_L_law_412 : decode c_L_law 412 = .ok (.iload 7, 2) := by decide +kernel
theorem d_L_law_414 : decode c_L_law 414 = .ok (.i2l, 1) := by decide +kernel
theorem d_L_law_415 : decode c_L_law 415 = .ok (.lcmp, 1) := by decide +kernel
theorem d_L_law_416 : decode c_L_law 416 = .ok (.ifCond .eq 5, 3) := by decide +kernel
theorem d_L_law_419 : decode c_L_law 419 = .ok (.iconst 0, 1) := by decide +kernel
theorem d_L_law_420 : decode c_L_law 420 = .ok (.ireturn, 1) := by decide +kernel
theorem d_L_law_421 : decode c_L_law 421 = .ok (.goto 891, 3) := by decide +kernel
theorem d_L_law_424 : decode c_L_law 424 = .ok (.aload_n 1, 1) := by decide +kernel
theorem d_L_law_425 : decode c_L_law 425 = .ok (.aload_n 0, 1) := by decide +kernel
theorem d_L_law_426 : decode c_L_law 426 = .ok (.iload 5, 2) := by decide +kernel
theorem d_L_law_428 : decode c_L_law 428 = .ok (.iconst 1, 1) := by decide +kernel
theorem d_L_law_429 : decode c_L_law 429 = .ok (.iadd, 1) := by decide +kernel
theorem d_L_law_430 : decode c_L_law 430 = .ok (.iaload, 1) := by decide +kernel
theorem d_L_law_431 : decode c_L_law 431 = .ok (.aload_n 3, 1) := by decide +kernel
theorem d_L_law_432 : decode c_L_law 432 = .ok (.invokestatic 99, 3) := by decide +kernel
theorem d_L_law_435 : decode c_L_law 435 = .ok (.istore 6, 2) := by decide +kernel
theorem d_L_law_437 : decode c_L_law 437 = .ok (.aload_n 2, 1) := by decide +kernel
theorem d_L_law_438 : decode c_L_law 438 = .ok (.aload_n 0, 1) := by decide +kernel
theorem d_L_law_439 : decode c_L_law 439 = .ok (.iload 5, 2) := by decide +kernel
theorem d_L_law_441 : decode c_L_law 441 = .ok (.iconst 1, 1) := by decide +kernel
theorem d_L_law_442 : decode c_L_law 442 = .ok (.iadd, 1) := by decide +kernel
theorem d_L_law_443 : decode c_L_law 443 = .ok (.iaload, 1) := by decide +kernel
theorem d_L_law_444 : decode c_L_law 444 = .ok (.invokevirtual 102, 3) := by decide +kernel
theorem d_L_law_447 : decode c_L_law 447 = .ok (.istore 7, 2) := by decide +kernel
theorem d_L_law_449 : decode c_L_law 449 = .ok (.aload_n 2, 1) := by decide +kernel
theorem d_L_law_450 : decode c_L_law 450 = .ok (.invokevirtual 88, 3) := by decide +kernel
theorem d_L_law_453 : decode c_L_law 453 = .ok (.iload 6, 2) := by decide +kernel
theorem d_L_law_455 : decode c_L_law 455 = .ok (.if_icmp .eq 5, 3) := by decide +kernel
theorem d_L_law_458 : decode c_L_law 458 = .ok (.iconst 0, 1) := by decide +kernel
theorem d_L_law_459 : decode c_L_law 459 = .ok (.ireturn, 1) := by decide +kernel
theorem d_L_law_460 : decode c_L_law 460 = .ok (.iload 6, 2) := by decide +kernel
theorem d_L_law_462 : decode c_L_law 462 = .ok (.ifCond .ne 15, 3) := by decide +kernel
theorem d_L_law_465 : decode c_L_law 465 = .ok (.aload_n 3, 1) := by decide +kernel
theorem d_L_law_466 : decode c_L_law 466 = .ok (.iconst 0, 1) := by decide +kernel
theorem d_L_law_467 : decode c_L_law 467 = .ok (.laload, 1) := by decide +kernel
theorem d_L_law_468 : decode c_L_law 468 = .ok (.iload 7, 2) := by decide +kernel
theorem d_L_law_470 : decode c_L_law 470 = .ok (.i2l, 1) := by decide +kernel
theorem d_L_law_471 : decode c_L_law 471 = .ok (.lcmp, 1) := by decide +kernel
theorem d_L_law_472 : decode c_L_law 472 = .ok (.ifCond .eq 5, 3) := by decide +kernel
theorem d_L_law_475 : decode c_L_law 475 = .ok (.iconst 0, 1) := by decide +kernel
theorem d_L_law_476 : decode c_L_law 476 = .ok (.ireturn, 1) := by decide +kernel
theorem d_L_law_477 : decode c_L_law 477 = .ok (.goto 835, 3) := by decide +kernel
theorem d_L_law_480 : decode c_L_law 480 = .ok (.aload_n 1, 1) := by decide +kernel
theorem d_L_law_481 : decode c_L_law 481 = .ok (.aload_n 0, 1) := by decide +kernel
theorem d_L_law_482 : decode c_L_law 482 = .ok (.iload 5, 2) := by decide +kernel
theorem d_L_law_484 : decode c_L_law 484 = .ok (.iconst 1, 1) := by decide +kernel
theorem d_L_law_485 : decode c_L_law 485 = .ok (.iadd, 1) := by decide +kernel
theorem d_L_law_486 : decode c_L_law 486 = .ok (.iaload, 1) := by decide +kernel
theorem d_L_law_487 : decode c_L_law 487 = .ok (.aload_n 3, 1) := by decide +kernel
theorem d_L_law_488 : decode c_L_law 488 = .ok (.invokestatic 103, 3) := by decide +kernel
theorem d_L_law_491 : decode c_L_law 491 = .ok (.istore 6, 2) := by decide +kernel
theorem d_L_law_493 : decode c_L_law 493 = .ok (.aload_n 2, 1) := by decide +kernel
theorem d_L_law_494 : decode c_L_law 494 = .ok (.aload_n 0, 1) := by decide +kernel
theorem d_L_law_495 : decode c_L_law 495 = .ok (.iload 5, 2) := by decide +kernel
theorem d_L_law_497 : decode c_L_law 497 = .ok (.iconst 1, 1) := by decide +kernel
theorem d_L_law_498 : decode c_L_law 498 = .ok (.iadd, 1) := by decide +kernel
theorem d_L_law_499 : decode c_L_law 499 = .ok (.iaload, 1) := by decide +kernel
theorem d_L_law_500 : decode c_L_law 500 = .ok (.invokevirtual 105, 3) := by decide +kernel
theorem d_L_law_503 : decode c_L_law 503 = .ok (.istore 7, 2) := by decide +kernel
theorem d_L_law_505 : decode c_L_law 505 = .ok (.aload_n 2, 1) := by decide +kernel
theorem d_L_law_506 : decode c_L_law 506 = .ok (.invokevirtual 88, 3) := by decide +kernel
theorem d_L_law_509 : decode c_L_law 509 = .ok (.iload 6, 2) := by decide +kernel
theorem d_L_law_511 : decode c_L_law 511 = .ok (.if_icmp .eq 5, 3) := by decide +kernel
theorem d_L_law_514 : decode c_L_law 514 = .ok (.iconst 0, 1) := by decide +kernel
theorem d_L_law_515 : decode c_L_law 515 = .ok (.ireturn, 1) := by decide +kernel
theorem d_L_law_516 : decode c_L_law 516 = .ok (.iload 6, 2) := by decide +kernel
theorem d_L_law_518 : decode c_L_law 518 = .ok (.ifCond .ne 15, 3) := by decide +kernel
theorem d_L_law_521 : decode c_L_law 521 = .ok (.aload_n 3, 1) := by decide +kernel
theorem d_L_law_522 : decode c_L_law 522 = .ok (.iconst 0, 1) := by decide +kernel
theorem d_L_law_523 : decode c_L_law 523 = .ok (.laload, 1) := by decide +kernel
theorem d_L_law_524 : decode c_L_law 524 = .ok (.iload 7, 2) := by decide +kernel
theorem d_L_law_526 : decode c_L_law 526 = .ok (.i2l, 1) := by decide +kernel
theorem d_L_law_527 : decode c_L_law 527 = .ok (.lcmp, 1) := by decide +kernel
theorem d_L_law_528 : decode c_L_law 528 = .ok (.ifCond .eq 5, 3) := by decide +kernel
theorem d_L_law_531 : decode c_L_law 531 = .ok (.iconst 0, 1) := by decide +kernel
theorem d_L_law_532 : decode c_L_law 532 = .ok (.ireturn, 1) := by decide +kernel
theorem d_L_law_533 : decode c_L_law 533 = .ok (.goto 779, 3) := by decide +kernel
theorem d_L_law_536 : decode c_L_law 536 = .ok (.aload_n 1, 1) := by decide +kernel
theorem d_L_law_537 : decode c_L_law 537 = .ok (.aload_n 0, 1) := by decide +kernel
theorem d_L_law_538 : decode c_L_law 538 = .ok (.iload 5, 2) := by decide +kernel
theorem d_L_law_540 : decode c_L_law 540 = .ok (.iconst 1, 1) := by decide +kernel
theorem d_L_law_541 : decode c_L_law 541 = .ok (.iadd, 1) := by decide +kernel
theorem d_L_law_542 : decode c_L_law 542 = .ok (.iaload, 1) := by decide +kernel
theorem d_L_law_543 : decode c_L_law 543 = .ok (.aload_n 3, 1) := by decide +kernel
theorem d_L_law_544 : decode c_L_law 544 = .ok (.invokestatic 106, 3) := by decide +kernel
theorem d_L_law_547 : decode c_L_law 547 = .ok (.istore 6, 2) := by decide +kernel
theorem d_L_law_549 : decode c_L_law 549 = .ok (.aload_n 2, 1) := by decide +kernel
theorem d_L_law_550 : decode c_L_law 550 = .ok (.aload_n 0, 1) := by decide +kernel
theorem d_L_law_551 : decode c_L_law 551 = .ok (.iload 5, 2) := by decide +kernel
theorem d_L_law_553 : decode c_L_law 553 = .ok (.iconst 1, 1) := by decide +kernel
theorem d_L_law_554 : decode c_L_law 554 = .ok (.iadd, 1) := by decide +kernel
theorem d_L_law_555 : decode c_L_law 555 = .ok (.iaload, 1) := by decide +kernel
theorem d_L_law_556 : decode c_L_law 556 = .ok (.invokevirtual 108, 3) := by decide +kernel
theorem d_L_law_559 : decode c_L_law 559 = .ok (.istore 7, 2) := by decide +kernel
theorem d_L_law_561 : decode c_L_law 561 = .ok (.aload_n 2, 1) := by decide +kernel
theorem d_L_law_562 : decode c_L_law 562 = .ok (.invokevirtual 88, 3) := by decide +kernel
theorem d_L_law_565 : decode c_L_law 565 = .ok (.iload 6, 2) := by decide +kernel
theorem d_L_law_567 : decode c_L_law 567 = .ok (.if_icmp .eq 5, 3) := by decide +kernel
theorem d_L_law_570 : decode c_L_law 570 = .ok (.iconst 0, 1) := by decide +kernel
theorem d_L_law_571 : decode c_L_law 571 = .ok (.ireturn, 1) := by decide +kernel
theorem d_L_law_572 : decode c_L_law 572 = .ok (.iload 6, 2) := by decide +kernel
theorem d_L_law_574 : decode c_L_law 574 = .ok (.ifCond .ne 15, 3) := by decide +kernel
theorem d_L_law_577 : decode c_L_law 577 = .ok (.aload_n 3, 1) := by decide +kernel
theorem d_L_law_578 : decode c_L_law 578 = .ok (.iconst 0, 1) := by decide +kernel
theorem d_L_law_579 : decode c_L_law 579 = .ok (.laload, 1) := by decide +kernel
theorem d_L_law_580 : decode c_L_law 580 = .ok (.iload 7, 2) := by decide +kernel
theorem d_L_law_582 : decode c_L_law 582 = .ok (.i2l, 1) := by decide +kernel
theorem d_L_law_583 : decode c_L_law 583 = .ok (.lcmp, 1) := by decide +kernel
theorem d_L_law_584 : decode c_L_law 584 = .ok (.ifCond .eq 5, 3) := by decide +kernel
theorem d_L_law_587 : decode c_L_law 587 = .ok (.iconst 0, 1) := by decide +kernel
theorem d_L_law_588 : decode c_L_law 588 = .ok (.ireturn, 1) := by decide +kernel
theorem d_L_law_589 : decode c_L_law 589 = .ok (.goto 723, 3) := by decide +kernel
theorem d_L_law_592 : decode c_L_law 592 = .ok (.aload_n 1, 1) := by decide +kernel
theorem d_L_law_593 : decode c_L_law 593 = .ok (.aload_n 0, 1) := by decide +kernel
theorem d_L_law_594 : decode c_L_law 594 = .ok (.iload 5, 2) := by decide +kernel
theorem d_L_law_596 : decode c_L_law 596 = .ok (.iconst 1, 1) := by decide +kernel
theorem d_L_law_597 : decode c_L_law 597 = .ok (.iadd, 1) := by decide +kernel
theorem d_L_law_598 : decode c_L_law 598 = .ok (.iaload, 1) := by decide +kernel
theorem d_L_law_599 : decode c_L_law 599 = .ok (.aload_n 3, 1) := by decide +kernel
theorem d_L_law_600 : decode c_L_law 600 = .ok (.invokestatic 109, 3) := by decide +kernel
theorem d_L_law_603 : decode c_L_law 603 = .ok (.istore 6, 2) := by decide +kernel
theorem d_L_law_605 : decode c_L_law 605 = .ok (.aload_n 2, 1) := by decide +kernel
theorem d_L_law_606 : decode c_L_law 606 = .ok (.aload_n 0, 1) := by decide +kernel
theorem d_L_law_607 : decode c_L_law 607 = .ok (.iload 5, 2) := by decide +kernel
theorem d_L_law_609 : decode c_L_law 609 = .ok (.iconst 1, 1) := by decide +kernel
theorem d_L_law_610 : decode c_L_law 610 = .ok (.iadd, 1) := by decide +kernel
theorem d_L_law_611 : decode c_L_law 611 = .ok (.iaload, 1) := by decide +kernel
theorem d_L_law_612 : decode c_L_law 612 = .ok (.invokevirtual 111, 3) := by decide +kernel
theorem d_L_law_615 : decode c_L_law 615 = .ok (.istore 7, 2) := by decide +kernel
theorem d_L_law_617 : decode c_L_law 617 = .ok (.aload_n 2, 1) := by decide +kernel
theorem d_L_law_618 : decode c_L_law 618 = .ok (.invokevirtual 88, 3) := by decide +kernel
theorem d_L_law_621 : decode c_L_law 621 = .ok (.iload 6, 2) := by decide +kernel
theorem d_L_law_623 : decode c_L_law 623 = .ok (.if_icmp .eq 5, 3) := by decide +kernel
theorem d_L_law_626 : decode c_L_law 626 = .ok (.iconst 0, 1) := by decide +kernel
theorem d_L_law_627 : decode c_L_law 627 = .ok (.ireturn, 1) := by decide +kernel
theorem d_L_law_628 : decode c_L_law 628 = .ok (.iload 6, 2) := by decide +kernel
theorem d_L_law_630 : decode c_L_law 630 = .ok (.ifCond .ne 15, 3) := by decide +kernel
theorem d_L_law_633 : decode c_L_law 633 = .ok (.aload_n 3, 1) := by decide +kernel
theorem d_L_law_634 : decode c_L_law 634 = .ok (.iconst 0, 1) := by decide +kernel
theorem d_L_law_635 : decode c_L_law 635 = .ok (.laload, 1) := by decide +kernel
theorem d_L_law_636 : decode c_L_law 636 = .ok (.iload 7, 2) := by decide +kernel
theorem d_L_law_638 : decode c_L_law 638 = .ok (.i2l, 1) := by decide +kernel
theorem d_L_law_639 : decode c_L_law 639 = .ok (.lcmp, 1) := by decide +kernel
theorem d_L_law_640 : decode c_L_law 640 = .ok (.ifCond .eq 5, 3) := by decide +kernel
theorem d_L_law_643 : decode c_L_law 643 = .ok (.iconst 0, 1) := by decide +kernel
theorem d_L_law_644 : decode c_L_law 644 = .ok (.ireturn, 1) := by decide +kernel
theorem d_L_law_645 : decode c_L_law 645 = .ok (.goto 667, 3) := by decide +kernel
theorem d_L_law_648 : decode c_L_law 648 = .ok (.aload_n 1, 1) := by decide +kernel
theorem d_L_law_649 : decode c_L_law 649 = .ok (.aload_n 0, 1) := by decide +kernel
theorem d_L_law_650 : decode c_L_law 650 = .ok (.iload 5, 2) := by decide +kernel
theorem d_L_law_652 : decode c_L_law 652 = .ok (.iconst 1, 1) := by decide +kernel
theorem d_L_law_653 : decode c_L_law 653 = .ok (.iadd, 1) := by decide +kernel
theorem d_L_law_654 : decode c_L_law 654 = .ok (.iaload, 1) := by decide +kernel
theorem d_L_law_655 : decode c_L_law 655 = .ok (.aload_n 3, 1) := by decide +kernel
theorem d_L_law_656 : decode c_L_law 656 = .ok (.invokestatic 112, 3) := by decide +kernel
theorem d_L_law_659 : decode c_L_law 659 = .ok (.istore 6, 2) := by decide +kernel
theorem d_L_law_661 : decode c_L_law 661 = .ok (.aload_n 2, 1) := by decide +kernel
theorem d_L_law_662 : decode c_L_law 662 = .ok (.aload_n 0, 1) := by decide +kernel
theorem d_L_law_663 : decode c_L_law 663 = .ok (.iload 5, 2) := by decide +kernel
theorem d_L_law_665 : decode c_L_law 665 = .ok (.iconst 1, 1) := by decide +kernel
theorem d_L_law_666 : decode c_L_law 666 = .ok (.iadd, 1) := by decide +kernel
theorem d_L_law_667 : decode c_L_law 667 = .ok (.iaload, 1) := by decide +kernel
theorem d_L_law_668 : decode c_L_law 668 = .ok (.invokevirtual 114, 3) := by decide +kernel
theorem d_L_law_671 : decode c_L_law 671 = .ok (.istore 7, 2) := by decide +kernel
theorem d_L_law_673 : decode c_L_law 673 = .ok (.aload_n 2, 1) := by decide +kernel
theorem d_L_law_674 : decode c_L_law 674 = .ok (.invokevirtual 88, 3) := by decide +kernel
theorem d_L_law_677 : decode c_L_law 677 = .ok (.iload 6, 2) := by decide +kernel
theorem d_L_law_679 : decode c_L_law 679 = .ok (.if_icmp .eq 5, 3) := by decide +kernel
theorem d_L_law_682 : decode c_L_law 682 = .ok (.iconst 0, 1) := by decide +kernel
theorem d_L_law_683 : decode c_L_law 683 = .ok (.ireturn, 1) := by decide +kernel
theorem d_L_law_684 : decode c_L_law 684 = .ok (.iload 6, 2) := by decide +kernel
theorem d_L_law_686 : decode c_L_law 686 = .ok (.ifCond .ne 15, 3) := by decide +kernel
theorem d_L_law_689 : decode c_L_law 689 = .ok (.aload_n 3, 1) := by decide +kernel
theorem d_L_law_690 : decode c_L_law 690 = .ok (.iconst 0, 1) := by decide +kernel
theorem d_L_law_691 : decode c_L_law 691 = .ok (.laload, 1) := by decide +kernel
theorem d_L_law_692 : decode c_L_law 692 = .ok (.iload 7, 2) := by decide +kernel
theorem d_L_law_694 : decode c_L_law 694 = .ok (.i2l, 1) := by decide +kernel
theorem d_L_law_695 : decode c_L_law 695 = .ok (.lcmp, 1) := by decide +kernel
theorem d_L_law_696 : decode c_L_law 696 = .ok (.ifCond .eq 5, 3) := by decide +kernel
theorem d_L_law_699 : decode c_L_law 699 = .ok (.iconst 0, 1) := by decide +kernel
theorem d_L_law_700 : decode c_L_law 700 = .ok (.ireturn, 1) := by decide +kernel
theorem d_L_law_701 : decode c_L_law 701 = .ok (.goto 611, 3) := by decide +kernel
theorem d_L_law_704 : decode c_L_law 704 = .ok (.aload_n 1, 1) := by decide +kernel
theorem d_L_law_705 : decode c_L_law 705 = .ok (.aload_n 0, 1) := by decide +kernel
theorem d_L_law_706 : decode c_L_law 706 = .ok (.iload 5, 2) := by decide +kernel
theorem d_L_law_708 : decode c_L_law 708 = .ok (.iconst 1, 1) := by decide +kernel
theorem d_L_law_709 : decode c_L_law 709 = .ok (.iadd, 1) := by decide +kernel
theorem d_L_law_710 : decode c_L_law 710 = .ok (.iaload, 1) := by decide +kernel
theorem d_L_law_711 : decode c_L_law 711 = .ok (.aload_n 3, 1) := by decide +kernel
theorem d_L_law_712 : decode c_L_law 712 = .ok (.invokestatic 115, 3) := by decide +kernel
theorem d_L_law_715 : decode c_L_law 715 = .ok (.istore 6, 2) := by decide +kernel
theorem d_L_law_717 : decode c_L_law 717 = .ok (.aload_n 2, 1) := by decide +kernel
theorem d_L_law_718 : decode c_L_law 718 = .ok (.aload_n 0, 1) := by decide +kernel
theorem d_L_law_719 : decode c_L_law 719 = .ok (.iload 5, 2) := by decide +kernel
theorem d_L_law_721 : decode c_L_law 721 = .ok (.iconst 1, 1) := by decide +kernel
theorem d_L_law_722 : decode c_L_law 722 = .ok (.iadd, 1) := by decide +kernel
theorem d_L_law_723 : decode c_L_law 723 = .ok (.iaload, 1) := by decide +kernel
theorem d_L_law_724 : decode c_L_law 724 = .ok (.invokevirtual 117, 3) := by decide +kernel
theorem d_L_law_727 : decode c_L_law 727 = .ok (.istore 7, 2) := by decide +kernel
theorem d_L_law_729 : decode c_L_law 729 = .ok (.aload_n 2, 1) := by decide +kernel
theorem d_L_law_730 : decode c_L_law 730 = .ok (.invokevirtual 88, 3) := by decide +kernel
theorem d_L_law_733 : decode c_L_law 733 = .ok (.iload 6, 2) := by decide +kernel
theorem d_L_law_735 : decode c_L_law 735 = .ok (.if_icmp .eq 5, 3) := by decide +kernel
theorem d_L_law_738 : decode c_L_law 738 = .ok (.iconst 0, 1) := by decide +kernel
theorem d_L_law_739 : decode c_L_law 739 = .ok (.ireturn, 1) := by decide +kernel
theorem d_L_law_740 : decode c_L_law 740 = .ok (.iload 6, 2) := by decide +kernel
theorem d_L_law_742 : decode c_L_law 742 = .ok (.ifCond .ne 15, 3) := by decide +kernel
theorem d_L_law_745 : decode c_L_law 745 = .ok (.aload_n 3, 1) := by decide +kernel
theorem d_L_law_746 : decode c_L_law 746 = .ok (.iconst 0, 1) := by decide +kernel
theorem d_L_law_747 : decode c_L_law 747 = .ok (.laload, 1) := by decide +kernel
theorem d_L_law_748 : decode c_L_law 748 = .ok (.iload 7, 2) := by decide +kernel
theorem d_L_law_750 : decode c_L_law 750 = .ok (.i2l, 1) := by decide +kernel
theorem d_L_law_751 : decode c_L_law 751 = .ok (.lcmp, 1) := by decide +kernel
theorem d_L_law_752 : decode c_L_law 752 = .ok (.ifCond .eq 5, 3) := by decide +kernel
theorem d_L_law_755 : decode c_L_law 755 = .ok (.iconst 0, 1) := by decide +kernel
theorem d_L_law_756 : decode c_L_law 756 = .ok (.ireturn, 1) := by decide +kernel
theorem d_L_law_757 : decode c_L_law 757 = .ok (.goto 555, 3) := by decide +kernel
theorem d_L_law_760 : decode c_L_law 760 = .ok (.aload_n 1, 1) := by decide +kernel
theorem d_L_law_761 : decode c_L_law 761 = .ok (.invokevirtual 118, 3) := by decide +kernel
theorem d_L_law_764 : decode c_L_law 764 = .ok (.aload_n 2, 1) := by decide +kernel
theorem d_L_law_765 : decode c_L_law 765 = .ok (.invokevirtual 121, 3) := by decide +kernel
theorem d_L_law_768 : decode c_L_law 768 = .ok (.if_icmp .eq 544, 3) := by decide +kernel
theorem d_L_law_771 : decode c_L_law 771 = .ok (.iconst 0, 1) := by decide +kernel
theorem d_L_law_772 : decode c_L_law 772 = .ok (.ireturn, 1) := by decide +kernel
theorem d_L_law_773 : decode c_L_law 773 = .ok (.aload_n 1, 1) := by decide +kernel
theorem d_L_law_774 : decode c_L_law 774 = .ok (.aload_n 0, 1) := by decide +kernel
theorem d_L_law_775 : decode c_L_law 775 = .ok (.iload 5, 2) := by decide +kernel
theorem d_L_law_777 : decode c_L_law 777 = .ok (.iconst 1, 1) := by decide +kernel
theorem d_L_law_778 : decode c_L_law 778 = .ok (.iadd, 1) := by decide +kernel
theorem d_L_law_779 : decode c_L_law 779 = .ok (.iaload, 1) := by decide +kernel
theorem d_L_law_780 : decode c_L_law 780 = .ok (.aload_n 0, 1) := by decide +kernel
theorem d_L_law_781 : decode c_L_law 781 = .ok (.iload 5, 2) := by decide +kernel
theorem d_L_law_783 : decode c_L_law 783 = .ok (.iconst 2, 1) := by decide +kernel
theorem d_L_law_784 : decode c_L_law 784 = .ok (.iadd, 1) := by decide +kernel
theorem d_L_law_785 : decode c_L_law 785 = .ok (.iaload, 1) := by decide +kernel
theorem d_L_law_786 : decode c_L_law 786 = .ok (.aload_n 0, 1) := by decide +kernel
theorem d_L_law_787 : decode c_L_law 787 = .ok (.iload 5, 2) := by decide +kernel
theorem d_L_law_789 : decode c_L_law 789 = .ok (.iconst 3, 1) := by decide +kernel
theorem d_L_law_790 : decode c_L_law 790 = .ok (.iadd, 1) := by decide +kernel
theorem d_L_law_791 : decode c_L_law 791 = .ok (.iaload, 1) := by decide +kernel
theorem d_L_law_792 : decode c_L_law 792 = .ok (.i2d, 1) := by decide +kernel
theorem d_L_law_793 : decode c_L_law 793 = .ok (.ldc2_w 122, 3) := by decide +kernel
theorem d_L_law_796 : decode c_L_law 796 = .ok (.dmul, 1) := by decide +kernel
theorem d_L_law_797 : decode c_L_law 797 = .ok (.aload_n 3, 1) := by decide +kernel
theorem d_L_law_798 : decode c_L_law 798 = .ok (.invokestatic 124, 3) := by decide +kernel
theorem d_L_law_801 : decode c_L_law 801 = .ok (.istore 6, 2) := by decide +kernel
theorem d_L_law_803 : decode c_L_law 803 = .ok (.aload_n 2, 1) := by decide +kernel
theorem d_L_law_804 : decode c_L_law 804 = .ok (.aload_n 0, 1) := by decide +kernel
theorem d_L_law_805 : decode c_L_law 805 = .ok (.iload 5, 2) := by decide +kernel
theorem d_L_law_807 : decode c_L_law 807 = .ok (.iconst 1, 1) := by decide +kernel
theorem d_L_law_808 : decode c_L_law 808 = .ok (.iadd, 1) := by decide +kernel
theorem d_L_law_809 : decode c_L_law 809 = .ok (.iaload, 1) := by decide +kernel
theorem d_L_law_810 : decode c_L_law 810 = .ok (.aload_n 0, 1) := by decide +kernel
theorem d_L_law_811 : decode c_L_law 811 = .ok (.iload 5, 2) := by decide +kernel
theorem d_L_law_813 : decode c_L_law 813 = .ok (.iconst 2, 1) := by decide +kernel
theorem d_L_law_814 : decode c_L_law 814 = .ok (.iadd, 1) := by decide +kernel
theorem d_L_law_815 : decode c_L_law 815 = .ok (.iaload, 1) := by decide +kernel
theorem d_L_law_816 : decode c_L_law 816 = .ok (.aload_n 0, 1) := by decide +kernel
theorem d_L_law_817 : decode c_L_law 817 = .ok (.iload 5, 2) := by decide +kernel
theorem d_L_law_819 : decode c_L_law 819 = .ok (.iconst 3, 1) := by decide +kernel
theorem d_L_law_820 : decode c_L_law 820 = .ok (.iadd, 1) := by decide +kernel
theorem d_L_law_821 : decode c_L_law 821 = .ok (.iaload, 1) := by decide +kernel
theorem d_L_law_822 : decode c_L_law 822 = .ok (.i2d, 1) := by decide +kernel
theorem d_L_law_823 : decode c_L_law 823 = .ok (.ldc2_w 122, 3) := by decide +kernel
theorem d_L_law_826 : decode c_L_law 826 = .ok (.dmul, 1) := by decide +kernel
theorem d_L_law_827 : decode c_L_law 827 = .ok (.invokevirtual 127, 3) := by decide +kernel
theorem d_L_law_830 : decode c_L_law 830 = .ok (.istore 7, 2) := by decide +kernel
theorem d_L_law_832 : decode c_L_law 832 = .ok (.aload_n 2, 1) := by decide +kernel
theorem d_L_law_833 : decode c_L_law 833 = .ok (.invokevirtual 88, 3) := by decide +kernel
theorem d_L_law_836 : decode c_L_law 836 = .ok (.iload 6, 2) := by decide +kernel
theorem d_L_law_838 : decode c_L_law 838 = .ok (.if_icmp .eq 5, 3) := by decide +kernel
theorem d_L_law_841 : decode c_L_law 841 = .ok (.iconst 0, 1) := by decide +kernel
theorem d_L_law_842 : decode c_L_law 842 = .ok (.ireturn, 1) := by decide +kernel
theorem d_L_law_843 : decode c_L_law 843 = .ok (.iload 6, 2) := by decide +kernel
theorem d_L_law_845 : decode c_L_law 845 = .ok (.ifCond .ne 15, 3) := by decide +kernel
theorem d_L_law_848 : decode c_L_law 848 = .ok (.aload_n 3, 1) := by decide +kernel
theorem d_L_law_849 : decode c_L_law 849 = .ok (.iconst 0, 1) := by decide +kernel
theorem d_L_law_850 : decode c_L_law 850 = .ok (.laload, 1) := by decide +kernel
theorem d_L_law_851 : decode c_L_law 851 = .ok (.iload 7, 2) := by decide +kernel
theorem d_L_law_853 : decode c_L_law 853 = .ok (.i2l, 1) := by decide +kernel
theorem d_L_law_854 : decode c_L_law 854 = .ok (.lcmp, 1) := by decide +kernel
theorem d_L_law_855 : decode c_L_law 855 = .ok (.ifCond .eq 5, 3) := by decide +kernel
theorem d_L_law_858 : decode c_L_law 858 = .ok (.iconst 0, 1) := by decide +kernel
theorem d_L_law_859 : decode c_L_law 859 = .ok (.ireturn, 1) := by decide +kernel
theorem d_L_law_860 : decode c_L_law 860 = .ok (.goto 452, 3) := by decide +kernel
theorem d_L_law_863 : decode c_L_law 863 = .ok (.aload_n 1, 1) := by decide +kernel
theorem d_L_law_864 : decode c_L_law 864 = .ok (.aload_n 0, 1) := by decide +kernel
theorem d_L_law_865 : decode c_L_law 865 = .ok (.iload 5, 2) := by decide +kernel
theorem d_L_law_867 : decode c_L_law 867 = .ok (.iconst 1, 1) := by decide +kernel
theorem d_L_law_868 : decode c_L_law 868 = .ok (.iadd, 1) := by decide +kernel
theorem d_L_law_869 : decode c_L_law 869 = .ok (.iaload, 1) := by decide +kernel
theorem d_L_law_870 : decode c_L_law 870 = .ok (.aload_n 0, 1) := by decide +kernel
theorem d_L_law_871 : decode c_L_law 871 = .ok (.iload 5, 2) := by decide +kernel
theorem d_L_law_873 : decode c_L_law 873 = .ok (.iconst 2, 1) := by decide +kernel
theorem d_L_law_874 : decode c_L_law 874 = .ok (.iadd, 1) := by decide +kernel
theorem d_L_law_875 : decode c_L_law 875 = .ok (.iaload, 1) := by decide +kernel
theorem d_L_law_876 : decode c_L_law 876 = .ok (.aload_n 3, 1) := by decide +kernel
theorem d_L_law_877 : decode c_L_law 877 = .ok (.invokestatic 128, 3) := by decide +kernel
theorem d_L_law_880 : decode c_L_law 880 = .ok (.istore 6, 2) := by decide +kernel
theorem d_L_law_882 : decode c_L_law 882 = .ok (.aload_n 2, 1) := by decide +kernel
theorem d_L_law_883 : decode c_L_law 883 = .ok (.aload_n 0, 1) := by decide +kernel
theorem d_L_law_884 : decode c_L_law 884 = .ok (.iload 5, 2) := by decide +kernel
theorem d_L_law_886 : decode c_L_law 886 = .ok (.iconst 1, 1) := by decide +kernel
theorem d_L_law_887 : decode c_L_law 887 = .ok (.iadd, 1) := by decide +kernel
theorem d_L_law_888 : decode c_L_law 888 = .ok (.iaload, 1) := by decide +kernel
theorem d_L_law_889 : decode c_L_law 889 = .ok (.aload_n 0, 1) := by decide +kernel
theorem d_L_law_890 : decode c_L_law 890 = .ok (.iload 5, 2) := by decide +kernel
theorem d_L_law_892 : decode c_L_law 892 = .ok (.iconst 2, 1) := by decide +kernel
theorem d_L_law_893 : decode c_L_law 893 = .ok (.iadd, 1) := by decide +kernel
theorem d_L_law_894 : decode c_L_law 894 = .ok (.iaload, 1) := by decide +kernel
theorem d_L_law_895 : decode c_L_law 895 = .ok (.invokevirtual 131, 3) := by decide +kernel
theorem d_L_law_898 : decode c_L_law 898 = .ok (.istore 7, 2) := by decide +kernel
theorem d_L_law_900 : decode c_L_law 900 = .ok (.aload_n 2, 1) := by decide +kernel
theorem d_L_law_901 : decode c_L_law 901 = .ok (.invokevirtual 88, 3) := by decide +kernel
theorem d_L_law_904 : decode c_L_law 904 = .ok (.iload 6, 2) := by decide +kernel
theorem d_L_law_906 : decode c_L_law 906 = .ok (.if_icmp .eq 5, 3) := by decide +kernel
theorem d_L_law_909 : decode c_L_law 909 = .ok (.iconst 0, 1) := by decide +kernel
theorem d_L_law_910 : decode c_L_law 910 = .ok (.ireturn, 1) := by decide +kernel
theorem d_L_law_911 : decode c_L_law 911 = .ok (.iload 6, 2) := by decide +kernel
theorem d_L_law_913 : decode c_L_law 913 = .ok (.ifCond .ne 15, 3) := by decide +kernel
theorem d_L_law_916 : decode c_L_law 916 = .ok (.aload_n 3, 1) := by decide +kernel
theorem d_L_law_917 : decode c_L_law 917 = .ok (.iconst 0, 1) := by decide +kernel
theorem d_L_law_918 : decode c_L_law 918 = .ok (.laload, 1) := by decide +kernel
theorem d_L_law_919 : decode c_L_law 919 = .ok (.iload 7, 2) := by decide +kernel
theorem d_L_law_921 : decode c_L_law 921 = .ok (.i2l, 1) := by decide +kernel
theorem d_L_law_922 : decode c_L_law 922 = .ok (.lcmp, 1) := by decide +kernel
theorem d_L_law_923 : decode c_L_law 923 = .ok (.ifCond .eq 5, 3) := by decide +kernel
theorem d_L_law_926 : decode c_L_law 926 = .ok (.iconst 0, 1) := by decide +kernel
theorem d_L_law_927 : decode c_L_law 927 = .ok (.ireturn, 1) := by decide +kernel
theorem d_L_law_928 : decode c_L_law 928 = .ok (.goto 384, 3) := by decide +kernel
theorem d_L_law_931 : decode c_L_law 931 = .ok (.aload_n 1, 1) := by decide +kernel
theorem d_L_law_932 : decode c_L_law 932 = .ok (.aload_n 0, 1) := by decide +kernel
theorem d_L_law_933 : decode c_L_law 933 = .ok (.iload 5, 2) := by decide +kernel
theorem d_L_law_935 : decode c_L_law 935 = .ok (.iconst 1, 1) := by decide +kernel
theorem d_L_law_936 : decode c_L_law 936 = .ok (.iadd, 1) := by decide +kernel
theorem d_L_law_937 : decode c_L_law 937 = .ok (.iaload, 1) := by decide +kernel
theorem d_L_law_938 : decode c_L_law 938 = .ok (.aload_n 0, 1) := by decide +kernel
theorem d_L_law_939 : decode c_L_law 939 = .ok (.iload 5, 2) := by decide +kernel
theorem d_L_law_941 : decode c_L_law 941 = .ok (.iconst 2, 1) := by decide +kernel
theorem d_L_law_942 : decode c_L_law 942 = .ok (.iadd, 1) := by decide +kernel
theorem d_L_law_943 : decode c_L_law 943 = .ok (.iaload, 1) := by decide +kernel
theorem d_L_law_944 : decode c_L_law 944 = .ok (.aload_n 3, 1) := by decide +kernel
theorem d_L_law_945 : decode c_L_law 945 = .ok (.invokestatic 132, 3) := by decide +kernel
theorem d_L_law_948 : decode c_L_law 948 = .ok (.istore 6, 2) := by decide +kernel
theorem d_L_law_950 : decode c_L_law 950 = .ok (.aload_n 2, 1) := by decide +kernel
theorem d_L_law_951 : decode c_L_law 951 = .ok (.aload_n 0, 1) := by decide +kernel
theorem d_L_law_952 : decode c_L_law 952 = .ok (.iload 5, 2) := by decide +kernel
theorem d_L_law_954 : decode c_L_law 954 = .ok (.iconst 1, 1) := by decide +kernel
theorem d_L_law_955 : decode c_L_law 955 = .ok (.iadd, 1) := by decide +kernel
theorem d_L_law_956 : decode c_L_law 956 = .ok (.iaload, 1) := by decide +kernel
theorem d_L_law_957 : decode c_L_law 957 = .ok (.aload_n 0, 1) := by decide +kernel
theorem d_L_law_958 : decode c_L_law 958 = .ok (.iload 5, 2) := by decide +kernel
theorem d_L_law_960 : decode c_L_law 960 = .ok (.iconst 2, 1) := by decide +kernel
theorem d_L_law_961 : decode c_L_law 961 = .ok (.iadd, 1) := by decide +kernel
theorem d_L_law_962 : decode c_L_law 962 = .ok (.iaload, 1) := by decide +kernel
theorem d_L_law_963 : decode c_L_law 963 = .ok (.invokevirtual 134, 3) := by decide +kernel
theorem d_L_law_966 : decode c_L_law 966 = .ok (.istore 7, 2) := by decide +kernel
theorem d_L_law_968 : decode c_L_law 968 = .ok (.aload_n 2, 1) := by decide +kernel
theorem d_L_law_969 : decode c_L_law 969 = .ok (.invokevirtual 88, 3) := by decide +kernel
theorem d_L_law_972 : decode c_L_law 972 = .ok (.iload 6, 2) := by decide +kernel
theorem d_L_law_974 : decode c_L_law 974 = .ok (.if_icmp .eq 5, 3) := by decide +kernel
theorem d_L_law_977 : decode c_L_law 977 = .ok (.iconst 0, 1) := by decide +kernel
theorem d_L_law_978 : decode c_L_law 978 = .ok (.ireturn, 1) := by decide +kernel
theorem d_L_law_979 : decode c_L_law 979 = .ok (.iload 6, 2) := by decide +kernel
theorem d_L_law_981 : decode c_L_law 981 = .ok (.ifCond .ne 15, 3) := by decide +kernel
theorem d_L_law_984 : decode c_L_law 984 = .ok (.aload_n 3, 1) := by decide +kernel
theorem d_L_law_985 : decode c_L_law 985 = .ok (.iconst 0, 1) := by decide +kernel
theorem d_L_law_986 : decode c_L_law 986 = .ok (.laload, 1) := by decide +kernel
theorem d_L_law_987 : decode c_L_law 987 = .ok (.iload 7, 2) := by decide +kernel
theorem d_L_law_989 : decode c_L_law 989 = .ok (.i2l, 1) := by decide +kernel
theorem d_L_law_990 : decode c_L_law 990 = .ok (.lcmp, 1) := by decide +kernel
theorem d_L_law_991 : decode c_L_law 991 = .ok (.ifCond .eq 5, 3) := by decide +kernel
theorem d_L_law_994 : decode c_L_law 994 = .ok (.iconst 0, 1) := by decide +kernel
theorem d_L_law_995 : decode c_L_law 995 = .ok (.ireturn, 1) := by decide +kernel
theorem d_L_law_996 : decode c_L_law 996 = .ok (.goto 316, 3) := by decide +kernel
theorem d_L_law_999 : decode c_L_law 999 = .ok (.aload_n 1, 1) := by decide +kernel
theorem d_L_law_1000 : decode c_L_law 1000 = .ok (.aload_n 0, 1) := by decide +kernel
theorem d_L_law_1001 : decode c_L_law 1001 = .ok (.iload 5, 2) := by decide +kernel
theorem d_L_law_1003 : decode c_L_law 1003 = .ok (.iconst 1, 1) := by decide +kernel
theorem d_L_law_1004 : decode c_L_law 1004 = .ok (.iadd, 1) := by decide +kernel
theorem d_L_law_1005 : decode c_L_law 1005 = .ok (.iaload, 1) := by decide +kernel
theorem d_L_law_1006 : decode c_L_law 1006 = .ok (.aload_n 0, 1) := by decide +kernel
theorem d_L_law_1007 : decode c_L_law 1007 = .ok (.iload 5, 2) := by decide +kernel
theorem d_L_law_1009 : decode c_L_law 1009 = .ok (.iconst 2, 1) := by decide +kernel
theorem d_L_law_1010 : decode c_L_law 1010 = .ok (.iadd, 1) := by decide +kernel
theorem d_L_law_1011 : decode c_L_law 1011 = .ok (.iaload, 1) := by decide +kernel
theorem d_L_law_1012 : decode c_L_law 1012 = .ok (.aload_n 3, 1) := by decide +kernel
theorem d_L_law_1013 : decode c_L_law 1013 = .ok (.invokestatic 135, 3) := by decide +kernel
theorem d_L_law_1016 : decode c_L_law 1016 = .ok (.istore 6, 2) := by decide +kernel
theorem d_L_law_1018 : decode c_L_law 1018 = .ok (.aload_n 2, 1) := by decide +kernel
theorem d_L_law_1019 : decode c_L_law 1019 = .ok (.aload_n 0, 1) := by decide +kernel
theorem d_L_law_1020 : decode c_L_law 1020 = .ok (.iload 5, 2) := by decide +kernel
theorem d_L_law_1022 : decode c_L_law 1022 = .ok (.iconst 1, 1) := by decide +kernel
theorem d_L_law_1023 : decode c_L_law 1023 = .ok (.iadd, 1) := by decide +kernel
theorem d_L_law_1024 : decode c_L_law 1024 = .ok (.iaload, 1) := by decide +kernel
theorem d_L_law_1025 : decode c_L_law 1025 = .ok (.aload_n 0, 1) := by decide +kernel
theorem d_L_law_1026 : decode c_L_law 1026 = .ok (.iload 5, 2) := by decide +kernel
theorem d_L_law_1028 : decode c_L_law 1028 = .ok (.iconst 2, 1) := by decide +kernel
theorem d_L_law_1029 : decode c_L_law 1029 = .ok (.iadd, 1) := by decide +kernel
theorem d_L_law_1030 : decode c_L_law 1030 = .ok (.iaload, 1) := by decide +kernel
theorem d_L_law_1031 : decode c_L_law 1031 = .ok (.invokevirtual 137, 3) := by decide +kernel
theorem d_L_law_1034 : decode c_L_law 1034 = .ok (.istore 7, 2) := by decide +kernel
theorem d_L_law_1036 : decode c_L_law 1036 = .ok (.aload_n 2, 1) := by decide +kernel
theorem d_L_law_1037 : decode c_L_law 1037 = .ok (.invokevirtual 88, 3) := by decide +kernel
theorem d_L_law_1040 : decode c_L_law 1040 = .ok (.iload 6, 2) := by decide +kernel
theorem d_L_law_1042 : decode c_L_law 1042 = .ok (.if_icmp .eq 5, 3) := by decide +kernel
theorem d_L_law_1045 : decode c_L_law 1045 = .ok (.iconst 0, 1) := by decide +kernel
theorem d_L_law_1046 : decode c_L_law 1046 = .ok (.ireturn, 1) := by decide +kernel
theorem d_L_law_1047 : decode c_L_law 1047 = .ok (.iload 6, 2) := by decide +kernel
theorem d_L_law_1049 : decode c_L_law 1049 = .ok (.ifCond .ne 15, 3) := by decide +kernel
theorem d_L_law_1052 : decode c_L_law 1052 = .ok (.aload_n 3, 1) := by decide +kernel
theorem d_L_law_1053 : decode c_L_law 1053 = .ok (.iconst 0, 1) := by decide +kernel
theorem d_L_law_1054 : decode c_L_law 1054 = .ok (.laload, 1) := by decide +kernel
theorem d_L_law_1055 : decode c_L_law 1055 = .ok (.iload 7, 2) := by decide +kernel
theorem d_L_law_1057 : decode c_L_law 1057 = .ok (.i2l, 1) := by decide +kernel
theorem d_L_law_1058 : decode c_L_law 1058 = .ok (.lcmp, 1) := by decide +kernel
theorem d_L_law_1059 : decode c_L_law 1059 = .ok (.ifCond .eq 5, 3) := by decide +kernel
theorem d_L_law_1062 : decode c_L_law 1062 = .ok (.iconst 0, 1) := by decide +kernel
theorem d_L_law_1063 : decode c_L_law 1063 = .ok (.ireturn, 1) := by decide +kernel
theorem d_L_law_1064 : decode c_L_law 1064 = .ok (.goto 248, 3) := by decide +kernel
theorem d_L_law_1067 : decode c_L_law 1067 = .ok (.aload_n 1, 1) := by decide +kernel
theorem d_L_law_1068 : decode c_L_law 1068 = .ok (.aload_n 0, 1) := by decide +kernel
theorem d_L_law_1069 : decode c_L_law 1069 = .ok (.iload 5, 2) := by decide +kernel
theorem d_L_law_1071 : decode c_L_law 1071 = .ok (.iconst 1, 1) := by decide +kernel
theorem d_L_law_1072 : decode c_L_law 1072 = .ok (.iadd, 1) := by decide +kernel
theorem d_L_law_1073 : decode c_L_law 1073 = .ok (.iaload, 1) := by decide +kernel
theorem d_L_law_1074 : decode c_L_law 1074 = .ok (.aload 4, 2) := by decide +kernel
theorem d_L_law_1076 : decode c_L_law 1076 = .ok (.invokestatic 138, 3) := by decide +kernel
theorem d_L_law_1079 : decode c_L_law 1079 = .ok (.istore 6, 2) := by decide +kernel
theorem d_L_law_1081 : decode c_L_law 1081 = .ok (.aload_n 2, 1) := by decide +kernel
theorem d_L_law_1082 : decode c_L_law 1082 = .ok (.aload_n 0, 1) := by decide +kernel
theorem d_L_law_1083 : decode c_L_law 1083 = .ok (.iload 5, 2) := by decide +kernel
theorem d_L_law_1085 : decode c_L_law 1085 = .ok (.iconst 1, 1) := by decide +kernel
theorem d_L_law_1086 : decode c_L_law 1086 = .ok (.iadd, 1) := by decide +kernel
theorem d_L_law_1087 : decode c_L_law 1087 = .ok (.iaload, 1) := by decide +kernel
theorem d_L_law_1088 : decode c_L_law 1088 = .ok (.invokevirtual 141, 3) := by decide +kernel
theorem d_L_law_1091 : decode c_L_law 1091 = .ok (.dstore 7, 2) := by decide +kernel
theorem d_L_law_1093 : decode c_L_law 1093 = .ok (.aload_n 2, 1) := by decide +kernel
theorem d_L_law_1094 : decode c_L_law 1094 = .ok (.invokevirtual 88, 3) := by decide +kernel
theorem d_L_law_1097 : decode c_L_law 1097 = .ok (.iload 6, 2) := by decide +kernel
theorem d_L_law_1099 : decode c_L_law 1099 = .ok (.if_icmp .eq 5, 3) := by decide +kernel
theorem d_L_law_1102 : decode c_L_law 1102 = .ok (.iconst 0, 1) := by decide +kernel
theorem d_L_law_1103 : decode c_L_law 1103 = .ok (.ireturn, 1) := by decide +kernel
theorem d_L_law_1104 : decode c_L_law 1104 = .ok (.iload 6, 2) := by decide +kernel
theorem d_L_law_1106 : decode c_L_law 1106 = .ok (.ifCond .ne 35, 3) := by decide +kernel
theorem d_L_law_1109 : decode c_L_law 1109 = .ok (.aload 4, 2) := by decide +kernel
theorem d_L_law_1111 : decode c_L_law 1111 = .ok (.iconst 0, 1) := by decide +kernel
theorem d_L_law_1112 : decode c_L_law 1112 = .ok (.daload, 1) := by decide +kernel
theorem d_L_law_1113 : decode c_L_law 1113 = .ok (.dload 7, 2) := by decide +kernel
theorem d_L_law_1115 : decode c_L_law 1115 = .ok (.dcmp .l, 1) := by decide +kernel
theorem d_L_law_1116 : decode c_L_law 1116 = .ok (.ifCond .eq 25, 3) := by decide +kernel
theorem d_L_law_1119 : decode c_L_law 1119 = .ok (.aload 4, 2) := by decide +kernel
theorem d_L_law_1121 : decode c_L_law 1121 = .ok (.iconst 0, 1) := by decide +kernel
theorem d_L_law_1122 : decode c_L_law 1122 = .ok (.daload, 1) := by decide +kernel
theorem d_L_law_1123 : decode c_L_law 1123 = .ok (.aload 4, 2) := by decide +kernel
theorem d_L_law_1125 : decode c_L_law 1125 = .ok (.iconst 0, 1) := by decide +kernel
theorem d_L_law_1126 : decode c_L_law 1126 = .ok (.daload, 1) := by decide +kernel
theorem d_L_law_1127 : decode c_L_law 1127 = .ok (.dcmp .l, 1) := by decide +kernel
theorem d_L_law_1128 : decode c_L_law 1128 = .ok (.ifCond .eq 11, 3) := by decide +kernel
theorem d_L_law_1131 : decode c_L_law 1131 = .ok (.dload 7, 2) := by decide +kernel
theorem d_L_law_1133 : decode c_L_law 1133 = .ok (.dload 7, 2) := by decide +kernel
theorem d_L_law_1135 : decode c_L_law 1135 = .ok (.dcmp .l, 1) := by decide +kernel
theorem d_L_law_1136 : decode c_L_law 1136 = .ok (.ifCond .ne 5, 3) := by decide +kernel
theorem d_L_law_1139 : decode c_L_law 1139 = .ok (.iconst 0, 1) := by decide +kernel
theorem d_L_law_1140 : decode c_L_law 1140 = .ok (.ireturn, 1) := by decide +kernel
theorem d_L_law_1141 : decode c_L_law 1141 = .ok (.goto 171, 3) := by decide +kernel
theorem d_L_law_1144 : decode c_L_law 1144 = .ok (.aload_n 1, 1) := by decide +kernel
theorem d_L_law_1145 : decode c_L_law 1145 = .ok (.aload_n 3, 1) := by decide +kernel
theorem d_L_law_1146 : decode c_L_law 1146 = .ok (.invokestatic 142, 3) := by decide +kernel
theorem d_L_law_1149 : decode c_L_law 1149 = .ok (.istore 6, 2) := by decide +kernel
theorem d_L_law_1151 : decode c_L_law 1151 = .ok (.aload_n 2, 1) := by decide +kernel
theorem d_L_law_1152 : decode c_L_law 1152 = .ok (.invokevirtual 145, 3) := by decide +kernel
theorem d_L_law_1155 : decode c_L_law 1155 = .ok (.istore 7, 2) := by decide +kernel
theorem d_L_law_1157 : decode c_L_law 1157 = .ok (.aload_n 2, 1) := by decide +kernel
theorem d_L_law_1158 : decode c_L_law 1158 = .ok (.invokevirtual 88, 3) := by decide +kernel
theorem d_L_law_1161 : decode c_L_law 1161 = .ok (.iload 6, 2) := by decide +kernel
theorem d_L_law_1163 : decode c_L_law 1163 = .ok (.if_icmp .eq 5, 3) := by decide +kernel
theorem d_L_law_1166 : decode c_L_law 1166 = .ok (.iconst 0, 1) := by decide +kernel
theorem d_L_law_1167 : decode c_L_law 1167 = .ok (.ireturn, 1) := by decide +kernel
theorem d_L_law_1168 : decode c_L_law 1168 = .ok (.iload 6, 2) := by decide +kernel
theorem d_L_law_1170 : decode c_L_law 1170 = .ok (.ifCond .ne 15, 3) := by decide +kernel
theorem d_L_law_1173 : decode c_L_law 1173 = .ok (.aload_n 3, 1) := by decide +kernel
theorem d_L_law_1174 : decode c_L_law 1174 = .ok (.iconst 0, 1) := by decide +kernel
theorem d_L_law_1175 : decode c_L_law 1175 = .ok (.laload, 1) := by decide +kernel
theorem d_L_law_1176 : decode c_L_law 1176 = .ok (.iload 7, 2) := by decide +kernel
theorem d_L_law_1178 : decode c_L_law 1178 = .ok (.i2l, 1) := by decide +kernel
theorem d_L_law_1179 : decode c_L_law 1179 = .ok (.lcmp, 1) := by decide +kernel
theorem d_L_law_1180 : decode c_L_law 1180 = .ok (.ifCond .eq 5, 3) := by decide +kernel
theorem d_L_law_1183 : decode c_L_law 1183 = .ok (.iconst 0, 1) := by decide +kernel
theorem d_L_law_1184 : decode c_L_law 1184 = .ok (.ireturn, 1) := by decide +kernel
theorem d_L_law_1185 : decode c_L_law 1185 = .ok (.goto 127, 3) := by decide +kernel
theorem d_L_law_1188 : decode c_L_law 1188 = .ok (.aload_n 1, 1) := by decide +kernel
theorem d_L_law_1189 : decode c_L_law 1189 = .ok (.aload_n 0, 1) := by decide +kernel
theorem d_L_law_1190 : decode c_L_law 1190 = .ok (.iload 5, 2) := by decide +kernel
theorem d_L_law_1192 : decode c_L_law 1192 = .ok (.iconst 1, 1) := by decide +kernel
theorem d_L_law_1193 : decode c_L_law 1193 = .ok (.iadd, 1) := by decide +kernel
theorem d_L_law_1194 : decode c_L_law 1194 = .ok (.iaload, 1) := by decide +kernel
theorem d_L_law_1195 : decode c_L_law 1195 = .ok (.aload_n 0, 1) := by decide +kernel
theorem d_L_law_1196 : decode c_L_law 1196 = .ok (.iload 5, 2) := by decide +kernel
theorem d_L_law_1198 : decode c_L_law 1198 = .ok (.iconst 2, 1) := by decide +kernel
theorem d_L_law_1199 : decode c_L_law 1199 = .ok (.iadd, 1) := by decide +kernel
theorem d_L_law_1200 : decode c_L_law 1200 = .ok (.iaload, 1) := by decide +kernel
theorem d_L_law_1201 : decode c_L_law 1201 = .ok (.aload_n 3, 1) := by decide +kernel
theorem d_L_law_1202 : decode c_L_law 1202 = .ok (.invokestatic 146, 3) := by decide +kernel
theorem d_L_law_1205 : decode c_L_law 1205 = .ok (.istore 6, 2) := by decide +kernel
theorem d_L_law_1207 : decode c_L_law 1207 = .ok (.aload_n 2, 1) := by decide +kernel
theorem d_L_law_1208 : decode c_L_law 1208 = .ok (.aload_n 0, 1) := by decide +kernel
theorem d_L_law_1209 : decode c_L_law 1209 = .ok (.iload 5, 2) := by decide +kernel
theorem d_L_law_1211 : decode c_L_law 1211 = .ok (.iconst 1, 1) := by decide +kernel
theorem d_L_law_1212 : decode c_L_law 1212 = .ok (.iadd, 1) := by decide +kernel
theorem d_L_law_1213 : decode c_L_law 1213 = .ok (.iaload, 1) := by decide +kernel
theorem d_L_law_1214 : decode c_L_law 1214 = .ok (.aload_n 0, 1) := by decide +kernel
theorem d_L_law_1215 : decode c_L_law 1215 = .ok (.iload 5, 2) := by decide +kernel
theorem d_L_law_1217 : decode c_L_law 1217 = .ok (.iconst 2, 1) := by decide +kernel
theorem d_L_law_1218 : decode c_L_law 1218 = .ok (.iadd, 1) := by decide +kernel
theorem d_L_law_1219 : decode c_L_law 1219 = .ok (.iaload, 1) := by decide +kernel
theorem d_L_law_1220 : decode c_L_law 1220 = .ok (.invokevirtual 148, 3) := by decide +kernel
theorem d_L_law_1223 : decode c_L_law 1223 = .ok (.istore 7, 2) := by decide +kernel
theorem d_L_law_1225 : decode c_L_law 1225 = .ok (.aload_n 2, 1) := by decide +kernel
theorem d_L_law_1226 : decode c_L_law 1226 = .ok (.invokevirtual 88, 3) := by decide +kernel
theorem d_L_law_1229 : decode c_L_law 1229 = .ok (.iload 6, 2) := by decide +kernel
theorem d_L_law_1231 : decode c_L_law 1231 = .ok (.if_icmp .eq 5, 3) := by decide +kernel
theorem d_L_law_1234 : decode c_L_law 1234 = .ok (.iconst 0, 1) := by decide +kernel
theorem d_L_law_1235 : decode c_L_law 1235 = .ok (.ireturn, 1) := by decide +kernel
theorem d_L_law_1236 : decode c_L_law 1236 = .ok (.iload 6, 2) := by decide +kernel
theorem d_L_law_1238 : decode c_L_law 1238 = .ok (.ifCond .ne 15, 3) := by decide +kernel
theorem d_L_law_1241 : decode c_L_law 1241 = .ok (.aload_n 3, 1) := by decide +kernel
theorem d_L_law_1242 : decode c_L_law 1242 = .ok (.iconst 0, 1) := by decide +kernel
theorem d_L_law_1243 : decode c_L_law 1243 = .ok (.laload, 1) := by decide +kernel
theorem d_L_law_1244 : decode c_L_law 1244 = .ok (.iload 7, 2) := by decide +kernel
theorem d_L_law_1246 : decode c_L_law 1246 = .ok (.i2l, 1) := by decide +kernel
theorem d_L_law_1247 : decode c_L_law 1247 = .ok (.lcmp, 1) := by decide +kernel
theorem d_L_law_1248 : decode c_L_law 1248 = .ok (.ifCond .eq 5, 3) := by decide +kernel
theorem d_L_law_1251 : decode c_L_law 1251 = .ok (.iconst 0, 1) := by decide +kernel
theorem d_L_law_1252 : decode c_L_law 1252 = .ok (.ireturn, 1) := by decide +kernel
theorem d_L_law_1253 : decode c_L_law 1253 = .ok (.goto 59, 3) := by decide +kernel
theorem d_L_law_1256 : decode c_L_law 1256 = .ok (.aload_n 1, 1) := by decide +kernel
theorem d_L_law_1257 : decode c_L_law 1257 = .ok (.aload_n 0, 1) := by decide +kernel
theorem d_L_law_1258 : decode c_L_law 1258 = .ok (.iload 5, 2) := by decide +kernel
theorem d_L_law_1260 : decode c_L_law 1260 = .ok (.iconst 1, 1) := by decide +kernel
theorem d_L_law_1261 : decode c_L_law 1261 = .ok (.iadd, 1) := by decide +kernel
theorem d_L_law_1262 : decode c_L_law 1262 = .ok (.iaload, 1) := by decide +kernel
theorem d_L_law_1263 : decode c_L_law 1263 = .ok (.aload_n 3, 1) := by decide +kernel
theorem d_L_law_1264 : decode c_L_law 1264 = .ok (.invokestatic 149, 3) := by decide +kernel
theorem d_L_law_1267 : decode c_L_law 1267 = .ok (.istore 6, 2) := by decide +kernel
theorem d_L_law_1269 : decode c_L_law 1269 = .ok (.aload_n 2, 1) := by decide +kernel
theorem d_L_law_1270 : decode c_L_law 1270 = .ok (.aload_n 0, 1) := by decide +kernel
theorem d_L_law_1271 : decode c_L_law 1271 = .ok (.iload 5, 2) := by decide +kernel
theorem d_L_law_1273 : decode c_L_law 1273 = .ok (.iconst 1, 1) := by decide +kernel
theorem d_L_law_1274 : decode c_L_law 1274 = .ok (.iadd, 1) := by decide +kernel
theorem d_L_law_1275 : decode c_L_law 1275 = .ok (.iaload, 1) := by decide +kernel
theorem d_L_law_1276 : decode c_L_law 1276 = .ok (.invokevirtual 151, 3) := by decide +kernel
theorem d_L_law_1279 : decode c_L_law 1279 = .ok (.istore 7, 2) := by decide +kernel
theorem d_L_law_1281 : decode c_L_law 1281 = .ok (.aload_n 2, 1) := by decide +kernel
theorem d_L_law_1282 : decode c_L_law 1282 = .ok (.invokevirtual 88, 3) := by decide +kernel
theorem d_L_law_1285 : decode c_L_law 1285 = .ok (.iload 6, 2) := by decide +kernel
theorem d_L_law_1287 : decode c_L_law 1287 = .ok (.if_icmp .eq 5, 3) := by decide +kernel
theorem d_L_law_1290 : decode c_L_law 1290 = .ok (.iconst 0, 1) := by decide +kernel
theorem d_L_law_1291 : decode c_L_law 1291 = .ok (.ireturn, 1) := by decide +kernel
theorem d_L_law_1292 : decode c_L_law 1292 = .ok (.iload 6, 2) := by decide +kernel
theorem d_L_law_1294 : decode c_L_law 1294 = .ok (.ifCond .ne 15, 3) := by decide +kernel
theorem d_L_law_1297 : decode c_L_law 1297 = .ok (.aload_n 3, 1) := by decide +kernel
theorem d_L_law_1298 : decode c_L_law 1298 = .ok (.iconst 0, 1) := by decide +kernel
theorem d_L_law_1299 : decode c_L_law 1299 = .ok (.laload, 1) := by decide +kernel
theorem d_L_law_1300 : decode c_L_law 1300 = .ok (.iload 7, 2) := by decide +kernel
theorem d_L_law_1302 : decode c_L_law 1302 = .ok (.i2l, 1) := by decide +kernel
theorem d_L_law_1303 : decode c_L_law 1303 = .ok (.lcmp, 1) := by decide +kernel
theorem d_L_law_1304 : decode c_L_law 1304 = .ok (.ifCond .eq 5, 3) := by decide +kernel
theorem d_L_law_1307 : decode c_L_law 1307 = .ok (.iconst 0, 1) := by decide +kernel
theorem d_L_law_1308 : decode c_L_law 1308 = .ok (.ireturn, 1) := by decide +kernel
theorem d_L_law_1309 : decode c_L_law 1309 = .ok (.goto 3, 3) := by decide +kernel
theorem d_L_law_1312 : decode c_L_law 1312 = .ok (.iinc 5 6, 3) := by decide +kernel
theorem d_L_law_1315 : decode c_L_law 1315 = .ok (.goto (-1287), 3) := by decide +kernel
theorem d_L_law_1318 : decode c_L_law 1318 = .ok (.iconst 1, 1) := by decide +kernel
theorem d_L_law_1319 : decode c_L_law 1319 = .ok (.ireturn, 1) := by decide +kernel
theorem bh_sw_L_law_45 : ∀ z : Int32, (0 : Int) ≤ z.toInt → z.toInt ≤ (17 : Int) → ∃ q ∈ ([(0, 132), (1, 224), (2, 304), (3, 424), (4, 480), (5, 536), (6, 592), (7, 648), (8, 704), (9, 760), (10, 773), (11, 863), (12, 931), (13, 999), (14, 1067), (15, 1144), (16, 1188), (17, 1256)] : List (Int32 × Nat)), q.1 = z := by
  intro z h1 h2
  have h3 : z.toInt = 0 ∨ z.toInt = 1 ∨ z.toInt = 2 ∨ z.toInt = 3 ∨ z.toInt = 4 ∨ z.toInt = 5 ∨ z.toInt = 6 ∨ z.toInt = 7 ∨ z.toInt = 8 ∨ z.toInt = 9 ∨ z.toInt = 10 ∨ z.toInt = 11 ∨ z.toInt = 12 ∨ z.toInt = 13 ∨ z.toInt = 14 ∨ z.toInt = 15 ∨ z.toInt = 16 ∨ z.toInt = 17 := by omega
  rcases h3 with h | h | h | h | h | h | h | h | h | h | h | h | h | h | h | h | h | h
  · exact ⟨(0, 132), List.mem_of_getElem? (i := 0) rfl, Int32.toInt_inj.mp (by rw [h]; decide)⟩
  · exact ⟨(1, 224), List.mem_of_getElem? (i := 1) rfl, Int32.toInt_inj.mp (by rw [h]; decide)⟩
  · exact ⟨(2, 304), List.mem_of_getElem? (i := 2) rfl, Int32.toInt_inj.mp (by rw [h]; decide)⟩
  · exact ⟨(3, 424), List.mem_of_getElem? (i := 3) rfl, Int32.toInt_inj.mp (by rw [h]; decide)⟩
  · exact ⟨(4, 480), List.mem_of_getElem? (i := 4) rfl, Int32.toInt_inj.mp (by rw [h]; decide)⟩
  · exact ⟨(5, 536), List.mem_of_getElem? (i := 5) rfl, Int32.toInt_inj.mp (by rw [h]; decide)⟩
  · exact ⟨(6, 592), List.mem_of_getElem? (i := 6) rfl, Int32.toInt_inj.mp (by rw [h]; decide)⟩
  · exact ⟨(7, 648), List.mem_of_getElem? (i := 7) rfl, Int32.toInt_inj.mp (by rw [h]; decide)⟩
  · exact ⟨(8, 704), List.mem_of_getElem? (i := 8) rfl, Int32.toInt_inj.mp (by rw [h]; decide)⟩
  · exact ⟨(9, 760), List.mem_of_getElem? (i := 9) rfl, Int32.toInt_inj.mp (by rw [h]; decide)⟩
  · exact ⟨(10, 773), List.mem_of_getElem? (i := 10) rfl, Int32.toInt_inj.mp (by rw [h]; decide)⟩
  · exact ⟨(11, 863), List.mem_of_getElem? (i := 11) rfl, Int32.toInt_inj.mp (by rw [h]; decide)⟩
  · exact ⟨(12, 931), List.mem_of_getElem? (i := 12) rfl, Int32.toInt_inj.mp (by rw [h]; decide)⟩
  · exact ⟨(13, 999), List.mem_of_getElem? (i := 13) rfl, Int32.toInt_inj.mp (by rw [h]; decide)⟩
  · exact ⟨(14, 1067), List.mem_of_getElem? (i := 14) rfl, Int32.toInt_inj.mp (by rw [h]; decide)⟩
  · exact ⟨(15, 1144), List.mem_of_getElem? (i := 15) rfl, Int32.toInt_inj.mp (by rw [h]; decide)⟩
  · exact ⟨(16, 1188), List.mem_of_getElem? (i := 16) rfl, Int32.toInt_inj.mp (by rw [h]; decide)⟩
  · exact ⟨(17, 1256), List.mem_of_getElem? (i := 17) rfl, Int32.toInt_inj.mp (by rw [h]; decide)⟩
def T_L_law_0 (xs : Nat → Int32) (L : Nat) : List (Nat × bh_Op) := [(0, bo_new 3 3 5000),
  (3, bo_st 4 bg_dup),
  (4, bo_callA 7 1 129 5000 3 F_H_init),
  (7, bo_ast 8 1),
  (8, bo_new 11 40 5000),
  (11, bo_st 12 bg_dup),
  (12, bo_callA 15 1 30 5000 40 F_M_init),
  (15, bo_ast 16 2),
  (16, bo_st 17 (bg_push (.inl (.int 1)))),
  (17, bo_newa bh_al 19 25 5000),
  (19, bo_ast 20 3),
  (20, bo_st 21 (bg_push (.inl (.int 1)))),
  (21, bo_newa bh_al 23 26 5000),
  (23, bo_ast 25 4),
  (25, bo_st 26 (bg_push (.inl (.int 0)))),
  (26, bo_ist 28 5),
  (28, bo_ild 30 5),
  (30, bo_ald 31 0),
  (31, bo_slen L 32),
  (32, bo_st 34 (bg_push (.inl (.int 6)))),
  (34, bo_st 35 (bg_ii (fun x y => x - y))),
  (35, bo_if2 38 1318 (fun x y => y < x)),
  (38, bo_ald 39 0),
  (39, bo_ild 41 5),
  (41, bo_sald xs L 42),
  (42, bo_st 44 (bg_push (.inl (.int 31)))),
  (44, bo_st 45 (bg_ii (fun x y => x &&& y))),
  (45, bo_sw [(0, 132), (1, 224), (2, 304), (3, 424), (4, 480), (5, 536), (6, 592), (7, 648), (8, 704), (9, 760), (10, 773), (11, 863), (12, 931), (13, 999), (14, 1067), (15, 1144), (16, 1188), (17, 1256)] 1312),
  (132, bo_ald 133 1),
  (133, bo_ald 134 0),
  (134, bo_ild 136 5),
  (136, bo_st 137 (bg_push (.inl (.int 1)))),
  (137, bo_st 138 (bg_ii (fun x y => x + y))),
  (138, bo_sald xs L 139),
  (139, bo_ald 140 0),
  (140, bo_ild 142 5),
  (142, bo_st 143 (bg_push (.inl (.int 2)))),
  (143, bo_st 144 (bg_ii (fun x y => x + y))),
  (144, bo_sald xs L 145),
  (145, bo_ald 146 0)]
def T_L_law_1 (xs : Nat → Int32) (L : Nat) : List (Nat × bh_Op) := [(146, bo_ild 148 5),
  (148, bo_st 149 (bg_push (.inl (.int 3)))),
  (149, bo_st 150 (bg_ii (fun x y => x + y))),
  (150, bo_sald xs L 151),
  (151, bo_ald 152 0),
  (152, bo_ild 154 5),
  (154, bo_st 155 (bg_push (.inl (.int 4)))),
  (155, bo_st 156 (bg_ii (fun x y => x + y))),
  (156, bo_sald xs L 157),
  (157, bo_ald 158 3),
  (158, bo_callS 161 6 5 5000 F_L_install),
  (161, bo_ist 163 6),
  (163, bo_ald 164 2),
  (164, bo_ald 165 0),
  (165, bo_ild 167 5),
  (167, bo_st 168 (bg_push (.inl (.int 1)))),
  (168, bo_st 169 (bg_ii (fun x y => x + y))),
  (169, bo_sald xs L 170),
  (170, bo_ald 171 0),
  (171, bo_ild 173 5),
  (173, bo_st 174 (bg_push (.inl (.int 2)))),
  (174, bo_st 175 (bg_ii (fun x y => x + y))),
  (175, bo_sald xs L 176),
  (176, bo_ald 177 0),
  (177, bo_ild 179 5),
  (179, bo_st 180 (bg_push (.inl (.int 3)))),
  (180, bo_st 181 (bg_ii (fun x y => x + y))),
  (181, bo_sald xs L 182),
  (182, bo_ald 183 0),
  (183, bo_ild 185 5),
  (185, bo_st 186 (bg_push (.inl (.int 4)))),
  (186, bo_st 187 (bg_ii (fun x y => x + y))),
  (187, bo_sald xs L 188),
  (188, bo_callV 191 5 0 5000 40 F_M_install),
  (191, bo_ist 193 7),
  (193, bo_ald 194 2),
  (194, bo_callV 197 1 0 5000 40 F_M_thrown),
  (197, bo_ild 199 6),
  (199, bo_if2 202 204 (fun x y => x = y)),
  (202, bo_st 203 (bg_push (.inl (.int 0))))]
def T_L_law_2 (xs : Nat → Int32) (L : Nat) : List (Nat × bh_Op) := [(203, bo_zret 5000),
  (204, bo_ild 206 6),
  (206, bo_if1 209 221 (fun x => ¬ x = 0)),
  (209, bo_ald 210 3),
  (210, bo_st 211 (bg_push (.inl (.int 0)))),
  (211, bo_Jald bh_ak bh_al 212),
  (212, bo_ild 214 7),
  (214, bo_st 215 (bg_i1 (fun x => .inl (.long x.toInt64)))),
  (215, bo_st 216 (bg_lc lg_cmp)),
  (216, bo_if1 219 221 (fun x => x = 0)),
  (219, bo_st 220 (bg_push (.inl (.int 0)))),
  (220, bo_zret 5000),
  (221, bo_go 1312),
  (224, bo_ald 225 1),
  (225, bo_ald 226 0),
  (226, bo_ild 228 5),
  (228, bo_st 229 (bg_push (.inl (.int 1)))),
  (229, bo_st 230 (bg_ii (fun x y => x + y))),
  (230, bo_sald xs L 231),
  (231, bo_ald 232 0),
  (232, bo_ild 234 5),
  (234, bo_st 235 (bg_push (.inl (.int 2)))),
  (235, bo_st 236 (bg_ii (fun x y => x + y))),
  (236, bo_sald xs L 237),
  (237, bo_ald 238 0),
  (238, bo_ild 240 5),
  (240, bo_st 241 (bg_push (.inl (.int 3)))),
  (241, bo_st 242 (bg_ii (fun x y => x + y))),
  (242, bo_sald xs L 243),
  (243, bo_ald 244 3),
  (244, bo_callS 247 5 6 5000 F_L_export),
  (247, bo_ist 249 6),
  (249, bo_ald 250 2),
  (250, bo_ald 251 0),
  (251, bo_ild 253 5),
  (253, bo_st 254 (bg_push (.inl (.int 1)))),
  (254, bo_st 255 (bg_ii (fun x y => x + y))),
  (255, bo_sald xs L 256),
  (256, bo_ald 257 0),
  (257, bo_ild 259 5)]
def T_L_law_3 (xs : Nat → Int32) (L : Nat) : List (Nat × bh_Op) := [(259, bo_st 260 (bg_push (.inl (.int 2)))),
  (260, bo_st 261 (bg_ii (fun x y => x + y))),
  (261, bo_sald xs L 262),
  (262, bo_ald 263 0),
  (263, bo_ild 265 5),
  (265, bo_st 266 (bg_push (.inl (.int 3)))),
  (266, bo_st 267 (bg_ii (fun x y => x + y))),
  (267, bo_sald xs L 268),
  (268, bo_callV 271 4 0 5000 40 F_M_export),
  (271, bo_ist 273 7),
  (273, bo_ald 274 2),
  (274, bo_callV 277 1 0 5000 40 F_M_thrown),
  (277, bo_ild 279 6),
  (279, bo_if2 282 284 (fun x y => x = y)),
  (282, bo_st 283 (bg_push (.inl (.int 0)))),
  (283, bo_zret 5000),
  (284, bo_ild 286 6),
  (286, bo_if1 289 301 (fun x => ¬ x = 0)),
  (289, bo_ald 290 3),
  (290, bo_st 291 (bg_push (.inl (.int 0)))),
  (291, bo_Jald bh_ak bh_al 292),
  (292, bo_ild 294 7),
  (294, bo_st 295 (bg_i1 (fun x => .inl (.long x.toInt64)))),
  (295, bo_st 296 (bg_lc lg_cmp)),
  (296, bo_if1 299 301 (fun x => x = 0)),
  (299, bo_st 300 (bg_push (.inl (.int 0)))),
  (300, bo_zret 5000),
  (301, bo_go 1312),
  (304, bo_ald 305 1),
  (305, bo_ald 306 0),
  (306, bo_ild 308 5),
  (308, bo_st 309 (bg_push (.inl (.int 1)))),
  (309, bo_st 310 (bg_ii (fun x y => x + y))),
  (310, bo_sald xs L 311),
  (311, bo_ald 312 0),
  (312, bo_ild 314 5),
  (314, bo_st 315 (bg_push (.inl (.int 2)))),
  (315, bo_st 316 (bg_ii (fun x y => x + y))),
  (316, bo_sald xs L 317),
  (317, bo_ald 318 0)]
def T_L_law_4 (xs : Nat → Int32) (L : Nat) : List (Nat × bh_Op) := [(318, bo_ild 320 5),
  (320, bo_st 321 (bg_push (.inl (.int 3)))),
  (321, bo_st 322 (bg_ii (fun x y => x + y))),
  (322, bo_sald xs L 323),
  (323, bo_ald 324 0),
  (324, bo_ild 326 5),
  (326, bo_st 327 (bg_push (.inl (.int 4)))),
  (327, bo_st 328 (bg_ii (fun x y => x + y))),
  (328, bo_sald xs L 329),
  (329, bo_ald 330 0),
  (330, bo_ild 332 5),
  (332, bo_st 333 (bg_push (.inl (.int 5)))),
  (333, bo_st 334 (bg_ii (fun x y => x + y))),
  (334, bo_sald xs L 335),
  (335, bo_if1 338 342 (fun x => x = 0)),
  (338, bo_st 339 (bg_push (.inl (.int 1)))),
  (339, bo_go 343),
  (342, bo_st 343 (bg_push (.inl (.int 0)))),
  (343, bo_ald 344 3),
  (344, bo_callS 347 7 7 5000 F_L_need),
  (347, bo_ist 349 6),
  (349, bo_ald 350 2),
  (350, bo_ald 351 0),
  (351, bo_ild 353 5),
  (353, bo_st 354 (bg_push (.inl (.int 1)))),
  (354, bo_st 355 (bg_ii (fun x y => x + y))),
  (355, bo_sald xs L 356),
  (356, bo_ald 357 0),
  (357, bo_ild 359 5),
  (359, bo_st 360 (bg_push (.inl (.int 2)))),
  (360, bo_st 361 (bg_ii (fun x y => x + y))),
  (361, bo_sald xs L 362),
  (362, bo_ald 363 0),
  (363, bo_ild 365 5),
  (365, bo_st 366 (bg_push (.inl (.int 3)))),
  (366, bo_st 367 (bg_ii (fun x y => x + y))),
  (367, bo_sald xs L 368),
  (368, bo_ald 369 0),
  (369, bo_ild 371 5),
  (371, bo_st 372 (bg_push (.inl (.int 4))))]
def T_L_law_5 (xs : Nat → Int32) (L : Nat) : List (Nat × bh_Op) := [(372, bo_st 373 (bg_ii (fun x y => x + y))),
  (373, bo_sald xs L 374),
  (374, bo_ald 375 0),
  (375, bo_ild 377 5),
  (377, bo_st 378 (bg_push (.inl (.int 5)))),
  (378, bo_st 379 (bg_ii (fun x y => x + y))),
  (379, bo_sald xs L 380),
  (380, bo_if1 383 387 (fun x => x = 0)),
  (383, bo_st 384 (bg_push (.inl (.int 1)))),
  (384, bo_go 388),
  (387, bo_st 388 (bg_push (.inl (.int 0)))),
  (388, bo_callV 391 6 0 5000 40 F_M_need),
  (391, bo_ist 393 7),
  (393, bo_ald 394 2),
  (394, bo_callV 397 1 0 5000 40 F_M_thrown),
  (397, bo_ild 399 6),
  (399, bo_if2 402 404 (fun x y => x = y)),
  (402, bo_st 403 (bg_push (.inl (.int 0)))),
  (403, bo_zret 5000),
  (404, bo_ild 406 6),
  (406, bo_if1 409 421 (fun x => ¬ x = 0)),
  (409, bo_ald 410 3),
  (410, bo_st 411 (bg_push (.inl (.int 0)))),
  (411, bo_Jald bh_ak bh_al 412),
  (412, bo_ild 414 7),
  (414, bo_st 415 (bg_i1 (fun x => .inl (.long x.toInt64)))),
  (415, bo_st 416 (bg_lc lg_cmp)),
  (416, bo_if1 419 421 (fun x => x = 0)),
  (419, bo_st 420 (bg_push (.inl (.int 0)))),
  (420, bo_zret 5000),
  (421, bo_go 1312),
  (424, bo_ald 425 1),
  (425, bo_ald 426 0),
  (426, bo_ild 428 5),
  (428, bo_st 429 (bg_push (.inl (.int 1)))),
  (429, bo_st 430 (bg_ii (fun x y => x + y))),
  (430, bo_sald xs L 431),
  (431, bo_ald 432 3),
  (432, bo_callS 435 3 5 5000 F_L_resolve),
  (435, bo_ist 437 6)]
def T_L_law_6 (xs : Nat → Int32) (L : Nat) : List (Nat × bh_Op) := [(437, bo_ald 438 2),
  (438, bo_ald 439 0),
  (439, bo_ild 441 5),
  (441, bo_st 442 (bg_push (.inl (.int 1)))),
  (442, bo_st 443 (bg_ii (fun x y => x + y))),
  (443, bo_sald xs L 444),
  (444, bo_callV 447 2 0 5000 40 F_M_resolve),
  (447, bo_ist 449 7),
  (449, bo_ald 450 2),
  (450, bo_callV 453 1 0 5000 40 F_M_thrown),
  (453, bo_ild 455 6),
  (455, bo_if2 458 460 (fun x y => x = y)),
  (458, bo_st 459 (bg_push (.inl (.int 0)))),
  (459, bo_zret 5000),
  (460, bo_ild 462 6),
  (462, bo_if1 465 477 (fun x => ¬ x = 0)),
  (465, bo_ald 466 3),
  (466, bo_st 467 (bg_push (.inl (.int 0)))),
  (467, bo_Jald bh_ak bh_al 468),
  (468, bo_ild 470 7),
  (470, bo_st 471 (bg_i1 (fun x => .inl (.long x.toInt64)))),
  (471, bo_st 472 (bg_lc lg_cmp)),
  (472, bo_if1 475 477 (fun x => x = 0)),
  (475, bo_st 476 (bg_push (.inl (.int 0)))),
  (476, bo_zret 5000),
  (477, bo_go 1312),
  (480, bo_ald 481 1),
  (481, bo_ald 482 0),
  (482, bo_ild 484 5),
  (484, bo_st 485 (bg_push (.inl (.int 1)))),
  (485, bo_st 486 (bg_ii (fun x y => x + y))),
  (486, bo_sald xs L 487),
  (487, bo_ald 488 3),
  (488, bo_callS 491 3 5 5000 F_L_start),
  (491, bo_ist 493 6),
  (493, bo_ald 494 2),
  (494, bo_ald 495 0),
  (495, bo_ild 497 5),
  (497, bo_st 498 (bg_push (.inl (.int 1)))),
  (498, bo_st 499 (bg_ii (fun x y => x + y)))]
def T_L_law_7 (xs : Nat → Int32) (L : Nat) : List (Nat × bh_Op) := [(499, bo_sald xs L 500),
  (500, bo_callV 503 2 0 5000 40 F_M_start),
  (503, bo_ist 505 7),
  (505, bo_ald 506 2),
  (506, bo_callV 509 1 0 5000 40 F_M_thrown),
  (509, bo_ild 511 6),
  (511, bo_if2 514 516 (fun x y => x = y)),
  (514, bo_st 515 (bg_push (.inl (.int 0)))),
  (515, bo_zret 5000),
  (516, bo_ild 518 6),
  (518, bo_if1 521 533 (fun x => ¬ x = 0)),
  (521, bo_ald 522 3),
  (522, bo_st 523 (bg_push (.inl (.int 0)))),
  (523, bo_Jald bh_ak bh_al 524),
  (524, bo_ild 526 7),
  (526, bo_st 527 (bg_i1 (fun x => .inl (.long x.toInt64)))),
  (527, bo_st 528 (bg_lc lg_cmp)),
  (528, bo_if1 531 533 (fun x => x = 0)),
  (531, bo_st 532 (bg_push (.inl (.int 0)))),
  (532, bo_zret 5000),
  (533, bo_go 1312),
  (536, bo_ald 537 1),
  (537, bo_ald 538 0),
  (538, bo_ild 540 5),
  (540, bo_st 541 (bg_push (.inl (.int 1)))),
  (541, bo_st 542 (bg_ii (fun x y => x + y))),
  (542, bo_sald xs L 543),
  (543, bo_ald 544 3),
  (544, bo_callS 547 3 2 5000 F_L_stop),
  (547, bo_ist 549 6),
  (549, bo_ald 550 2),
  (550, bo_ald 551 0),
  (551, bo_ild 553 5),
  (553, bo_st 554 (bg_push (.inl (.int 1)))),
  (554, bo_st 555 (bg_ii (fun x y => x + y))),
  (555, bo_sald xs L 556),
  (556, bo_callV 559 2 0 5000 40 F_M_stop),
  (559, bo_ist 561 7),
  (561, bo_ald 562 2),
  (562, bo_callV 565 1 0 5000 40 F_M_thrown)]
def T_L_law_8 (xs : Nat → Int32) (L : Nat) : List (Nat × bh_Op) := [(565, bo_ild 567 6),
  (567, bo_if2 570 572 (fun x y => x = y)),
  (570, bo_st 571 (bg_push (.inl (.int 0)))),
  (571, bo_zret 5000),
  (572, bo_ild 574 6),
  (574, bo_if1 577 589 (fun x => ¬ x = 0)),
  (577, bo_ald 578 3),
  (578, bo_st 579 (bg_push (.inl (.int 0)))),
  (579, bo_Jald bh_ak bh_al 580),
  (580, bo_ild 582 7),
  (582, bo_st 583 (bg_i1 (fun x => .inl (.long x.toInt64)))),
  (583, bo_st 584 (bg_lc lg_cmp)),
  (584, bo_if1 587 589 (fun x => x = 0)),
  (587, bo_st 588 (bg_push (.inl (.int 0)))),
  (588, bo_zret 5000),
  (589, bo_go 1312),
  (592, bo_ald 593 1),
  (593, bo_ald 594 0),
  (594, bo_ild 596 5),
  (596, bo_st 597 (bg_push (.inl (.int 1)))),
  (597, bo_st 598 (bg_ii (fun x y => x + y))),
  (598, bo_sald xs L 599),
  (599, bo_ald 600 3),
  (600, bo_callS 603 3 1 5000 F_L_level),
  (603, bo_ist 605 6),
  (605, bo_ald 606 2),
  (606, bo_ald 607 0),
  (607, bo_ild 609 5),
  (609, bo_st 610 (bg_push (.inl (.int 1)))),
  (610, bo_st 611 (bg_ii (fun x y => x + y))),
  (611, bo_sald xs L 612),
  (612, bo_callV 615 2 0 5000 40 F_M_level),
  (615, bo_ist 617 7),
  (617, bo_ald 618 2),
  (618, bo_callV 621 1 0 5000 40 F_M_thrown),
  (621, bo_ild 623 6),
  (623, bo_if2 626 628 (fun x y => x = y)),
  (626, bo_st 627 (bg_push (.inl (.int 0)))),
  (627, bo_zret 5000),
  (628, bo_ild 630 6)]
def T_L_law_9 (xs : Nat → Int32) (L : Nat) : List (Nat × bh_Op) := [(630, bo_if1 633 645 (fun x => ¬ x = 0)),
  (633, bo_ald 634 3),
  (634, bo_st 635 (bg_push (.inl (.int 0)))),
  (635, bo_Jald bh_ak bh_al 636),
  (636, bo_ild 638 7),
  (638, bo_st 639 (bg_i1 (fun x => .inl (.long x.toInt64)))),
  (639, bo_st 640 (bg_lc lg_cmp)),
  (640, bo_if1 643 645 (fun x => x = 0)),
  (643, bo_st 644 (bg_push (.inl (.int 0)))),
  (644, bo_zret 5000),
  (645, bo_go 1312),
  (648, bo_ald 649 1),
  (649, bo_ald 650 0),
  (650, bo_ild 652 5),
  (652, bo_st 653 (bg_push (.inl (.int 1)))),
  (653, bo_st 654 (bg_ii (fun x y => x + y))),
  (654, bo_sald xs L 655),
  (655, bo_ald 656 3),
  (656, bo_callS 659 3 2 5000 F_L_uninstall),
  (659, bo_ist 661 6),
  (661, bo_ald 662 2),
  (662, bo_ald 663 0),
  (663, bo_ild 665 5),
  (665, bo_st 666 (bg_push (.inl (.int 1)))),
  (666, bo_st 667 (bg_ii (fun x y => x + y))),
  (667, bo_sald xs L 668),
  (668, bo_callV 671 2 0 5000 40 F_M_uninstall),
  (671, bo_ist 673 7),
  (673, bo_ald 674 2),
  (674, bo_callV 677 1 0 5000 40 F_M_thrown),
  (677, bo_ild 679 6),
  (679, bo_if2 682 684 (fun x y => x = y)),
  (682, bo_st 683 (bg_push (.inl (.int 0)))),
  (683, bo_zret 5000),
  (684, bo_ild 686 6),
  (686, bo_if1 689 701 (fun x => ¬ x = 0)),
  (689, bo_ald 690 3),
  (690, bo_st 691 (bg_push (.inl (.int 0)))),
  (691, bo_Jald bh_ak bh_al 692),
  (692, bo_ild 694 7)]
def T_L_law_10 (xs : Nat → Int32) (L : Nat) : List (Nat × bh_Op) := [(694, bo_st 695 (bg_i1 (fun x => .inl (.long x.toInt64)))),
  (695, bo_st 696 (bg_lc lg_cmp)),
  (696, bo_if1 699 701 (fun x => x = 0)),
  (699, bo_st 700 (bg_push (.inl (.int 0)))),
  (700, bo_zret 5000),
  (701, bo_go 1312),
  (704, bo_ald 705 1),
  (705, bo_ald 706 0),
  (706, bo_ild 708 5),
  (708, bo_st 709 (bg_push (.inl (.int 1)))),
  (709, bo_st 710 (bg_ii (fun x y => x + y))),
  (710, bo_sald xs L 711),
  (711, bo_ald 712 3),
  (712, bo_callS 715 3 2 5000 F_L_update),
  (715, bo_ist 717 6),
  (717, bo_ald 718 2),
  (718, bo_ald 719 0),
  (719, bo_ild 721 5),
  (721, bo_st 722 (bg_push (.inl (.int 1)))),
  (722, bo_st 723 (bg_ii (fun x y => x + y))),
  (723, bo_sald xs L 724),
  (724, bo_callV 727 2 0 5000 40 F_M_update),
  (727, bo_ist 729 7),
  (729, bo_ald 730 2),
  (730, bo_callV 733 1 0 5000 40 F_M_thrown),
  (733, bo_ild 735 6),
  (735, bo_if2 738 740 (fun x y => x = y)),
  (738, bo_st 739 (bg_push (.inl (.int 0)))),
  (739, bo_zret 5000),
  (740, bo_ild 742 6),
  (742, bo_if1 745 757 (fun x => ¬ x = 0)),
  (745, bo_ald 746 3),
  (746, bo_st 747 (bg_push (.inl (.int 0)))),
  (747, bo_Jald bh_ak bh_al 748),
  (748, bo_ild 750 7),
  (750, bo_st 751 (bg_i1 (fun x => .inl (.long x.toInt64)))),
  (751, bo_st 752 (bg_lc lg_cmp)),
  (752, bo_if1 755 757 (fun x => x = 0)),
  (755, bo_st 756 (bg_push (.inl (.int 0)))),
  (756, bo_zret 5000)]
def T_L_law_11 (xs : Nat → Int32) (L : Nat) : List (Nat × bh_Op) := [(757, bo_go 1312),
  (760, bo_ald 761 1),
  (761, bo_callV 764 1 0 5000 3 F_H_refresh),
  (764, bo_ald 765 2),
  (765, bo_callV 768 1 0 5000 40 F_M_refresh),
  (768, bo_if2 771 1312 (fun x y => x = y)),
  (771, bo_st 772 (bg_push (.inl (.int 0)))),
  (772, bo_zret 5000),
  (773, bo_ald 774 1),
  (774, bo_ald 775 0),
  (775, bo_ild 777 5),
  (777, bo_st 778 (bg_push (.inl (.int 1)))),
  (778, bo_st 779 (bg_ii (fun x y => x + y))),
  (779, bo_sald xs L 780),
  (780, bo_ald 781 0),
  (781, bo_ild 783 5),
  (783, bo_st 784 (bg_push (.inl (.int 2)))),
  (784, bo_st 785 (bg_ii (fun x y => x + y))),
  (785, bo_sald xs L 786),
  (786, bo_ald 787 0),
  (787, bo_ild 789 5),
  (789, bo_st 790 (bg_push (.inl (.int 3)))),
  (790, bo_st 791 (bg_ii (fun x y => x + y))),
  (791, bo_sald xs L 792),
  (792, bo_st 793 (bg_i1 (fun x => .inl (.double (FP.i2d x))))),
  (793, bo_st 796 (bg_push (.inl (.double 4593671619917905920)))),
  (796, bo_st 797 (bg_dd FP.dmul)),
  (797, bo_ald 798 3),
  (798, bo_callS 801 5 6 5000 F_L_register),
  (801, bo_ist 803 6),
  (803, bo_ald 804 2),
  (804, bo_ald 805 0),
  (805, bo_ild 807 5),
  (807, bo_st 808 (bg_push (.inl (.int 1)))),
  (808, bo_st 809 (bg_ii (fun x y => x + y))),
  (809, bo_sald xs L 810),
  (810, bo_ald 811 0),
  (811, bo_ild 813 5),
  (813, bo_st 814 (bg_push (.inl (.int 2)))),
  (814, bo_st 815 (bg_ii (fun x y => x + y)))]
def T_L_law_12 (xs : Nat → Int32) (L : Nat) : List (Nat × bh_Op) := [(815, bo_sald xs L 816),
  (816, bo_ald 817 0),
  (817, bo_ild 819 5),
  (819, bo_st 820 (bg_push (.inl (.int 3)))),
  (820, bo_st 821 (bg_ii (fun x y => x + y))),
  (821, bo_sald xs L 822),
  (822, bo_st 823 (bg_i1 (fun x => .inl (.double (FP.i2d x))))),
  (823, bo_st 826 (bg_push (.inl (.double 4593671619917905920)))),
  (826, bo_st 827 (bg_dd FP.dmul)),
  (827, bo_callV 830 4 0 5000 40 F_M_register),
  (830, bo_ist 832 7),
  (832, bo_ald 833 2),
  (833, bo_callV 836 1 0 5000 40 F_M_thrown),
  (836, bo_ild 838 6),
  (838, bo_if2 841 843 (fun x y => x = y)),
  (841, bo_st 842 (bg_push (.inl (.int 0)))),
  (842, bo_zret 5000),
  (843, bo_ild 845 6),
  (845, bo_if1 848 860 (fun x => ¬ x = 0)),
  (848, bo_ald 849 3),
  (849, bo_st 850 (bg_push (.inl (.int 0)))),
  (850, bo_Jald bh_ak bh_al 851),
  (851, bo_ild 853 7),
  (853, bo_st 854 (bg_i1 (fun x => .inl (.long x.toInt64)))),
  (854, bo_st 855 (bg_lc lg_cmp)),
  (855, bo_if1 858 860 (fun x => x = 0)),
  (858, bo_st 859 (bg_push (.inl (.int 0)))),
  (859, bo_zret 5000),
  (860, bo_go 1312),
  (863, bo_ald 864 1),
  (864, bo_ald 865 0),
  (865, bo_ild 867 5),
  (867, bo_st 868 (bg_push (.inl (.int 1)))),
  (868, bo_st 869 (bg_ii (fun x y => x + y))),
  (869, bo_sald xs L 870),
  (870, bo_ald 871 0),
  (871, bo_ild 873 5),
  (873, bo_st 874 (bg_push (.inl (.int 2)))),
  (874, bo_st 875 (bg_ii (fun x y => x + y))),
  (875, bo_sald xs L 876)]
def T_L_law_13 (xs : Nat → Int32) (L : Nat) : List (Nat × bh_Op) := [(876, bo_ald 877 3),
  (877, bo_callS 880 4 5 5000 F_L_get),
  (880, bo_ist 882 6),
  (882, bo_ald 883 2),
  (883, bo_ald 884 0),
  (884, bo_ild 886 5),
  (886, bo_st 887 (bg_push (.inl (.int 1)))),
  (887, bo_st 888 (bg_ii (fun x y => x + y))),
  (888, bo_sald xs L 889),
  (889, bo_ald 890 0),
  (890, bo_ild 892 5),
  (892, bo_st 893 (bg_push (.inl (.int 2)))),
  (893, bo_st 894 (bg_ii (fun x y => x + y))),
  (894, bo_sald xs L 895),
  (895, bo_callV 898 3 0 5000 40 F_M_get),
  (898, bo_ist 900 7),
  (900, bo_ald 901 2),
  (901, bo_callV 904 1 0 5000 40 F_M_thrown),
  (904, bo_ild 906 6),
  (906, bo_if2 909 911 (fun x y => x = y)),
  (909, bo_st 910 (bg_push (.inl (.int 0)))),
  (910, bo_zret 5000),
  (911, bo_ild 913 6),
  (913, bo_if1 916 928 (fun x => ¬ x = 0)),
  (916, bo_ald 917 3),
  (917, bo_st 918 (bg_push (.inl (.int 0)))),
  (918, bo_Jald bh_ak bh_al 919),
  (919, bo_ild 921 7),
  (921, bo_st 922 (bg_i1 (fun x => .inl (.long x.toInt64)))),
  (922, bo_st 923 (bg_lc lg_cmp)),
  (923, bo_if1 926 928 (fun x => x = 0)),
  (926, bo_st 927 (bg_push (.inl (.int 0)))),
  (927, bo_zret 5000),
  (928, bo_go 1312),
  (931, bo_ald 932 1),
  (932, bo_ald 933 0),
  (933, bo_ild 935 5),
  (935, bo_st 936 (bg_push (.inl (.int 1)))),
  (936, bo_st 937 (bg_ii (fun x y => x + y))),
  (937, bo_sald xs L 938)]
def T_L_law_14 (xs : Nat → Int32) (L : Nat) : List (Nat × bh_Op) := [(938, bo_ald 939 0),
  (939, bo_ild 941 5),
  (941, bo_st 942 (bg_push (.inl (.int 2)))),
  (942, bo_st 943 (bg_ii (fun x y => x + y))),
  (943, bo_sald xs L 944),
  (944, bo_ald 945 3),
  (945, bo_callS 948 4 4 5000 F_L_giveBack),
  (948, bo_ist 950 6),
  (950, bo_ald 951 2),
  (951, bo_ald 952 0),
  (952, bo_ild 954 5),
  (954, bo_st 955 (bg_push (.inl (.int 1)))),
  (955, bo_st 956 (bg_ii (fun x y => x + y))),
  (956, bo_sald xs L 957),
  (957, bo_ald 958 0),
  (958, bo_ild 960 5),
  (960, bo_st 961 (bg_push (.inl (.int 2)))),
  (961, bo_st 962 (bg_ii (fun x y => x + y))),
  (962, bo_sald xs L 963),
  (963, bo_callV 966 3 0 5000 40 F_M_giveBack),
  (966, bo_ist 968 7),
  (968, bo_ald 969 2),
  (969, bo_callV 972 1 0 5000 40 F_M_thrown),
  (972, bo_ild 974 6),
  (974, bo_if2 977 979 (fun x y => x = y)),
  (977, bo_st 978 (bg_push (.inl (.int 0)))),
  (978, bo_zret 5000),
  (979, bo_ild 981 6),
  (981, bo_if1 984 996 (fun x => ¬ x = 0)),
  (984, bo_ald 985 3),
  (985, bo_st 986 (bg_push (.inl (.int 0)))),
  (986, bo_Jald bh_ak bh_al 987),
  (987, bo_ild 989 7),
  (989, bo_st 990 (bg_i1 (fun x => .inl (.long x.toInt64)))),
  (990, bo_st 991 (bg_lc lg_cmp)),
  (991, bo_if1 994 996 (fun x => x = 0)),
  (994, bo_st 995 (bg_push (.inl (.int 0)))),
  (995, bo_zret 5000),
  (996, bo_go 1312),
  (999, bo_ald 1000 1)]
def T_L_law_15 (xs : Nat → Int32) (L : Nat) : List (Nat × bh_Op) := [(1000, bo_ald 1001 0),
  (1001, bo_ild 1003 5),
  (1003, bo_st 1004 (bg_push (.inl (.int 1)))),
  (1004, bo_st 1005 (bg_ii (fun x y => x + y))),
  (1005, bo_sald xs L 1006),
  (1006, bo_ald 1007 0),
  (1007, bo_ild 1009 5),
  (1009, bo_st 1010 (bg_push (.inl (.int 2)))),
  (1010, bo_st 1011 (bg_ii (fun x y => x + y))),
  (1011, bo_sald xs L 1012),
  (1012, bo_ald 1013 3),
  (1013, bo_callS 1016 4 4 5000 F_L_unregister),
  (1016, bo_ist 1018 6),
  (1018, bo_ald 1019 2),
  (1019, bo_ald 1020 0),
  (1020, bo_ild 1022 5),
  (1022, bo_st 1023 (bg_push (.inl (.int 1)))),
  (1023, bo_st 1024 (bg_ii (fun x y => x + y))),
  (1024, bo_sald xs L 1025),
  (1025, bo_ald 1026 0),
  (1026, bo_ild 1028 5),
  (1028, bo_st 1029 (bg_push (.inl (.int 2)))),
  (1029, bo_st 1030 (bg_ii (fun x y => x + y))),
  (1030, bo_sald xs L 1031),
  (1031, bo_callV 1034 3 0 5000 40 F_M_unregister),
  (1034, bo_ist 1036 7),
  (1036, bo_ald 1037 2),
  (1037, bo_callV 1040 1 0 5000 40 F_M_thrown),
  (1040, bo_ild 1042 6),
  (1042, bo_if2 1045 1047 (fun x y => x = y)),
  (1045, bo_st 1046 (bg_push (.inl (.int 0)))),
  (1046, bo_zret 5000),
  (1047, bo_ild 1049 6),
  (1049, bo_if1 1052 1064 (fun x => ¬ x = 0)),
  (1052, bo_ald 1053 3),
  (1053, bo_st 1054 (bg_push (.inl (.int 0)))),
  (1054, bo_Jald bh_ak bh_al 1055),
  (1055, bo_ild 1057 7),
  (1057, bo_st 1058 (bg_i1 (fun x => .inl (.long x.toInt64)))),
  (1058, bo_st 1059 (bg_lc lg_cmp))]
def T_L_law_16 (xs : Nat → Int32) (L : Nat) : List (Nat × bh_Op) := [(1059, bo_if1 1062 1064 (fun x => x = 0)),
  (1062, bo_st 1063 (bg_push (.inl (.int 0)))),
  (1063, bo_zret 5000),
  (1064, bo_go 1312),
  (1067, bo_ald 1068 1),
  (1068, bo_ald 1069 0),
  (1069, bo_ild 1071 5),
  (1071, bo_st 1072 (bg_push (.inl (.int 1)))),
  (1072, bo_st 1073 (bg_ii (fun x y => x + y))),
  (1073, bo_sald xs L 1074),
  (1074, bo_ald 1076 4),
  (1076, bo_callS 1079 3 2 5000 F_L_rank),
  (1079, bo_ist 1081 6),
  (1081, bo_ald 1082 2),
  (1082, bo_ald 1083 0),
  (1083, bo_ild 1085 5),
  (1085, bo_st 1086 (bg_push (.inl (.int 1)))),
  (1086, bo_st 1087 (bg_ii (fun x y => x + y))),
  (1087, bo_sald xs L 1088),
  (1088, bo_callV 1091 2 0 5000 40 F_M_rank),
  (1091, bo_dst 1093 7),
  (1093, bo_ald 1094 2),
  (1094, bo_callV 1097 1 0 5000 40 F_M_thrown),
  (1097, bo_ild 1099 6),
  (1099, bo_if2 1102 1104 (fun x y => x = y)),
  (1102, bo_st 1103 (bg_push (.inl (.int 0)))),
  (1103, bo_zret 5000),
  (1104, bo_ild 1106 6),
  (1106, bo_if1 1109 1141 (fun x => ¬ x = 0)),
  (1109, bo_ald 1111 4),
  (1111, bo_st 1112 (bg_push (.inl (.int 0)))),
  (1112, bo_Dald bh_ak bh_al 1113),
  (1113, bo_dld 1115 7),
  (1115, bo_st 1116 (bg_dc (fun x y => Op.cmpValue (FP.dcmp x y) .l))),
  (1116, bo_if1 1119 1141 (fun x => x = 0)),
  (1119, bo_ald 1121 4),
  (1121, bo_st 1122 (bg_push (.inl (.int 0)))),
  (1122, bo_Dald bh_ak bh_al 1123),
  (1123, bo_ald 1125 4),
  (1125, bo_st 1126 (bg_push (.inl (.int 0))))]
def T_L_law_17 (xs : Nat → Int32) (L : Nat) : List (Nat × bh_Op) := [(1126, bo_Dald bh_ak bh_al 1127),
  (1127, bo_st 1128 (bg_dc (fun x y => Op.cmpValue (FP.dcmp x y) .l))),
  (1128, bo_if1 1131 1139 (fun x => x = 0)),
  (1131, bo_dld 1133 7),
  (1133, bo_dld 1135 7),
  (1135, bo_st 1136 (bg_dc (fun x y => Op.cmpValue (FP.dcmp x y) .l))),
  (1136, bo_if1 1139 1141 (fun x => ¬ x = 0)),
  (1139, bo_st 1140 (bg_push (.inl (.int 0)))),
  (1140, bo_zret 5000),
  (1141, bo_go 1312),
  (1144, bo_ald 1145 1),
  (1145, bo_ald 1146 3),
  (1146, bo_callS 1149 2 1 5000 F_L_event),
  (1149, bo_ist 1151 6),
  (1151, bo_ald 1152 2),
  (1152, bo_callV 1155 1 0 5000 40 F_M_event),
  (1155, bo_ist 1157 7),
  (1157, bo_ald 1158 2),
  (1158, bo_callV 1161 1 0 5000 40 F_M_thrown),
  (1161, bo_ild 1163 6),
  (1163, bo_if2 1166 1168 (fun x y => x = y)),
  (1166, bo_st 1167 (bg_push (.inl (.int 0)))),
  (1167, bo_zret 5000),
  (1168, bo_ild 1170 6),
  (1170, bo_if1 1173 1185 (fun x => ¬ x = 0)),
  (1173, bo_ald 1174 3),
  (1174, bo_st 1175 (bg_push (.inl (.int 0)))),
  (1175, bo_Jald bh_ak bh_al 1176),
  (1176, bo_ild 1178 7),
  (1178, bo_st 1179 (bg_i1 (fun x => .inl (.long x.toInt64)))),
  (1179, bo_st 1180 (bg_lc lg_cmp)),
  (1180, bo_if1 1183 1185 (fun x => x = 0)),
  (1183, bo_st 1184 (bg_push (.inl (.int 0)))),
  (1184, bo_zret 5000),
  (1185, bo_go 1312),
  (1188, bo_ald 1189 1),
  (1189, bo_ald 1190 0),
  (1190, bo_ild 1192 5),
  (1192, bo_st 1193 (bg_push (.inl (.int 1)))),
  (1193, bo_st 1194 (bg_ii (fun x y => x + y)))]
def T_L_law_18 (xs : Nat → Int32) (L : Nat) : List (Nat × bh_Op) := [(1194, bo_sald xs L 1195),
  (1195, bo_ald 1196 0),
  (1196, bo_ild 1198 5),
  (1198, bo_st 1199 (bg_push (.inl (.int 2)))),
  (1199, bo_st 1200 (bg_ii (fun x y => x + y))),
  (1200, bo_sald xs L 1201),
  (1201, bo_ald 1202 3),
  (1202, bo_callS 1205 4 2 5000 F_L_about),
  (1205, bo_ist 1207 6),
  (1207, bo_ald 1208 2),
  (1208, bo_ald 1209 0),
  (1209, bo_ild 1211 5),
  (1211, bo_st 1212 (bg_push (.inl (.int 1)))),
  (1212, bo_st 1213 (bg_ii (fun x y => x + y))),
  (1213, bo_sald xs L 1214),
  (1214, bo_ald 1215 0),
  (1215, bo_ild 1217 5),
  (1217, bo_st 1218 (bg_push (.inl (.int 2)))),
  (1218, bo_st 1219 (bg_ii (fun x y => x + y))),
  (1219, bo_sald xs L 1220),
  (1220, bo_callV 1223 3 0 5000 40 F_M_about),
  (1223, bo_ist 1225 7),
  (1225, bo_ald 1226 2),
  (1226, bo_callV 1229 1 0 5000 40 F_M_thrown),
  (1229, bo_ild 1231 6),
  (1231, bo_if2 1234 1236 (fun x y => x = y)),
  (1234, bo_st 1235 (bg_push (.inl (.int 0)))),
  (1235, bo_zret 5000),
  (1236, bo_ild 1238 6),
  (1238, bo_if1 1241 1253 (fun x => ¬ x = 0)),
  (1241, bo_ald 1242 3),
  (1242, bo_st 1243 (bg_push (.inl (.int 0)))),
  (1243, bo_Jald bh_ak bh_al 1244),
  (1244, bo_ild 1246 7),
  (1246, bo_st 1247 (bg_i1 (fun x => .inl (.long x.toInt64)))),
  (1247, bo_st 1248 (bg_lc lg_cmp)),
  (1248, bo_if1 1251 1253 (fun x => x = 0)),
  (1251, bo_st 1252 (bg_push (.inl (.int 0)))),
  (1252, bo_zret 5000),
  (1253, bo_go 1312)]
def T_L_law_19 (xs : Nat → Int32) (L : Nat) : List (Nat × bh_Op) := [(1256, bo_ald 1257 1),
  (1257, bo_ald 1258 0),
  (1258, bo_ild 1260 5),
  (1260, bo_st 1261 (bg_push (.inl (.int 1)))),
  (1261, bo_st 1262 (bg_ii (fun x y => x + y))),
  (1262, bo_sald xs L 1263),
  (1263, bo_ald 1264 3),
  (1264, bo_callS 1267 3 1 5000 F_L_count),
  (1267, bo_ist 1269 6),
  (1269, bo_ald 1270 2),
  (1270, bo_ald 1271 0),
  (1271, bo_ild 1273 5),
  (1273, bo_st 1274 (bg_push (.inl (.int 1)))),
  (1274, bo_st 1275 (bg_ii (fun x y => x + y))),
  (1275, bo_sald xs L 1276),
  (1276, bo_callV 1279 2 0 5000 40 F_M_count),
  (1279, bo_ist 1281 7),
  (1281, bo_ald 1282 2),
  (1282, bo_callV 1285 1 0 5000 40 F_M_thrown),
  (1285, bo_ild 1287 6),
  (1287, bo_if2 1290 1292 (fun x y => x = y)),
  (1290, bo_st 1291 (bg_push (.inl (.int 0)))),
  (1291, bo_zret 5000),
  (1292, bo_ild 1294 6),
  (1294, bo_if1 1297 1309 (fun x => ¬ x = 0)),
  (1297, bo_ald 1298 3),
  (1298, bo_st 1299 (bg_push (.inl (.int 0)))),
  (1299, bo_Jald bh_ak bh_al 1300),
  (1300, bo_ild 1302 7),
  (1302, bo_st 1303 (bg_i1 (fun x => .inl (.long x.toInt64)))),
  (1303, bo_st 1304 (bg_lc lg_cmp)),
  (1304, bo_if1 1307 1309 (fun x => x = 0)),
  (1307, bo_st 1308 (bg_push (.inl (.int 0)))),
  (1308, bo_zret 5000),
  (1309, bo_go 1312),
  (1312, bo_inc 1315 5 6),
  (1315, bo_go 28),
  (1318, bo_st 1319 (bg_push (.inl (.int 1)))),
  (1319, bo_zret 5000)]
def T_L_law (xs : Nat → Int32) (L : Nat) : List (Nat × bh_Op) := T_L_law_0 xs L ++ T_L_law_1 xs L ++ T_L_law_2 xs L ++ T_L_law_3 xs L ++ T_L_law_4 xs L ++ T_L_law_5 xs L ++ T_L_law_6 xs L ++ T_L_law_7 xs L ++ T_L_law_8 xs L ++ T_L_law_9 xs L ++ T_L_law_10 xs L ++ T_L_law_11 xs L ++ T_L_law_12 xs L ++ T_L_law_13 xs L ++ T_L_law_14 xs L ++ T_L_law_15 xs L ++ T_L_law_16 xs L ++ T_L_law_17 xs L ++ T_L_law_18 xs L ++ T_L_law_19 xs L
set_option maxHeartbeats 4000000 in
set_option maxRecDepth 100000 in
theorem sl_0 {l : Launch} {G : bh_G} {base sb L : Nat} {xs : Nat → Int32} (htr : l.stackTraces = false) {p : Program} {e : Env} {s : State} {m : MethodId} {args : Array Value} {below : List Frame} {meth : Method} {c : Code} {ad0 : Nat → Nat → Nat} {M0 : bh_M} (X0 : CallFix p m c c_L_law 9 s args lw_ws "BundleHallLaw") (hr : meth.sig.returnType = some .boolean) (hlocks : meth.locks = false) (hbs : base ≤ s.heap.size) (hB : bh_Bg G base sb L xs s) :
    ∀ q ∈ T_L_law_0 xs L, ∀ (S : bh_S), q.2 S (fun y => bh_WA p l e room_1 s m args below meth c (bh_MQ below G base ad0 M0 true lw_z 5000 args s) G base 9 ad0 M0 true y.1 y.2) lw_z → bh_WA p l e room_1 s m args below meth c (bh_MQ below G base ad0 M0 true lw_z 5000 args s) G base 9 ad0 M0 true q.1 S := by
  obtain ⟨hx, hb, hml, hown, hts⟩ := id X0
  have hw : ∀ w ∈ bh_ws, w.before args s = true := fun w h => hts w (List.mem_cons_of_mem _ h)
  have hBg := bh_BgK (G := G) (base := base) (sb := sb) (L := L) (xs := xs)
  obtain ⟨hK, hAr, hen, hinj, hu1, hu2, hstr, hX, hsb, hsc, hxw, hao, hnc⟩ := id hB
  obtain ⟨ha1, ha2, ha3, ha4, ha5, ha6, ha0⟩ := bh_arr hAr
  exact List.forall_mem_cons.mpr ⟨fun S h => bs_new (Z := lw_z) (C := R_H) (T := F_H) (N := 5) hx hb rfl hbs hK hts (fun w h => List.mem_cons_of_mem _ (iw_H w h)) t_H t_H_ok hown (hts _ (List.mem_cons_of_mem _ wd_22)) (hts _ (List.mem_cons_of_mem _ wd_23)) (hts _ (List.mem_cons_of_mem _ wd_1)) rfl rfl (by decide) rfl rfl df_H (by decide) (by decide) d_L_law_0 h, List.forall_mem_cons.mpr ⟨fun S h => bs_dup (Z := lw_z) hx hb d_L_law_3 h, List.forall_mem_cons.mpr ⟨fun S h => bs_callI (Z := lw_z) hBg hbs hB X0 rfl (cn_H_init htr 36) (bh_calR (cl_H_init 40 0 hw) (by decide) (by decide)) rfl (hts _ (List.mem_cons_of_mem _ wd_24)) (hts _ (List.mem_cons_of_mem _ wd_25)) (hts _ (List.mem_cons_of_mem _ wd_26)) rfl (by decide) (by decide) d_L_law_4 (fun _ _ _ _ _ _ _ _ _ _ _ h => False.elim h) h, List.forall_mem_cons.mpr ⟨fun S h => bs_astore_n (Z := lw_z) hx hb rfl d_L_law_7 h, List.forall_mem_cons.mpr ⟨fun S h => bs_new (Z := lw_z) (C := R_M) (T := F_M) (N := 40) hx hb rfl hbs hK hts (fun w h => List.mem_cons_of_mem _ (iw_M w h)) t_M t_M_ok hown (hts _ (List.mem_cons_of_mem _ wd_777)) (hts _ (List.mem_cons_of_mem _ wd_778)) (hts _ (List.mem_cons_of_mem _ wd_9)) rfl rfl (by decide) rfl rfl df_M (by decide) (by decide) d_L_law_8 h, List.forall_mem_cons.mpr ⟨fun S h => bs_dup (Z := lw_z) hx hb d_L_law_11 h, List.forall_mem_cons.mpr ⟨fun S h => bs_callI (Z := lw_z) hBg hbs hB X0 rfl (cn_M_init htr 39) (bh_calR (cl_M_init 40 0 hw) (by decide) (by decide)) rfl (hts _ (List.mem_cons_of_mem _ wd_779)) (hts _ (List.mem_cons_of_mem _ wd_780)) (hts _ (List.mem_cons_of_mem _ wd_781)) rfl (by decide) (by decide) d_L_law_12 (fun _ _ _ _ _ _ _ _ _ _ _ h => False.elim h) h, List.forall_mem_cons.mpr ⟨fun S h => bs_astore_n (Z := lw_z) hx hb rfl d_L_law_15 h, List.forall_mem_cons.mpr ⟨fun S h => bs_iconst (Z := lw_z) hx hb (by decide) d_L_law_16 h, List.forall_mem_cons.mpr ⟨fun S h => bs_newa (Z := lw_z) (atype := .long) hx hb rfl hbs (hts _ (List.mem_cons_of_mem _ wd_905)) (hAr 25 (by decide)).2 rfl (by decide) (by decide) (by decide) (fun _ => rfl) (by decide) (by decide) d_L_law_17 h, List.forall_mem_cons.mpr ⟨fun S h => bs_astore_n (Z := lw_z) hx hb rfl d_L_law_19 h, List.forall_mem_cons.mpr ⟨fun S h => bs_iconst (Z := lw_z) hx hb (by decide) d_L_law_20 h, List.forall_mem_cons.mpr ⟨fun S h => bs_newa (Z := lw_z) (atype := .double) hx hb rfl hbs (hts _ (List.mem_cons_of_mem _ wd_906)) (hAr 26 (by decide)).2 rfl (by decide) (by decide) (by decide) (fun _ => rfl) (by decide) (by decide) d_L_law_21 h, List.forall_mem_cons.mpr ⟨fun S h => bs_astore (Z := lw_z) hx hb d_L_law_23 h, List.forall_mem_cons.mpr ⟨fun S h => bs_iconst (Z := lw_z) hx hb (by decide) d_L_law_25 h, List.forall_mem_cons.mpr ⟨fun S h => bs_istore (Z := lw_z) hx hb d_L_law_26 h, List.forall_mem_cons.mpr ⟨fun S h => bs_iload (Z := lw_z) hx hb d_L_law_28 h, List.forall_mem_cons.mpr ⟨fun S h => bs_aload_n (Z := lw_z) hx hb rfl d_L_law_30 h, List.forall_mem_cons.mpr ⟨fun S h => bs_slen (Z := lw_z) hx hb hX hsb hbs hsc d_L_law_31 h, List.forall_mem_cons.mpr ⟨fun S h => bs_bipush (Z := lw_z) hx hb (by decide) d_L_law_32 h, List.forall_mem_cons.mpr ⟨fun S h => bs_isub (Z := lw_z) hx hb d_L_law_34 h, List.forall_mem_cons.mpr ⟨fun S h => bs_icmp_gt (Z := lw_z) hx hb d_L_law_35 (by decide) h, List.forall_mem_cons.mpr ⟨fun S h => bs_aload_n (Z := lw_z) hx hb rfl d_L_law_38 h, List.forall_mem_cons.mpr ⟨fun S h => bs_iload (Z := lw_z) hx hb d_L_law_39 h, List.forall_mem_cons.mpr ⟨fun S h => bs_sald (Z := lw_z) hx hb hX hsb hbs hsc d_L_law_41 h, List.forall_mem_cons.mpr ⟨fun S h => bs_bipush (Z := lw_z) hx hb (by decide) d_L_law_42 h, List.forall_mem_cons.mpr ⟨fun S h => bs_iand (Z := lw_z) hx hb d_L_law_44 h, List.forall_mem_cons.mpr ⟨fun S h => bs_tsw (Z := lw_z) hx hb d_L_law_45 (by decide) (by decide +kernel) (bh_sw_L_law_45) h, List.forall_mem_cons.mpr ⟨fun S h => bs_aload_n (Z := lw_z) hx hb rfl d_L_law_132 h, List.forall_mem_cons.mpr ⟨fun S h => bs_aload_n (Z := lw_z) hx hb rfl d_L_law_133 h, List.forall_mem_cons.mpr ⟨fun S h => bs_iload (Z := lw_z) hx hb d_L_law_134 h, List.forall_mem_cons.mpr ⟨fun S h => bs_iconst (Z := lw_z) hx hb (by decide) d_L_law_136 h, List.forall_mem_cons.mpr ⟨fun S h => bs_iadd (Z := lw_z) hx hb d_L_law_137 h, List.forall_mem_cons.mpr ⟨fun S h => bs_sald (Z := lw_z) hx hb hX hsb hbs hsc d_L_law_138 h, List.forall_mem_cons.mpr ⟨fun S h => bs_aload_n (Z := lw_z) hx hb rfl d_L_law_139 h, List.forall_mem_cons.mpr ⟨fun S h => bs_iload (Z := lw_z) hx hb d_L_law_140 h, List.forall_mem_cons.mpr ⟨fun S h => bs_iconst (Z := lw_z) hx hb (by decide) d_L_law_142 h, List.forall_mem_cons.mpr ⟨fun S h => bs_iadd (Z := lw_z) hx hb d_L_law_143 h, List.forall_mem_cons.mpr ⟨fun S h => bs_sald (Z := lw_z) hx hb hX hsb hbs hsc d_L_law_144 h, List.forall_mem_cons.mpr ⟨fun S h => bs_aload_n (Z := lw_z) hx hb rfl d_L_law_145 h, fun _ h => absurd h List.not_mem_nil⟩⟩⟩⟩⟩⟩⟩⟩⟩⟩⟩⟩⟩⟩⟩⟩⟩⟩⟩⟩⟩⟩⟩⟩⟩⟩⟩⟩⟩⟩⟩⟩⟩⟩⟩⟩⟩⟩⟩⟩
set_option maxHeartbeats 4000000 in
set_option maxRecDepth 100000 in
theorem sl_1 {l : Launch} {G : bh_G} {base sb L : Nat} {xs : Nat → Int32} (htr : l.stackTraces = false) {p : Program} {e : Env} {s : State} {m : MethodId} {args : Array Value} {below : List Frame} {meth : Method} {c : Code} {ad0 : Nat → Nat → Nat} {M0 : bh_M} (X0 : CallFix p m c c_L_law 9 s args lw_ws "BundleHallLaw") (hr : meth.sig.returnType = some .boolean) (hlocks : meth.locks = false) (hbs : base ≤ s.heap.size) (hB : bh_Bg G base sb L xs s) :
    ∀ q ∈ T_L_law_1 xs L, ∀ (S : bh_S), q.2 S (fun y => bh_WA p l e room_1 s m args below meth c (bh_MQ below G base ad0 M0 true lw_z 5000 args s) G base 9 ad0 M0 true y.1 y.2) lw_z → bh_WA p l e room_1 s m args below meth c (bh_MQ below G base ad0 M0 true lw_z 5000 args s) G base 9 ad0 M0 true q.1 S := by
  obtain ⟨hx, hb, hml, hown, hts⟩ := id X0
  have hw : ∀ w ∈ bh_ws, w.before args s = true := fun w h => hts w (List.mem_cons_of_mem _ h)
  have hBg := bh_BgK (G := G) (base := base) (sb := sb) (L := L) (xs := xs)
  obtain ⟨hK, hAr, hen, hinj, hu1, hu2, hstr, hX, hsb, hsc, hxw, hao, hnc⟩ := id hB
  obtain ⟨ha1, ha2, ha3, ha4, ha5, ha6, ha0⟩ := bh_arr hAr
  exact List.forall_mem_cons.mpr ⟨fun S h => bs_iload (Z := lw_z) hx hb d_L_law_146 h, List.forall_mem_cons.mpr ⟨fun S h => bs_iconst (Z := lw_z) hx hb (by decide) d_L_law_148 h, List.forall_mem_cons.mpr ⟨fun S h => bs_iadd (Z := lw_z) hx hb d_L_law_149 h, List.forall_mem_cons.mpr ⟨fun S h => bs_sald (Z := lw_z) hx hb hX hsb hbs hsc d_L_law_150 h, List.forall_mem_cons.mpr ⟨fun S h => bs_aload_n (Z := lw_z) hx hb rfl d_L_law_151 h, List.forall_mem_cons.mpr ⟨fun S h => bs_iload (Z := lw_z) hx hb d_L_law_152 h, List.forall_mem_cons.mpr ⟨fun S h => bs_iconst (Z := lw_z) hx hb (by decide) d_L_law_154 h, List.forall_mem_cons.mpr ⟨fun S h => bs_iadd (Z := lw_z) hx hb d_L_law_155 h, List.forall_mem_cons.mpr ⟨fun S h => bs_sald (Z := lw_z) hx hb hX hsb hbs hsc d_L_law_156 h, List.forall_mem_cons.mpr ⟨fun S h => bs_aload_n (Z := lw_z) hx hb rfl d_L_law_157 h, List.forall_mem_cons.mpr ⟨fun S h => bs_callS (Z := lw_z) hBg hbs hB X0 (cn_L_install htr 34) (bh_calR (cl_L_install 40 0 hw) (by decide) (by decide)) (hts _ (List.mem_cons_of_mem _ wd_394)) (hts _ (List.mem_cons_of_mem _ wd_395)) (by decide) (by decide) d_L_law_158 (fun _ _ _ _ _ _ _ _ _ _ _ h => False.elim h) h, List.forall_mem_cons.mpr ⟨fun S h => bs_istore (Z := lw_z) hx hb d_L_law_161 h, List.forall_mem_cons.mpr ⟨fun S h => bs_aload_n (Z := lw_z) hx hb rfl d_L_law_163 h, List.forall_mem_cons.mpr ⟨fun S h => bs_aload_n (Z := lw_z) hx hb rfl d_L_law_164 h, List.forall_mem_cons.mpr ⟨fun S h => bs_iload (Z := lw_z) hx hb d_L_law_165 h, List.forall_mem_cons.mpr ⟨fun S h => bs_iconst (Z := lw_z) hx hb (by decide) d_L_law_167 h, List.forall_mem_cons.mpr ⟨fun S h => bs_iadd (Z := lw_z) hx hb d_L_law_168 h, List.forall_mem_cons.mpr ⟨fun S h => bs_sald (Z := lw_z) hx hb hX hsb hbs hsc d_L_law_169 h, List.forall_mem_cons.mpr ⟨fun S h => bs_aload_n (Z := lw_z) hx hb rfl d_L_law_170 h, List.forall_mem_cons.mpr ⟨fun S h => bs_iload (Z := lw_z) hx hb d_L_law_171 h, List.forall_mem_cons.mpr ⟨fun S h => bs_iconst (Z := lw_z) hx hb (by decide) d_L_law_173 h, List.forall_mem_cons.mpr ⟨fun S h => bs_iadd (Z := lw_z) hx hb d_L_law_174 h, List.forall_mem_cons.mpr ⟨fun S h => bs_sald (Z := lw_z) hx hb hX hsb hbs hsc d_L_law_175 h, List.forall_mem_cons.mpr ⟨fun S h => bs_aload_n (Z := lw_z) hx hb rfl d_L_law_176 h, List.forall_mem_cons.mpr ⟨fun S h => bs_iload (Z := lw_z) hx hb d_L_law_177 h, List.forall_mem_cons.mpr ⟨fun S h => bs_iconst (Z := lw_z) hx hb (by decide) d_L_law_179 h, List.forall_mem_cons.mpr ⟨fun S h => bs_iadd (Z := lw_z) hx hb d_L_law_180 h, List.forall_mem_cons.mpr ⟨fun S h => bs_sald (Z := lw_z) hx hb hX hsb hbs hsc d_L_law_181 h, List.forall_mem_cons.mpr ⟨fun S h => bs_aload_n (Z := lw_z) hx hb rfl d_L_law_182 h, List.forall_mem_cons.mpr ⟨fun S h => bs_iload (Z := lw_z) hx hb d_L_law_183 h, List.forall_mem_cons.mpr ⟨fun S h => bs_iconst (Z := lw_z) hx hb (by decide) d_L_law_185 h, List.forall_mem_cons.mpr ⟨fun S h => bs_iadd (Z := lw_z) hx hb d_L_law_186 h, List.forall_mem_cons.mpr ⟨fun S h => bs_sald (Z := lw_z) hx hb hX hsb hbs hsc d_L_law_187 h, List.forall_mem_cons.mpr ⟨fun S h => bs_callV (Z := lw_z) (C := R_M) hBg hbs hB X0 hK (cn_M_install htr 37) (bh_calR (cl_M_install 40 0 hw) (by decide) (by decide)) (hts _ (List.mem_cons_of_mem _ wd_911)) (hts _ (List.mem_cons_of_mem _ wd_912)) (hts _ (List.mem_cons_of_mem _ wd_913)) rfl rfl rfl rfl rfl (by decide) (by decide) d_L_law_188 (fun _ _ _ _ _ _ _ _ _ _ _ h => False.elim h) h, List.forall_mem_cons.mpr ⟨fun S h => bs_istore (Z := lw_z) hx hb d_L_law_191 h, List.forall_mem_cons.mpr ⟨fun S h => bs_aload_n (Z := lw_z) hx hb rfl d_L_law_193 h, List.forall_mem_cons.mpr ⟨fun S h => bs_callV (Z := lw_z) (C := R_M) hBg hbs hB X0 hK (cn_M_thrown htr 39) (bh_calR (cl_M_thrown 40 0 hw) (by decide) (by decide)) (hts _ (List.mem_cons_of_mem _ wd_907)) (hts _ (List.mem_cons_of_mem _ wd_908)) (hts _ (List.mem_cons_of_mem _ wd_909)) rfl rfl rfl rfl rfl (by decide) (by decide) d_L_law_194 (fun _ _ _ _ _ _ _ _ _ _ _ h => False.elim h) h, List.forall_mem_cons.mpr ⟨fun S h => bs_iload (Z := lw_z) hx hb d_L_law_197 h, List.forall_mem_cons.mpr ⟨fun S h => bs_icmp_eq (Z := lw_z) hx hb d_L_law_199 (by decide) h, List.forall_mem_cons.mpr ⟨fun S h => bs_iconst (Z := lw_z) hx hb (by decide) d_L_law_202 h, fun _ h => absurd h List.not_mem_nil⟩⟩⟩⟩⟩⟩⟩⟩⟩⟩⟩⟩⟩⟩⟩⟩⟩⟩⟩⟩⟩⟩⟩⟩⟩⟩⟩⟩⟩⟩⟩⟩⟩⟩⟩⟩⟩⟩⟩⟩
set_option maxHeartbeats 4000000 in
set_option maxRecDepth 100000 in
theorem sl_2 {l : Launch} {G : bh_G} {base sb L : Nat} {xs : Nat → Int32} (htr : l.stackTraces = false) {p : Program} {e : Env} {s : State} {m : MethodId} {args : Array Value} {below : List Frame} {meth : Method} {c : Code} {ad0 : Nat → Nat → Nat} {M0 : bh_M} (X0 : CallFix p m c c_L_law 9 s args lw_ws "BundleHallLaw") (hr : meth.sig.returnType = some .boolean) (hlocks : meth.locks = false) (hbs : base ≤ s.heap.size) (hB : bh_Bg G base sb L xs s) :
    ∀ q ∈ T_L_law_2 xs L, ∀ (S : bh_S), q.2 S (fun y => bh_WA p l e room_1 s m args below meth c (bh_MQ below G base ad0 M0 true lw_z 5000 args s) G base 9 ad0 M0 true y.1 y.2) lw_z → bh_WA p l e room_1 s m args below meth c (bh_MQ below G base ad0 M0 true lw_z 5000 args s) G base 9 ad0 M0 true q.1 S := by
  obtain ⟨hx, hb, hml, hown, hts⟩ := id X0
  have hw : ∀ w ∈ bh_ws, w.before args s = true := fun w h => hts w (List.mem_cons_of_mem _ h)
  have hBg := bh_BgK (G := G) (base := base) (sb := sb) (L := L) (xs := xs)
  obtain ⟨hK, hAr, hen, hinj, hu1, hu2, hstr, hX, hsb, hsc, hxw, hao, hnc⟩ := id hB
  obtain ⟨ha1, ha2, ha3, ha4, ha5, ha6, ha0⟩ := bh_arr hAr
  exact List.forall_mem_cons.mpr ⟨fun S h => bs_zret (Z := lw_z) hx hb hr hlocks d_L_law_203 h, List.forall_mem_cons.mpr ⟨fun S h => bs_iload (Z := lw_z) hx hb d_L_law_204 h, List.forall_mem_cons.mpr ⟨fun S h => bs_if_ne (Z := lw_z) hx hb d_L_law_206 (by decide) h, List.forall_mem_cons.mpr ⟨fun S h => bs_aload_n (Z := lw_z) hx hb rfl d_L_law_209 h, List.forall_mem_cons.mpr ⟨fun S h => bs_iconst (Z := lw_z) hx hb (by decide) d_L_law_210 h, List.forall_mem_cons.mpr ⟨fun S h => bs_Jald (Z := lw_z) hx hb ha3 d_L_law_211 h, List.forall_mem_cons.mpr ⟨fun S h => bs_iload (Z := lw_z) hx hb d_L_law_212 h, List.forall_mem_cons.mpr ⟨fun S h => bs_i2l (Z := lw_z) hx hb d_L_law_214 h, List.forall_mem_cons.mpr ⟨fun S h => bs_lcmp (Z := lw_z) hx hb d_L_law_215 h, List.forall_mem_cons.mpr ⟨fun S h => bs_if_eq (Z := lw_z) hx hb d_L_law_216 (by decide) h, List.forall_mem_cons.mpr ⟨fun S h => bs_iconst (Z := lw_z) hx hb (by decide) d_L_law_219 h, List.forall_mem_cons.mpr ⟨fun S h => bs_zret (Z := lw_z) hx hb hr hlocks d_L_law_220 h, List.forall_mem_cons.mpr ⟨fun S h => bs_goto (Z := lw_z) hx hb d_L_law_221 (by decide) h, List.forall_mem_cons.mpr ⟨fun S h => bs_aload_n (Z := lw_z) hx hb rfl d_L_law_224 h, List.forall_mem_cons.mpr ⟨fun S h => bs_aload_n (Z := lw_z) hx hb rfl d_L_law_225 h, List.forall_mem_cons.mpr ⟨fun S h => bs_iload (Z := lw_z) hx hb d_L_law_226 h, List.forall_mem_cons.mpr ⟨fun S h => bs_iconst (Z := lw_z) hx hb (by decide) d_L_law_228 h, List.forall_mem_cons.mpr ⟨fun S h => bs_iadd (Z := lw_z) hx hb d_L_law_229 h, List.forall_mem_cons.mpr ⟨fun S h => bs_sald (Z := lw_z) hx hb hX hsb hbs hsc d_L_law_230 h, List.forall_mem_cons.mpr ⟨fun S h => bs_aload_n (Z := lw_z) hx hb rfl d_L_law_231 h, List.forall_mem_cons.mpr ⟨fun S h => bs_iload (Z := lw_z) hx hb d_L_law_232 h, List.forall_mem_cons.mpr ⟨fun S h => bs_iconst (Z := lw_z) hx hb (by decide) d_L_law_234 h, List.forall_mem_cons.mpr ⟨fun S h => bs_iadd (Z := lw_z) hx hb d_L_law_235 h, List.forall_mem_cons.mpr ⟨fun S h => bs_sald (Z := lw_z) hx hb hX hsb hbs hsc d_L_law_236 h, List.forall_mem_cons.mpr ⟨fun S h => bs_aload_n (Z := lw_z) hx hb rfl d_L_law_237 h, List.forall_mem_cons.mpr ⟨fun S h => bs_iload (Z := lw_z) hx hb d_L_law_238 h, List.forall_mem_cons.mpr ⟨fun S h => bs_iconst (Z := lw_z) hx hb (by decide) d_L_law_240 h, List.forall_mem_cons.mpr ⟨fun S h => bs_iadd (Z := lw_z) hx hb d_L_law_241 h, List.forall_mem_cons.mpr ⟨fun S h => bs_sald (Z := lw_z) hx hb hX hsb hbs hsc d_L_law_242 h, List.forall_mem_cons.mpr ⟨fun S h => bs_aload_n (Z := lw_z) hx hb rfl d_L_law_243 h, List.forall_mem_cons.mpr ⟨fun S h => bs_callS (Z := lw_z) hBg hbs hB X0 (cn_L_export htr 36) (bh_calR (cl_L_export 40 0 hw) (by decide) (by decide)) (hts _ (List.mem_cons_of_mem _ wd_512)) (hts _ (List.mem_cons_of_mem _ wd_513)) (by decide) (by decide) d_L_law_244 (fun _ _ _ _ _ _ _ _ _ _ _ h => False.elim h) h, List.forall_mem_cons.mpr ⟨fun S h => bs_istore (Z := lw_z) hx hb d_L_law_247 h, List.forall_mem_cons.mpr ⟨fun S h => bs_aload_n (Z := lw_z) hx hb rfl d_L_law_249 h, List.forall_mem_cons.mpr ⟨fun S h => bs_aload_n (Z := lw_z) hx hb rfl d_L_law_250 h, List.forall_mem_cons.mpr ⟨fun S h => bs_iload (Z := lw_z) hx hb d_L_law_251 h, List.forall_mem_cons.mpr ⟨fun S h => bs_iconst (Z := lw_z) hx hb (by decide) d_L_law_253 h, List.forall_mem_cons.mpr ⟨fun S h => bs_iadd (Z := lw_z) hx hb d_L_law_254 h, List.forall_mem_cons.mpr ⟨fun S h => bs_sald (Z := lw_z) hx hb hX hsb hbs hsc d_L_law_255 h, List.forall_mem_cons.mpr ⟨fun S h => bs_aload_n (Z := lw_z) hx hb rfl d_L_law_256 h, List.forall_mem_cons.mpr ⟨fun S h => bs_iload (Z := lw_z) hx hb d_L_law_257 h, fun _ h => absurd h List.not_mem_nil⟩⟩⟩⟩⟩⟩⟩⟩⟩⟩⟩⟩⟩⟩⟩⟩⟩⟩⟩⟩⟩⟩⟩⟩⟩⟩⟩⟩⟩⟩⟩⟩⟩⟩⟩⟩⟩⟩⟩⟩
set_option maxHeartbeats 4000000 in
set_option maxRecDepth 100000 in
theorem sl_3 {l : Launch} {G : bh_G} {base sb L : Nat} {xs : Nat → Int32} (htr : l.stackTraces = false) {p : Program} {e : Env} {s : State} {m : MethodId} {args : Array Value} {below : List Frame} {meth : Method} {c : Code} {ad0 : Nat → Nat → Nat} {M0 : bh_M} (X0 : CallFix p m c c_L_law 9 s args lw_ws "BundleHallLaw") (hr : meth.sig.returnType = some .boolean) (hlocks : meth.locks = false) (hbs : base ≤ s.heap.size) (hB : bh_Bg G base sb L xs s) :
    ∀ q ∈ T_L_law_3 xs L, ∀ (S : bh_S), q.2 S (fun y => bh_WA p l e room_1 s m args below meth c (bh_MQ below G base ad0 M0 true lw_z 5000 args s) G base 9 ad0 M0 true y.1 y.2) lw_z → bh_WA p l e room_1 s m args below meth c (bh_MQ below G base ad0 M0 true lw_z 5000 args s) G base 9 ad0 M0 true q.1 S := by
  obtain ⟨hx, hb, hml, hown, hts⟩ := id X0
  have hw : ∀ w ∈ bh_ws, w.before args s = true := fun w h => hts w (List.mem_cons_of_mem _ h)
  have hBg := bh_BgK (G := G) (base := base) (sb := sb) (L := L) (xs := xs)
  obtain ⟨hK, hAr, hen, hinj, hu1, hu2, hstr, hX, hsb, hsc, hxw, hao, hnc⟩ := id hB
  obtain ⟨ha1, ha2, ha3, ha4, ha5, ha6, ha0⟩ := bh_arr hAr
  exact List.forall_mem_cons.mpr ⟨fun S h => bs_iconst (Z := lw_z) hx hb (by decide) d_L_law_259 h, List.forall_mem_cons.mpr ⟨fun S h => bs_iadd (Z := lw_z) hx hb d_L_law_260 h, List.forall_mem_cons.mpr ⟨fun S h => bs_sald (Z := lw_z) hx hb hX hsb hbs hsc d_L_law_261 h, List.forall_mem_cons.mpr ⟨fun S h => bs_aload_n (Z := lw_z) hx hb rfl d_L_law_262 h, List.forall_mem_cons.mpr ⟨fun S h => bs_iload (Z := lw_z) hx hb d_L_law_263 h, List.forall_mem_cons.mpr ⟨fun S h => bs_iconst (Z := lw_z) hx hb (by decide) d_L_law_265 h, List.forall_mem_cons.mpr ⟨fun S h => bs_iadd (Z := lw_z) hx hb d_L_law_266 h, List.forall_mem_cons.mpr ⟨fun S h => bs_sald (Z := lw_z) hx hb hX hsb hbs hsc d_L_law_267 h, List.forall_mem_cons.mpr ⟨fun S h => bs_callV (Z := lw_z) (C := R_M) hBg hbs hB X0 hK (cn_M_export htr 37) (bh_calR (cl_M_export 40 0 hw) (by decide) (by decide)) (hts _ (List.mem_cons_of_mem _ wd_933)) (hts _ (List.mem_cons_of_mem _ wd_934)) (hts _ (List.mem_cons_of_mem _ wd_935)) rfl rfl rfl rfl rfl (by decide) (by decide) d_L_law_268 (fun _ _ _ _ _ _ _ _ _ _ _ h => False.elim h) h, List.forall_mem_cons.mpr ⟨fun S h => bs_istore (Z := lw_z) hx hb d_L_law_271 h, List.forall_mem_cons.mpr ⟨fun S h => bs_aload_n (Z := lw_z) hx hb rfl d_L_law_273 h, List.forall_mem_cons.mpr ⟨fun S h => bs_callV (Z := lw_z) (C := R_M) hBg hbs hB X0 hK (cn_M_thrown htr 39) (bh_calR (cl_M_thrown 40 0 hw) (by decide) (by decide)) (hts _ (List.mem_cons_of_mem _ wd_907)) (hts _ (List.mem_cons_of_mem _ wd_908)) (hts _ (List.mem_cons_of_mem _ wd_909)) rfl rfl rfl rfl rfl (by decide) (by decide) d_L_law_274 (fun _ _ _ _ _ _ _ _ _ _ _ h => False.elim h) h, List.forall_mem_cons.mpr ⟨fun S h => bs_iload (Z := lw_z) hx hb d_L_law_277 h, List.forall_mem_cons.mpr ⟨fun S h => bs_icmp_eq (Z := lw_z) hx hb d_L_law_279 (by decide) h, List.forall_mem_cons.mpr ⟨fun S h => bs_iconst (Z := lw_z) hx hb (by decide) d_L_law_282 h, List.forall_mem_cons.mpr ⟨fun S h => bs_zret (Z := lw_z) hx hb hr hlocks d_L_law_283 h, List.forall_mem_cons.mpr ⟨fun S h => bs_iload (Z := lw_z) hx hb d_L_law_284 h, List.forall_mem_cons.mpr ⟨fun S h => bs_if_ne (Z := lw_z) hx hb d_L_law_286 (by decide) h, List.forall_mem_cons.mpr ⟨fun S h => bs_aload_n (Z := lw_z) hx hb rfl d_L_law_289 h, List.forall_mem_cons.mpr ⟨fun S h => bs_iconst (Z := lw_z) hx hb (by decide) d_L_law_290 h, List.forall_mem_cons.mpr ⟨fun S h => bs_Jald (Z := lw_z) hx hb ha3 d_L_law_291 h, List.forall_mem_cons.mpr ⟨fun S h => bs_iload (Z := lw_z) hx hb d_L_law_292 h, List.forall_mem_cons.mpr ⟨fun S h => bs_i2l (Z := lw_z) hx hb d_L_law_294 h, List.forall_mem_cons.mpr ⟨fun S h => bs_lcmp (Z := lw_z) hx hb d_L_law_295 h, List.forall_mem_cons.mpr ⟨fun S h => bs_if_eq (Z := lw_z) hx hb d_L_law_296 (by decide) h, List.forall_mem_cons.mpr ⟨fun S h => bs_iconst (Z := lw_z) hx hb (by decide) d_L_law_299 h, List.forall_mem_cons.mpr ⟨fun S h => bs_zret (Z := lw_z) hx hb hr hlocks d_L_law_300 h, List.forall_mem_cons.mpr ⟨fun S h => bs_goto (Z := lw_z) hx hb d_L_law_301 (by decide) h, List.forall_mem_cons.mpr ⟨fun S h => bs_aload_n (Z := lw_z) hx hb rfl d_L_law_304 h, List.forall_mem_cons.mpr ⟨fun S h => bs_aload_n (Z := lw_z) hx hb rfl d_L_law_305 h, List.forall_mem_cons.mpr ⟨fun S h => bs_iload (Z := lw_z) hx hb d_L_law_306 h, List.forall_mem_cons.mpr ⟨fun S h => bs_iconst (Z := lw_z) hx hb (by decide) d_L_law_308 h, List.forall_mem_cons.mpr ⟨fun S h => bs_iadd (Z := lw_z) hx hb d_L_law_309 h, List.forall_mem_cons.mpr ⟨fun S h => bs_sald (Z := lw_z) hx hb hX hsb hbs hsc d_L_law_310 h, List.forall_mem_cons.mpr ⟨fun S h => bs_aload_n (Z := lw_z) hx hb rfl d_L_law_311 h, List.forall_mem_cons.mpr ⟨fun S h => bs_iload (Z := lw_z) hx hb d_L_law_312 h, List.forall_mem_cons.mpr ⟨fun S h => bs_iconst (Z := lw_z) hx hb (by decide) d_L_law_314 h, List.forall_mem_cons.mpr ⟨fun S h => bs_iadd (Z := lw_z) hx hb d_L_law_315 h, List.forall_mem_cons.mpr ⟨fun S h => bs_sald (Z := lw_z) hx hb hX hsb hbs hsc d_L_law_316 h, List.forall_mem_cons.mpr ⟨fun S h => bs_aload_n (Z := lw_z) hx hb rfl d_L_law_317 h, fun _ h => absurd h List.not_mem_nil⟩⟩⟩⟩⟩⟩⟩⟩⟩⟩⟩⟩⟩⟩⟩⟩⟩⟩⟩⟩⟩⟩⟩⟩⟩⟩⟩⟩⟩⟩⟩⟩⟩⟩⟩⟩⟩⟩⟩⟩
set_option maxHeartbeats 4000000 in
set_option maxRecDepth 100000 in
theorem sl_4 {l : Launch} {G : bh_G} {base sb L : Nat} {xs : Nat → Int32} (htr : l.stackTraces = false) {p : Program} {e : Env} {s : State} {m : MethodId} {args : Array Value} {below : List Frame} {meth : Method} {c : Code} {ad0 : Nat → Nat → Nat} {M0 : bh_M} (X0 : CallFix p m c c_L_law 9 s args lw_ws "BundleHallLaw") (hr : meth.sig.returnType = some .boolean) (hlocks : meth.locks = false) (hbs : base ≤ s.heap.size) (hB : bh_Bg G base sb L xs s) :
    ∀ q ∈ T_L_law_4 xs L, ∀ (S : bh_S), q.2 S (fun y => bh_WA p l e room_1 s m args below meth c (bh_MQ below G base ad0 M0 true lw_z 5000 args s) G base 9 ad0 M0 true y.1 y.2) lw_z → bh_WA p l e room_1 s m args below meth c (bh_MQ below G base ad0 M0 true lw_z 5000 args s) G base 9 ad0 M0 true q.1 S := by
  obtain ⟨hx, hb, hml, hown, hts⟩ := id X0
  have hw : ∀ w ∈ bh_ws, w.before args s = true := fun w h => hts w (List.mem_cons_of_mem _ h)
  have hBg := bh_BgK (G := G) (base := base) (sb := sb) (L := L) (xs := xs)
  obtain ⟨hK, hAr, hen, hinj, hu1, hu2, hstr, hX, hsb, hsc, hxw, hao, hnc⟩ := id hB
  obtain ⟨ha1, ha2, ha3, ha4, ha5, ha6, ha0⟩ := bh_arr hAr
  exact List.forall_mem_cons.mpr ⟨fun S h => bs_iload (Z := lw_z) hx hb d_L_law_318 h, List.forall_mem_cons.mpr ⟨fun S h => bs_iconst (Z := lw_z) hx hb (by decide) d_L_law_320 h, List.forall_mem_cons.mpr ⟨fun S h => bs_iadd (Z := lw_z) hx hb d_L_law_321 h, List.forall_mem_cons.mpr ⟨fun S h => bs_sald (Z := lw_z) hx hb hX hsb hbs hsc d_L_law_322 h, List.forall_mem_cons.mpr ⟨fun S h => bs_aload_n (Z := lw_z) hx hb rfl d_L_law_323 h, List.forall_mem_cons.mpr ⟨fun S h => bs_iload (Z := lw_z) hx hb d_L_law_324 h, List.forall_mem_cons.mpr ⟨fun S h => bs_iconst (Z := lw_z) hx hb (by decide) d_L_law_326 h, List.forall_mem_cons.mpr ⟨fun S h => bs_iadd (Z := lw_z) hx hb d_L_law_327 h, List.forall_mem_cons.mpr ⟨fun S h => bs_sald (Z := lw_z) hx hb hX hsb hbs hsc d_L_law_328 h, List.forall_mem_cons.mpr ⟨fun S h => bs_aload_n (Z := lw_z) hx hb rfl d_L_law_329 h, List.forall_mem_cons.mpr ⟨fun S h => bs_iload (Z := lw_z) hx hb d_L_law_330 h, List.forall_mem_cons.mpr ⟨fun S h => bs_iconst (Z := lw_z) hx hb (by decide) d_L_law_332 h, List.forall_mem_cons.mpr ⟨fun S h => bs_iadd (Z := lw_z) hx hb d_L_law_333 h, List.forall_mem_cons.mpr ⟨fun S h => bs_sald (Z := lw_z) hx hb hX hsb hbs hsc d_L_law_334 h, List.forall_mem_cons.mpr ⟨fun S h => bs_if_eq (Z := lw_z) hx hb d_L_law_335 (by decide) h, List.forall_mem_cons.mpr ⟨fun S h => bs_iconst (Z := lw_z) hx hb (by decide) d_L_law_338 h, List.forall_mem_cons.mpr ⟨fun S h => bs_goto (Z := lw_z) hx hb d_L_law_339 (by decide) h, List.forall_mem_cons.mpr ⟨fun S h => bs_iconst (Z := lw_z) hx hb (by decide) d_L_law_342 h, List.forall_mem_cons.mpr ⟨fun S h => bs_aload_n (Z := lw_z) hx hb rfl d_L_law_343 h, List.forall_mem_cons.mpr ⟨fun S h => bs_callS (Z := lw_z) hBg hbs hB X0 (cn_L_need htr 36) (bh_calR (cl_L_need 40 0 hw) (by decide) (by decide)) (hts _ (List.mem_cons_of_mem _ wd_570)) (hts _ (List.mem_cons_of_mem _ wd_571)) (by decide) (by decide) d_L_law_344 (fun _ _ _ _ _ _ _ _ _ _ _ h => False.elim h) h, List.forall_mem_cons.mpr ⟨fun S h => bs_istore (Z := lw_z) hx hb d_L_law_347 h, List.forall_mem_cons.mpr ⟨fun S h => bs_aload_n (Z := lw_z) hx hb rfl d_L_law_349 h, List.forall_mem_cons.mpr ⟨fun S h => bs_aload_n (Z := lw_z) hx hb rfl d_L_law_350 h, List.forall_mem_cons.mpr ⟨fun S h => bs_iload (Z := lw_z) hx hb d_L_law_351 h, List.forall_mem_cons.mpr ⟨fun S h => bs_iconst (Z := lw_z) hx hb (by decide) d_L_law_353 h, List.forall_mem_cons.mpr ⟨fun S h => bs_iadd (Z := lw_z) hx hb d_L_law_354 h, List.forall_mem_cons.mpr ⟨fun S h => bs_sald (Z := lw_z) hx hb hX hsb hbs hsc d_L_law_355 h, List.forall_mem_cons.mpr ⟨fun S h => bs_aload_n (Z := lw_z) hx hb rfl d_L_law_356 h, List.forall_mem_cons.mpr ⟨fun S h => bs_iload (Z := lw_z) hx hb d_L_law_357 h, List.forall_mem_cons.mpr ⟨fun S h => bs_iconst (Z := lw_z) hx hb (by decide) d_L_law_359 h, List.forall_mem_cons.mpr ⟨fun S h => bs_iadd (Z := lw_z) hx hb d_L_law_360 h, List.forall_mem_cons.mpr ⟨fun S h => bs_sald (Z := lw_z) hx hb hX hsb hbs hsc d_L_law_361 h, List.forall_mem_cons.mpr ⟨fun S h => bs_aload_n (Z := lw_z) hx hb rfl d_L_law_362 h, List.forall_mem_cons.mpr ⟨fun S h => bs_iload (Z := lw_z) hx hb d_L_law_363 h, List.forall_mem_cons.mpr ⟨fun S h => bs_iconst (Z := lw_z) hx hb (by decide) d_L_law_365 h, List.forall_mem_cons.mpr ⟨fun S h => bs_iadd (Z := lw_z) hx hb d_L_law_366 h, List.forall_mem_cons.mpr ⟨fun S h => bs_sald (Z := lw_z) hx hb hX hsb hbs hsc d_L_law_367 h, List.forall_mem_cons.mpr ⟨fun S h => bs_aload_n (Z := lw_z) hx hb rfl d_L_law_368 h, List.forall_mem_cons.mpr ⟨fun S h => bs_iload (Z := lw_z) hx hb d_L_law_369 h, List.forall_mem_cons.mpr ⟨fun S h => bs_iconst (Z := lw_z) hx hb (by decide) d_L_law_371 h, fun _ h => absurd h List.not_mem_nil⟩⟩⟩⟩⟩⟩⟩⟩⟩⟩⟩⟩⟩⟩⟩⟩⟩⟩⟩⟩⟩⟩⟩⟩⟩⟩⟩⟩⟩⟩⟩⟩⟩⟩⟩⟩⟩⟩⟩⟩
set_option maxHeartbeats 4000000 in
set_option maxRecDepth 100000 in
theorem sl_5 {l : Launch} {G : bh_G} {base sb L : Nat} {xs : Nat → Int32} (htr : l.stackTraces = false) {p : Program} {e : Env} {s : State} {m : MethodId} {args : Array Value} {below : List Frame} {meth : Method} {c : Code} {ad0 : Nat → Nat → Nat} {M0 : bh_M} (X0 : CallFix p m c c_L_law 9 s args lw_ws "BundleHallLaw") (hr : meth.sig.returnType = some .boolean) (hlocks : meth.locks = false) (hbs : base ≤ s.heap.size) (hB : bh_Bg G base sb L xs s) :
    ∀ q ∈ T_L_law_5 xs L, ∀ (S : bh_S), q.2 S (fun y => bh_WA p l e room_1 s m args below meth c (bh_MQ below G base ad0 M0 true lw_z 5000 args s) G base 9 ad0 M0 true y.1 y.2) lw_z → bh_WA p l e room_1 s m args below meth c (bh_MQ below G base ad0 M0 true lw_z 5000 args s) G base 9 ad0 M0 true q.1 S := by
  obtain ⟨hx, hb, hml, hown, hts⟩ := id X0
  have hw : ∀ w ∈ bh_ws, w.before args s = true := fun w h => hts w (List.mem_cons_of_mem _ h)
  have hBg := bh_BgK (G := G) (base := base) (sb := sb) (L := L) (xs := xs)
  obtain ⟨hK, hAr, hen, hinj, hu1, hu2, hstr, hX, hsb, hsc, hxw, hao, hnc⟩ := id hB
  obtain ⟨ha1, ha2, ha3, ha4, ha5, ha6, ha0⟩ := bh_arr hAr
  exact List.forall_mem_cons.mpr ⟨fun S h => bs_iadd (Z := lw_z) hx hb d_L_law_372 h, List.forall_mem_cons.mpr ⟨fun S h => bs_sald (Z := lw_z) hx hb hX hsb hbs hsc d_L_law_373 h, List.forall_mem_cons.mpr ⟨fun S h => bs_aload_n (Z := lw_z) hx hb rfl d_L_law_374 h, List.forall_mem_cons.mpr ⟨fun S h => bs_iload (Z := lw_z) hx hb d_L_law_375 h, List.forall_mem_cons.mpr ⟨fun S h => bs_iconst (Z := lw_z) hx hb (by decide) d_L_law_377 h, List.forall_mem_cons.mpr ⟨fun S h => bs_iadd (Z := lw_z) hx hb d_L_law_378 h, List.forall_mem_cons.mpr ⟨fun S h => bs_sald (Z := lw_z) hx hb hX hsb hbs hsc d_L_law_379 h, List.forall_mem_cons.mpr ⟨fun S h => bs_if_eq (Z := lw_z) hx hb d_L_law_380 (by decide) h, List.forall_mem_cons.mpr ⟨fun S h => bs_iconst (Z := lw_z) hx hb (by decide) d_L_law_383 h, List.forall_mem_cons.mpr ⟨fun S h => bs_goto (Z := lw_z) hx hb d_L_law_384 (by decide) h, List.forall_mem_cons.mpr ⟨fun S h => bs_iconst (Z := lw_z) hx hb (by decide) d_L_law_387 h, List.forall_mem_cons.mpr ⟨fun S h => bs_callV (Z := lw_z) (C := R_M) hBg hbs hB X0 hK (cn_M_need htr 37) (bh_calR (cl_M_need 40 0 hw) (by decide) (by decide)) (hts _ (List.mem_cons_of_mem _ wd_937)) (hts _ (List.mem_cons_of_mem _ wd_938)) (hts _ (List.mem_cons_of_mem _ wd_939)) rfl rfl rfl rfl rfl (by decide) (by decide) d_L_law_388 (fun _ _ _ _ _ _ _ _ _ _ _ h => False.elim h) h, List.forall_mem_cons.mpr ⟨fun S h => bs_istore (Z := lw_z) hx hb d_L_law_391 h, List.forall_mem_cons.mpr ⟨fun S h => bs_aload_n (Z := lw_z) hx hb rfl d_L_law_393 h, List.forall_mem_cons.mpr ⟨fun S h => bs_callV (Z := lw_z) (C := R_M) hBg hbs hB X0 hK (cn_M_thrown htr 39) (bh_calR (cl_M_thrown 40 0 hw) (by decide) (by decide)) (hts _ (List.mem_cons_of_mem _ wd_907)) (hts _ (List.mem_cons_of_mem _ wd_908)) (hts _ (List.mem_cons_of_mem _ wd_909)) rfl rfl rfl rfl rfl (by decide) (by decide) d_L_law_394 (fun _ _ _ _ _ _ _ _ _ _ _ h => False.elim h) h, List.forall_mem_cons.mpr ⟨fun S h => bs_iload (Z := lw_z) hx hb d_L_law_397 h, List.forall_mem_cons.mpr ⟨fun S h => bs_icmp_eq (Z := lw_z) hx hb d_L_law_399 (by decide) h, List.forall_mem_cons.mpr ⟨fun S h => bs_iconst (Z := lw_z) hx hb (by decide) d_L_law_402 h, List.forall_mem_cons.mpr ⟨fun S h => bs_zret (Z := lw_z) hx hb hr hlocks d_L_law_403 h, List.forall_mem_cons.mpr ⟨fun S h => bs_iload (Z := lw_z) hx hb d_L_law_404 h, List.forall_mem_cons.mpr ⟨fun S h => bs_if_ne (Z := lw_z) hx hb d_L_law_406 (by decide) h, List.forall_mem_cons.mpr ⟨fun S h => bs_aload_n (Z := lw_z) hx hb rfl d_L_law_409 h, List.forall_mem_cons.mpr ⟨fun S h => bs_iconst (Z := lw_z) hx hb (by decide) d_L_law_410 h, List.forall_mem_cons.mpr ⟨fun S h => bs_Jald (Z := lw_z) hx hb ha3 d_L_law_411 h, List.forall_mem_cons.mpr ⟨fun S h => bs_iload (Z := lw_z) hx hb d_L_law_412 h, List.forall_mem_cons.mpr ⟨fun S h => bs_i2l (Z := lw_z) hx hb d_L_law_414 h, List.forall_mem_cons.mpr ⟨fun S h => bs_lcmp (Z := lw_z) hx hb d_L_law_415 h, List.forall_mem_cons.mpr ⟨fun S h => bs_if_eq (Z := lw_z) hx hb d_L_law_416 (by decide) h, List.forall_mem_cons.mpr ⟨fun S h => bs_iconst (Z := lw_z) hx hb (by decide) d_L_law_419 h, List.forall_mem_cons.mpr ⟨fun S h => bs_zret (Z := lw_z) hx hb hr hlocks d_L_law_420 h, List.forall_mem_cons.mpr ⟨fun S h => bs_goto (Z := lw_z) hx hb d_L_law_421 (by decide) h, List.forall_mem_cons.mpr ⟨fun S h => bs_aload_n (Z := lw_z) hx hb rfl d_L_law_424 h, List.forall_mem_cons.mpr ⟨fun S h => bs_aload_n (Z := lw_z) hx hb rfl d_L_law_425 h, List.forall_mem_cons.mpr ⟨fun S h => bs_iload (Z := lw_z) hx hb d_L_law_426 h, List.forall_mem_cons.mpr ⟨fun S h => bs_iconst (Z := lw_z) hx hb (by decide) d_L_law_428 h, List.forall_mem_cons.mpr ⟨fun S h => bs_iadd (Z := lw_z) hx hb d_L_law_429 h, List.forall_mem_cons.mpr ⟨fun S h => bs_sald (Z := lw_z) hx hb hX hsb hbs hsc d_L_law_430 h, List.forall_mem_cons.mpr ⟨fun S h => bs_aload_n (Z := lw_z) hx hb rfl d_L_law_431 h, List.forall_mem_cons.mpr ⟨fun S h => bs_callS (Z := lw_z) hBg hbs hB X0 (cn_L_resolve htr 7) (bh_calR (cl_L_resolve 40 0 hw) (by decide) (by decide)) (hts _ (List.mem_cons_of_mem _ wd_586)) (hts _ (List.mem_cons_of_mem _ wd_587)) (by decide) (by decide) d_L_law_432 (fun _ _ _ _ _ _ _ _ _ _ _ h => False.elim h) h, List.forall_mem_cons.mpr ⟨fun S h => bs_istore (Z := lw_z) hx hb d_L_law_435 h, fun _ h => absurd h List.not_mem_nil⟩⟩⟩⟩⟩⟩⟩⟩⟩⟩⟩⟩⟩⟩⟩⟩⟩⟩⟩⟩⟩⟩⟩⟩⟩⟩⟩⟩⟩⟩⟩⟩⟩⟩⟩⟩⟩⟩⟩⟩
set_option maxHeartbeats 4000000 in
set_option maxRecDepth 100000 in
theorem sl_6 {l : Launch} {G : bh_G} {base sb L : Nat} {xs : Nat → Int32} (htr : l.stackTraces = false) {p : Program} {e : Env} {s : State} {m : MethodId} {args : Array Value} {below : List Frame} {meth : Method} {c : Code} {ad0 : Nat → Nat → Nat} {M0 : bh_M} (X0 : CallFix p m c c_L_law 9 s args lw_ws "BundleHallLaw") (hr : meth.sig.returnType = some .boolean) (hlocks : meth.locks = false) (hbs : base ≤ s.heap.size) (hB : bh_Bg G base sb L xs s) :
    ∀ q ∈ T_L_law_6 xs L, ∀ (S : bh_S), q.2 S (fun y => bh_WA p l e room_1 s m args below meth c (bh_MQ below G base ad0 M0 true lw_z 5000 args s) G base 9 ad0 M0 true y.1 y.2) lw_z → bh_WA p l e room_1 s m args below meth c (bh_MQ below G base ad0 M0 true lw_z 5000 args s) G base 9 ad0 M0 true q.1 S := by
  obtain ⟨hx, hb, hml, hown, hts⟩ := id X0
  have hw : ∀ w ∈ bh_ws, w.before args s = true := fun w h => hts w (List.mem_cons_of_mem _ h)
  have hBg := bh_BgK (G := G) (base := base) (sb := sb) (L := L) (xs := xs)
  obtain ⟨hK, hAr, hen, hinj, hu1, hu2, hstr, hX, hsb, hsc, hxw, hao, hnc⟩ := id hB
  obtain ⟨ha1, ha2, ha3, ha4, ha5, ha6, ha0⟩ := bh_arr hAr
  exact List.forall_mem_cons.mpr ⟨fun S h => bs_aload_n (Z := lw_z) hx hb rfl d_L_law_437 h, List.forall_mem_cons.mpr ⟨fun S h => bs_aload_n (Z := lw_z) hx hb rfl d_L_law_438 h, List.forall_mem_cons.mpr ⟨fun S h => bs_iload (Z := lw_z) hx hb d_L_law_439 h, List.forall_mem_cons.mpr ⟨fun S h => bs_iconst (Z := lw_z) hx hb (by decide) d_L_law_441 h, List.forall_mem_cons.mpr ⟨fun S h => bs_iadd (Z := lw_z) hx hb d_L_law_442 h, List.forall_mem_cons.mpr ⟨fun S h => bs_sald (Z := lw_z) hx hb hX hsb hbs hsc d_L_law_443 h, List.forall_mem_cons.mpr ⟨fun S h => bs_callV (Z := lw_z) (C := R_M) hBg hbs hB X0 hK (cn_M_resolve htr 33) (bh_calR (cl_M_resolve 40 0 hw) (by decide) (by decide)) (hts _ (List.mem_cons_of_mem _ wd_941)) (hts _ (List.mem_cons_of_mem _ wd_942)) (hts _ (List.mem_cons_of_mem _ wd_943)) rfl rfl rfl rfl rfl (by decide) (by decide) d_L_law_444 (fun _ _ _ _ _ _ _ _ _ _ _ h => False.elim h) h, List.forall_mem_cons.mpr ⟨fun S h => bs_istore (Z := lw_z) hx hb d_L_law_447 h, List.forall_mem_cons.mpr ⟨fun S h => bs_aload_n (Z := lw_z) hx hb rfl d_L_law_449 h, List.forall_mem_cons.mpr ⟨fun S h => bs_callV (Z := lw_z) (C := R_M) hBg hbs hB X0 hK (cn_M_thrown htr 39) (bh_calR (cl_M_thrown 40 0 hw) (by decide) (by decide)) (hts _ (List.mem_cons_of_mem _ wd_907)) (hts _ (List.mem_cons_of_mem _ wd_908)) (hts _ (List.mem_cons_of_mem _ wd_909)) rfl rfl rfl rfl rfl (by decide) (by decide) d_L_law_450 (fun _ _ _ _ _ _ _ _ _ _ _ h => False.elim h) h, List.forall_mem_cons.mpr ⟨fun S h => bs_iload (Z := lw_z) hx hb d_L_law_453 h, List.forall_mem_cons.mpr ⟨fun S h => bs_icmp_eq (Z := lw_z) hx hb d_L_law_455 (by decide) h, List.forall_mem_cons.mpr ⟨fun S h => bs_iconst (Z := lw_z) hx hb (by decide) d_L_law_458 h, List.forall_mem_cons.mpr ⟨fun S h => bs_zret (Z := lw_z) hx hb hr hlocks d_L_law_459 h, List.forall_mem_cons.mpr ⟨fun S h => bs_iload (Z := lw_z) hx hb d_L_law_460 h, List.forall_mem_cons.mpr ⟨fun S h => bs_if_ne (Z := lw_z) hx hb d_L_law_462 (by decide) h, List.forall_mem_cons.mpr ⟨fun S h => bs_aload_n (Z := lw_z) hx hb rfl d_L_law_465 h, List.forall_mem_cons.mpr ⟨fun S h => bs_iconst (Z := lw_z) hx hb (by decide) d_L_law_466 h, List.forall_mem_cons.mpr ⟨fun S h => bs_Jald (Z := lw_z) hx hb ha3 d_L_law_467 h, List.forall_mem_cons.mpr ⟨fun S h => bs_iload (Z := lw_z) hx hb d_L_law_468 h, List.forall_mem_cons.mpr ⟨fun S h => bs_i2l (Z := lw_z) hx hb d_L_law_470 h, List.forall_mem_cons.mpr ⟨fun S h => bs_lcmp (Z := lw_z) hx hb d_L_law_471 h, List.forall_mem_cons.mpr ⟨fun S h => bs_if_eq (Z := lw_z) hx hb d_L_law_472 (by decide) h, List.forall_mem_cons.mpr ⟨fun S h => bs_iconst (Z := lw_z) hx hb (by decide) d_L_law_475 h, List.forall_mem_cons.mpr ⟨fun S h => bs_zret (Z := lw_z) hx hb hr hlocks d_L_law_476 h, List.forall_mem_cons.mpr ⟨fun S h => bs_goto (Z := lw_z) hx hb d_L_law_477 (by decide) h, List.forall_mem_cons.mpr ⟨fun S h => bs_aload_n (Z := lw_z) hx hb rfl d_L_law_480 h, List.forall_mem_cons.mpr ⟨fun S h => bs_aload_n (Z := lw_z) hx hb rfl d_L_law_481 h, List.forall_mem_cons.mpr ⟨fun S h => bs_iload (Z := lw_z) hx hb d_L_law_482 h, List.forall_mem_cons.mpr ⟨fun S h => bs_iconst (Z := lw_z) hx hb (by decide) d_L_law_484 h, List.forall_mem_cons.mpr ⟨fun S h => bs_iadd (Z := lw_z) hx hb d_L_law_485 h, List.forall_mem_cons.mpr ⟨fun S h => bs_sald (Z := lw_z) hx hb hX hsb hbs hsc d_L_law_486 h, List.forall_mem_cons.mpr ⟨fun S h => bs_aload_n (Z := lw_z) hx hb rfl d_L_law_487 h, List.forall_mem_cons.mpr ⟨fun S h => bs_callS (Z := lw_z) hBg hbs hB X0 (cn_L_start htr 6) (bh_calR (cl_L_start 40 0 hw) (by decide) (by decide)) (hts _ (List.mem_cons_of_mem _ wd_617)) (hts _ (List.mem_cons_of_mem _ wd_618)) (by decide) (by decide) d_L_law_488 (fun _ _ _ _ _ _ _ _ _ _ _ h => False.elim h) h, List.forall_mem_cons.mpr ⟨fun S h => bs_istore (Z := lw_z) hx hb d_L_law_491 h, List.forall_mem_cons.mpr ⟨fun S h => bs_aload_n (Z := lw_z) hx hb rfl d_L_law_493 h, List.forall_mem_cons.mpr ⟨fun S h => bs_aload_n (Z := lw_z) hx hb rfl d_L_law_494 h, List.forall_mem_cons.mpr ⟨fun S h => bs_iload (Z := lw_z) hx hb d_L_law_495 h, List.forall_mem_cons.mpr ⟨fun S h => bs_iconst (Z := lw_z) hx hb (by decide) d_L_law_497 h, List.forall_mem_cons.mpr ⟨fun S h => bs_iadd (Z := lw_z) hx hb d_L_law_498 h, fun _ h => absurd h List.not_mem_nil⟩⟩⟩⟩⟩⟩⟩⟩⟩⟩⟩⟩⟩⟩⟩⟩⟩⟩⟩⟩⟩⟩⟩⟩⟩⟩⟩⟩⟩⟩⟩⟩⟩⟩⟩⟩⟩⟩⟩⟩
set_option maxHeartbeats 4000000 in
set_option maxRecDepth 100000 in
theorem sl_7 {l : Launch} {G : bh_G} {base sb L : Nat} {xs : Nat → Int32} (htr : l.stackTraces = false) {p : Program} {e : Env} {s : State} {m : MethodId} {args : Array Value} {below : List Frame} {meth : Method} {c : Code} {ad0 : Nat → Nat → Nat} {M0 : bh_M} (X0 : CallFix p m c c_L_law 9 s args lw_ws "BundleHallLaw") (hr : meth.sig.returnType = some .boolean) (hlocks : meth.locks = false) (hbs : base ≤ s.heap.size) (hB : bh_Bg G base sb L xs s) :
    ∀ q ∈ T_L_law_7 xs L, ∀ (S : bh_S), q.2 S (fun y => bh_WA p l e room_1 s m args below meth c (bh_MQ below G base ad0 M0 true lw_z 5000 args s) G base 9 ad0 M0 true y.1 y.2) lw_z → bh_WA p l e room_1 s m args below meth c (bh_MQ below G base ad0 M0 true lw_z 5000 args s) G base 9 ad0 M0 true q.1 S := by
  obtain ⟨hx, hb, hml, hown, hts⟩ := id X0
  have hw : ∀ w ∈ bh_ws, w.before args s = true := fun w h => hts w (List.mem_cons_of_mem _ h)
  have hBg := bh_BgK (G := G) (base := base) (sb := sb) (L := L) (xs := xs)
  obtain ⟨hK, hAr, hen, hinj, hu1, hu2, hstr, hX, hsb, hsc, hxw, hao, hnc⟩ := id hB
  obtain ⟨ha1, ha2, ha3, ha4, ha5, ha6, ha0⟩ := bh_arr hAr
  exact List.forall_mem_cons.mpr ⟨fun S h => bs_sald (Z := lw_z) hx hb hX hsb hbs hsc d_L_law_499 h, List.forall_mem_cons.mpr ⟨fun S h => bs_callV (Z := lw_z) (C := R_M) hBg hbs hB X0 hK (cn_M_start htr 32) (bh_calR (cl_M_start 40 0 hw) (by decide) (by decide)) (hts _ (List.mem_cons_of_mem _ wd_1010)) (hts _ (List.mem_cons_of_mem _ wd_1011)) (hts _ (List.mem_cons_of_mem _ wd_1012)) rfl rfl rfl rfl rfl (by decide) (by decide) d_L_law_500 (fun _ _ _ _ _ _ _ _ _ _ _ h => False.elim h) h, List.forall_mem_cons.mpr ⟨fun S h => bs_istore (Z := lw_z) hx hb d_L_law_503 h, List.forall_mem_cons.mpr ⟨fun S h => bs_aload_n (Z := lw_z) hx hb rfl d_L_law_505 h, List.forall_mem_cons.mpr ⟨fun S h => bs_callV (Z := lw_z) (C := R_M) hBg hbs hB X0 hK (cn_M_thrown htr 39) (bh_calR (cl_M_thrown 40 0 hw) (by decide) (by decide)) (hts _ (List.mem_cons_of_mem _ wd_907)) (hts _ (List.mem_cons_of_mem _ wd_908)) (hts _ (List.mem_cons_of_mem _ wd_909)) rfl rfl rfl rfl rfl (by decide) (by decide) d_L_law_506 (fun _ _ _ _ _ _ _ _ _ _ _ h => False.elim h) h, List.forall_mem_cons.mpr ⟨fun S h => bs_iload (Z := lw_z) hx hb d_L_law_509 h, List.forall_mem_cons.mpr ⟨fun S h => bs_icmp_eq (Z := lw_z) hx hb d_L_law_511 (by decide) h, List.forall_mem_cons.mpr ⟨fun S h => bs_iconst (Z := lw_z) hx hb (by decide) d_L_law_514 h, List.forall_mem_cons.mpr ⟨fun S h => bs_zret (Z := lw_z) hx hb hr hlocks d_L_law_515 h, List.forall_mem_cons.mpr ⟨fun S h => bs_iload (Z := lw_z) hx hb d_L_law_516 h, List.forall_mem_cons.mpr ⟨fun S h => bs_if_ne (Z := lw_z) hx hb d_L_law_518 (by decide) h, List.forall_mem_cons.mpr ⟨fun S h => bs_aload_n (Z := lw_z) hx hb rfl d_L_law_521 h, List.forall_mem_cons.mpr ⟨fun S h => bs_iconst (Z := lw_z) hx hb (by decide) d_L_law_522 h, List.forall_mem_cons.mpr ⟨fun S h => bs_Jald (Z := lw_z) hx hb ha3 d_L_law_523 h, List.forall_mem_cons.mpr ⟨fun S h => bs_iload (Z := lw_z) hx hb d_L_law_524 h, List.forall_mem_cons.mpr ⟨fun S h => bs_i2l (Z := lw_z) hx hb d_L_law_526 h, List.forall_mem_cons.mpr ⟨fun S h => bs_lcmp (Z := lw_z) hx hb d_L_law_527 h, List.forall_mem_cons.mpr ⟨fun S h => bs_if_eq (Z := lw_z) hx hb d_L_law_528 (by decide) h, List.forall_mem_cons.mpr ⟨fun S h => bs_iconst (Z := lw_z) hx hb (by decide) d_L_law_531 h, List.forall_mem_cons.mpr ⟨fun S h => bs_zret (Z := lw_z) hx hb hr hlocks d_L_law_532 h, List.forall_mem_cons.mpr ⟨fun S h => bs_goto (Z := lw_z) hx hb d_L_law_533 (by decide) h, List.forall_mem_cons.mpr ⟨fun S h => bs_aload_n (Z := lw_z) hx hb rfl d_L_law_536 h, List.forall_mem_cons.mpr ⟨fun S h => bs_aload_n (Z := lw_z) hx hb rfl d_L_law_537 h, List.forall_mem_cons.mpr ⟨fun S h => bs_iload (Z := lw_z) hx hb d_L_law_538 h, List.forall_mem_cons.mpr ⟨fun S h => bs_iconst (Z := lw_z) hx hb (by decide) d_L_law_540 h, List.forall_mem_cons.mpr ⟨fun S h => bs_iadd (Z := lw_z) hx hb d_L_law_541 h, List.forall_mem_cons.mpr ⟨fun S h => bs_sald (Z := lw_z) hx hb hX hsb hbs hsc d_L_law_542 h, List.forall_mem_cons.mpr ⟨fun S h => bs_aload_n (Z := lw_z) hx hb rfl d_L_law_543 h, List.forall_mem_cons.mpr ⟨fun S h => bs_callS (Z := lw_z) hBg hbs hB X0 (cn_L_stop htr 35) (bh_calR (cl_L_stop 40 0 hw) (by decide) (by decide)) (hts _ (List.mem_cons_of_mem _ wd_624)) (hts _ (List.mem_cons_of_mem _ wd_625)) (by decide) (by decide) d_L_law_544 (fun _ _ _ _ _ _ _ _ _ _ _ h => False.elim h) h, List.forall_mem_cons.mpr ⟨fun S h => bs_istore (Z := lw_z) hx hb d_L_law_547 h, List.forall_mem_cons.mpr ⟨fun S h => bs_aload_n (Z := lw_z) hx hb rfl d_L_law_549 h, List.forall_mem_cons.mpr ⟨fun S h => bs_aload_n (Z := lw_z) hx hb rfl d_L_law_550 h, List.forall_mem_cons.mpr ⟨fun S h => bs_iload (Z := lw_z) hx hb d_L_law_551 h, List.forall_mem_cons.mpr ⟨fun S h => bs_iconst (Z := lw_z) hx hb (by decide) d_L_law_553 h, List.forall_mem_cons.mpr ⟨fun S h => bs_iadd (Z := lw_z) hx hb d_L_law_554 h, List.forall_mem_cons.mpr ⟨fun S h => bs_sald (Z := lw_z) hx hb hX hsb hbs hsc d_L_law_555 h, List.forall_mem_cons.mpr ⟨fun S h => bs_callV (Z := lw_z) (C := R_M) hBg hbs hB X0 hK (cn_M_stop htr 36) (bh_calR (cl_M_stop 40 0 hw) (by decide) (by decide)) (hts _ (List.mem_cons_of_mem _ wd_1034)) (hts _ (List.mem_cons_of_mem _ wd_1035)) (hts _ (List.mem_cons_of_mem _ wd_1036)) rfl rfl rfl rfl rfl (by decide) (by decide) d_L_law_556 (fun _ _ _ _ _ _ _ _ _ _ _ h => False.elim h) h, List.forall_mem_cons.mpr ⟨fun S h => bs_istore (Z := lw_z) hx hb d_L_law_559 h, List.forall_mem_cons.mpr ⟨fun S h => bs_aload_n (Z := lw_z) hx hb rfl d_L_law_561 h, List.forall_mem_cons.mpr ⟨fun S h => bs_callV (Z := lw_z) (C := R_M) hBg hbs hB X0 hK (cn_M_thrown htr 39) (bh_calR (cl_M_thrown 40 0 hw) (by decide) (by decide)) (hts _ (List.mem_cons_of_mem _ wd_907)) (hts _ (List.mem_cons_of_mem _ wd_908)) (hts _ (List.mem_cons_of_mem _ wd_909)) rfl rfl rfl rfl rfl (by decide) (by decide) d_L_law_562 (fun _ _ _ _ _ _ _ _ _ _ _ h => False.elim h) h, fun _ h => absurd h List.not_mem_nil⟩⟩⟩⟩⟩⟩⟩⟩⟩⟩⟩⟩⟩⟩⟩⟩⟩⟩⟩⟩⟩⟩⟩⟩⟩⟩⟩⟩⟩⟩⟩⟩⟩⟩⟩⟩⟩⟩⟩⟩
set_option maxHeartbeats 4000000 in
set_option maxRecDepth 100000 in
theorem sl_8 {l : Launch} {G : bh_G} {base sb L : Nat} {xs : Nat → Int32} (htr : l.stackTraces = false) {p : Program} {e : Env} {s : State} {m : MethodId} {args : Array Value} {below : List Frame} {meth : Method} {c : Code} {ad0 : Nat → Nat → Nat} {M0 : bh_M} (X0 : CallFix p m c c_L_law 9 s args lw_ws "BundleHallLaw") (hr : meth.sig.returnType = some .boolean) (hlocks : meth.locks = false) (hbs : base ≤ s.heap.size) (hB : bh_Bg G base sb L xs s) :
    ∀ q ∈ T_L_law_8 xs L, ∀ (S : bh_S), q.2 S (fun y => bh_WA p l e room_1 s m args below meth c (bh_MQ below G base ad0 M0 true lw_z 5000 args s) G base 9 ad0 M0 true y.1 y.2) lw_z → bh_WA p l e room_1 s m args below meth c (bh_MQ below G base ad0 M0 true lw_z 5000 args s) G base 9 ad0 M0 true q.1 S := by
  obtain ⟨hx, hb, hml, hown, hts⟩ := id X0
  have hw : ∀ w ∈ bh_ws, w.before args s = true := fun w h => hts w (List.mem_cons_of_mem _ h)
  have hBg := bh_BgK (G := G) (base := base) (sb := sb) (L := L) (xs := xs)
  obtain ⟨hK, hAr, hen, hinj, hu1, hu2, hstr, hX, hsb, hsc, hxw, hao, hnc⟩ := id hB
  obtain ⟨ha1, ha2, ha3, ha4, ha5, ha6, ha0⟩ := bh_arr hAr
  exact List.forall_mem_cons.mpr ⟨fun S h => bs_iload (Z := lw_z) hx hb d_L_law_565 h, List.forall_mem_cons.mpr ⟨fun S h => bs_icmp_eq (Z := lw_z) hx hb d_L_law_567 (by decide) h, List.forall_mem_cons.mpr ⟨fun S h => bs_iconst (Z := lw_z) hx hb (by decide) d_L_law_570 h, List.forall_mem_cons.mpr ⟨fun S h => bs_zret (Z := lw_z) hx hb hr hlocks d_L_law_571 h, List.forall_mem_cons.mpr ⟨fun S h => bs_iload (Z := lw_z) hx hb d_L_law_572 h, List.forall_mem_cons.mpr ⟨fun S h => bs_if_ne (Z := lw_z) hx hb d_L_law_574 (by decide) h, List.forall_mem_cons.mpr ⟨fun S h => bs_aload_n (Z := lw_z) hx hb rfl d_L_law_577 h, List.forall_mem_cons.mpr ⟨fun S h => bs_iconst (Z := lw_z) hx hb (by decide) d_L_law_578 h, List.forall_mem_cons.mpr ⟨fun S h => bs_Jald (Z := lw_z) hx hb ha3 d_L_law_579 h, List.forall_mem_cons.mpr ⟨fun S h => bs_iload (Z := lw_z) hx hb d_L_law_580 h, List.forall_mem_cons.mpr ⟨fun S h => bs_i2l (Z := lw_z) hx hb d_L_law_582 h, List.forall_mem_cons.mpr ⟨fun S h => bs_lcmp (Z := lw_z) hx hb d_L_law_583 h, List.forall_mem_cons.mpr ⟨fun S h => bs_if_eq (Z := lw_z) hx hb d_L_law_584 (by decide) h, List.forall_mem_cons.mpr ⟨fun S h => bs_iconst (Z := lw_z) hx hb (by decide) d_L_law_587 h, List.forall_mem_cons.mpr ⟨fun S h => bs_zret (Z := lw_z) hx hb hr hlocks d_L_law_588 h, List.forall_mem_cons.mpr ⟨fun S h => bs_goto (Z := lw_z) hx hb d_L_law_589 (by decide) h, List.forall_mem_cons.mpr ⟨fun S h => bs_aload_n (Z := lw_z) hx hb rfl d_L_law_592 h, List.forall_mem_cons.mpr ⟨fun S h => bs_aload_n (Z := lw_z) hx hb rfl d_L_law_593 h, List.forall_mem_cons.mpr ⟨fun S h => bs_iload (Z := lw_z) hx hb d_L_law_594 h, List.forall_mem_cons.mpr ⟨fun S h => bs_iconst (Z := lw_z) hx hb (by decide) d_L_law_596 h, List.forall_mem_cons.mpr ⟨fun S h => bs_iadd (Z := lw_z) hx hb d_L_law_597 h, List.forall_mem_cons.mpr ⟨fun S h => bs_sald (Z := lw_z) hx hb hX hsb hbs hsc d_L_law_598 h, List.forall_mem_cons.mpr ⟨fun S h => bs_aload_n (Z := lw_z) hx hb rfl d_L_law_599 h, List.forall_mem_cons.mpr ⟨fun S h => bs_callS (Z := lw_z) hBg hbs hB X0 (cn_L_level htr 6) (bh_calR (cl_L_level 40 0 hw) (by decide) (by decide)) (hts _ (List.mem_cons_of_mem _ wd_635)) (hts _ (List.mem_cons_of_mem _ wd_636)) (by decide) (by decide) d_L_law_600 (fun _ _ _ _ _ _ _ _ _ _ _ h => False.elim h) h, List.forall_mem_cons.mpr ⟨fun S h => bs_istore (Z := lw_z) hx hb d_L_law_603 h, List.forall_mem_cons.mpr ⟨fun S h => bs_aload_n (Z := lw_z) hx hb rfl d_L_law_605 h, List.forall_mem_cons.mpr ⟨fun S h => bs_aload_n (Z := lw_z) hx hb rfl d_L_law_606 h, List.forall_mem_cons.mpr ⟨fun S h => bs_iload (Z := lw_z) hx hb d_L_law_607 h, List.forall_mem_cons.mpr ⟨fun S h => bs_iconst (Z := lw_z) hx hb (by decide) d_L_law_609 h, List.forall_mem_cons.mpr ⟨fun S h => bs_iadd (Z := lw_z) hx hb d_L_law_610 h, List.forall_mem_cons.mpr ⟨fun S h => bs_sald (Z := lw_z) hx hb hX hsb hbs hsc d_L_law_611 h, List.forall_mem_cons.mpr ⟨fun S h => bs_callV (Z := lw_z) (C := R_M) hBg hbs hB X0 hK (cn_M_level htr 32) (bh_calR (cl_M_level 40 0 hw) (by decide) (by decide)) (hts _ (List.mem_cons_of_mem _ wd_1050)) (hts _ (List.mem_cons_of_mem _ wd_1051)) (hts _ (List.mem_cons_of_mem _ wd_1052)) rfl rfl rfl rfl rfl (by decide) (by decide) d_L_law_612 (fun _ _ _ _ _ _ _ _ _ _ _ h => False.elim h) h, List.forall_mem_cons.mpr ⟨fun S h => bs_istore (Z := lw_z) hx hb d_L_law_615 h, List.forall_mem_cons.mpr ⟨fun S h => bs_aload_n (Z := lw_z) hx hb rfl d_L_law_617 h, List.forall_mem_cons.mpr ⟨fun S h => bs_callV (Z := lw_z) (C := R_M) hBg hbs hB X0 hK (cn_M_thrown htr 39) (bh_calR (cl_M_thrown 40 0 hw) (by decide) (by decide)) (hts _ (List.mem_cons_of_mem _ wd_907)) (hts _ (List.mem_cons_of_mem _ wd_908)) (hts _ (List.mem_cons_of_mem _ wd_909)) rfl rfl rfl rfl rfl (by decide) (by decide) d_L_law_618 (fun _ _ _ _ _ _ _ _ _ _ _ h => False.elim h) h, List.forall_mem_cons.mpr ⟨fun S h => bs_iload (Z := lw_z) hx hb d_L_law_621 h, List.forall_mem_cons.mpr ⟨fun S h => bs_icmp_eq (Z := lw_z) hx hb d_L_law_623 (by decide) h, List.forall_mem_cons.mpr ⟨fun S h => bs_iconst (Z := lw_z) hx hb (by decide) d_L_law_626 h, List.forall_mem_cons.mpr ⟨fun S h => bs_zret (Z := lw_z) hx hb hr hlocks d_L_law_627 h, List.forall_mem_cons.mpr ⟨fun S h => bs_iload (Z := lw_z) hx hb d_L_law_628 h, fun _ h => absurd h List.not_mem_nil⟩⟩⟩⟩⟩⟩⟩⟩⟩⟩⟩⟩⟩⟩⟩⟩⟩⟩⟩⟩⟩⟩⟩⟩⟩⟩⟩⟩⟩⟩⟩⟩⟩⟩⟩⟩⟩⟩⟩⟩
set_option maxHeartbeats 4000000 in
set_option maxRecDepth 100000 in
theorem sl_9 {l : Launch} {G : bh_G} {base sb L : Nat} {xs : Nat → Int32} (htr : l.stackTraces = false) {p : Program} {e : Env} {s : State} {m : MethodId} {args : Array Value} {below : List Frame} {meth : Method} {c : Code} {ad0 : Nat → Nat → Nat} {M0 : bh_M} (X0 : CallFix p m c c_L_law 9 s args lw_ws "BundleHallLaw") (hr : meth.sig.returnType = some .boolean) (hlocks : meth.locks = false) (hbs : base ≤ s.heap.size) (hB : bh_Bg G base sb L xs s) :
    ∀ q ∈ T_L_law_9 xs L, ∀ (S : bh_S), q.2 S (fun y => bh_WA p l e room_1 s m args below meth c (bh_MQ below G base ad0 M0 true lw_z 5000 args s) G base 9 ad0 M0 true y.1 y.2) lw_z → bh_WA p l e room_1 s m args below meth c (bh_MQ below G base ad0 M0 true lw_z 5000 args s) G base 9 ad0 M0 true q.1 S := by
  obtain ⟨hx, hb, hml, hown, hts⟩ := id X0
  have hw : ∀ w ∈ bh_ws, w.before args s = true := fun w h => hts w (List.mem_cons_of_mem _ h)
  have hBg := bh_BgK (G := G) (base := base) (sb := sb) (L := L) (xs := xs)
  obtain ⟨hK, hAr, hen, hinj, hu1, hu2, hstr, hX, hsb, hsc, hxw, hao, hnc⟩ := id hB
  obtain ⟨ha1, ha2, ha3, ha4, ha5, ha6, ha0⟩ := bh_arr hAr
  exact List.forall_mem_cons.mpr ⟨fun S h => bs_if_ne (Z := lw_z) hx hb d_L_law_630 (by decide) h, List.forall_mem_cons.mpr ⟨fun S h => bs_aload_n (Z := lw_z) hx hb rfl d_L_law_633 h, List.forall_mem_cons.mpr ⟨fun S h => bs_iconst (Z := lw_z) hx hb (by decide) d_L_law_634 h, List.forall_mem_cons.mpr ⟨fun S h => bs_Jald (Z := lw_z) hx hb ha3 d_L_law_635 h, List.forall_mem_cons.mpr ⟨fun S h => bs_iload (Z := lw_z) hx hb d_L_law_636 h, List.forall_mem_cons.mpr ⟨fun S h => bs_i2l (Z := lw_z) hx hb d_L_law_638 h, List.forall_mem_cons.mpr ⟨fun S h => bs_lcmp (Z := lw_z) hx hb d_L_law_639 h, List.forall_mem_cons.mpr ⟨fun S h => bs_if_eq (Z := lw_z) hx hb d_L_law_640 (by decide) h, List.forall_mem_cons.mpr ⟨fun S h => bs_iconst (Z := lw_z) hx hb (by decide) d_L_law_643 h, List.forall_mem_cons.mpr ⟨fun S h => bs_zret (Z := lw_z) hx hb hr hlocks d_L_law_644 h, List.forall_mem_cons.mpr ⟨fun S h => bs_goto (Z := lw_z) hx hb d_L_law_645 (by decide) h, List.forall_mem_cons.mpr ⟨fun S h => bs_aload_n (Z := lw_z) hx hb rfl d_L_law_648 h, List.forall_mem_cons.mpr ⟨fun S h => bs_aload_n (Z := lw_z) hx hb rfl d_L_law_649 h, List.forall_mem_cons.mpr ⟨fun S h => bs_iload (Z := lw_z) hx hb d_L_law_650 h, List.forall_mem_cons.mpr ⟨fun S h => bs_iconst (Z := lw_z) hx hb (by decide) d_L_law_652 h, List.forall_mem_cons.mpr ⟨fun S h => bs_iadd (Z := lw_z) hx hb d_L_law_653 h, List.forall_mem_cons.mpr ⟨fun S h => bs_sald (Z := lw_z) hx hb hX hsb hbs hsc d_L_law_654 h, List.forall_mem_cons.mpr ⟨fun S h => bs_aload_n (Z := lw_z) hx hb rfl d_L_law_655 h, List.forall_mem_cons.mpr ⟨fun S h => bs_callS (Z := lw_z) hBg hbs hB X0 (cn_L_uninstall htr 34) (bh_calR (cl_L_uninstall 40 0 hw) (by decide) (by decide)) (hts _ (List.mem_cons_of_mem _ wd_650)) (hts _ (List.mem_cons_of_mem _ wd_651)) (by decide) (by decide) d_L_law_656 (fun _ _ _ _ _ _ _ _ _ _ _ h => False.elim h) h, List.forall_mem_cons.mpr ⟨fun S h => bs_istore (Z := lw_z) hx hb d_L_law_659 h, List.forall_mem_cons.mpr ⟨fun S h => bs_aload_n (Z := lw_z) hx hb rfl d_L_law_661 h, List.forall_mem_cons.mpr ⟨fun S h => bs_aload_n (Z := lw_z) hx hb rfl d_L_law_662 h, List.forall_mem_cons.mpr ⟨fun S h => bs_iload (Z := lw_z) hx hb d_L_law_663 h, List.forall_mem_cons.mpr ⟨fun S h => bs_iconst (Z := lw_z) hx hb (by decide) d_L_law_665 h, List.forall_mem_cons.mpr ⟨fun S h => bs_iadd (Z := lw_z) hx hb d_L_law_666 h, List.forall_mem_cons.mpr ⟨fun S h => bs_sald (Z := lw_z) hx hb hX hsb hbs hsc d_L_law_667 h, List.forall_mem_cons.mpr ⟨fun S h => bs_callV (Z := lw_z) (C := R_M) hBg hbs hB X0 hK (cn_M_uninstall htr 35) (bh_calR (cl_M_uninstall 40 0 hw) (by decide) (by decide)) (hts _ (List.mem_cons_of_mem _ wd_1054)) (hts _ (List.mem_cons_of_mem _ wd_1055)) (hts _ (List.mem_cons_of_mem _ wd_1056)) rfl rfl rfl rfl rfl (by decide) (by decide) d_L_law_668 (fun _ _ _ _ _ _ _ _ _ _ _ h => False.elim h) h, List.forall_mem_cons.mpr ⟨fun S h => bs_istore (Z := lw_z) hx hb d_L_law_671 h, List.forall_mem_cons.mpr ⟨fun S h => bs_aload_n (Z := lw_z) hx hb rfl d_L_law_673 h, List.forall_mem_cons.mpr ⟨fun S h => bs_callV (Z := lw_z) (C := R_M) hBg hbs hB X0 hK (cn_M_thrown htr 39) (bh_calR (cl_M_thrown 40 0 hw) (by decide) (by decide)) (hts _ (List.mem_cons_of_mem _ wd_907)) (hts _ (List.mem_cons_of_mem _ wd_908)) (hts _ (List.mem_cons_of_mem _ wd_909)) rfl rfl rfl rfl rfl (by decide) (by decide) d_L_law_674 (fun _ _ _ _ _ _ _ _ _ _ _ h => False.elim h) h, List.forall_mem_cons.mpr ⟨fun S h => bs_iload (Z := lw_z) hx hb d_L_law_677 h, List.forall_mem_cons.mpr ⟨fun S h => bs_icmp_eq (Z := lw_z) hx hb d_L_law_679 (by decide) h, List.forall_mem_cons.mpr ⟨fun S h => bs_iconst (Z := lw_z) hx hb (by decide) d_L_law_682 h, List.forall_mem_cons.mpr ⟨fun S h => bs_zret (Z := lw_z) hx hb hr hlocks d_L_law_683 h, List.forall_mem_cons.mpr ⟨fun S h => bs_iload (Z := lw_z) hx hb d_L_law_684 h, List.forall_mem_cons.mpr ⟨fun S h => bs_if_ne (Z := lw_z) hx hb d_L_law_686 (by decide) h, List.forall_mem_cons.mpr ⟨fun S h => bs_aload_n (Z := lw_z) hx hb rfl d_L_law_689 h, List.forall_mem_cons.mpr ⟨fun S h => bs_iconst (Z := lw_z) hx hb (by decide) d_L_law_690 h, List.forall_mem_cons.mpr ⟨fun S h => bs_Jald (Z := lw_z) hx hb ha3 d_L_law_691 h, List.forall_mem_cons.mpr ⟨fun S h => bs_iload (Z := lw_z) hx hb d_L_law_692 h, fun _ h => absurd h List.not_mem_nil⟩⟩⟩⟩⟩⟩⟩⟩⟩⟩⟩⟩⟩⟩⟩⟩⟩⟩⟩⟩⟩⟩⟩⟩⟩⟩⟩⟩⟩⟩⟩⟩⟩⟩⟩⟩⟩⟩⟩⟩
set_option maxHeartbeats 4000000 in
set_option maxRecDepth 100000 in
theorem sl_10 {l : Launch} {G : bh_G} {base sb L : Nat} {xs : Nat → Int32} (htr : l.stackTraces = false) {p : Program} {e : Env} {s : State} {m : MethodId} {args : Array Value} {below : List Frame} {meth : Method} {c : Code} {ad0 : Nat → Nat → Nat} {M0 : bh_M} (X0 : CallFix p m c c_L_law 9 s args lw_ws "BundleHallLaw") (hr : meth.sig.returnType = some .boolean) (hlocks : meth.locks = false) (hbs : base ≤ s.heap.size) (hB : bh_Bg G base sb L xs s) :
    ∀ q ∈ T_L_law_10 xs L, ∀ (S : bh_S), q.2 S (fun y => bh_WA p l e room_1 s m args below meth c (bh_MQ below G base ad0 M0 true lw_z 5000 args s) G base 9 ad0 M0 true y.1 y.2) lw_z → bh_WA p l e room_1 s m args below meth c (bh_MQ below G base ad0 M0 true lw_z 5000 args s) G base 9 ad0 M0 true q.1 S := by
  obtain ⟨hx, hb, hml, hown, hts⟩ := id X0
  have hw : ∀ w ∈ bh_ws, w.before args s = true := fun w h => hts w (List.mem_cons_of_mem _ h)
  have hBg := bh_BgK (G := G) (base := base) (sb := sb) (L := L) (xs := xs)
  obtain ⟨hK, hAr, hen, hinj, hu1, hu2, hstr, hX, hsb, hsc, hxw, hao, hnc⟩ := id hB
  obtain ⟨ha1, ha2, ha3, ha4, ha5, ha6, ha0⟩ := bh_arr hAr
  exact List.forall_mem_cons.mpr ⟨fun S h => bs_i2l (Z := lw_z) hx hb d_L_law_694 h, List.forall_mem_cons.mpr ⟨fun S h => bs_lcmp (Z := lw_z) hx hb d_L_law_695 h, List.forall_mem_cons.mpr ⟨fun S h => bs_if_eq (Z := lw_z) hx hb d_L_law_696 (by decide) h, List.forall_mem_cons.mpr ⟨fun S h => bs_iconst (Z := lw_z) hx hb (by decide) d_L_law_699 h, List.forall_mem_cons.mpr ⟨fun S h => bs_zret (Z := lw_z) hx hb hr hlocks d_L_law_700 h, List.forall_mem_cons.mpr ⟨fun S h => bs_goto (Z := lw_z) hx hb d_L_law_701 (by decide) h, List.forall_mem_cons.mpr ⟨fun S h => bs_aload_n (Z := lw_z) hx hb rfl d_L_law_704 h, List.forall_mem_cons.mpr ⟨fun S h => bs_aload_n (Z := lw_z) hx hb rfl d_L_law_705 h, List.forall_mem_cons.mpr ⟨fun S h => bs_iload (Z := lw_z) hx hb d_L_law_706 h, List.forall_mem_cons.mpr ⟨fun S h => bs_iconst (Z := lw_z) hx hb (by decide) d_L_law_708 h, List.forall_mem_cons.mpr ⟨fun S h => bs_iadd (Z := lw_z) hx hb d_L_law_709 h, List.forall_mem_cons.mpr ⟨fun S h => bs_sald (Z := lw_z) hx hb hX hsb hbs hsc d_L_law_710 h, List.forall_mem_cons.mpr ⟨fun S h => bs_aload_n (Z := lw_z) hx hb rfl d_L_law_711 h, List.forall_mem_cons.mpr ⟨fun S h => bs_callS (Z := lw_z) hBg hbs hB X0 (cn_L_update htr 34) (bh_calR (cl_L_update 40 0 hw) (by decide) (by decide)) (hts _ (List.mem_cons_of_mem _ wd_670)) (hts _ (List.mem_cons_of_mem _ wd_671)) (by decide) (by decide) d_L_law_712 (fun _ _ _ _ _ _ _ _ _ _ _ h => False.elim h) h, List.forall_mem_cons.mpr ⟨fun S h => bs_istore (Z := lw_z) hx hb d_L_law_715 h, List.forall_mem_cons.mpr ⟨fun S h => bs_aload_n (Z := lw_z) hx hb rfl d_L_law_717 h, List.forall_mem_cons.mpr ⟨fun S h => bs_aload_n (Z := lw_z) hx hb rfl d_L_law_718 h, List.forall_mem_cons.mpr ⟨fun S h => bs_iload (Z := lw_z) hx hb d_L_law_719 h, List.forall_mem_cons.mpr ⟨fun S h => bs_iconst (Z := lw_z) hx hb (by decide) d_L_law_721 h, List.forall_mem_cons.mpr ⟨fun S h => bs_iadd (Z := lw_z) hx hb d_L_law_722 h, List.forall_mem_cons.mpr ⟨fun S h => bs_sald (Z := lw_z) hx hb hX hsb hbs hsc d_L_law_723 h, List.forall_mem_cons.mpr ⟨fun S h => bs_callV (Z := lw_z) (C := R_M) hBg hbs hB X0 hK (cn_M_update htr 35) (bh_calR (cl_M_update 40 0 hw) (by decide) (by decide)) (hts _ (List.mem_cons_of_mem _ wd_1066)) (hts _ (List.mem_cons_of_mem _ wd_1067)) (hts _ (List.mem_cons_of_mem _ wd_1068)) rfl rfl rfl rfl rfl (by decide) (by decide) d_L_law_724 (fun _ _ _ _ _ _ _ _ _ _ _ h => False.elim h) h, List.forall_mem_cons.mpr ⟨fun S h => bs_istore (Z := lw_z) hx hb d_L_law_727 h, List.forall_mem_cons.mpr ⟨fun S h => bs_aload_n (Z := lw_z) hx hb rfl d_L_law_729 h, List.forall_mem_cons.mpr ⟨fun S h => bs_callV (Z := lw_z) (C := R_M) hBg hbs hB X0 hK (cn_M_thrown htr 39) (bh_calR (cl_M_thrown 40 0 hw) (by decide) (by decide)) (hts _ (List.mem_cons_of_mem _ wd_907)) (hts _ (List.mem_cons_of_mem _ wd_908)) (hts _ (List.mem_cons_of_mem _ wd_909)) rfl rfl rfl rfl rfl (by decide) (by decide) d_L_law_730 (fun _ _ _ _ _ _ _ _ _ _ _ h => False.elim h) h, List.forall_mem_cons.mpr ⟨fun S h => bs_iload (Z := lw_z) hx hb d_L_law_733 h, List.forall_mem_cons.mpr ⟨fun S h => bs_icmp_eq (Z := lw_z) hx hb d_L_law_735 (by decide) h, List.forall_mem_cons.mpr ⟨fun S h => bs_iconst (Z := lw_z) hx hb (by decide) d_L_law_738 h, List.forall_mem_cons.mpr ⟨fun S h => bs_zret (Z := lw_z) hx hb hr hlocks d_L_law_739 h, List.forall_mem_cons.mpr ⟨fun S h => bs_iload (Z := lw_z) hx hb d_L_law_740 h, List.forall_mem_cons.mpr ⟨fun S h => bs_if_ne (Z := lw_z) hx hb d_L_law_742 (by decide) h, List.forall_mem_cons.mpr ⟨fun S h => bs_aload_n (Z := lw_z) hx hb rfl d_L_law_745 h, List.forall_mem_cons.mpr ⟨fun S h => bs_iconst (Z := lw_z) hx hb (by decide) d_L_law_746 h, List.forall_mem_cons.mpr ⟨fun S h => bs_Jald (Z := lw_z) hx hb ha3 d_L_law_747 h, List.forall_mem_cons.mpr ⟨fun S h => bs_iload (Z := lw_z) hx hb d_L_law_748 h, List.forall_mem_cons.mpr ⟨fun S h => bs_i2l (Z := lw_z) hx hb d_L_law_750 h, List.forall_mem_cons.mpr ⟨fun S h => bs_lcmp (Z := lw_z) hx hb d_L_law_751 h, List.forall_mem_cons.mpr ⟨fun S h => bs_if_eq (Z := lw_z) hx hb d_L_law_752 (by decide) h, List.forall_mem_cons.mpr ⟨fun S h => bs_iconst (Z := lw_z) hx hb (by decide) d_L_law_755 h, List.forall_mem_cons.mpr ⟨fun S h => bs_zret (Z := lw_z) hx hb hr hlocks d_L_law_756 h, fun _ h => absurd h List.not_mem_nil⟩⟩⟩⟩⟩⟩⟩⟩⟩⟩⟩⟩⟩⟩⟩⟩⟩⟩⟩⟩⟩⟩⟩⟩⟩⟩⟩⟩⟩⟩⟩⟩⟩⟩⟩⟩⟩⟩⟩⟩
set_option maxHeartbeats 4000000 in
set_option maxRecDepth 100000 in
theorem sl_11 {l : Launch} {G : bh_G} {base sb L : Nat} {xs : Nat → Int32} (htr : l.stackTraces = false) {p : Program} {e : Env} {s : State} {m : MethodId} {args : Array Value} {below : List Frame} {meth : Method} {c : Code} {ad0 : Nat → Nat → Nat} {M0 : bh_M} (X0 : CallFix p m c c_L_law 9 s args lw_ws "BundleHallLaw") (hr : meth.sig.returnType = some .boolean) (hlocks : meth.locks = false) (hbs : base ≤ s.heap.size) (hB : bh_Bg G base sb L xs s) :
    ∀ q ∈ T_L_law_11 xs L, ∀ (S : bh_S), q.2 S (fun y => bh_WA p l e room_1 s m args below meth c (bh_MQ below G base ad0 M0 true lw_z 5000 args s) G base 9 ad0 M0 true y.1 y.2) lw_z → bh_WA p l e room_1 s m args below meth c (bh_MQ below G base ad0 M0 true lw_z 5000 args s) G base 9 ad0 M0 true q.1 S := by
  obtain ⟨hx, hb, hml, hown, hts⟩ := id X0
  have hw : ∀ w ∈ bh_ws, w.before args s = true := fun w h => hts w (List.mem_cons_of_mem _ h)
  have hBg := bh_BgK (G := G) (base := base) (sb := sb) (L := L) (xs := xs)
  obtain ⟨hK, hAr, hen, hinj, hu1, hu2, hstr, hX, hsb, hsc, hxw, hao, hnc⟩ := id hB
  obtain ⟨ha1, ha2, ha3, ha4, ha5, ha6, ha0⟩ := bh_arr hAr
  exact List.forall_mem_cons.mpr ⟨fun S h => bs_goto (Z := lw_z) hx hb d_L_law_757 (by decide) h, List.forall_mem_cons.mpr ⟨fun S h => bs_aload_n (Z := lw_z) hx hb rfl d_L_law_760 h, List.forall_mem_cons.mpr ⟨fun S h => bs_callV (Z := lw_z) (C := R_H) hBg hbs hB X0 hK (cn_H_refresh htr 7) (bh_calR (cl_H_refresh 40 0 hw) (by decide) (by decide)) (hts _ (List.mem_cons_of_mem _ wd_240)) (hts _ (List.mem_cons_of_mem _ wd_241)) (hts _ (List.mem_cons_of_mem _ wd_242)) rfl rfl rfl rfl rfl (by decide) (by decide) d_L_law_761 (fun _ _ _ _ _ _ _ _ _ _ _ h => False.elim h) h, List.forall_mem_cons.mpr ⟨fun S h => bs_aload_n (Z := lw_z) hx hb rfl d_L_law_764 h, List.forall_mem_cons.mpr ⟨fun S h => bs_callV (Z := lw_z) (C := R_M) hBg hbs hB X0 hK (cn_M_refresh htr 32) (bh_calR (cl_M_refresh 40 0 hw) (by decide) (by decide)) (hts _ (List.mem_cons_of_mem _ wd_1070)) (hts _ (List.mem_cons_of_mem _ wd_1071)) (hts _ (List.mem_cons_of_mem _ wd_1072)) rfl rfl rfl rfl rfl (by decide) (by decide) d_L_law_765 (fun _ _ _ _ _ _ _ _ _ _ _ h => False.elim h) h, List.forall_mem_cons.mpr ⟨fun S h => bs_icmp_eq (Z := lw_z) hx hb d_L_law_768 (by decide) h, List.forall_mem_cons.mpr ⟨fun S h => bs_iconst (Z := lw_z) hx hb (by decide) d_L_law_771 h, List.forall_mem_cons.mpr ⟨fun S h => bs_zret (Z := lw_z) hx hb hr hlocks d_L_law_772 h, List.forall_mem_cons.mpr ⟨fun S h => bs_aload_n (Z := lw_z) hx hb rfl d_L_law_773 h, List.forall_mem_cons.mpr ⟨fun S h => bs_aload_n (Z := lw_z) hx hb rfl d_L_law_774 h, List.forall_mem_cons.mpr ⟨fun S h => bs_iload (Z := lw_z) hx hb d_L_law_775 h, List.forall_mem_cons.mpr ⟨fun S h => bs_iconst (Z := lw_z) hx hb (by decide) d_L_law_777 h, List.forall_mem_cons.mpr ⟨fun S h => bs_iadd (Z := lw_z) hx hb d_L_law_778 h, List.forall_mem_cons.mpr ⟨fun S h => bs_sald (Z := lw_z) hx hb hX hsb hbs hsc d_L_law_779 h, List.forall_mem_cons.mpr ⟨fun S h => bs_aload_n (Z := lw_z) hx hb rfl d_L_law_780 h, List.forall_mem_cons.mpr ⟨fun S h => bs_iload (Z := lw_z) hx hb d_L_law_781 h, List.forall_mem_cons.mpr ⟨fun S h => bs_iconst (Z := lw_z) hx hb (by decide) d_L_law_783 h, List.forall_mem_cons.mpr ⟨fun S h => bs_iadd (Z := lw_z) hx hb d_L_law_784 h, List.forall_mem_cons.mpr ⟨fun S h => bs_sald (Z := lw_z) hx hb hX hsb hbs hsc d_L_law_785 h, List.forall_mem_cons.mpr ⟨fun S h => bs_aload_n (Z := lw_z) hx hb rfl d_L_law_786 h, List.forall_mem_cons.mpr ⟨fun S h => bs_iload (Z := lw_z) hx hb d_L_law_787 h, List.forall_mem_cons.mpr ⟨fun S h => bs_iconst (Z := lw_z) hx hb (by decide) d_L_law_789 h, List.forall_mem_cons.mpr ⟨fun S h => bs_iadd (Z := lw_z) hx hb d_L_law_790 h, List.forall_mem_cons.mpr ⟨fun S h => bs_sald (Z := lw_z) hx hb hX hsb hbs hsc d_L_law_791 h, List.forall_mem_cons.mpr ⟨fun S h => bs_i2d (Z := lw_z) hx hb d_L_law_792 h, List.forall_mem_cons.mpr ⟨fun S h => bs_ldcd (Z := lw_z) hx hb hown (hts _ (List.mem_cons_of_mem _ wd_1117)) d_L_law_793 h, List.forall_mem_cons.mpr ⟨fun S h => bs_dmul (Z := lw_z) hx hb d_L_law_796 h, List.forall_mem_cons.mpr ⟨fun S h => bs_aload_n (Z := lw_z) hx hb rfl d_L_law_797 h, List.forall_mem_cons.mpr ⟨fun S h => bs_callS (Z := lw_z) hBg hbs hB X0 (cn_L_register htr 35) (bh_calR (cl_L_register 40 0 hw) (by decide) (by decide)) (hts _ (List.mem_cons_of_mem _ wd_678)) (hts _ (List.mem_cons_of_mem _ wd_679)) (by decide) (by decide) d_L_law_798 (fun _ _ _ _ _ _ _ _ _ _ _ h => False.elim h) h, List.forall_mem_cons.mpr ⟨fun S h => bs_istore (Z := lw_z) hx hb d_L_law_801 h, List.forall_mem_cons.mpr ⟨fun S h => bs_aload_n (Z := lw_z) hx hb rfl d_L_law_803 h, List.forall_mem_cons.mpr ⟨fun S h => bs_aload_n (Z := lw_z) hx hb rfl d_L_law_804 h, List.forall_mem_cons.mpr ⟨fun S h => bs_iload (Z := lw_z) hx hb d_L_law_805 h, List.forall_mem_cons.mpr ⟨fun S h => bs_iconst (Z := lw_z) hx hb (by decide) d_L_law_807 h, List.forall_mem_cons.mpr ⟨fun S h => bs_iadd (Z := lw_z) hx hb d_L_law_808 h, List.forall_mem_cons.mpr ⟨fun S h => bs_sald (Z := lw_z) hx hb hX hsb hbs hsc d_L_law_809 h, List.forall_mem_cons.mpr ⟨fun S h => bs_aload_n (Z := lw_z) hx hb rfl d_L_law_810 h, List.forall_mem_cons.mpr ⟨fun S h => bs_iload (Z := lw_z) hx hb d_L_law_811 h, List.forall_mem_cons.mpr ⟨fun S h => bs_iconst (Z := lw_z) hx hb (by decide) d_L_law_813 h, List.forall_mem_cons.mpr ⟨fun S h => bs_iadd (Z := lw_z) hx hb d_L_law_814 h, fun _ h => absurd h List.not_mem_nil⟩⟩⟩⟩⟩⟩⟩⟩⟩⟩⟩⟩⟩⟩⟩⟩⟩⟩⟩⟩⟩⟩⟩⟩⟩⟩⟩⟩⟩⟩⟩⟩⟩⟩⟩⟩⟩⟩⟩⟩
set_option maxHeartbeats 4000000 in
set_option maxRecDepth 100000 in
theorem sl_12 {l : Launch} {G : bh_G} {base sb L : Nat} {xs : Nat → Int32} (htr : l.stackTraces = false) {p : Program} {e : Env} {s : State} {m : MethodId} {args : Array Value} {below : List Frame} {meth : Method} {c : Code} {ad0 : Nat → Nat → Nat} {M0 : bh_M} (X0 : CallFix p m c c_L_law 9 s args lw_ws "BundleHallLaw") (hr : meth.sig.returnType = some .boolean) (hlocks : meth.locks = false) (hbs : base ≤ s.heap.size) (hB : bh_Bg G base sb L xs s) :
    ∀ q ∈ T_L_law_12 xs L, ∀ (S : bh_S), q.2 S (fun y => bh_WA p l e room_1 s m args below meth c (bh_MQ below G base ad0 M0 true lw_z 5000 args s) G base 9 ad0 M0 true y.1 y.2) lw_z → bh_WA p l e room_1 s m args below meth c (bh_MQ below G base ad0 M0 true lw_z 5000 args s) G base 9 ad0 M0 true q.1 S := by
  obtain ⟨hx, hb, hml, hown, hts⟩ := id X0
  have hw : ∀ w ∈ bh_ws, w.before args s = true := fun w h => hts w (List.mem_cons_of_mem _ h)
  have hBg := bh_BgK (G := G) (base := base) (sb := sb) (L := L) (xs := xs)
  obtain ⟨hK, hAr, hen, hinj, hu1, hu2, hstr, hX, hsb, hsc, hxw, hao, hnc⟩ := id hB
  obtain ⟨ha1, ha2, ha3, ha4, ha5, ha6, ha0⟩ := bh_arr hAr
  exact List.forall_mem_cons.mpr ⟨fun S h => bs_sald (Z := lw_z) hx hb hX hsb hbs hsc d_L_law_815 h, List.forall_mem_cons.mpr ⟨fun S h => bs_aload_n (Z := lw_z) hx hb rfl d_L_law_816 h, List.forall_mem_cons.mpr ⟨fun S h => bs_iload (Z := lw_z) hx hb d_L_law_817 h, List.forall_mem_cons.mpr ⟨fun S h => bs_iconst (Z := lw_z) hx hb (by decide) d_L_law_819 h, List.forall_mem_cons.mpr ⟨fun S h => bs_iadd (Z := lw_z) hx hb d_L_law_820 h, List.forall_mem_cons.mpr ⟨fun S h => bs_sald (Z := lw_z) hx hb hX hsb hbs hsc d_L_law_821 h, List.forall_mem_cons.mpr ⟨fun S h => bs_i2d (Z := lw_z) hx hb d_L_law_822 h, List.forall_mem_cons.mpr ⟨fun S h => bs_ldcd (Z := lw_z) hx hb hown (hts _ (List.mem_cons_of_mem _ wd_1117)) d_L_law_823 h, List.forall_mem_cons.mpr ⟨fun S h => bs_dmul (Z := lw_z) hx hb d_L_law_826 h, List.forall_mem_cons.mpr ⟨fun S h => bs_callV (Z := lw_z) (C := R_M) hBg hbs hB X0 hK (cn_M_register htr 37) (bh_calR (cl_M_register 40 0 hw) (by decide) (by decide)) (hts _ (List.mem_cons_of_mem _ wd_1079)) (hts _ (List.mem_cons_of_mem _ wd_1080)) (hts _ (List.mem_cons_of_mem _ wd_1081)) rfl rfl rfl rfl rfl (by decide) (by decide) d_L_law_827 (fun _ _ _ _ _ _ _ _ _ _ _ h => False.elim h) h, List.forall_mem_cons.mpr ⟨fun S h => bs_istore (Z := lw_z) hx hb d_L_law_830 h, List.forall_mem_cons.mpr ⟨fun S h => bs_aload_n (Z := lw_z) hx hb rfl d_L_law_832 h, List.forall_mem_cons.mpr ⟨fun S h => bs_callV (Z := lw_z) (C := R_M) hBg hbs hB X0 hK (cn_M_thrown htr 39) (bh_calR (cl_M_thrown 40 0 hw) (by decide) (by decide)) (hts _ (List.mem_cons_of_mem _ wd_907)) (hts _ (List.mem_cons_of_mem _ wd_908)) (hts _ (List.mem_cons_of_mem _ wd_909)) rfl rfl rfl rfl rfl (by decide) (by decide) d_L_law_833 (fun _ _ _ _ _ _ _ _ _ _ _ h => False.elim h) h, List.forall_mem_cons.mpr ⟨fun S h => bs_iload (Z := lw_z) hx hb d_L_law_836 h, List.forall_mem_cons.mpr ⟨fun S h => bs_icmp_eq (Z := lw_z) hx hb d_L_law_838 (by decide) h, List.forall_mem_cons.mpr ⟨fun S h => bs_iconst (Z := lw_z) hx hb (by decide) d_L_law_841 h, List.forall_mem_cons.mpr ⟨fun S h => bs_zret (Z := lw_z) hx hb hr hlocks d_L_law_842 h, List.forall_mem_cons.mpr ⟨fun S h => bs_iload (Z := lw_z) hx hb d_L_law_843 h, List.forall_mem_cons.mpr ⟨fun S h => bs_if_ne (Z := lw_z) hx hb d_L_law_845 (by decide) h, List.forall_mem_cons.mpr ⟨fun S h => bs_aload_n (Z := lw_z) hx hb rfl d_L_law_848 h, List.forall_mem_cons.mpr ⟨fun S h => bs_iconst (Z := lw_z) hx hb (by decide) d_L_law_849 h, List.forall_mem_cons.mpr ⟨fun S h => bs_Jald (Z := lw_z) hx hb ha3 d_L_law_850 h, List.forall_mem_cons.mpr ⟨fun S h => bs_iload (Z := lw_z) hx hb d_L_law_851 h, List.forall_mem_cons.mpr ⟨fun S h => bs_i2l (Z := lw_z) hx hb d_L_law_853 h, List.forall_mem_cons.mpr ⟨fun S h => bs_lcmp (Z := lw_z) hx hb d_L_law_854 h, List.forall_mem_cons.mpr ⟨fun S h => bs_if_eq (Z := lw_z) hx hb d_L_law_855 (by decide) h, List.forall_mem_cons.mpr ⟨fun S h => bs_iconst (Z := lw_z) hx hb (by decide) d_L_law_858 h, List.forall_mem_cons.mpr ⟨fun S h => bs_zret (Z := lw_z) hx hb hr hlocks d_L_law_859 h, List.forall_mem_cons.mpr ⟨fun S h => bs_goto (Z := lw_z) hx hb d_L_law_860 (by decide) h, List.forall_mem_cons.mpr ⟨fun S h => bs_aload_n (Z := lw_z) hx hb rfl d_L_law_863 h, List.forall_mem_cons.mpr ⟨fun S h => bs_aload_n (Z := lw_z) hx hb rfl d_L_law_864 h, List.forall_mem_cons.mpr ⟨fun S h => bs_iload (Z := lw_z) hx hb d_L_law_865 h, List.forall_mem_cons.mpr ⟨fun S h => bs_iconst (Z := lw_z) hx hb (by decide) d_L_law_867 h, List.forall_mem_cons.mpr ⟨fun S h => bs_iadd (Z := lw_z) hx hb d_L_law_868 h, List.forall_mem_cons.mpr ⟨fun S h => bs_sald (Z := lw_z) hx hb hX hsb hbs hsc d_L_law_869 h, List.forall_mem_cons.mpr ⟨fun S h => bs_aload_n (Z := lw_z) hx hb rfl d_L_law_870 h, List.forall_mem_cons.mpr ⟨fun S h => bs_iload (Z := lw_z) hx hb d_L_law_871 h, List.forall_mem_cons.mpr ⟨fun S h => bs_iconst (Z := lw_z) hx hb (by decide) d_L_law_873 h, List.forall_mem_cons.mpr ⟨fun S h => bs_iadd (Z := lw_z) hx hb d_L_law_874 h, List.forall_mem_cons.mpr ⟨fun S h => bs_sald (Z := lw_z) hx hb hX hsb hbs hsc d_L_law_875 h, fun _ h => absurd h List.not_mem_nil⟩⟩⟩⟩⟩⟩⟩⟩⟩⟩⟩⟩⟩⟩⟩⟩⟩⟩⟩⟩⟩⟩⟩⟩⟩⟩⟩⟩⟩⟩⟩⟩⟩⟩⟩⟩⟩⟩⟩⟩
set_option maxHeartbeats 4000000 in
set_option maxRecDepth 100000 in
theorem sl_13 {l : Launch} {G : bh_G} {base sb L : Nat} {xs : Nat → Int32} (htr : l.stackTraces = false) {p : Program} {e : Env} {s : State} {m : MethodId} {args : Array Value} {below : List Frame} {meth : Method} {c : Code} {ad0 : Nat → Nat → Nat} {M0 : bh_M} (X0 : CallFix p m c c_L_law 9 s args lw_ws "BundleHallLaw") (hr : meth.sig.returnType = some .boolean) (hlocks : meth.locks = false) (hbs : base ≤ s.heap.size) (hB : bh_Bg G base sb L xs s) :
    ∀ q ∈ T_L_law_13 xs L, ∀ (S : bh_S), q.2 S (fun y => bh_WA p l e room_1 s m args below meth c (bh_MQ below G base ad0 M0 true lw_z 5000 args s) G base 9 ad0 M0 true y.1 y.2) lw_z → bh_WA p l e room_1 s m args below meth c (bh_MQ below G base ad0 M0 true lw_z 5000 args s) G base 9 ad0 M0 true q.1 S := by
  obtain ⟨hx, hb, hml, hown, hts⟩ := id X0
  have hw : ∀ w ∈ bh_ws, w.before args s = true := fun w h => hts w (List.mem_cons_of_mem _ h)
  have hBg := bh_BgK (G := G) (base := base) (sb := sb) (L := L) (xs := xs)
  obtain ⟨hK, hAr, hen, hinj, hu1, hu2, hstr, hX, hsb, hsc, hxw, hao, hnc⟩ := id hB
  obtain ⟨ha1, ha2, ha3, ha4, ha5, ha6, ha0⟩ := bh_arr hAr
  exact List.forall_mem_cons.mpr ⟨fun S h => bs_aload_n (Z := lw_z) hx hb rfl d_L_law_876 h, List.forall_mem_cons.mpr ⟨fun S h => bs_callS (Z := lw_z) hBg hbs hB X0 (cn_L_get htr 36) (bh_calR (cl_L_get 40 0 hw) (by decide) (by decide)) (hts _ (List.mem_cons_of_mem _ wd_696)) (hts _ (List.mem_cons_of_mem _ wd_697)) (by decide) (by decide) d_L_law_877 (fun _ _ _ _ _ _ _ _ _ _ _ h => False.elim h) h, List.forall_mem_cons.mpr ⟨fun S h => bs_istore (Z := lw_z) hx hb d_L_law_880 h, List.forall_mem_cons.mpr ⟨fun S h => bs_aload_n (Z := lw_z) hx hb rfl d_L_law_882 h, List.forall_mem_cons.mpr ⟨fun S h => bs_aload_n (Z := lw_z) hx hb rfl d_L_law_883 h, List.forall_mem_cons.mpr ⟨fun S h => bs_iload (Z := lw_z) hx hb d_L_law_884 h, List.forall_mem_cons.mpr ⟨fun S h => bs_iconst (Z := lw_z) hx hb (by decide) d_L_law_886 h, List.forall_mem_cons.mpr ⟨fun S h => bs_iadd (Z := lw_z) hx hb d_L_law_887 h, List.forall_mem_cons.mpr ⟨fun S h => bs_sald (Z := lw_z) hx hb hX hsb hbs hsc d_L_law_888 h, List.forall_mem_cons.mpr ⟨fun S h => bs_aload_n (Z := lw_z) hx hb rfl d_L_law_889 h, List.forall_mem_cons.mpr ⟨fun S h => bs_iload (Z := lw_z) hx hb d_L_law_890 h, List.forall_mem_cons.mpr ⟨fun S h => bs_iconst (Z := lw_z) hx hb (by decide) d_L_law_892 h, List.forall_mem_cons.mpr ⟨fun S h => bs_iadd (Z := lw_z) hx hb d_L_law_893 h, List.forall_mem_cons.mpr ⟨fun S h => bs_sald (Z := lw_z) hx hb hX hsb hbs hsc d_L_law_894 h, List.forall_mem_cons.mpr ⟨fun S h => bs_callV (Z := lw_z) (C := R_M) hBg hbs hB X0 hK (cn_M_get htr 37) (bh_calR (cl_M_get 40 0 hw) (by decide) (by decide)) (hts _ (List.mem_cons_of_mem _ wd_1085)) (hts _ (List.mem_cons_of_mem _ wd_1086)) (hts _ (List.mem_cons_of_mem _ wd_1087)) rfl rfl rfl rfl rfl (by decide) (by decide) d_L_law_895 (fun _ _ _ _ _ _ _ _ _ _ _ h => False.elim h) h, List.forall_mem_cons.mpr ⟨fun S h => bs_istore (Z := lw_z) hx hb d_L_law_898 h, List.forall_mem_cons.mpr ⟨fun S h => bs_aload_n (Z := lw_z) hx hb rfl d_L_law_900 h, List.forall_mem_cons.mpr ⟨fun S h => bs_callV (Z := lw_z) (C := R_M) hBg hbs hB X0 hK (cn_M_thrown htr 39) (bh_calR (cl_M_thrown 40 0 hw) (by decide) (by decide)) (hts _ (List.mem_cons_of_mem _ wd_907)) (hts _ (List.mem_cons_of_mem _ wd_908)) (hts _ (List.mem_cons_of_mem _ wd_909)) rfl rfl rfl rfl rfl (by decide) (by decide) d_L_law_901 (fun _ _ _ _ _ _ _ _ _ _ _ h => False.elim h) h, List.forall_mem_cons.mpr ⟨fun S h => bs_iload (Z := lw_z) hx hb d_L_law_904 h, List.forall_mem_cons.mpr ⟨fun S h => bs_icmp_eq (Z := lw_z) hx hb d_L_law_906 (by decide) h, List.forall_mem_cons.mpr ⟨fun S h => bs_iconst (Z := lw_z) hx hb (by decide) d_L_law_909 h, List.forall_mem_cons.mpr ⟨fun S h => bs_zret (Z := lw_z) hx hb hr hlocks d_L_law_910 h, List.forall_mem_cons.mpr ⟨fun S h => bs_iload (Z := lw_z) hx hb d_L_law_911 h, List.forall_mem_cons.mpr ⟨fun S h => bs_if_ne (Z := lw_z) hx hb d_L_law_913 (by decide) h, List.forall_mem_cons.mpr ⟨fun S h => bs_aload_n (Z := lw_z) hx hb rfl d_L_law_916 h, List.forall_mem_cons.mpr ⟨fun S h => bs_iconst (Z := lw_z) hx hb (by decide) d_L_law_917 h, List.forall_mem_cons.mpr ⟨fun S h => bs_Jald (Z := lw_z) hx hb ha3 d_L_law_918 h, List.forall_mem_cons.mpr ⟨fun S h => bs_iload (Z := lw_z) hx hb d_L_law_919 h, List.forall_mem_cons.mpr ⟨fun S h => bs_i2l (Z := lw_z) hx hb d_L_law_921 h, List.forall_mem_cons.mpr ⟨fun S h => bs_lcmp (Z := lw_z) hx hb d_L_law_922 h, List.forall_mem_cons.mpr ⟨fun S h => bs_if_eq (Z := lw_z) hx hb d_L_law_923 (by decide) h, List.forall_mem_cons.mpr ⟨fun S h => bs_iconst (Z := lw_z) hx hb (by decide) d_L_law_926 h, List.forall_mem_cons.mpr ⟨fun S h => bs_zret (Z := lw_z) hx hb hr hlocks d_L_law_927 h, List.forall_mem_cons.mpr ⟨fun S h => bs_goto (Z := lw_z) hx hb d_L_law_928 (by decide) h, List.forall_mem_cons.mpr ⟨fun S h => bs_aload_n (Z := lw_z) hx hb rfl d_L_law_931 h, List.forall_mem_cons.mpr ⟨fun S h => bs_aload_n (Z := lw_z) hx hb rfl d_L_law_932 h, List.forall_mem_cons.mpr ⟨fun S h => bs_iload (Z := lw_z) hx hb d_L_law_933 h, List.forall_mem_cons.mpr ⟨fun S h => bs_iconst (Z := lw_z) hx hb (by decide) d_L_law_935 h, List.forall_mem_cons.mpr ⟨fun S h => bs_iadd (Z := lw_z) hx hb d_L_law_936 h, List.forall_mem_cons.mpr ⟨fun S h => bs_sald (Z := lw_z) hx hb hX hsb hbs hsc d_L_law_937 h, fun _ h => absurd h List.not_mem_nil⟩⟩⟩⟩⟩⟩⟩⟩⟩⟩⟩⟩⟩⟩⟩⟩⟩⟩⟩⟩⟩⟩⟩⟩⟩⟩⟩⟩⟩⟩⟩⟩⟩⟩⟩⟩⟩⟩⟩⟩
set_option maxHeartbeats 4000000 in
set_option maxRecDepth 100000 in
theorem sl_14 {l : Launch} {G : bh_G} {base sb L : Nat} {xs : Nat → Int32} (htr : l.stackTraces = false) {p : Program} {e : Env} {s : State} {m : MethodId} {args : Array Value} {below : List Frame} {meth : Method} {c : Code} {ad0 : Nat → Nat → Nat} {M0 : bh_M} (X0 : CallFix p m c c_L_law 9 s args lw_ws "BundleHallLaw") (hr : meth.sig.returnType = some .boolean) (hlocks : meth.locks = false) (hbs : base ≤ s.heap.size) (hB : bh_Bg G base sb L xs s) :
    ∀ q ∈ T_L_law_14 xs L, ∀ (S : bh_S), q.2 S (fun y => bh_WA p l e room_1 s m args below meth c (bh_MQ below G base ad0 M0 true lw_z 5000 args s) G base 9 ad0 M0 true y.1 y.2) lw_z → bh_WA p l e room_1 s m args below meth c (bh_MQ below G base ad0 M0 true lw_z 5000 args s) G base 9 ad0 M0 true q.1 S := by
  obtain ⟨hx, hb, hml, hown, hts⟩ := id X0
  have hw : ∀ w ∈ bh_ws, w.before args s = true := fun w h => hts w (List.mem_cons_of_mem _ h)
  have hBg := bh_BgK (G := G) (base := base) (sb := sb) (L := L) (xs := xs)
  obtain ⟨hK, hAr, hen, hinj, hu1, hu2, hstr, hX, hsb, hsc, hxw, hao, hnc⟩ := id hB
  obtain ⟨ha1, ha2, ha3, ha4, ha5, ha6, ha0⟩ := bh_arr hAr
  exact List.forall_mem_cons.mpr ⟨fun S h => bs_aload_n (Z := lw_z) hx hb rfl d_L_law_938 h, List.forall_mem_cons.mpr ⟨fun S h => bs_iload (Z := lw_z) hx hb d_L_law_939 h, List.forall_mem_cons.mpr ⟨fun S h => bs_iconst (Z := lw_z) hx hb (by decide) d_L_law_941 h, List.forall_mem_cons.mpr ⟨fun S h => bs_iadd (Z := lw_z) hx hb d_L_law_942 h, List.forall_mem_cons.mpr ⟨fun S h => bs_sald (Z := lw_z) hx hb hX hsb hbs hsc d_L_law_943 h, List.forall_mem_cons.mpr ⟨fun S h => bs_aload_n (Z := lw_z) hx hb rfl d_L_law_944 h, List.forall_mem_cons.mpr ⟨fun S h => bs_callS (Z := lw_z) hBg hbs hB X0 (cn_L_giveBack htr 36) (bh_calR (cl_L_giveBack 40 0 hw) (by decide) (by decide)) (hts _ (List.mem_cons_of_mem _ wd_704)) (hts _ (List.mem_cons_of_mem _ wd_705)) (by decide) (by decide) d_L_law_945 (fun _ _ _ _ _ _ _ _ _ _ _ h => False.elim h) h, List.forall_mem_cons.mpr ⟨fun S h => bs_istore (Z := lw_z) hx hb d_L_law_948 h, List.forall_mem_cons.mpr ⟨fun S h => bs_aload_n (Z := lw_z) hx hb rfl d_L_law_950 h, List.forall_mem_cons.mpr ⟨fun S h => bs_aload_n (Z := lw_z) hx hb rfl d_L_law_951 h, List.forall_mem_cons.mpr ⟨fun S h => bs_iload (Z := lw_z) hx hb d_L_law_952 h, List.forall_mem_cons.mpr ⟨fun S h => bs_iconst (Z := lw_z) hx hb (by decide) d_L_law_954 h, List.forall_mem_cons.mpr ⟨fun S h => bs_iadd (Z := lw_z) hx hb d_L_law_955 h, List.forall_mem_cons.mpr ⟨fun S h => bs_sald (Z := lw_z) hx hb hX hsb hbs hsc d_L_law_956 h, List.forall_mem_cons.mpr ⟨fun S h => bs_aload_n (Z := lw_z) hx hb rfl d_L_law_957 h, List.forall_mem_cons.mpr ⟨fun S h => bs_iload (Z := lw_z) hx hb d_L_law_958 h, List.forall_mem_cons.mpr ⟨fun S h => bs_iconst (Z := lw_z) hx hb (by decide) d_L_law_960 h, List.forall_mem_cons.mpr ⟨fun S h => bs_iadd (Z := lw_z) hx hb d_L_law_961 h, List.forall_mem_cons.mpr ⟨fun S h => bs_sald (Z := lw_z) hx hb hX hsb hbs hsc d_L_law_962 h, List.forall_mem_cons.mpr ⟨fun S h => bs_callV (Z := lw_z) (C := R_M) hBg hbs hB X0 hK (cn_M_giveBack htr 37) (bh_calR (cl_M_giveBack 40 0 hw) (by decide) (by decide)) (hts _ (List.mem_cons_of_mem _ wd_1089)) (hts _ (List.mem_cons_of_mem _ wd_1090)) (hts _ (List.mem_cons_of_mem _ wd_1091)) rfl rfl rfl rfl rfl (by decide) (by decide) d_L_law_963 (fun _ _ _ _ _ _ _ _ _ _ _ h => False.elim h) h, List.forall_mem_cons.mpr ⟨fun S h => bs_istore (Z := lw_z) hx hb d_L_law_966 h, List.forall_mem_cons.mpr ⟨fun S h => bs_aload_n (Z := lw_z) hx hb rfl d_L_law_968 h, List.forall_mem_cons.mpr ⟨fun S h => bs_callV (Z := lw_z) (C := R_M) hBg hbs hB X0 hK (cn_M_thrown htr 39) (bh_calR (cl_M_thrown 40 0 hw) (by decide) (by decide)) (hts _ (List.mem_cons_of_mem _ wd_907)) (hts _ (List.mem_cons_of_mem _ wd_908)) (hts _ (List.mem_cons_of_mem _ wd_909)) rfl rfl rfl rfl rfl (by decide) (by decide) d_L_law_969 (fun _ _ _ _ _ _ _ _ _ _ _ h => False.elim h) h, List.forall_mem_cons.mpr ⟨fun S h => bs_iload (Z := lw_z) hx hb d_L_law_972 h, List.forall_mem_cons.mpr ⟨fun S h => bs_icmp_eq (Z := lw_z) hx hb d_L_law_974 (by decide) h, List.forall_mem_cons.mpr ⟨fun S h => bs_iconst (Z := lw_z) hx hb (by decide) d_L_law_977 h, List.forall_mem_cons.mpr ⟨fun S h => bs_zret (Z := lw_z) hx hb hr hlocks d_L_law_978 h, List.forall_mem_cons.mpr ⟨fun S h => bs_iload (Z := lw_z) hx hb d_L_law_979 h, List.forall_mem_cons.mpr ⟨fun S h => bs_if_ne (Z := lw_z) hx hb d_L_law_981 (by decide) h, List.forall_mem_cons.mpr ⟨fun S h => bs_aload_n (Z := lw_z) hx hb rfl d_L_law_984 h, List.forall_mem_cons.mpr ⟨fun S h => bs_iconst (Z := lw_z) hx hb (by decide) d_L_law_985 h, List.forall_mem_cons.mpr ⟨fun S h => bs_Jald (Z := lw_z) hx hb ha3 d_L_law_986 h, List.forall_mem_cons.mpr ⟨fun S h => bs_iload (Z := lw_z) hx hb d_L_law_987 h, List.forall_mem_cons.mpr ⟨fun S h => bs_i2l (Z := lw_z) hx hb d_L_law_989 h, List.forall_mem_cons.mpr ⟨fun S h => bs_lcmp (Z := lw_z) hx hb d_L_law_990 h, List.forall_mem_cons.mpr ⟨fun S h => bs_if_eq (Z := lw_z) hx hb d_L_law_991 (by decide) h, List.forall_mem_cons.mpr ⟨fun S h => bs_iconst (Z := lw_z) hx hb (by decide) d_L_law_994 h, List.forall_mem_cons.mpr ⟨fun S h => bs_zret (Z := lw_z) hx hb hr hlocks d_L_law_995 h, List.forall_mem_cons.mpr ⟨fun S h => bs_goto (Z := lw_z) hx hb d_L_law_996 (by decide) h, List.forall_mem_cons.mpr ⟨fun S h => bs_aload_n (Z := lw_z) hx hb rfl d_L_law_999 h, fun _ h => absurd h List.not_mem_nil⟩⟩⟩⟩⟩⟩⟩⟩⟩⟩⟩⟩⟩⟩⟩⟩⟩⟩⟩⟩⟩⟩⟩⟩⟩⟩⟩⟩⟩⟩⟩⟩⟩⟩⟩⟩⟩⟩⟩⟩
set_option maxHeartbeats 4000000 in
set_option maxRecDepth 100000 in
theorem sl_15 {l : Launch} {G : bh_G} {base sb L : Nat} {xs : Nat → Int32} (htr : l.stackTraces = false) {p : Program} {e : Env} {s : State} {m : MethodId} {args : Array Value} {below : List Frame} {meth : Method} {c : Code} {ad0 : Nat → Nat → Nat} {M0 : bh_M} (X0 : CallFix p m c c_L_law 9 s args lw_ws "BundleHallLaw") (hr : meth.sig.returnType = some .boolean) (hlocks : meth.locks = false) (hbs : base ≤ s.heap.size) (hB : bh_Bg G base sb L xs s) :
    ∀ q ∈ T_L_law_15 xs L, ∀ (S : bh_S), q.2 S (fun y => bh_WA p l e room_1 s m args below meth c (bh_MQ below G base ad0 M0 true lw_z 5000 args s) G base 9 ad0 M0 true y.1 y.2) lw_z → bh_WA p l e room_1 s m args below meth c (bh_MQ below G base ad0 M0 true lw_z 5000 args s) G base 9 ad0 M0 true q.1 S := by
  obtain ⟨hx, hb, hml, hown, hts⟩ := id X0
  have hw : ∀ w ∈ bh_ws, w.before args s = true := fun w h => hts w (List.mem_cons_of_mem _ h)
  have hBg := bh_BgK (G := G) (base := base) (sb := sb) (L := L) (xs := xs)
  obtain ⟨hK, hAr, hen, hinj, hu1, hu2, hstr, hX, hsb, hsc, hxw, hao, hnc⟩ := id hB
  obtain ⟨ha1, ha2, ha3, ha4, ha5, ha6, ha0⟩ := bh_arr hAr
  exact List.forall_mem_cons.mpr ⟨fun S h => bs_aload_n (Z := lw_z) hx hb rfl d_L_law_1000 h, List.forall_mem_cons.mpr ⟨fun S h => bs_iload (Z := lw_z) hx hb d_L_law_1001 h, List.forall_mem_cons.mpr ⟨fun S h => bs_iconst (Z := lw_z) hx hb (by decide) d_L_law_1003 h, List.forall_mem_cons.mpr ⟨fun S h => bs_iadd (Z := lw_z) hx hb d_L_law_1004 h, List.forall_mem_cons.mpr ⟨fun S h => bs_sald (Z := lw_z) hx hb hX hsb hbs hsc d_L_law_1005 h, List.forall_mem_cons.mpr ⟨fun S h => bs_aload_n (Z := lw_z) hx hb rfl d_L_law_1006 h, List.forall_mem_cons.mpr ⟨fun S h => bs_iload (Z := lw_z) hx hb d_L_law_1007 h, List.forall_mem_cons.mpr ⟨fun S h => bs_iconst (Z := lw_z) hx hb (by decide) d_L_law_1009 h, List.forall_mem_cons.mpr ⟨fun S h => bs_iadd (Z := lw_z) hx hb d_L_law_1010 h, List.forall_mem_cons.mpr ⟨fun S h => bs_sald (Z := lw_z) hx hb hX hsb hbs hsc d_L_law_1011 h, List.forall_mem_cons.mpr ⟨fun S h => bs_aload_n (Z := lw_z) hx hb rfl d_L_law_1012 h, List.forall_mem_cons.mpr ⟨fun S h => bs_callS (Z := lw_z) hBg hbs hB X0 (cn_L_unregister htr 36) (bh_calR (cl_L_unregister 40 0 hw) (by decide) (by decide)) (hts _ (List.mem_cons_of_mem _ wd_720)) (hts _ (List.mem_cons_of_mem _ wd_721)) (by decide) (by decide) d_L_law_1013 (fun _ _ _ _ _ _ _ _ _ _ _ h => False.elim h) h, List.forall_mem_cons.mpr ⟨fun S h => bs_istore (Z := lw_z) hx hb d_L_law_1016 h, List.forall_mem_cons.mpr ⟨fun S h => bs_aload_n (Z := lw_z) hx hb rfl d_L_law_1018 h, List.forall_mem_cons.mpr ⟨fun S h => bs_aload_n (Z := lw_z) hx hb rfl d_L_law_1019 h, List.forall_mem_cons.mpr ⟨fun S h => bs_iload (Z := lw_z) hx hb d_L_law_1020 h, List.forall_mem_cons.mpr ⟨fun S h => bs_iconst (Z := lw_z) hx hb (by decide) d_L_law_1022 h, List.forall_mem_cons.mpr ⟨fun S h => bs_iadd (Z := lw_z) hx hb d_L_law_1023 h, List.forall_mem_cons.mpr ⟨fun S h => bs_sald (Z := lw_z) hx hb hX hsb hbs hsc d_L_law_1024 h, List.forall_mem_cons.mpr ⟨fun S h => bs_aload_n (Z := lw_z) hx hb rfl d_L_law_1025 h, List.forall_mem_cons.mpr ⟨fun S h => bs_iload (Z := lw_z) hx hb d_L_law_1026 h, List.forall_mem_cons.mpr ⟨fun S h => bs_iconst (Z := lw_z) hx hb (by decide) d_L_law_1028 h, List.forall_mem_cons.mpr ⟨fun S h => bs_iadd (Z := lw_z) hx hb d_L_law_1029 h, List.forall_mem_cons.mpr ⟨fun S h => bs_sald (Z := lw_z) hx hb hX hsb hbs hsc d_L_law_1030 h, List.forall_mem_cons.mpr ⟨fun S h => bs_callV (Z := lw_z) (C := R_M) hBg hbs hB X0 hK (cn_M_unregister htr 37) (bh_calR (cl_M_unregister 40 0 hw) (by decide) (by decide)) (hts _ (List.mem_cons_of_mem _ wd_1097)) (hts _ (List.mem_cons_of_mem _ wd_1098)) (hts _ (List.mem_cons_of_mem _ wd_1099)) rfl rfl rfl rfl rfl (by decide) (by decide) d_L_law_1031 (fun _ _ _ _ _ _ _ _ _ _ _ h => False.elim h) h, List.forall_mem_cons.mpr ⟨fun S h => bs_istore (Z := lw_z) hx hb d_L_law_1034 h, List.forall_mem_cons.mpr ⟨fun S h => bs_aload_n (Z := lw_z) hx hb rfl d_L_law_1036 h, List.forall_mem_cons.mpr ⟨fun S h => bs_callV (Z := lw_z) (C := R_M) hBg hbs hB X0 hK (cn_M_thrown htr 39) (bh_calR (cl_M_thrown 40 0 hw) (by decide) (by decide)) (hts _ (List.mem_cons_of_mem _ wd_907)) (hts _ (List.mem_cons_of_mem _ wd_908)) (hts _ (List.mem_cons_of_mem _ wd_909)) rfl rfl rfl rfl rfl (by decide) (by decide) d_L_law_1037 (fun _ _ _ _ _ _ _ _ _ _ _ h => False.elim h) h, List.forall_mem_cons.mpr ⟨fun S h => bs_iload (Z := lw_z) hx hb d_L_law_1040 h, List.forall_mem_cons.mpr ⟨fun S h => bs_icmp_eq (Z := lw_z) hx hb d_L_law_1042 (by decide) h, List.forall_mem_cons.mpr ⟨fun S h => bs_iconst (Z := lw_z) hx hb (by decide) d_L_law_1045 h, List.forall_mem_cons.mpr ⟨fun S h => bs_zret (Z := lw_z) hx hb hr hlocks d_L_law_1046 h, List.forall_mem_cons.mpr ⟨fun S h => bs_iload (Z := lw_z) hx hb d_L_law_1047 h, List.forall_mem_cons.mpr ⟨fun S h => bs_if_ne (Z := lw_z) hx hb d_L_law_1049 (by decide) h, List.forall_mem_cons.mpr ⟨fun S h => bs_aload_n (Z := lw_z) hx hb rfl d_L_law_1052 h, List.forall_mem_cons.mpr ⟨fun S h => bs_iconst (Z := lw_z) hx hb (by decide) d_L_law_1053 h, List.forall_mem_cons.mpr ⟨fun S h => bs_Jald (Z := lw_z) hx hb ha3 d_L_law_1054 h, List.forall_mem_cons.mpr ⟨fun S h => bs_iload (Z := lw_z) hx hb d_L_law_1055 h, List.forall_mem_cons.mpr ⟨fun S h => bs_i2l (Z := lw_z) hx hb d_L_law_1057 h, List.forall_mem_cons.mpr ⟨fun S h => bs_lcmp (Z := lw_z) hx hb d_L_law_1058 h, fun _ h => absurd h List.not_mem_nil⟩⟩⟩⟩⟩⟩⟩⟩⟩⟩⟩⟩⟩⟩⟩⟩⟩⟩⟩⟩⟩⟩⟩⟩⟩⟩⟩⟩⟩⟩⟩⟩⟩⟩⟩⟩⟩⟩⟩⟩
set_option maxHeartbeats 4000000 in
set_option maxRecDepth 100000 in
theorem sl_16 {l : Launch} {G : bh_G} {base sb L : Nat} {xs : Nat → Int32} (htr : l.stackTraces = false) {p : Program} {e : Env} {s : State} {m : MethodId} {args : Array Value} {below : List Frame} {meth : Method} {c : Code} {ad0 : Nat → Nat → Nat} {M0 : bh_M} (X0 : CallFix p m c c_L_law 9 s args lw_ws "BundleHallLaw") (hr : meth.sig.returnType = some .boolean) (hlocks : meth.locks = false) (hbs : base ≤ s.heap.size) (hB : bh_Bg G base sb L xs s) :
    ∀ q ∈ T_L_law_16 xs L, ∀ (S : bh_S), q.2 S (fun y => bh_WA p l e room_1 s m args below meth c (bh_MQ below G base ad0 M0 true lw_z 5000 args s) G base 9 ad0 M0 true y.1 y.2) lw_z → bh_WA p l e room_1 s m args below meth c (bh_MQ below G base ad0 M0 true lw_z 5000 args s) G base 9 ad0 M0 true q.1 S := by
  obtain ⟨hx, hb, hml, hown, hts⟩ := id X0
  have hw : ∀ w ∈ bh_ws, w.before args s = true := fun w h => hts w (List.mem_cons_of_mem _ h)
  have hBg := bh_BgK (G := G) (base := base) (sb := sb) (L := L) (xs := xs)
  obtain ⟨hK, hAr, hen, hinj, hu1, hu2, hstr, hX, hsb, hsc, hxw, hao, hnc⟩ := id hB
  obtain ⟨ha1, ha2, ha3, ha4, ha5, ha6, ha0⟩ := bh_arr hAr
  exact List.forall_mem_cons.mpr ⟨fun S h => bs_if_eq (Z := lw_z) hx hb d_L_law_1059 (by decide) h, List.forall_mem_cons.mpr ⟨fun S h => bs_iconst (Z := lw_z) hx hb (by decide) d_L_law_1062 h, List.forall_mem_cons.mpr ⟨fun S h => bs_zret (Z := lw_z) hx hb hr hlocks d_L_law_1063 h, List.forall_mem_cons.mpr ⟨fun S h => bs_goto (Z := lw_z) hx hb d_L_law_1064 (by decide) h, List.forall_mem_cons.mpr ⟨fun S h => bs_aload_n (Z := lw_z) hx hb rfl d_L_law_1067 h, List.forall_mem_cons.mpr ⟨fun S h => bs_aload_n (Z := lw_z) hx hb rfl d_L_law_1068 h, List.forall_mem_cons.mpr ⟨fun S h => bs_iload (Z := lw_z) hx hb d_L_law_1069 h, List.forall_mem_cons.mpr ⟨fun S h => bs_iconst (Z := lw_z) hx hb (by decide) d_L_law_1071 h, List.forall_mem_cons.mpr ⟨fun S h => bs_iadd (Z := lw_z) hx hb d_L_law_1072 h, List.forall_mem_cons.mpr ⟨fun S h => bs_sald (Z := lw_z) hx hb hX hsb hbs hsc d_L_law_1073 h, List.forall_mem_cons.mpr ⟨fun S h => bs_aload (Z := lw_z) hx hb d_L_law_1074 h, List.forall_mem_cons.mpr ⟨fun S h => bs_callS (Z := lw_z) hBg hbs hB X0 (cn_L_rank htr 37) (bh_calR (cl_L_rank 40 0 hw) (by decide) (by decide)) (hts _ (List.mem_cons_of_mem _ wd_732)) (hts _ (List.mem_cons_of_mem _ wd_733)) (by decide) (by decide) d_L_law_1076 (fun _ _ _ _ _ _ _ _ _ _ _ h => False.elim h) h, List.forall_mem_cons.mpr ⟨fun S h => bs_istore (Z := lw_z) hx hb d_L_law_1079 h, List.forall_mem_cons.mpr ⟨fun S h => bs_aload_n (Z := lw_z) hx hb rfl d_L_law_1081 h, List.forall_mem_cons.mpr ⟨fun S h => bs_aload_n (Z := lw_z) hx hb rfl d_L_law_1082 h, List.forall_mem_cons.mpr ⟨fun S h => bs_iload (Z := lw_z) hx hb d_L_law_1083 h, List.forall_mem_cons.mpr ⟨fun S h => bs_iconst (Z := lw_z) hx hb (by decide) d_L_law_1085 h, List.forall_mem_cons.mpr ⟨fun S h => bs_iadd (Z := lw_z) hx hb d_L_law_1086 h, List.forall_mem_cons.mpr ⟨fun S h => bs_sald (Z := lw_z) hx hb hX hsb hbs hsc d_L_law_1087 h, List.forall_mem_cons.mpr ⟨fun S h => bs_callV (Z := lw_z) (C := R_M) hBg hbs hB X0 hK (cn_M_rank htr 38) (bh_calR (cl_M_rank 40 0 hw) (by decide) (by decide)) (hts _ (List.mem_cons_of_mem _ wd_1101)) (hts _ (List.mem_cons_of_mem _ wd_1102)) (hts _ (List.mem_cons_of_mem _ wd_1103)) rfl rfl rfl rfl rfl (by decide) (by decide) d_L_law_1088 (fun _ _ _ _ _ _ _ _ _ _ _ h => False.elim h) h, List.forall_mem_cons.mpr ⟨fun S h => bs_dstore (Z := lw_z) hx hb d_L_law_1091 h, List.forall_mem_cons.mpr ⟨fun S h => bs_aload_n (Z := lw_z) hx hb rfl d_L_law_1093 h, List.forall_mem_cons.mpr ⟨fun S h => bs_callV (Z := lw_z) (C := R_M) hBg hbs hB X0 hK (cn_M_thrown htr 39) (bh_calR (cl_M_thrown 40 0 hw) (by decide) (by decide)) (hts _ (List.mem_cons_of_mem _ wd_907)) (hts _ (List.mem_cons_of_mem _ wd_908)) (hts _ (List.mem_cons_of_mem _ wd_909)) rfl rfl rfl rfl rfl (by decide) (by decide) d_L_law_1094 (fun _ _ _ _ _ _ _ _ _ _ _ h => False.elim h) h, List.forall_mem_cons.mpr ⟨fun S h => bs_iload (Z := lw_z) hx hb d_L_law_1097 h, List.forall_mem_cons.mpr ⟨fun S h => bs_icmp_eq (Z := lw_z) hx hb d_L_law_1099 (by decide) h, List.forall_mem_cons.mpr ⟨fun S h => bs_iconst (Z := lw_z) hx hb (by decide) d_L_law_1102 h, List.forall_mem_cons.mpr ⟨fun S h => bs_zret (Z := lw_z) hx hb hr hlocks d_L_law_1103 h, List.forall_mem_cons.mpr ⟨fun S h => bs_iload (Z := lw_z) hx hb d_L_law_1104 h, List.forall_mem_cons.mpr ⟨fun S h => bs_if_ne (Z := lw_z) hx hb d_L_law_1106 (by decide) h, List.forall_mem_cons.mpr ⟨fun S h => bs_aload (Z := lw_z) hx hb d_L_law_1109 h, List.forall_mem_cons.mpr ⟨fun S h => bs_iconst (Z := lw_z) hx hb (by decide) d_L_law_1111 h, List.forall_mem_cons.mpr ⟨fun S h => bs_Dald (Z := lw_z) hx hb ha4 d_L_law_1112 h, List.forall_mem_cons.mpr ⟨fun S h => bs_dload (Z := lw_z) hx hb d_L_law_1113 h, List.forall_mem_cons.mpr ⟨fun S h => bs_dcmp (Z := lw_z) hx hb d_L_law_1115 h, List.forall_mem_cons.mpr ⟨fun S h => bs_if_eq (Z := lw_z) hx hb d_L_law_1116 (by decide) h, List.forall_mem_cons.mpr ⟨fun S h => bs_aload (Z := lw_z) hx hb d_L_law_1119 h, List.forall_mem_cons.mpr ⟨fun S h => bs_iconst (Z := lw_z) hx hb (by decide) d_L_law_1121 h, List.forall_mem_cons.mpr ⟨fun S h => bs_Dald (Z := lw_z) hx hb ha4 d_L_law_1122 h, List.forall_mem_cons.mpr ⟨fun S h => bs_aload (Z := lw_z) hx hb d_L_law_1123 h, List.forall_mem_cons.mpr ⟨fun S h => bs_iconst (Z := lw_z) hx hb (by decide) d_L_law_1125 h, fun _ h => absurd h List.not_mem_nil⟩⟩⟩⟩⟩⟩⟩⟩⟩⟩⟩⟩⟩⟩⟩⟩⟩⟩⟩⟩⟩⟩⟩⟩⟩⟩⟩⟩⟩⟩⟩⟩⟩⟩⟩⟩⟩⟩⟩⟩
set_option maxHeartbeats 4000000 in
set_option maxRecDepth 100000 in
theorem sl_17 {l : Launch} {G : bh_G} {base sb L : Nat} {xs : Nat → Int32} (htr : l.stackTraces = false) {p : Program} {e : Env} {s : State} {m : MethodId} {args : Array Value} {below : List Frame} {meth : Method} {c : Code} {ad0 : Nat → Nat → Nat} {M0 : bh_M} (X0 : CallFix p m c c_L_law 9 s args lw_ws "BundleHallLaw") (hr : meth.sig.returnType = some .boolean) (hlocks : meth.locks = false) (hbs : base ≤ s.heap.size) (hB : bh_Bg G base sb L xs s) :
    ∀ q ∈ T_L_law_17 xs L, ∀ (S : bh_S), q.2 S (fun y => bh_WA p l e room_1 s m args below meth c (bh_MQ below G base ad0 M0 true lw_z 5000 args s) G base 9 ad0 M0 true y.1 y.2) lw_z → bh_WA p l e room_1 s m args below meth c (bh_MQ below G base ad0 M0 true lw_z 5000 args s) G base 9 ad0 M0 true q.1 S := by
  obtain ⟨hx, hb, hml, hown, hts⟩ := id X0
  have hw : ∀ w ∈ bh_ws, w.before args s = true := fun w h => hts w (List.mem_cons_of_mem _ h)
  have hBg := bh_BgK (G := G) (base := base) (sb := sb) (L := L) (xs := xs)
  obtain ⟨hK, hAr, hen, hinj, hu1, hu2, hstr, hX, hsb, hsc, hxw, hao, hnc⟩ := id hB
  obtain ⟨ha1, ha2, ha3, ha4, ha5, ha6, ha0⟩ := bh_arr hAr
  exact List.forall_mem_cons.mpr ⟨fun S h => bs_Dald (Z := lw_z) hx hb ha4 d_L_law_1126 h, List.forall_mem_cons.mpr ⟨fun S h => bs_dcmp (Z := lw_z) hx hb d_L_law_1127 h, List.forall_mem_cons.mpr ⟨fun S h => bs_if_eq (Z := lw_z) hx hb d_L_law_1128 (by decide) h, List.forall_mem_cons.mpr ⟨fun S h => bs_dload (Z := lw_z) hx hb d_L_law_1131 h, List.forall_mem_cons.mpr ⟨fun S h => bs_dload (Z := lw_z) hx hb d_L_law_1133 h, List.forall_mem_cons.mpr ⟨fun S h => bs_dcmp (Z := lw_z) hx hb d_L_law_1135 h, List.forall_mem_cons.mpr ⟨fun S h => bs_if_ne (Z := lw_z) hx hb d_L_law_1136 (by decide) h, List.forall_mem_cons.mpr ⟨fun S h => bs_iconst (Z := lw_z) hx hb (by decide) d_L_law_1139 h, List.forall_mem_cons.mpr ⟨fun S h => bs_zret (Z := lw_z) hx hb hr hlocks d_L_law_1140 h, List.forall_mem_cons.mpr ⟨fun S h => bs_goto (Z := lw_z) hx hb d_L_law_1141 (by decide) h, List.forall_mem_cons.mpr ⟨fun S h => bs_aload_n (Z := lw_z) hx hb rfl d_L_law_1144 h, List.forall_mem_cons.mpr ⟨fun S h => bs_aload_n (Z := lw_z) hx hb rfl d_L_law_1145 h, List.forall_mem_cons.mpr ⟨fun S h => bs_callS (Z := lw_z) hBg hbs hB X0 (cn_L_event htr 37) (bh_calR (cl_L_event 40 0 hw) (by decide) (by decide)) (hts _ (List.mem_cons_of_mem _ wd_747)) (hts _ (List.mem_cons_of_mem _ wd_748)) (by decide) (by decide) d_L_law_1146 (fun _ _ _ _ _ _ _ _ _ _ _ h => False.elim h) h, List.forall_mem_cons.mpr ⟨fun S h => bs_istore (Z := lw_z) hx hb d_L_law_1149 h, List.forall_mem_cons.mpr ⟨fun S h => bs_aload_n (Z := lw_z) hx hb rfl d_L_law_1151 h, List.forall_mem_cons.mpr ⟨fun S h => bs_callV (Z := lw_z) (C := R_M) hBg hbs hB X0 hK (cn_M_event htr 38) (bh_calR (cl_M_event 40 0 hw) (by decide) (by decide)) (hts _ (List.mem_cons_of_mem _ wd_1105)) (hts _ (List.mem_cons_of_mem _ wd_1106)) (hts _ (List.mem_cons_of_mem _ wd_1107)) rfl rfl rfl rfl rfl (by decide) (by decide) d_L_law_1152 (fun _ _ _ _ _ _ _ _ _ _ _ h => False.elim h) h, List.forall_mem_cons.mpr ⟨fun S h => bs_istore (Z := lw_z) hx hb d_L_law_1155 h, List.forall_mem_cons.mpr ⟨fun S h => bs_aload_n (Z := lw_z) hx hb rfl d_L_law_1157 h, List.forall_mem_cons.mpr ⟨fun S h => bs_callV (Z := lw_z) (C := R_M) hBg hbs hB X0 hK (cn_M_thrown htr 39) (bh_calR (cl_M_thrown 40 0 hw) (by decide) (by decide)) (hts _ (List.mem_cons_of_mem _ wd_907)) (hts _ (List.mem_cons_of_mem _ wd_908)) (hts _ (List.mem_cons_of_mem _ wd_909)) rfl rfl rfl rfl rfl (by decide) (by decide) d_L_law_1158 (fun _ _ _ _ _ _ _ _ _ _ _ h => False.elim h) h, List.forall_mem_cons.mpr ⟨fun S h => bs_iload (Z := lw_z) hx hb d_L_law_1161 h, List.forall_mem_cons.mpr ⟨fun S h => bs_icmp_eq (Z := lw_z) hx hb d_L_law_1163 (by decide) h, List.forall_mem_cons.mpr ⟨fun S h => bs_iconst (Z := lw_z) hx hb (by decide) d_L_law_1166 h, List.forall_mem_cons.mpr ⟨fun S h => bs_zret (Z := lw_z) hx hb hr hlocks d_L_law_1167 h, List.forall_mem_cons.mpr ⟨fun S h => bs_iload (Z := lw_z) hx hb d_L_law_1168 h, List.forall_mem_cons.mpr ⟨fun S h => bs_if_ne (Z := lw_z) hx hb d_L_law_1170 (by decide) h, List.forall_mem_cons.mpr ⟨fun S h => bs_aload_n (Z := lw_z) hx hb rfl d_L_law_1173 h, List.forall_mem_cons.mpr ⟨fun S h => bs_iconst (Z := lw_z) hx hb (by decide) d_L_law_1174 h, List.forall_mem_cons.mpr ⟨fun S h => bs_Jald (Z := lw_z) hx hb ha3 d_L_law_1175 h, List.forall_mem_cons.mpr ⟨fun S h => bs_iload (Z := lw_z) hx hb d_L_law_1176 h, List.forall_mem_cons.mpr ⟨fun S h => bs_i2l (Z := lw_z) hx hb d_L_law_1178 h, List.forall_mem_cons.mpr ⟨fun S h => bs_lcmp (Z := lw_z) hx hb d_L_law_1179 h, List.forall_mem_cons.mpr ⟨fun S h => bs_if_eq (Z := lw_z) hx hb d_L_law_1180 (by decide) h, List.forall_mem_cons.mpr ⟨fun S h => bs_iconst (Z := lw_z) hx hb (by decide) d_L_law_1183 h, List.forall_mem_cons.mpr ⟨fun S h => bs_zret (Z := lw_z) hx hb hr hlocks d_L_law_1184 h, List.forall_mem_cons.mpr ⟨fun S h => bs_goto (Z := lw_z) hx hb d_L_law_1185 (by decide) h, List.forall_mem_cons.mpr ⟨fun S h => bs_aload_n (Z := lw_z) hx hb rfl d_L_law_1188 h, List.forall_mem_cons.mpr ⟨fun S h => bs_aload_n (Z := lw_z) hx hb rfl d_L_law_1189 h, List.forall_mem_cons.mpr ⟨fun S h => bs_iload (Z := lw_z) hx hb d_L_law_1190 h, List.forall_mem_cons.mpr ⟨fun S h => bs_iconst (Z := lw_z) hx hb (by decide) d_L_law_1192 h, List.forall_mem_cons.mpr ⟨fun S h => bs_iadd (Z := lw_z) hx hb d_L_law_1193 h, fun _ h => absurd h List.not_mem_nil⟩⟩⟩⟩⟩⟩⟩⟩⟩⟩⟩⟩⟩⟩⟩⟩⟩⟩⟩⟩⟩⟩⟩⟩⟩⟩⟩⟩⟩⟩⟩⟩⟩⟩⟩⟩⟩⟩⟩⟩
set_option maxHeartbeats 4000000 in
set_option maxRecDepth 100000 in
theorem sl_18 {l : Launch} {G : bh_G} {base sb L : Nat} {xs : Nat → Int32} (htr : l.stackTraces = false) {p : Program} {e : Env} {s : State} {m : MethodId} {args : Array Value} {below : List Frame} {meth : Method} {c : Code} {ad0 : Nat → Nat → Nat} {M0 : bh_M} (X0 : CallFix p m c c_L_law 9 s args lw_ws "BundleHallLaw") (hr : meth.sig.returnType = some .boolean) (hlocks : meth.locks = false) (hbs : base ≤ s.heap.size) (hB : bh_Bg G base sb L xs s) :
    ∀ q ∈ T_L_law_18 xs L, ∀ (S : bh_S), q.2 S (fun y => bh_WA p l e room_1 s m args below meth c (bh_MQ below G base ad0 M0 true lw_z 5000 args s) G base 9 ad0 M0 true y.1 y.2) lw_z → bh_WA p l e room_1 s m args below meth c (bh_MQ below G base ad0 M0 true lw_z 5000 args s) G base 9 ad0 M0 true q.1 S := by
  obtain ⟨hx, hb, hml, hown, hts⟩ := id X0
  have hw : ∀ w ∈ bh_ws, w.before args s = true := fun w h => hts w (List.mem_cons_of_mem _ h)
  have hBg := bh_BgK (G := G) (base := base) (sb := sb) (L := L) (xs := xs)
  obtain ⟨hK, hAr, hen, hinj, hu1, hu2, hstr, hX, hsb, hsc, hxw, hao, hnc⟩ := id hB
  obtain ⟨ha1, ha2, ha3, ha4, ha5, ha6, ha0⟩ := bh_arr hAr
  exact List.forall_mem_cons.mpr ⟨fun S h => bs_sald (Z := lw_z) hx hb hX hsb hbs hsc d_L_law_1194 h, List.forall_mem_cons.mpr ⟨fun S h => bs_aload_n (Z := lw_z) hx hb rfl d_L_law_1195 h, List.forall_mem_cons.mpr ⟨fun S h => bs_iload (Z := lw_z) hx hb d_L_law_1196 h, List.forall_mem_cons.mpr ⟨fun S h => bs_iconst (Z := lw_z) hx hb (by decide) d_L_law_1198 h, List.forall_mem_cons.mpr ⟨fun S h => bs_iadd (Z := lw_z) hx hb d_L_law_1199 h, List.forall_mem_cons.mpr ⟨fun S h => bs_sald (Z := lw_z) hx hb hX hsb hbs hsc d_L_law_1200 h, List.forall_mem_cons.mpr ⟨fun S h => bs_aload_n (Z := lw_z) hx hb rfl d_L_law_1201 h, List.forall_mem_cons.mpr ⟨fun S h => bs_callS (Z := lw_z) hBg hbs hB X0 (cn_L_about htr 34) (bh_calR (cl_L_about 40 0 hw) (by decide) (by decide)) (hts _ (List.mem_cons_of_mem _ wd_759)) (hts _ (List.mem_cons_of_mem _ wd_760)) (by decide) (by decide) d_L_law_1202 (fun _ _ _ _ _ _ _ _ _ _ _ h => False.elim h) h, List.forall_mem_cons.mpr ⟨fun S h => bs_istore (Z := lw_z) hx hb d_L_law_1205 h, List.forall_mem_cons.mpr ⟨fun S h => bs_aload_n (Z := lw_z) hx hb rfl d_L_law_1207 h, List.forall_mem_cons.mpr ⟨fun S h => bs_aload_n (Z := lw_z) hx hb rfl d_L_law_1208 h, List.forall_mem_cons.mpr ⟨fun S h => bs_iload (Z := lw_z) hx hb d_L_law_1209 h, List.forall_mem_cons.mpr ⟨fun S h => bs_iconst (Z := lw_z) hx hb (by decide) d_L_law_1211 h, List.forall_mem_cons.mpr ⟨fun S h => bs_iadd (Z := lw_z) hx hb d_L_law_1212 h, List.forall_mem_cons.mpr ⟨fun S h => bs_sald (Z := lw_z) hx hb hX hsb hbs hsc d_L_law_1213 h, List.forall_mem_cons.mpr ⟨fun S h => bs_aload_n (Z := lw_z) hx hb rfl d_L_law_1214 h, List.forall_mem_cons.mpr ⟨fun S h => bs_iload (Z := lw_z) hx hb d_L_law_1215 h, List.forall_mem_cons.mpr ⟨fun S h => bs_iconst (Z := lw_z) hx hb (by decide) d_L_law_1217 h, List.forall_mem_cons.mpr ⟨fun S h => bs_iadd (Z := lw_z) hx hb d_L_law_1218 h, List.forall_mem_cons.mpr ⟨fun S h => bs_sald (Z := lw_z) hx hb hX hsb hbs hsc d_L_law_1219 h, List.forall_mem_cons.mpr ⟨fun S h => bs_callV (Z := lw_z) (C := R_M) hBg hbs hB X0 hK (cn_M_about htr 37) (bh_calR (cl_M_about 40 0 hw) (by decide) (by decide)) (hts _ (List.mem_cons_of_mem _ wd_1109)) (hts _ (List.mem_cons_of_mem _ wd_1110)) (hts _ (List.mem_cons_of_mem _ wd_1111)) rfl rfl rfl rfl rfl (by decide) (by decide) d_L_law_1220 (fun _ _ _ _ _ _ _ _ _ _ _ h => False.elim h) h, List.forall_mem_cons.mpr ⟨fun S h => bs_istore (Z := lw_z) hx hb d_L_law_1223 h, List.forall_mem_cons.mpr ⟨fun S h => bs_aload_n (Z := lw_z) hx hb rfl d_L_law_1225 h, List.forall_mem_cons.mpr ⟨fun S h => bs_callV (Z := lw_z) (C := R_M) hBg hbs hB X0 hK (cn_M_thrown htr 39) (bh_calR (cl_M_thrown 40 0 hw) (by decide) (by decide)) (hts _ (List.mem_cons_of_mem _ wd_907)) (hts _ (List.mem_cons_of_mem _ wd_908)) (hts _ (List.mem_cons_of_mem _ wd_909)) rfl rfl rfl rfl rfl (by decide) (by decide) d_L_law_1226 (fun _ _ _ _ _ _ _ _ _ _ _ h => False.elim h) h, List.forall_mem_cons.mpr ⟨fun S h => bs_iload (Z := lw_z) hx hb d_L_law_1229 h, List.forall_mem_cons.mpr ⟨fun S h => bs_icmp_eq (Z := lw_z) hx hb d_L_law_1231 (by decide) h, List.forall_mem_cons.mpr ⟨fun S h => bs_iconst (Z := lw_z) hx hb (by decide) d_L_law_1234 h, List.forall_mem_cons.mpr ⟨fun S h => bs_zret (Z := lw_z) hx hb hr hlocks d_L_law_1235 h, List.forall_mem_cons.mpr ⟨fun S h => bs_iload (Z := lw_z) hx hb d_L_law_1236 h, List.forall_mem_cons.mpr ⟨fun S h => bs_if_ne (Z := lw_z) hx hb d_L_law_1238 (by decide) h, List.forall_mem_cons.mpr ⟨fun S h => bs_aload_n (Z := lw_z) hx hb rfl d_L_law_1241 h, List.forall_mem_cons.mpr ⟨fun S h => bs_iconst (Z := lw_z) hx hb (by decide) d_L_law_1242 h, List.forall_mem_cons.mpr ⟨fun S h => bs_Jald (Z := lw_z) hx hb ha3 d_L_law_1243 h, List.forall_mem_cons.mpr ⟨fun S h => bs_iload (Z := lw_z) hx hb d_L_law_1244 h, List.forall_mem_cons.mpr ⟨fun S h => bs_i2l (Z := lw_z) hx hb d_L_law_1246 h, List.forall_mem_cons.mpr ⟨fun S h => bs_lcmp (Z := lw_z) hx hb d_L_law_1247 h, List.forall_mem_cons.mpr ⟨fun S h => bs_if_eq (Z := lw_z) hx hb d_L_law_1248 (by decide) h, List.forall_mem_cons.mpr ⟨fun S h => bs_iconst (Z := lw_z) hx hb (by decide) d_L_law_1251 h, List.forall_mem_cons.mpr ⟨fun S h => bs_zret (Z := lw_z) hx hb hr hlocks d_L_law_1252 h, List.forall_mem_cons.mpr ⟨fun S h => bs_goto (Z := lw_z) hx hb d_L_law_1253 (by decide) h, fun _ h => absurd h List.not_mem_nil⟩⟩⟩⟩⟩⟩⟩⟩⟩⟩⟩⟩⟩⟩⟩⟩⟩⟩⟩⟩⟩⟩⟩⟩⟩⟩⟩⟩⟩⟩⟩⟩⟩⟩⟩⟩⟩⟩⟩⟩
set_option maxHeartbeats 4000000 in
set_option maxRecDepth 100000 in
theorem sl_19 {l : Launch} {G : bh_G} {base sb L : Nat} {xs : Nat → Int32} (htr : l.stackTraces = false) {p : Program} {e : Env} {s : State} {m : MethodId} {args : Array Value} {below : List Frame} {meth : Method} {c : Code} {ad0 : Nat → Nat → Nat} {M0 : bh_M} (X0 : CallFix p m c c_L_law 9 s args lw_ws "BundleHallLaw") (hr : meth.sig.returnType = some .boolean) (hlocks : meth.locks = false) (hbs : base ≤ s.heap.size) (hB : bh_Bg G base sb L xs s) :
    ∀ q ∈ T_L_law_19 xs L, ∀ (S : bh_S), q.2 S (fun y => bh_WA p l e room_1 s m args below meth c (bh_MQ below G base ad0 M0 true lw_z 5000 args s) G base 9 ad0 M0 true y.1 y.2) lw_z → bh_WA p l e room_1 s m args below meth c (bh_MQ below G base ad0 M0 true lw_z 5000 args s) G base 9 ad0 M0 true q.1 S := by
  obtain ⟨hx, hb, hml, hown, hts⟩ := id X0
  have hw : ∀ w ∈ bh_ws, w.before args s = true := fun w h => hts w (List.mem_cons_of_mem _ h)
  have hBg := bh_BgK (G := G) (base := base) (sb := sb) (L := L) (xs := xs)
  obtain ⟨hK, hAr, hen, hinj, hu1, hu2, hstr, hX, hsb, hsc, hxw, hao, hnc⟩ := id hB
  obtain ⟨ha1, ha2, ha3, ha4, ha5, ha6, ha0⟩ := bh_arr hAr
  exact List.forall_mem_cons.mpr ⟨fun S h => bs_aload_n (Z := lw_z) hx hb rfl d_L_law_1256 h, List.forall_mem_cons.mpr ⟨fun S h => bs_aload_n (Z := lw_z) hx hb rfl d_L_law_1257 h, List.forall_mem_cons.mpr ⟨fun S h => bs_iload (Z := lw_z) hx hb d_L_law_1258 h, List.forall_mem_cons.mpr ⟨fun S h => bs_iconst (Z := lw_z) hx hb (by decide) d_L_law_1260 h, List.forall_mem_cons.mpr ⟨fun S h => bs_iadd (Z := lw_z) hx hb d_L_law_1261 h, List.forall_mem_cons.mpr ⟨fun S h => bs_sald (Z := lw_z) hx hb hX hsb hbs hsc d_L_law_1262 h, List.forall_mem_cons.mpr ⟨fun S h => bs_aload_n (Z := lw_z) hx hb rfl d_L_law_1263 h, List.forall_mem_cons.mpr ⟨fun S h => bs_callS (Z := lw_z) hBg hbs hB X0 (cn_L_count htr 37) (bh_calR (cl_L_count 40 0 hw) (by decide) (by decide)) (hts _ (List.mem_cons_of_mem _ wd_770)) (hts _ (List.mem_cons_of_mem _ wd_771)) (by decide) (by decide) d_L_law_1264 (fun _ _ _ _ _ _ _ _ _ _ _ h => False.elim h) h, List.forall_mem_cons.mpr ⟨fun S h => bs_istore (Z := lw_z) hx hb d_L_law_1267 h, List.forall_mem_cons.mpr ⟨fun S h => bs_aload_n (Z := lw_z) hx hb rfl d_L_law_1269 h, List.forall_mem_cons.mpr ⟨fun S h => bs_aload_n (Z := lw_z) hx hb rfl d_L_law_1270 h, List.forall_mem_cons.mpr ⟨fun S h => bs_iload (Z := lw_z) hx hb d_L_law_1271 h, List.forall_mem_cons.mpr ⟨fun S h => bs_iconst (Z := lw_z) hx hb (by decide) d_L_law_1273 h, List.forall_mem_cons.mpr ⟨fun S h => bs_iadd (Z := lw_z) hx hb d_L_law_1274 h, List.forall_mem_cons.mpr ⟨fun S h => bs_sald (Z := lw_z) hx hb hX hsb hbs hsc d_L_law_1275 h, List.forall_mem_cons.mpr ⟨fun S h => bs_callV (Z := lw_z) (C := R_M) hBg hbs hB X0 hK (cn_M_count htr 38) (bh_calR (cl_M_count 40 0 hw) (by decide) (by decide)) (hts _ (List.mem_cons_of_mem _ wd_1113)) (hts _ (List.mem_cons_of_mem _ wd_1114)) (hts _ (List.mem_cons_of_mem _ wd_1115)) rfl rfl rfl rfl rfl (by decide) (by decide) d_L_law_1276 (fun _ _ _ _ _ _ _ _ _ _ _ h => False.elim h) h, List.forall_mem_cons.mpr ⟨fun S h => bs_istore (Z := lw_z) hx hb d_L_law_1279 h, List.forall_mem_cons.mpr ⟨fun S h => bs_aload_n (Z := lw_z) hx hb rfl d_L_law_1281 h, List.forall_mem_cons.mpr ⟨fun S h => bs_callV (Z := lw_z) (C := R_M) hBg hbs hB X0 hK (cn_M_thrown htr 39) (bh_calR (cl_M_thrown 40 0 hw) (by decide) (by decide)) (hts _ (List.mem_cons_of_mem _ wd_907)) (hts _ (List.mem_cons_of_mem _ wd_908)) (hts _ (List.mem_cons_of_mem _ wd_909)) rfl rfl rfl rfl rfl (by decide) (by decide) d_L_law_1282 (fun _ _ _ _ _ _ _ _ _ _ _ h => False.elim h) h, List.forall_mem_cons.mpr ⟨fun S h => bs_iload (Z := lw_z) hx hb d_L_law_1285 h, List.forall_mem_cons.mpr ⟨fun S h => bs_icmp_eq (Z := lw_z) hx hb d_L_law_1287 (by decide) h, List.forall_mem_cons.mpr ⟨fun S h => bs_iconst (Z := lw_z) hx hb (by decide) d_L_law_1290 h, List.forall_mem_cons.mpr ⟨fun S h => bs_zret (Z := lw_z) hx hb hr hlocks d_L_law_1291 h, List.forall_mem_cons.mpr ⟨fun S h => bs_iload (Z := lw_z) hx hb d_L_law_1292 h, List.forall_mem_cons.mpr ⟨fun S h => bs_if_ne (Z := lw_z) hx hb d_L_law_1294 (by decide) h, List.forall_mem_cons.mpr ⟨fun S h => bs_aload_n (Z := lw_z) hx hb rfl d_L_law_1297 h, List.forall_mem_cons.mpr ⟨fun S h => bs_iconst (Z := lw_z) hx hb (by decide) d_L_law_1298 h, List.forall_mem_cons.mpr ⟨fun S h => bs_Jald (Z := lw_z) hx hb ha3 d_L_law_1299 h, List.forall_mem_cons.mpr ⟨fun S h => bs_iload (Z := lw_z) hx hb d_L_law_1300 h, List.forall_mem_cons.mpr ⟨fun S h => bs_i2l (Z := lw_z) hx hb d_L_law_1302 h, List.forall_mem_cons.mpr ⟨fun S h => bs_lcmp (Z := lw_z) hx hb d_L_law_1303 h, List.forall_mem_cons.mpr ⟨fun S h => bs_if_eq (Z := lw_z) hx hb d_L_law_1304 (by decide) h, List.forall_mem_cons.mpr ⟨fun S h => bs_iconst (Z := lw_z) hx hb (by decide) d_L_law_1307 h, List.forall_mem_cons.mpr ⟨fun S h => bs_zret (Z := lw_z) hx hb hr hlocks d_L_law_1308 h, List.forall_mem_cons.mpr ⟨fun S h => bs_goto (Z := lw_z) hx hb d_L_law_1309 (by decide) h, List.forall_mem_cons.mpr ⟨fun S h => bs_iinc (Z := lw_z) hx hb (by decide) d_L_law_1312 h, List.forall_mem_cons.mpr ⟨fun S h => bs_goto (Z := lw_z) hx hb d_L_law_1315 (by decide) h, List.forall_mem_cons.mpr ⟨fun S h => bs_iconst (Z := lw_z) hx hb (by decide) d_L_law_1318 h, List.forall_mem_cons.mpr ⟨fun S h => bs_zret (Z := lw_z) hx hb hr hlocks d_L_law_1319 h, fun _ h => absurd h List.not_mem_nil⟩⟩⟩⟩⟩⟩⟩⟩⟩⟩⟩⟩⟩⟩⟩⟩⟩⟩⟩⟩⟩⟩⟩⟩⟩⟩⟩⟩⟩⟩⟩⟩⟩⟩⟩⟩⟩⟩⟩
