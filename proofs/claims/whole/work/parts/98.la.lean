/-! the law: its instructions -/
def K_LA : KM := (x, code, 9, ret, "ParishBoardsLaw", [])
theorem d_LA_0 : decode (kB K_LA) 0 = .ok (.new 8, 3) := by decide +kernel
theorem d_LA_3 : decode (kB K_LA) 3 = .ok (.dup, 1) := by decide +kernel
theorem d_LA_4 : decode (kB K_LA) 4 = .ok (.invokespecial 76, 3) := by decide +kernel
theorem d_LA_7 : decode (kB K_LA) 7 = .ok (.astore_n 1, 1) := by decide +kernel
theorem d_LA_8 : decode (kB K_LA) 8 = .ok (.new 77, 3) := by decide +kernel
theorem d_LA_11 : decode (kB K_LA) 11 = .ok (.dup, 1) := by decide +kernel
theorem d_LA_12 : decode (kB K_LA) 12 = .ok (.invokespecial 79, 3) := by decide +kernel
theorem d_LA_15 : decode (kB K_LA) 15 = .ok (.astore_n 2, 1) := by decide +kernel
theorem d_LA_16 : decode (kB K_LA) 16 = .ok (.iconst 1, 1) := by decide +kernel
theorem d_LA_17 : decode (kB K_LA) 17 = .ok (.newarray .long, 2) := by decide +kernel
theorem d_LA_19 : decode (kB K_LA) 19 = .ok (.astore_n 3, 1) := by decide +kernel
theorem d_LA_20 : decode (kB K_LA) 20 = .ok (.iconst 0, 1) := by decide +kernel
theorem d_LA_21 : decode (kB K_LA) 21 = .ok (.istore 4, 2) := by decide +kernel
theorem d_LA_23 : decode (kB K_LA) 23 = .ok (.iload 4, 2) := by decide +kernel
theorem d_LA_25 : decode (kB K_LA) 25 = .ok (.aload_n 0, 1) := by decide +kernel
theorem d_LA_26 : decode (kB K_LA) 26 = .ok (.arraylength, 1) := by decide +kernel
theorem d_LA_27 : decode (kB K_LA) 27 = .ok (.bipush 6, 2) := by decide +kernel
theorem d_LA_29 : decode (kB K_LA) 29 = .ok (.isub, 1) := by decide +kernel
theorem d_LA_30 : decode (kB K_LA) 30 = .ok (.if_icmp .gt 1555, 3) := by decide +kernel
theorem d_LA_33 : decode (kB K_LA) 33 = .ok (.aload_n 0, 1) := by decide +kernel
theorem d_LA_34 : decode (kB K_LA) 34 = .ok (.iload 4, 2) := by decide +kernel
theorem d_LA_36 : decode (kB K_LA) 36 = .ok (.iaload, 1) := by decide +kernel
theorem d_LA_37 : decode (kB K_LA) 37 = .ok (.bipush 31, 2) := by decide +kernel
theorem d_LA_39 : decode (kB K_LA) 39 = .ok (.iand, 1) := by decide +kernel
theorem d_LA_40 : decode (kB K_LA) 40 = .ok (.tableswitch 1539 0 24 #[116, 220, 276, 289, 302, 358, 426, 494, 562, 630, 710, 778, 846, 926, 1006, 1086, 1142, 1210, 1266, 1334, 1402, 1415, 1428, 1484, 1525], 116) := by decide +kernel
theorem d_LA_156 : decode (kB K_LA) 156 = .ok (.aload_n 1, 1) := by decide +kernel
theorem d_LA_157 : decode (kB K_LA) 157 = .ok (.aload_n 0, 1) := by decide +kernel
theorem d_LA_158 : decode (kB K_LA) 158 = .ok (.iload 4, 2) := by decide +kernel
theorem d_LA_160 : decode (kB K_LA) 160 = .ok (.iconst 1, 1) := by decide +kernel
theorem d_LA_161 : decode (kB K_LA) 161 = .ok (.iadd, 1) := by decide +kernel
theorem d_LA_162 : decode (kB K_LA) 162 = .ok (.iaload, 1) := by decide +kernel
theorem d_LA_163 : decode (kB K_LA) 163 = .ok (.aload_n 0, 1) := by decide +kernel
theorem d_LA_164 : decode (kB K_LA) 164 = .ok (.iload 4, 2) := by decide +kernel
theorem d_LA_166 : decode (kB K_LA) 166 = .ok (.iconst 2, 1) := by decide +kernel
theorem d_LA_167 : decode (kB K_LA) 167 = .ok (.iadd, 1) := by decide +kernel
theorem d_LA_168 : decode (kB K_LA) 168 = .ok (.iaload, 1) := by decide +kernel
theorem d_LA_169 : decode (kB K_LA) 169 = .ok (.aload_n 0, 1) := by decide +kernel
theorem d_LA_170 : decode (kB K_LA) 170 = .ok (.iload 4, 2) := by decide +kernel
theorem d_LA_172 : decode (kB K_LA) 172 = .ok (.iconst 3, 1) := by decide +kernel
theorem d_LA_173 : decode (kB K_LA) 173 = .ok (.iadd, 1) := by decide +kernel
theorem d_LA_174 : decode (kB K_LA) 174 = .ok (.iaload, 1) := by decide +kernel
theorem d_LA_175 : decode (kB K_LA) 175 = .ok (.aload_n 0, 1) := by decide +kernel
theorem d_LA_176 : decode (kB K_LA) 176 = .ok (.iload 4, 2) := by decide +kernel
theorem d_LA_178 : decode (kB K_LA) 178 = .ok (.iconst 4, 1) := by decide +kernel
theorem d_LA_179 : decode (kB K_LA) 179 = .ok (.iadd, 1) := by decide +kernel
theorem d_LA_180 : decode (kB K_LA) 180 = .ok (.iaload, 1) := by decide +kernel
theorem d_LA_181 : decode (kB K_LA) 181 = .ok (.aload_n 0, 1) := by decide +kernel
theorem d_LA_182 : decode (kB K_LA) 182 = .ok (.iload 4, 2) := by decide +kernel
theorem d_LA_184 : decode (kB K_LA) 184 = .ok (.iconst 5, 1) := by decide +kernel
theorem d_LA_185 : decode (kB K_LA) 185 = .ok (.iadd, 1) := by decide +kernel
theorem d_LA_186 : decode (kB K_LA) 186 = .ok (.iaload, 1) := by decide +kernel
theorem d_LA_187 : decode (kB K_LA) 187 = .ok (.aload_n 3, 1) := by decide +kernel
theorem d_LA_188 : decode (kB K_LA) 188 = .ok (.invokestatic 80, 3) := by decide +kernel
theorem d_LA_191 : decode (kB K_LA) 191 = .ok (.istore 5, 2) := by decide +kernel
theorem d_LA_193 : decode (kB K_LA) 193 = .ok (.aload_n 2, 1) := by decide +kernel
theorem d_LA_194 : decode (kB K_LA) 194 = .ok (.aload_n 0, 1) := by decide +kernel
theorem d_LA_195 : decode (kB K_LA) 195 = .ok (.iload 4, 2) := by decide +kernel
theorem d_LA_197 : decode (kB K_LA) 197 = .ok (.iconst 1, 1) := by decide +kernel
theorem d_LA_198 : decode (kB K_LA) 198 = .ok (.iadd, 1) := by decide +kernel
theorem d_LA_199 : decode (kB K_LA) 199 = .ok (.iaload, 1) := by decide +kernel
theorem d_LA_200 : decode (kB K_LA) 200 = .ok (.aload_n 0, 1) := by decide +kernel
theorem d_LA_201 : decode (kB K_LA) 201 = .ok (.iload 4, 2) := by decide +kernel
theorem d_LA_203 : decode (kB K_LA) 203 = .ok (.iconst 2, 1) := by decide +kernel
theorem d_LA_204 : decode (kB K_LA) 204 = .ok (.iadd, 1) := by decide +kernel
theorem d_LA_205 : decode (kB K_LA) 205 = .ok (.iaload, 1) := by decide +kernel
theorem d_LA_206 : decode (kB K_LA) 206 = .ok (.aload_n 0, 1) := by decide +kernel
theorem d_LA_207 : decode (kB K_LA) 207 = .ok (.iload 4, 2) := by decide +kernel
theorem d_LA_209 : decode (kB K_LA) 209 = .ok (.iconst 3, 1) := by decide +kernel
theorem d_LA_210 : decode (kB K_LA) 210 = .ok (.iadd, 1) := by decide +kernel
theorem d_LA_211 : decode (kB K_LA) 211 = .ok (.iaload, 1) := by decide +kernel
theorem d_LA_212 : decode (kB K_LA) 212 = .ok (.aload_n 0, 1) := by decide +kernel
theorem d_LA_213 : decode (kB K_LA) 213 = .ok (.iload 4, 2) := by decide +kernel
theorem d_LA_215 : decode (kB K_LA) 215 = .ok (.iconst 4, 1) := by decide +kernel
theorem d_LA_216 : decode (kB K_LA) 216 = .ok (.iadd, 1) := by decide +kernel
theorem d_LA_217 : decode (kB K_LA) 217 = .ok (.iaload, 1) := by decide +kernel
theorem d_LA_218 : decode (kB K_LA) 218 = .ok (.aload_n 0, 1) := by decide +kernel
theorem d_LA_219 : decode (kB K_LA) 219 = .ok (.iload 4, 2) := by decide +kernel
theorem d_LA_221 : decode (kB K_LA) 221 = .ok (.iconst 5, 1) := by decide +kernel
theorem d_LA_222 : decode (kB K_LA) 222 = .ok (.iadd, 1) := by decide +kernel
theorem d_LA_223 : decode (kB K_LA) 223 = .ok (.iaload, 1) := by decide +kernel
theorem d_LA_224 : decode (kB K_LA) 224 = .ok (.invokevirtual 85, 3) := by decide +kernel
theorem d_LA_227 : decode (kB K_LA) 227 = .ok (.istore 6, 2) := by decide +kernel
theorem d_LA_229 : decode (kB K_LA) 229 = .ok (.aload_n 2, 1) := by decide +kernel
theorem d_LA_230 : decode (kB K_LA) 230 = .ok (.invokevirtual 86, 3) := by decide +kernel
theorem d_LA_233 : decode (kB K_LA) 233 = .ok (.iload 5, 2) := by decide +kernel
theorem d_LA_235 : decode (kB K_LA) 235 = .ok (.if_icmp .eq 5, 3) := by decide +kernel
theorem d_LA_238 : decode (kB K_LA) 238 = .ok (.iconst 0, 1) := by decide +kernel
theorem d_LA_239 : decode (kB K_LA) 239 = .ok (.ireturn, 1) := by decide +kernel
theorem d_LA_240 : decode (kB K_LA) 240 = .ok (.iload 5, 2) := by decide +kernel
theorem d_LA_242 : decode (kB K_LA) 242 = .ok (.ifCond .ne 15, 3) := by decide +kernel
theorem d_LA_245 : decode (kB K_LA) 245 = .ok (.aload_n 3, 1) := by decide +kernel
theorem d_LA_246 : decode (kB K_LA) 246 = .ok (.iconst 0, 1) := by decide +kernel
theorem d_LA_247 : decode (kB K_LA) 247 = .ok (.laload, 1) := by decide +kernel
theorem d_LA_248 : decode (kB K_LA) 248 = .ok (.iload 6, 2) := by decide +kernel
theorem d_LA_250 : decode (kB K_LA) 250 = .ok (.i2l, 1) := by decide +kernel
theorem d_LA_251 : decode (kB K_LA) 251 = .ok (.lcmp, 1) := by decide +kernel
theorem d_LA_252 : decode (kB K_LA) 252 = .ok (.ifCond .eq 5, 3) := by decide +kernel
theorem d_LA_255 : decode (kB K_LA) 255 = .ok (.iconst 0, 1) := by decide +kernel
theorem d_LA_256 : decode (kB K_LA) 256 = .ok (.ireturn, 1) := by decide +kernel
theorem d_LA_257 : decode (kB K_LA) 257 = .ok (.goto 1322, 3) := by decide +kernel
theorem d_LA_260 : decode (kB K_LA) 260 = .ok (.aload_n 1, 1) := by decide +kernel
theorem d_LA_261 : decode (kB K_LA) 261 = .ok (.aload_n 0, 1) := by decide +kernel
theorem d_LA_262 : decode (kB K_LA) 262 = .ok (.iload 4, 2) := by decide +kernel
theorem d_LA_264 : decode (kB K_LA) 264 = .ok (.iconst 1, 1) := by decide +kernel
theorem d_LA_265 : decode (kB K_LA) 265 = .ok (.iadd, 1) := by decide +kernel
theorem d_LA_266 : decode (kB K_LA) 266 = .ok (.iaload, 1) := by decide +kernel
theorem d_LA_267 : decode (kB K_LA) 267 = .ok (.aload_n 3, 1) := by decide +kernel
theorem d_LA_268 : decode (kB K_LA) 268 = .ok (.invokestatic 90, 3) := by decide +kernel
theorem d_LA_271 : decode (kB K_LA) 271 = .ok (.istore 5, 2) := by decide +kernel
theorem d_LA_273 : decode (kB K_LA) 273 = .ok (.aload_n 2, 1) := by decide +kernel
theorem d_LA_274 : decode (kB K_LA) 274 = .ok (.aload_n 0, 1) := by decide +kernel
theorem d_LA_275 : decode (kB K_LA) 275 = .ok (.iload 4, 2) := by decide +kernel
theorem d_LA_277 : decode (kB K_LA) 277 = .ok (.iconst 1, 1) := by decide +kernel
theorem d_LA_278 : decode (kB K_LA) 278 = .ok (.iadd, 1) := by decide +kernel
theorem d_LA_279 : decode (kB K_LA) 279 = .ok (.iaload, 1) := by decide +kernel
theorem d_LA_280 : decode (kB K_LA) 280 = .ok (.invokevirtual 93, 3) := by decide +kernel
theorem d_LA_283 : decode (kB K_LA) 283 = .ok (.istore 6, 2) := by decide +kernel
theorem d_LA_285 : decode (kB K_LA) 285 = .ok (.aload_n 2, 1) := by decide +kernel
theorem d_LA_286 : decode (kB K_LA) 286 = .ok (.invokevirtual 86, 3) := by decide +kernel
theorem d_LA_289 : decode (kB K_LA) 289 = .ok (.iload 5, 2) := by decide +kernel
theorem d_LA_291 : decode (kB K_LA) 291 = .ok (.if_icmp .eq 5, 3) := by decide +kernel
theorem d_LA_294 : decode (kB K_LA) 294 = .ok (.iconst 0, 1) := by decide +kernel
theorem d_LA_295 : decode (kB K_LA) 295 = .ok (.ireturn, 1) := by decide +kernel
theorem d_LA_296 : decode (kB K_LA) 296 = .ok (.iload 5, 2) := by decide +kernel
theorem d_LA_298 : decode (kB K_LA) 298 = .ok (.ifCond .ne 15, 3) := by decide +kernel
theorem d_LA_301 : decode (kB K_LA) 301 = .ok (.aload_n 3, 1) := by decide +kernel
theorem d_LA_302 : decode (kB K_LA) 302 = .ok (.iconst 0, 1) := by decide +kernel
theorem d_LA_303 : decode (kB K_LA) 303 = .ok (.laload, 1) := by decide +kernel
theorem d_LA_304 : decode (kB K_LA) 304 = .ok (.iload 6, 2) := by decide +kernel
theorem d_LA_306 : decode (kB K_LA) 306 = .ok (.i2l, 1) := by decide +kernel
theorem d_LA_307 : decode (kB K_LA) 307 = .ok (.lcmp, 1) := by decide +kernel
theorem d_LA_308 : decode (kB K_LA) 308 = .ok (.ifCond .eq 5, 3) := by decide +kernel
theorem d_LA_311 : decode (kB K_LA) 311 = .ok (.iconst 0, 1) := by decide +kernel
theorem d_LA_312 : decode (kB K_LA) 312 = .ok (.ireturn, 1) := by decide +kernel
theorem d_LA_313 : decode (kB K_LA) 313 = .ok (.goto 1266, 3) := by decide +kernel
theorem d_LA_316 : decode (kB K_LA) 316 = .ok (.aload_n 1, 1) := by decide +kernel
theorem d_LA_317 : decode (kB K_LA) 317 = .ok (.invokevirtual 94, 3) := by decide +kernel
theorem d_LA_320 : decode (kB K_LA) 320 = .ok (.aload_n 2, 1) := by decide +kernel
theorem d_LA_321 : decode (kB K_LA) 321 = .ok (.invokevirtual 97, 3) := by decide +kernel
theorem d_LA_324 : decode (kB K_LA) 324 = .ok (.if_icmp .eq 1255, 3) := by decide +kernel
theorem d_LA_327 : decode (kB K_LA) 327 = .ok (.iconst 0, 1) := by decide +kernel
theorem d_LA_328 : decode (kB K_LA) 328 = .ok (.ireturn, 1) := by decide +kernel
theorem d_LA_329 : decode (kB K_LA) 329 = .ok (.aload_n 1, 1) := by decide +kernel
theorem d_LA_330 : decode (kB K_LA) 330 = .ok (.invokevirtual 98, 3) := by decide +kernel
theorem d_LA_333 : decode (kB K_LA) 333 = .ok (.aload_n 2, 1) := by decide +kernel
theorem d_LA_334 : decode (kB K_LA) 334 = .ok (.invokevirtual 101, 3) := by decide +kernel
theorem d_LA_337 : decode (kB K_LA) 337 = .ok (.if_icmp .eq 1242, 3) := by decide +kernel
theorem d_LA_340 : decode (kB K_LA) 340 = .ok (.iconst 0, 1) := by decide +kernel
theorem d_LA_341 : decode (kB K_LA) 341 = .ok (.ireturn, 1) := by decide +kernel
theorem d_LA_342 : decode (kB K_LA) 342 = .ok (.aload_n 1, 1) := by decide +kernel
theorem d_LA_343 : decode (kB K_LA) 343 = .ok (.aload_n 0, 1) := by decide +kernel
theorem d_LA_344 : decode (kB K_LA) 344 = .ok (.iload 4, 2) := by decide +kernel
theorem d_LA_346 : decode (kB K_LA) 346 = .ok (.iconst 1, 1) := by decide +kernel
theorem d_LA_347 : decode (kB K_LA) 347 = .ok (.iadd, 1) := by decide +kernel
theorem d_LA_348 : decode (kB K_LA) 348 = .ok (.iaload, 1) := by decide +kernel
theorem d_LA_349 : decode (kB K_LA) 349 = .ok (.aload_n 3, 1) := by decide +kernel
theorem d_LA_350 : decode (kB K_LA) 350 = .ok (.invokestatic 102, 3) := by decide +kernel
theorem d_LA_353 : decode (kB K_LA) 353 = .ok (.istore 5, 2) := by decide +kernel
theorem d_LA_355 : decode (kB K_LA) 355 = .ok (.aload_n 2, 1) := by decide +kernel
theorem d_LA_356 : decode (kB K_LA) 356 = .ok (.aload_n 0, 1) := by decide +kernel
theorem d_LA_357 : decode (kB K_LA) 357 = .ok (.iload 4, 2) := by decide +kernel
theorem d_LA_359 : decode (kB K_LA) 359 = .ok (.iconst 1, 1) := by decide +kernel
theorem d_LA_360 : decode (kB K_LA) 360 = .ok (.iadd, 1) := by decide +kernel
theorem d_LA_361 : decode (kB K_LA) 361 = .ok (.iaload, 1) := by decide +kernel
theorem d_LA_362 : decode (kB K_LA) 362 = .ok (.invokevirtual 104, 3) := by decide +kernel
theorem d_LA_365 : decode (kB K_LA) 365 = .ok (.istore 6, 2) := by decide +kernel
theorem d_LA_367 : decode (kB K_LA) 367 = .ok (.aload_n 2, 1) := by decide +kernel
theorem d_LA_368 : decode (kB K_LA) 368 = .ok (.invokevirtual 86, 3) := by decide +kernel
theorem d_LA_371 : decode (kB K_LA) 371 = .ok (.iload 5, 2) := by decide +kernel
theorem d_LA_373 : decode (kB K_LA) 373 = .ok (.if_icmp .eq 5, 3) := by decide +kernel
theorem d_LA_376 : decode (kB K_LA) 376 = .ok (.iconst 0, 1) := by decide +kernel
theorem d_LA_377 : decode (kB K_LA) 377 = .ok (.ireturn, 1) := by decide +kernel
theorem d_LA_378 : decode (kB K_LA) 378 = .ok (.iload 5, 2) := by decide +kernel
theorem d_LA_380 : decode (kB K_LA) 380 = .ok (.ifCond .ne 15, 3) := by decide +kernel
theorem d_LA_383 : decode (kB K_LA) 383 = .ok (.aload_n 3, 1) := by decide +kernel
theorem d_LA_384 : decode (kB K_LA) 384 = .ok (.iconst 0, 1) := by decide +kernel
theorem d_LA_385 : decode (kB K_LA) 385 = .ok (.laload, 1) := by decide +kernel
theorem d_LA_386 : decode (kB K_LA) 386 = .ok (.iload 6, 2) := by decide +kernel
theorem d_LA_388 : decode (kB K_LA) 388 = .ok (.i2l, 1) := by decide +kernel
theorem d_LA_389 : decode (kB K_LA) 389 = .ok (.lcmp, 1) := by decide +kernel
theorem d_LA_390 : decode (kB K_LA) 390 = .ok (.ifCond .eq 5, 3) := by decide +kernel
theorem d_LA_393 : decode (kB K_LA) 393 = .ok (.iconst 0, 1) := by decide +kernel
theorem d_LA_394 : decode (kB K_LA) 394 = .ok (.ireturn, 1) := by decide +kernel
theorem d_LA_395 : decode (kB K_LA) 395 = .ok (.goto 1184, 3) := by decide +kernel
theorem d_LA_398 : decode (kB K_LA) 398 = .ok (.aload_n 1, 1) := by decide +kernel
theorem d_LA_399 : decode (kB K_LA) 399 = .ok (.aload_n 0, 1) := by decide +kernel
theorem d_LA_400 : decode (kB K_LA) 400 = .ok (.iload 4, 2) := by decide +kernel
theorem d_LA_402 : decode (kB K_LA) 402 = .ok (.iconst 1, 1) := by decide +kernel
theorem d_LA_403 : decode (kB K_LA) 403 = .ok (.iadd, 1) := by decide +kernel
theorem d_LA_404 : decode (kB K_LA) 404 = .ok (.iaload, 1) := by decide +kernel
theorem d_LA_405 : decode (kB K_LA) 405 = .ok (.aload_n 0, 1) := by decide +kernel
theorem d_LA_406 : decode (kB K_LA) 406 = .ok (.iload 4, 2) := by decide +kernel
theorem d_LA_408 : decode (kB K_LA) 408 = .ok (.iconst 2, 1) := by decide +kernel
theorem d_LA_409 : decode (kB K_LA) 409 = .ok (.iadd, 1) := by decide +kernel
theorem d_LA_410 : decode (kB K_LA) 410 = .ok (.iaload, 1) := by decide +kernel
theorem d_LA_411 : decode (kB K_LA) 411 = .ok (.aload_n 3, 1) := by decide +kernel
theorem d_LA_412 : decode (kB K_LA) 412 = .ok (.invokestatic 105, 3) := by decide +kernel
theorem d_LA_415 : decode (kB K_LA) 415 = .ok (.istore 5, 2) := by decide +kernel
theorem d_LA_417 : decode (kB K_LA) 417 = .ok (.aload_n 2, 1) := by decide +kernel
theorem d_LA_418 : decode (kB K_LA) 418 = .ok (.aload_n 0, 1) := by decide +kernel
theorem d_LA_419 : decode (kB K_LA) 419 = .ok (.iload 4, 2) := by decide +kernel
theorem d_LA_421 : decode (kB K_LA) 421 = .ok (.iconst 1, 1) := by decide +kernel
theorem d_LA_422 : decode (kB K_LA) 422 = .ok (.iadd, 1) := by decide +kernel
theorem d_LA_423 : decode (kB K_LA) 423 = .ok (.iaload, 1) := by decide +kernel
theorem d_LA_424 : decode (kB K_LA) 424 = .ok (.aload_n 0, 1) := by decide +kernel
theorem d_LA_425 : decode (kB K_LA) 425 = .ok (.iload 4, 2) := by decide +kernel
theorem d_LA_427 : decode (kB K_LA) 427 = .ok (.iconst 2, 1) := by decide +kernel
theorem d_LA_428 : decode (kB K_LA) 428 = .ok (.iadd, 1) := by decide +kernel
theorem d_LA_429 : decode (kB K_LA) 429 = .ok (.iaload, 1) := by decide +kernel
theorem d_LA_430 : decode (kB K_LA) 430 = .ok (.invokevirtual 108, 3) := by decide +kernel
theorem d_LA_433 : decode (kB K_LA) 433 = .ok (.istore 6, 2) := by decide +kernel
theorem d_LA_435 : decode (kB K_LA) 435 = .ok (.aload_n 2, 1) := by decide +kernel
theorem d_LA_436 : decode (kB K_LA) 436 = .ok (.invokevirtual 86, 3) := by decide +kernel
theorem d_LA_439 : decode (kB K_LA) 439 = .ok (.iload 5, 2) := by decide +kernel
theorem d_LA_441 : decode (kB K_LA) 441 = .ok (.if_icmp .eq 5, 3) := by decide +kernel
theorem d_LA_444 : decode (kB K_LA) 444 = .ok (.iconst 0, 1) := by decide +kernel
theorem d_LA_445 : decode (kB K_LA) 445 = .ok (.ireturn, 1) := by decide +kernel
theorem d_LA_446 : decode (kB K_LA) 446 = .ok (.iload 5, 2) := by decide +kernel
theorem d_LA_448 : decode (kB K_LA) 448 = .ok (.ifCond .ne 15, 3) := by decide +kernel
theorem d_LA_451 : decode (kB K_LA) 451 = .ok (.aload_n 3, 1) := by decide +kernel
theorem d_LA_452 : decode (kB K_LA) 452 = .ok (.iconst 0, 1) := by decide +kernel
theorem d_LA_453 : decode (kB K_LA) 453 = .ok (.laload, 1) := by decide +kernel
theorem d_LA_454 : decode (kB K_LA) 454 = .ok (.iload 6, 2) := by decide +kernel
theorem d_LA_456 : decode (kB K_LA) 456 = .ok (.i2l, 1) := by decide +kernel
theorem d_LA_457 : decode (kB K_LA) 457 = .ok (.lcmp, 1) := by decide +kernel
theorem d_LA_458 : decode (kB K_LA) 458 = .ok (.ifCond .eq 5, 3) := by decide +kernel
theorem d_LA_461 : decode (kB K_LA) 461 = .ok (.iconst 0, 1) := by decide +kernel
theorem d_LA_462 : decode (kB K_LA) 462 = .ok (.ireturn, 1) := by decide +kernel
theorem d_LA_463 : decode (kB K_LA) 463 = .ok (.goto 1116, 3) := by decide +kernel
theorem d_LA_466 : decode (kB K_LA) 466 = .ok (.aload_n 1, 1) := by decide +kernel
theorem d_LA_467 : decode (kB K_LA) 467 = .ok (.aload_n 0, 1) := by decide +kernel
theorem d_LA_468 : decode (kB K_LA) 468 = .ok (.iload 4, 2) := by decide +kernel
theorem d_LA_470 : decode (kB K_LA) 470 = .ok (.iconst 1, 1) := by decide +kernel
theorem d_LA_471 : decode (kB K_LA) 471 = .ok (.iadd, 1) := by decide +kernel
theorem d_LA_472 : decode (kB K_LA) 472 = .ok (.iaload, 1) := by decide +kernel
theorem d_LA_473 : decode (kB K_LA) 473 = .ok (.aload_n 0, 1) := by decide +kernel
theorem d_LA_474 : decode (kB K_LA) 474 = .ok (.iload 4, 2) := by decide +kernel
theorem d_LA_476 : decode (kB K_LA) 476 = .ok (.iconst 2, 1) := by decide +kernel
theorem d_LA_477 : decode (kB K_LA) 477 = .ok (.iadd, 1) := by decide +kernel
theorem d_LA_478 : decode (kB K_LA) 478 = .ok (.iaload, 1) := by decide +kernel
theorem d_LA_479 : decode (kB K_LA) 479 = .ok (.aload_n 3, 1) := by decide +kernel
theorem d_LA_480 : decode (kB K_LA) 480 = .ok (.invokestatic 109, 3) := by decide +kernel
theorem d_LA_483 : decode (kB K_LA) 483 = .ok (.istore 5, 2) := by decide +kernel
theorem d_LA_485 : decode (kB K_LA) 485 = .ok (.aload_n 2, 1) := by decide +kernel
theorem d_LA_486 : decode (kB K_LA) 486 = .ok (.aload_n 0, 1) := by decide +kernel
theorem d_LA_487 : decode (kB K_LA) 487 = .ok (.iload 4, 2) := by decide +kernel
theorem d_LA_489 : decode (kB K_LA) 489 = .ok (.iconst 1, 1) := by decide +kernel
theorem d_LA_490 : decode (kB K_LA) 490 = .ok (.iadd, 1) := by decide +kernel
theorem d_LA_491 : decode (kB K_LA) 491 = .ok (.iaload, 1) := by decide +kernel
theorem d_LA_492 : decode (kB K_LA) 492 = .ok (.aload_n 0, 1) := by decide +kernel
theorem d_LA_493 : decode (kB K_LA) 493 = .ok (.iload 4, 2) := by decide +kernel
theorem d_LA_495 : decode (kB K_LA) 495 = .ok (.iconst 2, 1) := by decide +kernel
theorem d_LA_496 : decode (kB K_LA) 496 = .ok (.iadd, 1) := by decide +kernel
theorem d_LA_497 : decode (kB K_LA) 497 = .ok (.iaload, 1) := by decide +kernel
theorem d_LA_498 : decode (kB K_LA) 498 = .ok (.invokevirtual 111, 3) := by decide +kernel
theorem d_LA_501 : decode (kB K_LA) 501 = .ok (.istore 6, 2) := by decide +kernel
theorem d_LA_503 : decode (kB K_LA) 503 = .ok (.aload_n 2, 1) := by decide +kernel
theorem d_LA_504 : decode (kB K_LA) 504 = .ok (.invokevirtual 86, 3) := by decide +kernel
theorem d_LA_507 : decode (kB K_LA) 507 = .ok (.iload 5, 2) := by decide +kernel
theorem d_LA_509 : decode (kB K_LA) 509 = .ok (.if_icmp .eq 5, 3) := by decide +kernel
theorem d_LA_512 : decode (kB K_LA) 512 = .ok (.iconst 0, 1) := by decide +kernel
theorem d_LA_513 : decode (kB K_LA) 513 = .ok (.ireturn, 1) := by decide +kernel
theorem d_LA_514 : decode (kB K_LA) 514 = .ok (.iload 5, 2) := by decide +kernel
theorem d_LA_516 : decode (kB K_LA) 516 = .ok (.ifCond .ne 15, 3) := by decide +kernel
theorem d_LA_519 : decode (kB K_LA) 519 = .ok (.aload_n 3, 1) := by decide +kernel
theorem d_LA_520 : decode (kB K_LA) 520 = .ok (.iconst 0, 1) := by decide +kernel
theorem d_LA_521 : decode (kB K_LA) 521 = .ok (.laload, 1) := by decide +kernel
theorem d_LA_522 : decode (kB K_LA) 522 = .ok (.iload 6, 2) := by decide +kernel
theorem d_LA_524 : decode (kB K_LA) 524 = .ok (.i2l, 1) := by decide +kernel
theorem d_LA_525 : decode (kB K_LA) 525 = .ok (.lcmp, 1) := by decide +kernel
theorem d_LA_526 : decode (kB K_LA) 526 = .ok (.ifCond .eq 5, 3) := by decide +kernel
theorem d_LA_529 : decode (kB K_LA) 529 = .ok (.iconst 0, 1) := by decide +kernel
theorem d_LA_530 : decode (kB K_LA) 530 = .ok (.ireturn, 1) := by decide +kernel
theorem d_LA_531 : decode (kB K_LA) 531 = .ok (.goto 1048, 3) := by decide +kernel
theorem d_LA_534 : decode (kB K_LA) 534 = .ok (.aload_n 1, 1) := by decide +kernel
theorem d_LA_535 : decode (kB K_LA) 535 = .ok (.aload_n 0, 1) := by decide +kernel
theorem d_LA_536 : decode (kB K_LA) 536 = .ok (.iload 4, 2) := by decide +kernel
theorem d_LA_538 : decode (kB K_LA) 538 = .ok (.iconst 1, 1) := by decide +kernel
theorem d_LA_539 : decode (kB K_LA) 539 = .ok (.iadd, 1) := by decide +kernel
theorem d_LA_540 : decode (kB K_LA) 540 = .ok (.iaload, 1) := by decide +kernel
theorem d_LA_541 : decode (kB K_LA) 541 = .ok (.aload_n 0, 1) := by decide +kernel
theorem d_LA_542 : decode (kB K_LA) 542 = .ok (.iload 4, 2) := by decide +kernel
theorem d_LA_544 : decode (kB K_LA) 544 = .ok (.iconst 2, 1) := by decide +kernel
theorem d_LA_545 : decode (kB K_LA) 545 = .ok (.iadd, 1) := by decide +kernel
theorem d_LA_546 : decode (kB K_LA) 546 = .ok (.iaload, 1) := by decide +kernel
theorem d_LA_547 : decode (kB K_LA) 547 = .ok (.aload_n 3, 1) := by decide +kernel
theorem d_LA_548 : decode (kB K_LA) 548 = .ok (.invokestatic 112, 3) := by decide +kernel
theorem d_LA_551 : decode (kB K_LA) 551 = .ok (.istore 5, 2) := by decide +kernel
theorem d_LA_553 : decode (kB K_LA) 553 = .ok (.aload_n 2, 1) := by decide +kernel
theorem d_LA_554 : decode (kB K_LA) 554 = .ok (.aload_n 0, 1) := by decide +kernel
theorem d_LA_555 : decode (kB K_LA) 555 = .ok (.iload 4, 2) := by decide +kernel
theorem d_LA_557 : decode (kB K_LA) 557 = .ok (.iconst 1, 1) := by decide +kernel
theorem d_LA_558 : decode (kB K_LA) 558 = .ok (.iadd, 1) := by decide +kernel
theorem d_LA_559 : decode (kB K_LA) 559 = .ok (.iaload, 1) := by decide +kernel
theorem d_LA_560 : decode (kB K_LA) 560 = .ok (.aload_n 0, 1) := by decide +kernel
theorem d_LA_561 : decode (kB K_LA) 561 = .ok (.iload 4, 2) := by decide +kernel
theorem d_LA_563 : decode (kB K_LA) 563 = .ok (.iconst 2, 1) := by decide +kernel
theorem d_LA_564 : decode (kB K_LA) 564 = .ok (.iadd, 1) := by decide +kernel
theorem d_LA_565 : decode (kB K_LA) 565 = .ok (.iaload, 1) := by decide +kernel
theorem d_LA_566 : decode (kB K_LA) 566 = .ok (.invokevirtual 114, 3) := by decide +kernel
theorem d_LA_569 : decode (kB K_LA) 569 = .ok (.istore 6, 2) := by decide +kernel
theorem d_LA_571 : decode (kB K_LA) 571 = .ok (.aload_n 2, 1) := by decide +kernel
theorem d_LA_572 : decode (kB K_LA) 572 = .ok (.invokevirtual 86, 3) := by decide +kernel
theorem d_LA_575 : decode (kB K_LA) 575 = .ok (.iload 5, 2) := by decide +kernel
theorem d_LA_577 : decode (kB K_LA) 577 = .ok (.if_icmp .eq 5, 3) := by decide +kernel
theorem d_LA_580 : decode (kB K_LA) 580 = .ok (.iconst 0, 1) := by decide +kernel
theorem d_LA_581 : decode (kB K_LA) 581 = .ok (.ireturn, 1) := by decide +kernel
theorem d_LA_582 : decode (kB K_LA) 582 = .ok (.iload 5, 2) := by decide +kernel
theorem d_LA_584 : decode (kB K_LA) 584 = .ok (.ifCond .ne 15, 3) := by decide +kernel
theorem d_LA_587 : decode (kB K_LA) 587 = .ok (.aload_n 3, 1) := by decide +kernel
theorem d_LA_588 : decode (kB K_LA) 588 = .ok (.iconst 0, 1) := by decide +kernel
theorem d_LA_589 : decode (kB K_LA) 589 = .ok (.laload, 1) := by decide +kernel
theorem d_LA_590 : decode (kB K_LA) 590 = .ok (.iload 6, 2) := by decide +kernel
theorem d_LA_592 : decode (kB K_LA) 592 = .ok (.i2l, 1) := by decide +kernel
theorem d_LA_593 : decode (kB K_LA) 593 = .ok (.lcmp, 1) := by decide +kernel
theorem d_LA_594 : decode (kB K_LA) 594 = .ok (.ifCond .eq 5, 3) := by decide +kernel
theorem d_LA_597 : decode (kB K_LA) 597 = .ok (.iconst 0, 1) := by decide +kernel
theorem d_LA_598 : decode (kB K_LA) 598 = .ok (.ireturn, 1) := by decide +kernel
theorem d_LA_599 : decode (kB K_LA) 599 = .ok (.goto 980, 3) := by decide +kernel
theorem d_LA_602 : decode (kB K_LA) 602 = .ok (.aload_n 1, 1) := by decide +kernel
theorem d_LA_603 : decode (kB K_LA) 603 = .ok (.aload_n 0, 1) := by decide +kernel
theorem d_LA_604 : decode (kB K_LA) 604 = .ok (.iload 4, 2) := by decide +kernel
theorem d_LA_606 : decode (kB K_LA) 606 = .ok (.iconst 1, 1) := by decide +kernel
theorem d_LA_607 : decode (kB K_LA) 607 = .ok (.iadd, 1) := by decide +kernel
theorem d_LA_608 : decode (kB K_LA) 608 = .ok (.iaload, 1) := by decide +kernel
theorem d_LA_609 : decode (kB K_LA) 609 = .ok (.aload_n 0, 1) := by decide +kernel
theorem d_LA_610 : decode (kB K_LA) 610 = .ok (.iload 4, 2) := by decide +kernel
theorem d_LA_612 : decode (kB K_LA) 612 = .ok (.iconst 2, 1) := by decide +kernel
theorem d_LA_613 : decode (kB K_LA) 613 = .ok (.iadd, 1) := by decide +kernel
theorem d_LA_614 : decode (kB K_LA) 614 = .ok (.iaload, 1) := by decide +kernel
theorem d_LA_615 : decode (kB K_LA) 615 = .ok (.aload_n 3, 1) := by decide +kernel
theorem d_LA_616 : decode (kB K_LA) 616 = .ok (.invokestatic 115, 3) := by decide +kernel
theorem d_LA_619 : decode (kB K_LA) 619 = .ok (.istore 5, 2) := by decide +kernel
theorem d_LA_621 : decode (kB K_LA) 621 = .ok (.aload_n 2, 1) := by decide +kernel
theorem d_LA_622 : decode (kB K_LA) 622 = .ok (.aload_n 0, 1) := by decide +kernel
theorem d_LA_623 : decode (kB K_LA) 623 = .ok (.iload 4, 2) := by decide +kernel
theorem d_LA_625 : decode (kB K_LA) 625 = .ok (.iconst 1, 1) := by decide +kernel
theorem d_LA_626 : decode (kB K_LA) 626 = .ok (.iadd, 1) := by decide +kernel
theorem d_LA_627 : decode (kB K_LA) 627 = .ok (.iaload, 1) := by decide +kernel
theorem d_LA_628 : decode (kB K_LA) 628 = .ok (.aload_n 0, 1) := by decide +kernel
theorem d_LA_629 : decode (kB K_LA) 629 = .ok (.iload 4, 2) := by decide +kernel
theorem d_LA_631 : decode (kB K_LA) 631 = .ok (.iconst 2, 1) := by decide +kernel
theorem d_LA_632 : decode (kB K_LA) 632 = .ok (.iadd, 1) := by decide +kernel
theorem d_LA_633 : decode (kB K_LA) 633 = .ok (.iaload, 1) := by decide +kernel
theorem d_LA_634 : decode (kB K_LA) 634 = .ok (.invokevirtual 117, 3) := by decide +kernel
theorem d_LA_637 : decode (kB K_LA) 637 = .ok (.istore 6, 2) := by decide +kernel
theorem d_LA_639 : decode (kB K_LA) 639 = .ok (.aload_n 2, 1) := by decide +kernel
theorem d_LA_640 : decode (kB K_LA) 640 = .ok (.invokevirtual 86, 3) := by decide +kernel
theorem d_LA_643 : decode (kB K_LA) 643 = .ok (.iload 5, 2) := by decide +kernel
theorem d_LA_645 : decode (kB K_LA) 645 = .ok (.if_icmp .eq 5, 3) := by decide +kernel
theorem d_LA_648 : decode (kB K_LA) 648 = .ok (.iconst 0, 1) := by decide +kernel
theorem d_LA_649 : decode (kB K_LA) 649 = .ok (.ireturn, 1) := by decide +kernel
theorem d_LA_650 : decode (kB K_LA) 650 = .ok (.iload 5, 2) := by decide +kernel
theorem d_LA_652 : decode (kB K_LA) 652 = .ok (.ifCond .ne 15, 3) := by decide +kernel
theorem d_LA_655 : decode (kB K_LA) 655 = .ok (.aload_n 3, 1) := by decide +kernel
theorem d_LA_656 : decode (kB K_LA) 656 = .ok (.iconst 0, 1) := by decide +kernel
theorem d_LA_657 : decode (kB K_LA) 657 = .ok (.laload, 1) := by decide +kernel
theorem d_LA_658 : decode (kB K_LA) 658 = .ok (.iload 6, 2) := by decide +kernel
theorem d_LA_660 : decode (kB K_LA) 660 = .ok (.i2l, 1) := by decide +kernel
theorem d_LA_661 : decode (kB K_LA) 661 = .ok (.lcmp, 1) := by decide +kernel
theorem d_LA_662 : decode (kB K_LA) 662 = .ok (.ifCond .eq 5, 3) := by decide +kernel
theorem d_LA_665 : decode (kB K_LA) 665 = .ok (.iconst 0, 1) := by decide +kernel
theorem d_LA_666 : decode (kB K_LA) 666 = .ok (.ireturn, 1) := by decide +kernel
theorem d_LA_667 : decode (kB K_LA) 667 = .ok (.goto 912, 3) := by decide +kernel
theorem d_LA_670 : decode (kB K_LA) 670 = .ok (.aload_n 1, 1) := by decide +kernel
theorem d_LA_671 : decode (kB K_LA) 671 = .ok (.aload_n 0, 1) := by decide +kernel
theorem d_LA_672 : decode (kB K_LA) 672 = .ok (.iload 4, 2) := by decide +kernel
theorem d_LA_674 : decode (kB K_LA) 674 = .ok (.iconst 1, 1) := by decide +kernel
theorem d_LA_675 : decode (kB K_LA) 675 = .ok (.iadd, 1) := by decide +kernel
theorem d_LA_676 : decode (kB K_LA) 676 = .ok (.iaload, 1) := by decide +kernel
theorem d_LA_677 : decode (kB K_LA) 677 = .ok (.aload_n 0, 1) := by decide +kernel
theorem d_LA_678 : decode (kB K_LA) 678 = .ok (.iload 4, 2) := by decide +kernel
theorem d_LA_680 : decode (kB K_LA) 680 = .ok (.iconst 2, 1) := by decide +kernel
theorem d_LA_681 : decode (kB K_LA) 681 = .ok (.iadd, 1) := by decide +kernel
theorem d_LA_682 : decode (kB K_LA) 682 = .ok (.iaload, 1) := by decide +kernel
theorem d_LA_683 : decode (kB K_LA) 683 = .ok (.aload_n 0, 1) := by decide +kernel
theorem d_LA_684 : decode (kB K_LA) 684 = .ok (.iload 4, 2) := by decide +kernel
theorem d_LA_686 : decode (kB K_LA) 686 = .ok (.iconst 3, 1) := by decide +kernel
theorem d_LA_687 : decode (kB K_LA) 687 = .ok (.iadd, 1) := by decide +kernel
theorem d_LA_688 : decode (kB K_LA) 688 = .ok (.iaload, 1) := by decide +kernel
theorem d_LA_689 : decode (kB K_LA) 689 = .ok (.aload_n 3, 1) := by decide +kernel
theorem d_LA_690 : decode (kB K_LA) 690 = .ok (.invokestatic 118, 3) := by decide +kernel
theorem d_LA_693 : decode (kB K_LA) 693 = .ok (.istore 5, 2) := by decide +kernel
theorem d_LA_695 : decode (kB K_LA) 695 = .ok (.aload_n 2, 1) := by decide +kernel
theorem d_LA_696 : decode (kB K_LA) 696 = .ok (.aload_n 0, 1) := by decide +kernel
theorem d_LA_697 : decode (kB K_LA) 697 = .ok (.iload 4, 2) := by decide +kernel
theorem d_LA_699 : decode (kB K_LA) 699 = .ok (.iconst 1, 1) := by decide +kernel
theorem d_LA_700 : decode (kB K_LA) 700 = .ok (.iadd, 1) := by decide +kernel
theorem d_LA_701 : decode (kB K_LA) 701 = .ok (.iaload, 1) := by decide +kernel
theorem d_LA_702 : decode (kB K_LA) 702 = .ok (.aload_n 0, 1) := by decide +kernel
theorem d_LA_703 : decode (kB K_LA) 703 = .ok (.iload 4, 2) := by decide +kernel
theorem d_LA_705 : decode (kB K_LA) 705 = .ok (.iconst 2, 1) := by decide +kernel
theorem d_LA_706 : decode (kB K_LA) 706 = .ok (.iadd, 1) := by decide +kernel
theorem d_LA_707 : decode (kB K_LA) 707 = .ok (.iaload, 1) := by decide +kernel
theorem d_LA_708 : decode (kB K_LA) 708 = .ok (.aload_n 0, 1) := by decide +kernel
theorem d_LA_709 : decode (kB K_LA) 709 = .ok (.iload 4, 2) := by decide +kernel
theorem d_LA_711 : decode (kB K_LA) 711 = .ok (.iconst 3, 1) := by decide +kernel
theorem d_LA_712 : decode (kB K_LA) 712 = .ok (.iadd, 1) := by decide +kernel
theorem d_LA_713 : decode (kB K_LA) 713 = .ok (.iaload, 1) := by decide +kernel
theorem d_LA_714 : decode (kB K_LA) 714 = .ok (.invokevirtual 121, 3) := by decide +kernel
theorem d_LA_717 : decode (kB K_LA) 717 = .ok (.istore 6, 2) := by decide +kernel
theorem d_LA_719 : decode (kB K_LA) 719 = .ok (.aload_n 2, 1) := by decide +kernel
theorem d_LA_720 : decode (kB K_LA) 720 = .ok (.invokevirtual 86, 3) := by decide +kernel
theorem d_LA_723 : decode (kB K_LA) 723 = .ok (.iload 5, 2) := by decide +kernel
theorem d_LA_725 : decode (kB K_LA) 725 = .ok (.if_icmp .eq 5, 3) := by decide +kernel
theorem d_LA_728 : decode (kB K_LA) 728 = .ok (.iconst 0, 1) := by decide +kernel
theorem d_LA_729 : decode (kB K_LA) 729 = .ok (.ireturn, 1) := by decide +kernel
theorem d_LA_730 : decode (kB K_LA) 730 = .ok (.iload 5, 2) := by decide +kernel
theorem d_LA_732 : decode (kB K_LA) 732 = .ok (.ifCond .ne 15, 3) := by decide +kernel
theorem d_LA_735 : decode (kB K_LA) 735 = .ok (.aload_n 3, 1) := by decide +kernel
theorem d_LA_736 : decode (kB K_LA) 736 = .ok (.iconst 0, 1) := by decide +kernel
theorem d_LA_737 : decode (kB K_LA) 737 = .ok (.laload, 1) := by decide +kernel
theorem d_LA_738 : decode (kB K_LA) 738 = .ok (.iload 6, 2) := by decide +kernel
theorem d_LA_740 : decode (kB K_LA) 740 = .ok (.i2l, 1) := by decide +kernel
theorem d_LA_741 : decode (kB K_LA) 741 = .ok (.lcmp, 1) := by decide +kernel
theorem d_LA_742 : decode (kB K_LA) 742 = .ok (.ifCond .eq 5, 3) := by decide +kernel
theorem d_LA_745 : decode (kB K_LA) 745 = .ok (.iconst 0, 1) := by decide +kernel
theorem d_LA_746 : decode (kB K_LA) 746 = .ok (.ireturn, 1) := by decide +kernel
theorem d_LA_747 : decode (kB K_LA) 747 = .ok (.goto 832, 3) := by decide +kernel
theorem d_LA_750 : decode (kB K_LA) 750 = .ok (.aload_n 1, 1) := by decide +kernel
theorem d_LA_751 : decode (kB K_LA) 751 = .ok (.aload_n 0, 1) := by decide +kernel
theorem d_LA_752 : decode (kB K_LA) 752 = .ok (.iload 4, 2) := by decide +kernel
theorem d_LA_754 : decode (kB K_LA) 754 = .ok (.iconst 1, 1) := by decide +kernel
theorem d_LA_755 : decode (kB K_LA) 755 = .ok (.iadd, 1) := by decide +kernel
theorem d_LA_756 : decode (kB K_LA) 756 = .ok (.iaload, 1) := by decide +kernel
theorem d_LA_757 : decode (kB K_LA) 757 = .ok (.aload_n 0, 1) := by decide +kernel
theorem d_LA_758 : decode (kB K_LA) 758 = .ok (.iload 4, 2) := by decide +kernel
theorem d_LA_760 : decode (kB K_LA) 760 = .ok (.iconst 2, 1) := by decide +kernel
theorem d_LA_761 : decode (kB K_LA) 761 = .ok (.iadd, 1) := by decide +kernel
theorem d_LA_762 : decode (kB K_LA) 762 = .ok (.iaload, 1) := by decide +kernel
theorem d_LA_763 : decode (kB K_LA) 763 = .ok (.aload_n 3, 1) := by decide +kernel
theorem d_LA_764 : decode (kB K_LA) 764 = .ok (.invokestatic 122, 3) := by decide +kernel
theorem d_LA_767 : decode (kB K_LA) 767 = .ok (.istore 5, 2) := by decide +kernel
theorem d_LA_769 : decode (kB K_LA) 769 = .ok (.aload_n 2, 1) := by decide +kernel
theorem d_LA_770 : decode (kB K_LA) 770 = .ok (.aload_n 0, 1) := by decide +kernel
theorem d_LA_771 : decode (kB K_LA) 771 = .ok (.iload 4, 2) := by decide +kernel
theorem d_LA_773 : decode (kB K_LA) 773 = .ok (.iconst 1, 1) := by decide +kernel
theorem d_LA_774 : decode (kB K_LA) 774 = .ok (.iadd, 1) := by decide +kernel
theorem d_LA_775 : decode (kB K_LA) 775 = .ok (.iaload, 1) := by decide +kernel
theorem d_LA_776 : decode (kB K_LA) 776 = .ok (.aload_n 0, 1) := by decide +kernel
theorem d_LA_777 : decode (kB K_LA) 777 = .ok (.iload 4, 2) := by decide +kernel
theorem d_LA_779 : decode (kB K_LA) 779 = .ok (.iconst 2, 1) := by decide +kernel
theorem d_LA_780 : decode (kB K_LA) 780 = .ok (.iadd, 1) := by decide +kernel
theorem d_LA_781 : decode (kB K_LA) 781 = .ok (.iaload, 1) := by decide +kernel
theorem d_LA_782 : decode (kB K_LA) 782 = .ok (.invokevirtual 124, 3) := by decide +kernel
theorem d_LA_785 : decode (kB K_LA) 785 = .ok (.istore 6, 2) := by decide +kernel
theorem d_LA_787 : decode (kB K_LA) 787 = .ok (.aload_n 2, 1) := by decide +kernel
theorem d_LA_788 : decode (kB K_LA) 788 = .ok (.invokevirtual 86, 3) := by decide +kernel
theorem d_LA_791 : decode (kB K_LA) 791 = .ok (.iload 5, 2) := by decide +kernel
theorem d_LA_793 : decode (kB K_LA) 793 = .ok (.if_icmp .eq 5, 3) := by decide +kernel
theorem d_LA_796 : decode (kB K_LA) 796 = .ok (.iconst 0, 1) := by decide +kernel
theorem d_LA_797 : decode (kB K_LA) 797 = .ok (.ireturn, 1) := by decide +kernel
theorem d_LA_798 : decode (kB K_LA) 798 = .ok (.iload 5, 2) := by decide +kernel
theorem d_LA_800 : decode (kB K_LA) 800 = .ok (.ifCond .ne 15, 3) := by decide +kernel
theorem d_LA_803 : decode (kB K_LA) 803 = .ok (.aload_n 3, 1) := by decide +kernel
theorem d_LA_804 : decode (kB K_LA) 804 = .ok (.iconst 0, 1) := by decide +kernel
theorem d_LA_805 : decode (kB K_LA) 805 = .ok (.laload, 1) := by decide +kernel
theorem d_LA_806 : decode (kB K_LA) 806 = .ok (.iload 6, 2) := by decide +kernel
theorem d_LA_808 : decode (kB K_LA) 808 = .ok (.i2l, 1) := by decide +kernel
theorem d_LA_809 : decode (kB K_LA) 809 = .ok (.lcmp, 1) := by decide +kernel
theorem d_LA_810 : decode (kB K_LA) 810 = .ok (.ifCond .eq 5, 3) := by decide +kernel
theorem d_LA_813 : decode (kB K_LA) 813 = .ok (.iconst 0, 1) := by decide +kernel
theorem d_LA_814 : decode (kB K_LA) 814 = .ok (.ireturn, 1) := by decide +kernel
theorem d_LA_815 : decode (kB K_LA) 815 = .ok (.goto 764, 3) := by decide +kernel
theorem d_LA_818 : decode (kB K_LA) 818 = .ok (.aload_n 1, 1) := by decide +kernel
theorem d_LA_819 : decode (kB K_LA) 819 = .ok (.aload_n 0, 1) := by decide +kernel
theorem d_LA_820 : decode (kB K_LA) 820 = .ok (.iload 4, 2) := by decide +kernel
theorem d_LA_822 : decode (kB K_LA) 822 = .ok (.iconst 1, 1) := by decide +kernel
theorem d_LA_823 : decode (kB K_LA) 823 = .ok (.iadd, 1) := by decide +kernel
theorem d_LA_824 : decode (kB K_LA) 824 = .ok (.iaload, 1) := by decide +kernel
theorem d_LA_825 : decode (kB K_LA) 825 = .ok (.aload_n 0, 1) := by decide +kernel
theorem d_LA_826 : decode (kB K_LA) 826 = .ok (.iload 4, 2) := by decide +kernel
theorem d_LA_828 : decode (kB K_LA) 828 = .ok (.iconst 2, 1) := by decide +kernel
theorem d_LA_829 : decode (kB K_LA) 829 = .ok (.iadd, 1) := by decide +kernel
theorem d_LA_830 : decode (kB K_LA) 830 = .ok (.iaload, 1) := by decide +kernel
theorem d_LA_831 : decode (kB K_LA) 831 = .ok (.aload_n 3, 1) := by decide +kernel
theorem d_LA_832 : decode (kB K_LA) 832 = .ok (.invokestatic 125, 3) := by decide +kernel
theorem d_LA_835 : decode (kB K_LA) 835 = .ok (.istore 5, 2) := by decide +kernel
theorem d_LA_837 : decode (kB K_LA) 837 = .ok (.aload_n 2, 1) := by decide +kernel
theorem d_LA_838 : decode (kB K_LA) 838 = .ok (.aload_n 0, 1) := by decide +kernel
theorem d_LA_839 : decode (kB K_LA) 839 = .ok (.iload 4, 2) := by decide +kernel
theorem d_LA_841 : decode (kB K_LA) 841 = .ok (.iconst 1, 1) := by decide +kernel
theorem d_LA_842 : decode (kB K_LA) 842 = .ok (.iadd, 1) := by decide +kernel
theorem d_LA_843 : decode (kB K_LA) 843 = .ok (.iaload, 1) := by decide +kernel
theorem d_LA_844 : decode (kB K_LA) 844 = .ok (.aload_n 0, 1) := by decide +kernel
theorem d_LA_845 : decode (kB K_LA) 845 = .ok (.iload 4, 2) := by decide +kernel
theorem d_LA_847 : decode (kB K_LA) 847 = .ok (.iconst 2, 1) := by decide +kernel
theorem d_LA_848 : decode (kB K_LA) 848 = .ok (.iadd, 1) := by decide +kernel
theorem d_LA_849 : decode (kB K_LA) 849 = .ok (.iaload, 1) := by decide +kernel
theorem d_LA_850 : decode (kB K_LA) 850 = .ok (.invokevirtual 127, 3) := by decide +kernel
theorem d_LA_853 : decode (kB K_LA) 853 = .ok (.istore 6, 2) := by decide +kernel
theorem d_LA_855 : decode (kB K_LA) 855 = .ok (.aload_n 2, 1) := by decide +kernel
theorem d_LA_856 : decode (kB K_LA) 856 = .ok (.invokevirtual 86, 3) := by decide +kernel
theorem d_LA_859 : decode (kB K_LA) 859 = .ok (.iload 5, 2) := by decide +kernel
theorem d_LA_861 : decode (kB K_LA) 861 = .ok (.if_icmp .eq 5, 3) := by decide +kernel
theorem d_LA_864 : decode (kB K_LA) 864 = .ok (.iconst 0, 1) := by decide +kernel
theorem d_LA_865 : decode (kB K_LA) 865 = .ok (.ireturn, 1) := by decide +kernel
theorem d_LA_866 : decode (kB K_LA) 866 = .ok (.iload 5, 2) := by decide +kernel
theorem d_LA_868 : decode (kB K_LA) 868 = .ok (.ifCond .ne 15, 3) := by decide +kernel
theorem d_LA_871 : decode (kB K_LA) 871 = .ok (.aload_n 3, 1) := by decide +kernel
theorem d_LA_872 : decode (kB K_LA) 872 = .ok (.iconst 0, 1) := by decide +kernel
theorem d_LA_873 : decode (kB K_LA) 873 = .ok (.laload, 1) := by decide +kernel
theorem d_LA_874 : decode (kB K_LA) 874 = .ok (.iload 6, 2) := by decide +kernel
theorem d_LA_876 : decode (kB K_LA) 876 = .ok (.i2l, 1) := by decide +kernel
theorem d_LA_877 : decode (kB K_LA) 877 = .ok (.lcmp, 1) := by decide +kernel
theorem d_LA_878 : decode (kB K_LA) 878 = .ok (.ifCond .eq 5, 3) := by decide +kernel
theorem d_LA_881 : decode (kB K_LA) 881 = .ok (.iconst 0, 1) := by decide +kernel
theorem d_LA_882 : decode (kB K_LA) 882 = .ok (.ireturn, 1) := by decide +kernel
theorem d_LA_883 : decode (kB K_LA) 883 = .ok (.goto 696, 3) := by decide +kernel
theorem d_LA_886 : decode (kB K_LA) 886 = .ok (.aload_n 1, 1) := by decide +kernel
theorem d_LA_887 : decode (kB K_LA) 887 = .ok (.aload_n 0, 1) := by decide +kernel
theorem d_LA_888 : decode (kB K_LA) 888 = .ok (.iload 4, 2) := by decide +kernel
theorem d_LA_890 : decode (kB K_LA) 890 = .ok (.iconst 1, 1) := by decide +kernel
theorem d_LA_891 : decode (kB K_LA) 891 = .ok (.iadd, 1) := by decide +kernel
theorem d_LA_892 : decode (kB K_LA) 892 = .ok (.iaload, 1) := by decide +kernel
theorem d_LA_893 : decode (kB K_LA) 893 = .ok (.aload_n 0, 1) := by decide +kernel
theorem d_LA_894 : decode (kB K_LA) 894 = .ok (.iload 4, 2) := by decide +kernel
theorem d_LA_896 : decode (kB K_LA) 896 = .ok (.iconst 2, 1) := by decide +kernel
theorem d_LA_897 : decode (kB K_LA) 897 = .ok (.iadd, 1) := by decide +kernel
theorem d_LA_898 : decode (kB K_LA) 898 = .ok (.iaload, 1) := by decide +kernel
theorem d_LA_899 : decode (kB K_LA) 899 = .ok (.aload_n 0, 1) := by decide +kernel
theorem d_LA_900 : decode (kB K_LA) 900 = .ok (.iload 4, 2) := by decide +kernel
theorem d_LA_902 : decode (kB K_LA) 902 = .ok (.iconst 3, 1) := by decide +kernel
theorem d_LA_903 : decode (kB K_LA) 903 = .ok (.iadd, 1) := by decide +kernel
theorem d_LA_904 : decode (kB K_LA) 904 = .ok (.iaload, 1) := by decide +kernel
theorem d_LA_905 : decode (kB K_LA) 905 = .ok (.aload_n 3, 1) := by decide +kernel
theorem d_LA_906 : decode (kB K_LA) 906 = .ok (.invokestatic 128, 3) := by decide +kernel
theorem d_LA_909 : decode (kB K_LA) 909 = .ok (.istore 5, 2) := by decide +kernel
theorem d_LA_911 : decode (kB K_LA) 911 = .ok (.aload_n 2, 1) := by decide +kernel
theorem d_LA_912 : decode (kB K_LA) 912 = .ok (.aload_n 0, 1) := by decide +kernel
theorem d_LA_913 : decode (kB K_LA) 913 = .ok (.iload 4, 2) := by decide +kernel
theorem d_LA_915 : decode (kB K_LA) 915 = .ok (.iconst 1, 1) := by decide +kernel
theorem d_LA_916 : decode (kB K_LA) 916 = .ok (.iadd, 1) := by decide +kernel
theorem d_LA_917 : decode (kB K_LA) 917 = .ok (.iaload, 1) := by decide +kernel
theorem d_LA_918 : decode (kB K_LA) 918 = .ok (.aload_n 0, 1) := by decide +kernel
theorem d_LA_919 : decode (kB K_LA) 919 = .ok (.iload 4, 2) := by decide +kernel
theorem d_LA_921 : decode (kB K_LA) 921 = .ok (.iconst 2, 1) := by decide +kernel
theorem d_LA_922 : decode (kB K_LA) 922 = .ok (.iadd, 1) := by decide +kernel
theorem d_LA_923 : decode (kB K_LA) 923 = .ok (.iaload, 1) := by decide +kernel
theorem d_LA_924 : decode (kB K_LA) 924 = .ok (.aload_n 0, 1) := by decide +kernel
theorem d_LA_925 : decode (kB K_LA) 925 = .ok (.iload 4, 2) := by decide +kernel
theorem d_LA_927 : decode (kB K_LA) 927 = .ok (.iconst 3, 1) := by decide +kernel
theorem d_LA_928 : decode (kB K_LA) 928 = .ok (.iadd, 1) := by decide +kernel
theorem d_LA_929 : decode (kB K_LA) 929 = .ok (.iaload, 1) := by decide +kernel
theorem d_LA_930 : decode (kB K_LA) 930 = .ok (.invokevirtual 130, 3) := by decide +kernel
theorem d_LA_933 : decode (kB K_LA) 933 = .ok (.istore 6, 2) := by decide +kernel
theorem d_LA_935 : decode (kB K_LA) 935 = .ok (.aload_n 2, 1) := by decide +kernel
theorem d_LA_936 : decode (kB K_LA) 936 = .ok (.invokevirtual 86, 3) := by decide +kernel
theorem d_LA_939 : decode (kB K_LA) 939 = .ok (.iload 5, 2) := by decide +kernel
theorem d_LA_941 : decode (kB K_LA) 941 = .ok (.if_icmp .eq 5, 3) := by decide +kernel
theorem d_LA_944 : decode (kB K_LA) 944 = .ok (.iconst 0, 1) := by decide +kernel
theorem d_LA_945 : decode (kB K_LA) 945 = .ok (.ireturn, 1) := by decide +kernel
theorem d_LA_946 : decode (kB K_LA) 946 = .ok (.iload 5, 2) := by decide +kernel
theorem d_LA_948 : decode (kB K_LA) 948 = .ok (.ifCond .ne 15, 3) := by decide +kernel
theorem d_LA_951 : decode (kB K_LA) 951 = .ok (.aload_n 3, 1) := by decide +kernel
theorem d_LA_952 : decode (kB K_LA) 952 = .ok (.iconst 0, 1) := by decide +kernel
theorem d_LA_953 : decode (kB K_LA) 953 = .ok (.laload, 1) := by decide +kernel
theorem d_LA_954 : decode (kB K_LA) 954 = .ok (.iload 6, 2) := by decide +kernel
theorem d_LA_956 : decode (kB K_LA) 956 = .ok (.i2l, 1) := by decide +kernel
theorem d_LA_957 : decode (kB K_LA) 957 = .ok (.lcmp, 1) := by decide +kernel
theorem d_LA_958 : decode (kB K_LA) 958 = .ok (.ifCond .eq 5, 3) := by decide +kernel
theorem d_LA_961 : decode (kB K_LA) 961 = .ok (.iconst 0, 1) := by decide +kernel
theorem d_LA_962 : decode (kB K_LA) 962 = .ok (.ireturn, 1) := by decide +kernel
theorem d_LA_963 : decode (kB K_LA) 963 = .ok (.goto 616, 3) := by decide +kernel
theorem d_LA_966 : decode (kB K_LA) 966 = .ok (.aload_n 1, 1) := by decide +kernel
theorem d_LA_967 : decode (kB K_LA) 967 = .ok (.aload_n 0, 1) := by decide +kernel
theorem d_LA_968 : decode (kB K_LA) 968 = .ok (.iload 4, 2) := by decide +kernel
theorem d_LA_970 : decode (kB K_LA) 970 = .ok (.iconst 1, 1) := by decide +kernel
theorem d_LA_971 : decode (kB K_LA) 971 = .ok (.iadd, 1) := by decide +kernel
theorem d_LA_972 : decode (kB K_LA) 972 = .ok (.iaload, 1) := by decide +kernel
theorem d_LA_973 : decode (kB K_LA) 973 = .ok (.aload_n 0, 1) := by decide +kernel
theorem d_LA_974 : decode (kB K_LA) 974 = .ok (.iload 4, 2) := by decide +kernel
theorem d_LA_976 : decode (kB K_LA) 976 = .ok (.iconst 2, 1) := by decide +kernel
theorem d_LA_977 : decode (kB K_LA) 977 = .ok (.iadd, 1) := by decide +kernel
theorem d_LA_978 : decode (kB K_LA) 978 = .ok (.iaload, 1) := by decide +kernel
theorem d_LA_979 : decode (kB K_LA) 979 = .ok (.aload_n 0, 1) := by decide +kernel
theorem d_LA_980 : decode (kB K_LA) 980 = .ok (.iload 4, 2) := by decide +kernel
theorem d_LA_982 : decode (kB K_LA) 982 = .ok (.iconst 3, 1) := by decide +kernel
theorem d_LA_983 : decode (kB K_LA) 983 = .ok (.iadd, 1) := by decide +kernel
theorem d_LA_984 : decode (kB K_LA) 984 = .ok (.iaload, 1) := by decide +kernel
theorem d_LA_985 : decode (kB K_LA) 985 = .ok (.aload_n 3, 1) := by decide +kernel
theorem d_LA_986 : decode (kB K_LA) 986 = .ok (.invokestatic 131, 3) := by decide +kernel
theorem d_LA_989 : decode (kB K_LA) 989 = .ok (.istore 5, 2) := by decide +kernel
theorem d_LA_991 : decode (kB K_LA) 991 = .ok (.aload_n 2, 1) := by decide +kernel
theorem d_LA_992 : decode (kB K_LA) 992 = .ok (.aload_n 0, 1) := by decide +kernel
theorem d_LA_993 : decode (kB K_LA) 993 = .ok (.iload 4, 2) := by decide +kernel
theorem d_LA_995 : decode (kB K_LA) 995 = .ok (.iconst 1, 1) := by decide +kernel
theorem d_LA_996 : decode (kB K_LA) 996 = .ok (.iadd, 1) := by decide +kernel
theorem d_LA_997 : decode (kB K_LA) 997 = .ok (.iaload, 1) := by decide +kernel
theorem d_LA_998 : decode (kB K_LA) 998 = .ok (.aload_n 0, 1) := by decide +kernel
theorem d_LA_999 : decode (kB K_LA) 999 = .ok (.iload 4, 2) := by decide +kernel
theorem d_LA_1001 : decode (kB K_LA) 1001 = .ok (.iconst 2, 1) := by decide +kernel
theorem d_LA_1002 : decode (kB K_LA) 1002 = .ok (.iadd, 1) := by decide +kernel
theorem d_LA_1003 : decode (kB K_LA) 1003 = .ok (.iaload, 1) := by decide +kernel
theorem d_LA_1004 : decode (kB K_LA) 1004 = .ok (.aload_n 0, 1) := by decide +kernel
theorem d_LA_1005 : decode (kB K_LA) 1005 = .ok (.iload 4, 2) := by decide +kernel
theorem d_LA_1007 : decode (kB K_LA) 1007 = .ok (.iconst 3, 1) := by decide +kernel
theorem d_LA_1008 : decode (kB K_LA) 1008 = .ok (.iadd, 1) := by decide +kernel
theorem d_LA_1009 : decode (kB K_LA) 1009 = .ok (.iaload, 1) := by decide +kernel
theorem d_LA_1010 : decode (kB K_LA) 1010 = .ok (.invokevirtual 133, 3) := by decide +kernel
theorem d_LA_1013 : decode (kB K_LA) 1013 = .ok (.istore 6, 2) := by decide +kernel
theorem d_LA_1015 : decode (kB K_LA) 1015 = .ok (.aload_n 2, 1) := by decide +kernel
theorem d_LA_1016 : decode (kB K_LA) 1016 = .ok (.invokevirtual 86, 3) := by decide +kernel
theorem d_LA_1019 : decode (kB K_LA) 1019 = .ok (.iload 5, 2) := by decide +kernel
theorem d_LA_1021 : decode (kB K_LA) 1021 = .ok (.if_icmp .eq 5, 3) := by decide +kernel
theorem d_LA_1024 : decode (kB K_LA) 1024 = .ok (.iconst 0, 1) := by decide +kernel
theorem d_LA_1025 : decode (kB K_LA) 1025 = .ok (.ireturn, 1) := by decide +kernel
theorem d_LA_1026 : decode (kB K_LA) 1026 = .ok (.iload 5, 2) := by decide +kernel
theorem d_LA_1028 : decode (kB K_LA) 1028 = .ok (.ifCond .ne 15, 3) := by decide +kernel
theorem d_LA_1031 : decode (kB K_LA) 1031 = .ok (.aload_n 3, 1) := by decide +kernel
theorem d_LA_1032 : decode (kB K_LA) 1032 = .ok (.iconst 0, 1) := by decide +kernel
theorem d_LA_1033 : decode (kB K_LA) 1033 = .ok (.laload, 1) := by decide +kernel
theorem d_LA_1034 : decode (kB K_LA) 1034 = .ok (.iload 6, 2) := by decide +kernel
theorem d_LA_1036 : decode (kB K_LA) 1036 = .ok (.i2l, 1) := by decide +kernel
theorem d_LA_1037 : decode (kB K_LA) 1037 = .ok (.lcmp, 1) := by decide +kernel
theorem d_LA_1038 : decode (kB K_LA) 1038 = .ok (.ifCond .eq 5, 3) := by decide +kernel
theorem d_LA_1041 : decode (kB K_LA) 1041 = .ok (.iconst 0, 1) := by decide +kernel
theorem d_LA_1042 : decode (kB K_LA) 1042 = .ok (.ireturn, 1) := by decide +kernel
theorem d_LA_1043 : decode (kB K_LA) 1043 = .ok (.goto 536, 3) := by decide +kernel
theorem d_LA_1046 : decode (kB K_LA) 1046 = .ok (.aload_n 1, 1) := by decide +kernel
theorem d_LA_1047 : decode (kB K_LA) 1047 = .ok (.aload_n 0, 1) := by decide +kernel
theorem d_LA_1048 : decode (kB K_LA) 1048 = .ok (.iload 4, 2) := by decide +kernel
theorem d_LA_1050 : decode (kB K_LA) 1050 = .ok (.iconst 1, 1) := by decide +kernel
theorem d_LA_1051 : decode (kB K_LA) 1051 = .ok (.iadd, 1) := by decide +kernel
theorem d_LA_1052 : decode (kB K_LA) 1052 = .ok (.iaload, 1) := by decide +kernel
theorem d_LA_1053 : decode (kB K_LA) 1053 = .ok (.aload_n 0, 1) := by decide +kernel
theorem d_LA_1054 : decode (kB K_LA) 1054 = .ok (.iload 4, 2) := by decide +kernel
theorem d_LA_1056 : decode (kB K_LA) 1056 = .ok (.iconst 2, 1) := by decide +kernel
theorem d_LA_1057 : decode (kB K_LA) 1057 = .ok (.iadd, 1) := by decide +kernel
theorem d_LA_1058 : decode (kB K_LA) 1058 = .ok (.iaload, 1) := by decide +kernel
theorem d_LA_1059 : decode (kB K_LA) 1059 = .ok (.aload_n 0, 1) := by decide +kernel
theorem d_LA_1060 : decode (kB K_LA) 1060 = .ok (.iload 4, 2) := by decide +kernel
theorem d_LA_1062 : decode (kB K_LA) 1062 = .ok (.iconst 3, 1) := by decide +kernel
theorem d_LA_1063 : decode (kB K_LA) 1063 = .ok (.iadd, 1) := by decide +kernel
theorem d_LA_1064 : decode (kB K_LA) 1064 = .ok (.iaload, 1) := by decide +kernel
theorem d_LA_1065 : decode (kB K_LA) 1065 = .ok (.aload_n 3, 1) := by decide +kernel
theorem d_LA_1066 : decode (kB K_LA) 1066 = .ok (.invokestatic 134, 3) := by decide +kernel
theorem d_LA_1069 : decode (kB K_LA) 1069 = .ok (.istore 5, 2) := by decide +kernel
theorem d_LA_1071 : decode (kB K_LA) 1071 = .ok (.aload_n 2, 1) := by decide +kernel
theorem d_LA_1072 : decode (kB K_LA) 1072 = .ok (.aload_n 0, 1) := by decide +kernel
theorem d_LA_1073 : decode (kB K_LA) 1073 = .ok (.iload 4, 2) := by decide +kernel
theorem d_LA_1075 : decode (kB K_LA) 1075 = .ok (.iconst 1, 1) := by decide +kernel
theorem d_LA_1076 : decode (kB K_LA) 1076 = .ok (.iadd, 1) := by decide +kernel
theorem d_LA_1077 : decode (kB K_LA) 1077 = .ok (.iaload, 1) := by decide +kernel
theorem d_LA_1078 : decode (kB K_LA) 1078 = .ok (.aload_n 0, 1) := by decide +kernel
theorem d_LA_1079 : decode (kB K_LA) 1079 = .ok (.iload 4, 2) := by decide +kernel
theorem d_LA_1081 : decode (kB K_LA) 1081 = .ok (.iconst 2, 1) := by decide +kernel
theorem d_LA_1082 : decode (kB K_LA) 1082 = .ok (.iadd, 1) := by decide +kernel
theorem d_LA_1083 : decode (kB K_LA) 1083 = .ok (.iaload, 1) := by decide +kernel
theorem d_LA_1084 : decode (kB K_LA) 1084 = .ok (.aload_n 0, 1) := by decide +kernel
theorem d_LA_1085 : decode (kB K_LA) 1085 = .ok (.iload 4, 2) := by decide +kernel
theorem d_LA_1087 : decode (kB K_LA) 1087 = .ok (.iconst 3, 1) := by decide +kernel
theorem d_LA_1088 : decode (kB K_LA) 1088 = .ok (.iadd, 1) := by decide +kernel
theorem d_LA_1089 : decode (kB K_LA) 1089 = .ok (.iaload, 1) := by decide +kernel
theorem d_LA_1090 : decode (kB K_LA) 1090 = .ok (.invokevirtual 136, 3) := by decide +kernel
theorem d_LA_1093 : decode (kB K_LA) 1093 = .ok (.istore 6, 2) := by decide +kernel
theorem d_LA_1095 : decode (kB K_LA) 1095 = .ok (.aload_n 2, 1) := by decide +kernel
theorem d_LA_1096 : decode (kB K_LA) 1096 = .ok (.invokevirtual 86, 3) := by decide +kernel
theorem d_LA_1099 : decode (kB K_LA) 1099 = .ok (.iload 5, 2) := by decide +kernel
theorem d_LA_1101 : decode (kB K_LA) 1101 = .ok (.if_icmp .eq 5, 3) := by decide +kernel
theorem d_LA_1104 : decode (kB K_LA) 1104 = .ok (.iconst 0, 1) := by decide +kernel
theorem d_LA_1105 : decode (kB K_LA) 1105 = .ok (.ireturn, 1) := by decide +kernel
theorem d_LA_1106 : decode (kB K_LA) 1106 = .ok (.iload 5, 2) := by decide +kernel
theorem d_LA_1108 : decode (kB K_LA) 1108 = .ok (.ifCond .ne 15, 3) := by decide +kernel
theorem d_LA_1111 : decode (kB K_LA) 1111 = .ok (.aload_n 3, 1) := by decide +kernel
theorem d_LA_1112 : decode (kB K_LA) 1112 = .ok (.iconst 0, 1) := by decide +kernel
theorem d_LA_1113 : decode (kB K_LA) 1113 = .ok (.laload, 1) := by decide +kernel
theorem d_LA_1114 : decode (kB K_LA) 1114 = .ok (.iload 6, 2) := by decide +kernel
theorem d_LA_1116 : decode (kB K_LA) 1116 = .ok (.i2l, 1) := by decide +kernel
theorem d_LA_1117 : decode (kB K_LA) 1117 = .ok (.lcmp, 1) := by decide +kernel
theorem d_LA_1118 : decode (kB K_LA) 1118 = .ok (.ifCond .eq 5, 3) := by decide +kernel
theorem d_LA_1121 : decode (kB K_LA) 1121 = .ok (.iconst 0, 1) := by decide +kernel
theorem d_LA_1122 : decode (kB K_LA) 1122 = .ok (.ireturn, 1) := by decide +kernel
theorem d_LA_1123 : decode (kB K_LA) 1123 = .ok (.goto 456, 3) := by decide +kernel
theorem d_LA_1126 : decode (kB K_LA) 1126 = .ok (.aload_n 1, 1) := by decide +kernel
theorem d_LA_1127 : decode (kB K_LA) 1127 = .ok (.aload_n 0, 1) := by decide +kernel
theorem d_LA_1128 : decode (kB K_LA) 1128 = .ok (.iload 4, 2) := by decide +kernel
theorem d_LA_1130 : decode (kB K_LA) 1130 = .ok (.iconst 1, 1) := by decide +kernel
theorem d_LA_1131 : decode (kB K_LA) 1131 = .ok (.iadd, 1) := by decide +kernel
theorem d_LA_1132 : decode (kB K_LA) 1132 = .ok (.iaload, 1) := by decide +kernel
theorem d_LA_1133 : decode (kB K_LA) 1133 = .ok (.aload_n 3, 1) := by decide +kernel
theorem d_LA_1134 : decode (kB K_LA) 1134 = .ok (.invokestatic 137, 3) := by decide +kernel
theorem d_LA_1137 : decode (kB K_LA) 1137 = .ok (.istore 5, 2) := by decide +kernel
theorem d_LA_1139 : decode (kB K_LA) 1139 = .ok (.aload_n 2, 1) := by decide +kernel
theorem d_LA_1140 : decode (kB K_LA) 1140 = .ok (.aload_n 0, 1) := by decide +kernel
theorem d_LA_1141 : decode (kB K_LA) 1141 = .ok (.iload 4, 2) := by decide +kernel
theorem d_LA_1143 : decode (kB K_LA) 1143 = .ok (.iconst 1, 1) := by decide +kernel
theorem d_LA_1144 : decode (kB K_LA) 1144 = .ok (.iadd, 1) := by decide +kernel
theorem d_LA_1145 : decode (kB K_LA) 1145 = .ok (.iaload, 1) := by decide +kernel
theorem d_LA_1146 : decode (kB K_LA) 1146 = .ok (.invokevirtual 139, 3) := by decide +kernel
theorem d_LA_1149 : decode (kB K_LA) 1149 = .ok (.istore 6, 2) := by decide +kernel
theorem d_LA_1151 : decode (kB K_LA) 1151 = .ok (.aload_n 2, 1) := by decide +kernel
theorem d_LA_1152 : decode (kB K_LA) 1152 = .ok (.invokevirtual 86, 3) := by decide +kernel
theorem d_LA_1155 : decode (kB K_LA) 1155 = .ok (.iload 5, 2) := by decide +kernel
theorem d_LA_1157 : decode (kB K_LA) 1157 = .ok (.if_icmp .eq 5, 3) := by decide +kernel
theorem d_LA_1160 : decode (kB K_LA) 1160 = .ok (.iconst 0, 1) := by decide +kernel
theorem d_LA_1161 : decode (kB K_LA) 1161 = .ok (.ireturn, 1) := by decide +kernel
theorem d_LA_1162 : decode (kB K_LA) 1162 = .ok (.iload 5, 2) := by decide +kernel
theorem d_LA_1164 : decode (kB K_LA) 1164 = .ok (.ifCond .ne 15, 3) := by decide +kernel
theorem d_LA_1167 : decode (kB K_LA) 1167 = .ok (.aload_n 3, 1) := by decide +kernel
theorem d_LA_1168 : decode (kB K_LA) 1168 = .ok (.iconst 0, 1) := by decide +kernel
theorem d_LA_1169 : decode (kB K_LA) 1169 = .ok (.laload, 1) := by decide +kernel
theorem d_LA_1170 : decode (kB K_LA) 1170 = .ok (.iload 6, 2) := by decide +kernel
theorem d_LA_1172 : decode (kB K_LA) 1172 = .ok (.i2l, 1) := by decide +kernel
theorem d_LA_1173 : decode (kB K_LA) 1173 = .ok (.lcmp, 1) := by decide +kernel
theorem d_LA_1174 : decode (kB K_LA) 1174 = .ok (.ifCond .eq 5, 3) := by decide +kernel
theorem d_LA_1177 : decode (kB K_LA) 1177 = .ok (.iconst 0, 1) := by decide +kernel
theorem d_LA_1178 : decode (kB K_LA) 1178 = .ok (.ireturn, 1) := by decide +kernel
theorem d_LA_1179 : decode (kB K_LA) 1179 = .ok (.goto 400, 3) := by decide +kernel
theorem d_LA_1182 : decode (kB K_LA) 1182 = .ok (.aload_n 1, 1) := by decide +kernel
theorem d_LA_1183 : decode (kB K_LA) 1183 = .ok (.aload_n 0, 1) := by decide +kernel
theorem d_LA_1184 : decode (kB K_LA) 1184 = .ok (.iload 4, 2) := by decide +kernel
theorem d_LA_1186 : decode (kB K_LA) 1186 = .ok (.iconst 1, 1) := by decide +kernel
theorem d_LA_1187 : decode (kB K_LA) 1187 = .ok (.iadd, 1) := by decide +kernel
theorem d_LA_1188 : decode (kB K_LA) 1188 = .ok (.iaload, 1) := by decide +kernel
theorem d_LA_1189 : decode (kB K_LA) 1189 = .ok (.aload_n 0, 1) := by decide +kernel
theorem d_LA_1190 : decode (kB K_LA) 1190 = .ok (.iload 4, 2) := by decide +kernel
theorem d_LA_1192 : decode (kB K_LA) 1192 = .ok (.iconst 2, 1) := by decide +kernel
theorem d_LA_1193 : decode (kB K_LA) 1193 = .ok (.iadd, 1) := by decide +kernel
theorem d_LA_1194 : decode (kB K_LA) 1194 = .ok (.iaload, 1) := by decide +kernel
theorem d_LA_1195 : decode (kB K_LA) 1195 = .ok (.aload_n 3, 1) := by decide +kernel
theorem d_LA_1196 : decode (kB K_LA) 1196 = .ok (.invokestatic 140, 3) := by decide +kernel
theorem d_LA_1199 : decode (kB K_LA) 1199 = .ok (.istore 5, 2) := by decide +kernel
theorem d_LA_1201 : decode (kB K_LA) 1201 = .ok (.aload_n 2, 1) := by decide +kernel
theorem d_LA_1202 : decode (kB K_LA) 1202 = .ok (.aload_n 0, 1) := by decide +kernel
theorem d_LA_1203 : decode (kB K_LA) 1203 = .ok (.iload 4, 2) := by decide +kernel
theorem d_LA_1205 : decode (kB K_LA) 1205 = .ok (.iconst 1, 1) := by decide +kernel
theorem d_LA_1206 : decode (kB K_LA) 1206 = .ok (.iadd, 1) := by decide +kernel
theorem d_LA_1207 : decode (kB K_LA) 1207 = .ok (.iaload, 1) := by decide +kernel
theorem d_LA_1208 : decode (kB K_LA) 1208 = .ok (.aload_n 0, 1) := by decide +kernel
theorem d_LA_1209 : decode (kB K_LA) 1209 = .ok (.iload 4, 2) := by decide +kernel
theorem d_LA_1211 : decode (kB K_LA) 1211 = .ok (.iconst 2, 1) := by decide +kernel
theorem d_LA_1212 : decode (kB K_LA) 1212 = .ok (.iadd, 1) := by decide +kernel
theorem d_LA_1213 : decode (kB K_LA) 1213 = .ok (.iaload, 1) := by decide +kernel
theorem d_LA_1214 : decode (kB K_LA) 1214 = .ok (.invokevirtual 142, 3) := by decide +kernel
theorem d_LA_1217 : decode (kB K_LA) 1217 = .ok (.istore 6, 2) := by decide +kernel
theorem d_LA_1219 : decode (kB K_LA) 1219 = .ok (.aload_n 2, 1) := by decide +kernel
theorem d_LA_1220 : decode (kB K_LA) 1220 = .ok (.invokevirtual 86, 3) := by decide +kernel
theorem d_LA_1223 : decode (kB K_LA) 1223 = .ok (.iload 5, 2) := by decide +kernel
theorem d_LA_1225 : decode (kB K_LA) 1225 = .ok (.if_icmp .eq 5, 3) := by decide +kernel
theorem d_LA_1228 : decode (kB K_LA) 1228 = .ok (.iconst 0, 1) := by decide +kernel
theorem d_LA_1229 : decode (kB K_LA) 1229 = .ok (.ireturn, 1) := by decide +kernel
theorem d_LA_1230 : decode (kB K_LA) 1230 = .ok (.iload 5, 2) := by decide +kernel
theorem d_LA_1232 : decode (kB K_LA) 1232 = .ok (.ifCond .ne 15, 3) := by decide +kernel
theorem d_LA_1235 : decode (kB K_LA) 1235 = .ok (.aload_n 3, 1) := by decide +kernel
theorem d_LA_1236 : decode (kB K_LA) 1236 = .ok (.iconst 0, 1) := by decide +kernel
theorem d_LA_1237 : decode (kB K_LA) 1237 = .ok (.laload, 1) := by decide +kernel
theorem d_LA_1238 : decode (kB K_LA) 1238 = .ok (.iload 6, 2) := by decide +kernel
theorem d_LA_1240 : decode (kB K_LA) 1240 = .ok (.i2l, 1) := by decide +kernel
theorem d_LA_1241 : decode (kB K_LA) 1241 = .ok (.lcmp, 1) := by decide +kernel
theorem d_LA_1242 : decode (kB K_LA) 1242 = .ok (.ifCond .eq 5, 3) := by decide +kernel
theorem d_LA_1245 : decode (kB K_LA) 1245 = .ok (.iconst 0, 1) := by decide +kernel
theorem d_LA_1246 : decode (kB K_LA) 1246 = .ok (.ireturn, 1) := by decide +kernel
theorem d_LA_1247 : decode (kB K_LA) 1247 = .ok (.goto 332, 3) := by decide +kernel
theorem d_LA_1250 : decode (kB K_LA) 1250 = .ok (.aload_n 1, 1) := by decide +kernel
theorem d_LA_1251 : decode (kB K_LA) 1251 = .ok (.aload_n 0, 1) := by decide +kernel
theorem d_LA_1252 : decode (kB K_LA) 1252 = .ok (.iload 4, 2) := by decide +kernel
theorem d_LA_1254 : decode (kB K_LA) 1254 = .ok (.iconst 1, 1) := by decide +kernel
theorem d_LA_1255 : decode (kB K_LA) 1255 = .ok (.iadd, 1) := by decide +kernel
theorem d_LA_1256 : decode (kB K_LA) 1256 = .ok (.iaload, 1) := by decide +kernel
theorem d_LA_1257 : decode (kB K_LA) 1257 = .ok (.aload_n 3, 1) := by decide +kernel
theorem d_LA_1258 : decode (kB K_LA) 1258 = .ok (.invokestatic 143, 3) := by decide +kernel
theorem d_LA_1261 : decode (kB K_LA) 1261 = .ok (.istore 5, 2) := by decide +kernel
theorem d_LA_1263 : decode (kB K_LA) 1263 = .ok (.aload_n 2, 1) := by decide +kernel
theorem d_LA_1264 : decode (kB K_LA) 1264 = .ok (.aload_n 0, 1) := by decide +kernel
theorem d_LA_1265 : decode (kB K_LA) 1265 = .ok (.iload 4, 2) := by decide +kernel
theorem d_LA_1267 : decode (kB K_LA) 1267 = .ok (.iconst 1, 1) := by decide +kernel
theorem d_LA_1268 : decode (kB K_LA) 1268 = .ok (.iadd, 1) := by decide +kernel
theorem d_LA_1269 : decode (kB K_LA) 1269 = .ok (.iaload, 1) := by decide +kernel
theorem d_LA_1270 : decode (kB K_LA) 1270 = .ok (.invokevirtual 145, 3) := by decide +kernel
theorem d_LA_1273 : decode (kB K_LA) 1273 = .ok (.istore 6, 2) := by decide +kernel
theorem d_LA_1275 : decode (kB K_LA) 1275 = .ok (.aload_n 2, 1) := by decide +kernel
theorem d_LA_1276 : decode (kB K_LA) 1276 = .ok (.invokevirtual 86, 3) := by decide +kernel
theorem d_LA_1279 : decode (kB K_LA) 1279 = .ok (.iload 5, 2) := by decide +kernel
theorem d_LA_1281 : decode (kB K_LA) 1281 = .ok (.if_icmp .eq 5, 3) := by decide +kernel
theorem d_LA_1284 : decode (kB K_LA) 1284 = .ok (.iconst 0, 1) := by decide +kernel
theorem d_LA_1285 : decode (kB K_LA) 1285 = .ok (.ireturn, 1) := by decide +kernel
theorem d_LA_1286 : decode (kB K_LA) 1286 = .ok (.iload 5, 2) := by decide +kernel
theorem d_LA_1288 : decode (kB K_LA) 1288 = .ok (.ifCond .ne 15, 3) := by decide +kernel
theorem d_LA_1291 : decode (kB K_LA) 1291 = .ok (.aload_n 3, 1) := by decide +kernel
theorem d_LA_1292 : decode (kB K_LA) 1292 = .ok (.iconst 0, 1) := by decide +kernel
theorem d_LA_1293 : decode (kB K_LA) 1293 = .ok (.laload, 1) := by decide +kernel
theorem d_LA_1294 : decode (kB K_LA) 1294 = .ok (.iload 6, 2) := by decide +kernel
theorem d_LA_1296 : decode (kB K_LA) 1296 = .ok (.i2l, 1) := by decide +kernel
theorem d_LA_1297 : decode (kB K_LA) 1297 = .ok (.lcmp, 1) := by decide +kernel
theorem d_LA_1298 : decode (kB K_LA) 1298 = .ok (.ifCond .eq 5, 3) := by decide +kernel
theorem d_LA_1301 : decode (kB K_LA) 1301 = .ok (.iconst 0, 1) := by decide +kernel
theorem d_LA_1302 : decode (kB K_LA) 1302 = .ok (.ireturn, 1) := by decide +kernel
theorem d_LA_1303 : decode (kB K_LA) 1303 = .ok (.goto 276, 3) := by decide +kernel
theorem d_LA_1306 : decode (kB K_LA) 1306 = .ok (.aload_n 1, 1) := by decide +kernel
theorem d_LA_1307 : decode (kB K_LA) 1307 = .ok (.aload_n 0, 1) := by decide +kernel
theorem d_LA_1308 : decode (kB K_LA) 1308 = .ok (.iload 4, 2) := by decide +kernel
theorem d_LA_1310 : decode (kB K_LA) 1310 = .ok (.iconst 1, 1) := by decide +kernel
theorem d_LA_1311 : decode (kB K_LA) 1311 = .ok (.iadd, 1) := by decide +kernel
theorem d_LA_1312 : decode (kB K_LA) 1312 = .ok (.iaload, 1) := by decide +kernel
theorem d_LA_1313 : decode (kB K_LA) 1313 = .ok (.aload_n 0, 1) := by decide +kernel
theorem d_LA_1314 : decode (kB K_LA) 1314 = .ok (.iload 4, 2) := by decide +kernel
theorem d_LA_1316 : decode (kB K_LA) 1316 = .ok (.iconst 2, 1) := by decide +kernel
theorem d_LA_1317 : decode (kB K_LA) 1317 = .ok (.iadd, 1) := by decide +kernel
theorem d_LA_1318 : decode (kB K_LA) 1318 = .ok (.iaload, 1) := by decide +kernel
theorem d_LA_1319 : decode (kB K_LA) 1319 = .ok (.aload_n 3, 1) := by decide +kernel
theorem d_LA_1320 : decode (kB K_LA) 1320 = .ok (.invokestatic 146, 3) := by decide +kernel
theorem d_LA_1323 : decode (kB K_LA) 1323 = .ok (.istore 5, 2) := by decide +kernel
theorem d_LA_1325 : decode (kB K_LA) 1325 = .ok (.aload_n 2, 1) := by decide +kernel
theorem d_LA_1326 : decode (kB K_LA) 1326 = .ok (.aload_n 0, 1) := by decide +kernel
theorem d_LA_1327 : decode (kB K_LA) 1327 = .ok (.iload 4, 2) := by decide +kernel
theorem d_LA_1329 : decode (kB K_LA) 1329 = .ok (.iconst 1, 1) := by decide +kernel
theorem d_LA_1330 : decode (kB K_LA) 1330 = .ok (.iadd, 1) := by decide +kernel
theorem d_LA_1331 : decode (kB K_LA) 1331 = .ok (.iaload, 1) := by decide +kernel
theorem d_LA_1332 : decode (kB K_LA) 1332 = .ok (.aload_n 0, 1) := by decide +kernel
theorem d_LA_1333 : decode (kB K_LA) 1333 = .ok (.iload 4, 2) := by decide +kernel
theorem d_LA_1335 : decode (kB K_LA) 1335 = .ok (.iconst 2, 1) := by decide +kernel
theorem d_LA_1336 : decode (kB K_LA) 1336 = .ok (.iadd, 1) := by decide +kernel
theorem d_LA_1337 : decode (kB K_LA) 1337 = .ok (.iaload, 1) := by decide +kernel
theorem d_LA_1338 : decode (kB K_LA) 1338 = .ok (.invokevirtual 148, 3) := by decide +kernel
theorem d_LA_1341 : decode (kB K_LA) 1341 = .ok (.istore 6, 2) := by decide +kernel
theorem d_LA_1343 : decode (kB K_LA) 1343 = .ok (.aload_n 2, 1) := by decide +kernel
theorem d_LA_1344 : decode (kB K_LA) 1344 = .ok (.invokevirtual 86, 3) := by decide +kernel
theorem d_LA_1347 : decode (kB K_LA) 1347 = .ok (.iload 5, 2) := by decide +kernel
theorem d_LA_1349 : decode (kB K_LA) 1349 = .ok (.if_icmp .eq 5, 3) := by decide +kernel
theorem d_LA_1352 : decode (kB K_LA) 1352 = .ok (.iconst 0, 1) := by decide +kernel
theorem d_LA_1353 : decode (kB K_LA) 1353 = .ok (.ireturn, 1) := by decide +kernel
theorem d_LA_1354 : decode (kB K_LA) 1354 = .ok (.iload 5, 2) := by decide +kernel
theorem d_LA_1356 : decode (kB K_LA) 1356 = .ok (.ifCond .ne 15, 3) := by decide +kernel
theorem d_LA_1359 : decode (kB K_LA) 1359 = .ok (.aload_n 3, 1) := by decide +kernel
theorem d_LA_1360 : decode (kB K_LA) 1360 = .ok (.iconst 0, 1) := by decide +kernel
theorem d_LA_1361 : decode (kB K_LA) 1361 = .ok (.laload, 1) := by decide +kernel
theorem d_LA_1362 : decode (kB K_LA) 1362 = .ok (.iload 6, 2) := by decide +kernel
theorem d_LA_1364 : decode (kB K_LA) 1364 = .ok (.i2l, 1) := by decide +kernel
theorem d_LA_1365 : decode (kB K_LA) 1365 = .ok (.lcmp, 1) := by decide +kernel
theorem d_LA_1366 : decode (kB K_LA) 1366 = .ok (.ifCond .eq 5, 3) := by decide +kernel
theorem d_LA_1369 : decode (kB K_LA) 1369 = .ok (.iconst 0, 1) := by decide +kernel
theorem d_LA_1370 : decode (kB K_LA) 1370 = .ok (.ireturn, 1) := by decide +kernel
theorem d_LA_1371 : decode (kB K_LA) 1371 = .ok (.goto 208, 3) := by decide +kernel
theorem d_LA_1374 : decode (kB K_LA) 1374 = .ok (.aload_n 1, 1) := by decide +kernel
theorem d_LA_1375 : decode (kB K_LA) 1375 = .ok (.aload_n 0, 1) := by decide +kernel
theorem d_LA_1376 : decode (kB K_LA) 1376 = .ok (.iload 4, 2) := by decide +kernel
theorem d_LA_1378 : decode (kB K_LA) 1378 = .ok (.iconst 1, 1) := by decide +kernel
theorem d_LA_1379 : decode (kB K_LA) 1379 = .ok (.iadd, 1) := by decide +kernel
theorem d_LA_1380 : decode (kB K_LA) 1380 = .ok (.iaload, 1) := by decide +kernel
theorem d_LA_1381 : decode (kB K_LA) 1381 = .ok (.aload_n 0, 1) := by decide +kernel
theorem d_LA_1382 : decode (kB K_LA) 1382 = .ok (.iload 4, 2) := by decide +kernel
theorem d_LA_1384 : decode (kB K_LA) 1384 = .ok (.iconst 2, 1) := by decide +kernel
theorem d_LA_1385 : decode (kB K_LA) 1385 = .ok (.iadd, 1) := by decide +kernel
theorem d_LA_1386 : decode (kB K_LA) 1386 = .ok (.iaload, 1) := by decide +kernel
theorem d_LA_1387 : decode (kB K_LA) 1387 = .ok (.aload_n 3, 1) := by decide +kernel
theorem d_LA_1388 : decode (kB K_LA) 1388 = .ok (.invokestatic 149, 3) := by decide +kernel
theorem d_LA_1391 : decode (kB K_LA) 1391 = .ok (.istore 5, 2) := by decide +kernel
theorem d_LA_1393 : decode (kB K_LA) 1393 = .ok (.aload_n 2, 1) := by decide +kernel
theorem d_LA_1394 : decode (kB K_LA) 1394 = .ok (.aload_n 0, 1) := by decide +kernel
theorem d_LA_1395 : decode (kB K_LA) 1395 = .ok (.iload 4, 2) := by decide +kernel
theorem d_LA_1397 : decode (kB K_LA) 1397 = .ok (.iconst 1, 1) := by decide +kernel
theorem d_LA_1398 : decode (kB K_LA) 1398 = .ok (.iadd, 1) := by decide +kernel
theorem d_LA_1399 : decode (kB K_LA) 1399 = .ok (.iaload, 1) := by decide +kernel
theorem d_LA_1400 : decode (kB K_LA) 1400 = .ok (.aload_n 0, 1) := by decide +kernel
theorem d_LA_1401 : decode (kB K_LA) 1401 = .ok (.iload 4, 2) := by decide +kernel
theorem d_LA_1403 : decode (kB K_LA) 1403 = .ok (.iconst 2, 1) := by decide +kernel
theorem d_LA_1404 : decode (kB K_LA) 1404 = .ok (.iadd, 1) := by decide +kernel
theorem d_LA_1405 : decode (kB K_LA) 1405 = .ok (.iaload, 1) := by decide +kernel
theorem d_LA_1406 : decode (kB K_LA) 1406 = .ok (.invokevirtual 151, 3) := by decide +kernel
theorem d_LA_1409 : decode (kB K_LA) 1409 = .ok (.istore 6, 2) := by decide +kernel
theorem d_LA_1411 : decode (kB K_LA) 1411 = .ok (.aload_n 2, 1) := by decide +kernel
theorem d_LA_1412 : decode (kB K_LA) 1412 = .ok (.invokevirtual 86, 3) := by decide +kernel
theorem d_LA_1415 : decode (kB K_LA) 1415 = .ok (.iload 5, 2) := by decide +kernel
theorem d_LA_1417 : decode (kB K_LA) 1417 = .ok (.if_icmp .eq 5, 3) := by decide +kernel
theorem d_LA_1420 : decode (kB K_LA) 1420 = .ok (.iconst 0, 1) := by decide +kernel
theorem d_LA_1421 : decode (kB K_LA) 1421 = .ok (.ireturn, 1) := by decide +kernel
theorem d_LA_1422 : decode (kB K_LA) 1422 = .ok (.iload 5, 2) := by decide +kernel
theorem d_LA_1424 : decode (kB K_LA) 1424 = .ok (.ifCond .ne 15, 3) := by decide +kernel
theorem d_LA_1427 : decode (kB K_LA) 1427 = .ok (.aload_n 3, 1) := by decide +kernel
theorem d_LA_1428 : decode (kB K_LA) 1428 = .ok (.iconst 0, 1) := by decide +kernel
theorem d_LA_1429 : decode (kB K_LA) 1429 = .ok (.laload, 1) := by decide +kernel
theorem d_LA_1430 : decode (kB K_LA) 1430 = .ok (.iload 6, 2) := by decide +kernel
theorem d_LA_1432 : decode (kB K_LA) 1432 = .ok (.i2l, 1) := by decide +kernel
theorem d_LA_1433 : decode (kB K_LA) 1433 = .ok (.lcmp, 1) := by decide +kernel
theorem d_LA_1434 : decode (kB K_LA) 1434 = .ok (.ifCond .eq 5, 3) := by decide +kernel
theorem d_LA_1437 : decode (kB K_LA) 1437 = .ok (.iconst 0, 1) := by decide +kernel
theorem d_LA_1438 : decode (kB K_LA) 1438 = .ok (.ireturn, 1) := by decide +kernel
theorem d_LA_1439 : decode (kB K_LA) 1439 = .ok (.goto 140, 3) := by decide +kernel
theorem d_LA_1442 : decode (kB K_LA) 1442 = .ok (.aload_n 1, 1) := by decide +kernel
theorem d_LA_1443 : decode (kB K_LA) 1443 = .ok (.invokevirtual 152, 3) := by decide +kernel
theorem d_LA_1446 : decode (kB K_LA) 1446 = .ok (.aload_n 2, 1) := by decide +kernel
theorem d_LA_1447 : decode (kB K_LA) 1447 = .ok (.invokevirtual 156, 3) := by decide +kernel
theorem d_LA_1450 : decode (kB K_LA) 1450 = .ok (.if_icmp .eq 129, 3) := by decide +kernel
theorem d_LA_1453 : decode (kB K_LA) 1453 = .ok (.iconst 0, 1) := by decide +kernel
theorem d_LA_1454 : decode (kB K_LA) 1454 = .ok (.ireturn, 1) := by decide +kernel
theorem d_LA_1455 : decode (kB K_LA) 1455 = .ok (.aload_n 1, 1) := by decide +kernel
theorem d_LA_1456 : decode (kB K_LA) 1456 = .ok (.invokevirtual 157, 3) := by decide +kernel
theorem d_LA_1459 : decode (kB K_LA) 1459 = .ok (.aload_n 2, 1) := by decide +kernel
theorem d_LA_1460 : decode (kB K_LA) 1460 = .ok (.invokevirtual 160, 3) := by decide +kernel
theorem d_LA_1463 : decode (kB K_LA) 1463 = .ok (.if_icmp .eq 116, 3) := by decide +kernel
theorem d_LA_1466 : decode (kB K_LA) 1466 = .ok (.iconst 0, 1) := by decide +kernel
theorem d_LA_1467 : decode (kB K_LA) 1467 = .ok (.ireturn, 1) := by decide +kernel
theorem d_LA_1468 : decode (kB K_LA) 1468 = .ok (.aload_n 1, 1) := by decide +kernel
theorem d_LA_1469 : decode (kB K_LA) 1469 = .ok (.aload_n 0, 1) := by decide +kernel
theorem d_LA_1470 : decode (kB K_LA) 1470 = .ok (.iload 4, 2) := by decide +kernel
theorem d_LA_1472 : decode (kB K_LA) 1472 = .ok (.iconst 1, 1) := by decide +kernel
theorem d_LA_1473 : decode (kB K_LA) 1473 = .ok (.iadd, 1) := by decide +kernel
theorem d_LA_1474 : decode (kB K_LA) 1474 = .ok (.iaload, 1) := by decide +kernel
theorem d_LA_1475 : decode (kB K_LA) 1475 = .ok (.aload_n 3, 1) := by decide +kernel
theorem d_LA_1476 : decode (kB K_LA) 1476 = .ok (.invokestatic 161, 3) := by decide +kernel
theorem d_LA_1479 : decode (kB K_LA) 1479 = .ok (.istore 5, 2) := by decide +kernel
theorem d_LA_1481 : decode (kB K_LA) 1481 = .ok (.aload_n 2, 1) := by decide +kernel
theorem d_LA_1482 : decode (kB K_LA) 1482 = .ok (.aload_n 0, 1) := by decide +kernel
theorem d_LA_1483 : decode (kB K_LA) 1483 = .ok (.iload 4, 2) := by decide +kernel
theorem d_LA_1485 : decode (kB K_LA) 1485 = .ok (.iconst 1, 1) := by decide +kernel
theorem d_LA_1486 : decode (kB K_LA) 1486 = .ok (.iadd, 1) := by decide +kernel
theorem d_LA_1487 : decode (kB K_LA) 1487 = .ok (.iaload, 1) := by decide +kernel
theorem d_LA_1488 : decode (kB K_LA) 1488 = .ok (.invokevirtual 163, 3) := by decide +kernel
theorem d_LA_1491 : decode (kB K_LA) 1491 = .ok (.istore 6, 2) := by decide +kernel
theorem d_LA_1493 : decode (kB K_LA) 1493 = .ok (.aload_n 2, 1) := by decide +kernel
theorem d_LA_1494 : decode (kB K_LA) 1494 = .ok (.invokevirtual 86, 3) := by decide +kernel
theorem d_LA_1497 : decode (kB K_LA) 1497 = .ok (.iload 5, 2) := by decide +kernel
theorem d_LA_1499 : decode (kB K_LA) 1499 = .ok (.if_icmp .eq 5, 3) := by decide +kernel
theorem d_LA_1502 : decode (kB K_LA) 1502 = .ok (.iconst 0, 1) := by decide +kernel
theorem d_LA_1503 : decode (kB K_LA) 1503 = .ok (.ireturn, 1) := by decide +kernel
theorem d_LA_1504 : decode (kB K_LA) 1504 = .ok (.iload 5, 2) := by decide +kernel
theorem d_LA_1506 : decode (kB K_LA) 1506 = .ok (.ifCond .ne 15, 3) := by decide +kernel
theorem d_LA_1509 : decode (kB K_LA) 1509 = .ok (.aload_n 3, 1) := by decide +kernel
theorem d_LA_1510 : decode (kB K_LA) 1510 = .ok (.iconst 0, 1) := by decide +kernel
theorem d_LA_1511 : decode (kB K_LA) 1511 = .ok (.laload, 1) := by decide +kernel
theorem d_LA_1512 : decode (kB K_LA) 1512 = .ok (.iload 6, 2) := by decide +kernel
theorem d_LA_1514 : decode (kB K_LA) 1514 = .ok (.i2l, 1) := by decide +kernel
theorem d_LA_1515 : decode (kB K_LA) 1515 = .ok (.lcmp, 1) := by decide +kernel
theorem d_LA_1516 : decode (kB K_LA) 1516 = .ok (.ifCond .eq 5, 3) := by decide +kernel
theorem d_LA_1519 : decode (kB K_LA) 1519 = .ok (.iconst 0, 1) := by decide +kernel
theorem d_LA_1520 : decode (kB K_LA) 1520 = .ok (.ireturn, 1) := by decide +kernel
theorem d_LA_1521 : decode (kB K_LA) 1521 = .ok (.goto 58, 3) := by decide +kernel
theorem d_LA_1524 : decode (kB K_LA) 1524 = .ok (.aload_n 1, 1) := by decide +kernel
theorem d_LA_1525 : decode (kB K_LA) 1525 = .ok (.invokevirtual 164, 3) := by decide +kernel
theorem d_LA_1528 : decode (kB K_LA) 1528 = .ok (.dstore 5, 2) := by decide +kernel
theorem d_LA_1530 : decode (kB K_LA) 1530 = .ok (.aload_n 2, 1) := by decide +kernel
theorem d_LA_1531 : decode (kB K_LA) 1531 = .ok (.invokevirtual 168, 3) := by decide +kernel
theorem d_LA_1534 : decode (kB K_LA) 1534 = .ok (.dstore 7, 2) := by decide +kernel
theorem d_LA_1536 : decode (kB K_LA) 1536 = .ok (.dload 5, 2) := by decide +kernel
theorem d_LA_1538 : decode (kB K_LA) 1538 = .ok (.dload 7, 2) := by decide +kernel
theorem d_LA_1540 : decode (kB K_LA) 1540 = .ok (.dcmp .l, 1) := by decide +kernel
theorem d_LA_1541 : decode (kB K_LA) 1541 = .ok (.ifCond .eq 21, 3) := by decide +kernel
theorem d_LA_1544 : decode (kB K_LA) 1544 = .ok (.dload 5, 2) := by decide +kernel
theorem d_LA_1546 : decode (kB K_LA) 1546 = .ok (.dload 5, 2) := by decide +kernel
theorem d_LA_1548 : decode (kB K_LA) 1548 = .ok (.dcmp .l, 1) := by decide +kernel
theorem d_LA_1549 : decode (kB K_LA) 1549 = .ok (.ifCond .eq 11, 3) := by decide +kernel
theorem d_LA_1552 : decode (kB K_LA) 1552 = .ok (.dload 7, 2) := by decide +kernel
theorem d_LA_1554 : decode (kB K_LA) 1554 = .ok (.dload 7, 2) := by decide +kernel
theorem d_LA_1556 : decode (kB K_LA) 1556 = .ok (.dcmp .l, 1) := by decide +kernel
theorem d_LA_1557 : decode (kB K_LA) 1557 = .ok (.ifCond .ne 5, 3) := by decide +kernel
theorem d_LA_1560 : decode (kB K_LA) 1560 = .ok (.iconst 0, 1) := by decide +kernel
theorem d_LA_1561 : decode (kB K_LA) 1561 = .ok (.ireturn, 1) := by decide +kernel
theorem d_LA_1562 : decode (kB K_LA) 1562 = .ok (.goto 17, 3) := by decide +kernel
theorem d_LA_1565 : decode (kB K_LA) 1565 = .ok (.aload_n 1, 1) := by decide +kernel
theorem d_LA_1566 : decode (kB K_LA) 1566 = .ok (.invokevirtual 169, 3) := by decide +kernel
theorem d_LA_1569 : decode (kB K_LA) 1569 = .ok (.aload_n 2, 1) := by decide +kernel
theorem d_LA_1570 : decode (kB K_LA) 1570 = .ok (.invokevirtual 173, 3) := by decide +kernel
theorem d_LA_1573 : decode (kB K_LA) 1573 = .ok (.lcmp, 1) := by decide +kernel
theorem d_LA_1574 : decode (kB K_LA) 1574 = .ok (.ifCond .eq 5, 3) := by decide +kernel
theorem d_LA_1577 : decode (kB K_LA) 1577 = .ok (.iconst 0, 1) := by decide +kernel
theorem d_LA_1578 : decode (kB K_LA) 1578 = .ok (.ireturn, 1) := by decide +kernel
theorem d_LA_1579 : decode (kB K_LA) 1579 = .ok (.iinc 4 6, 3) := by decide +kernel
theorem d_LA_1582 : decode (kB K_LA) 1582 = .ok (.goto (-1559), 3) := by decide +kernel
theorem d_LA_1585 : decode (kB K_LA) 1585 = .ok (.iconst 1, 1) := by decide +kernel
theorem d_LA_1586 : decode (kB K_LA) 1586 = .ok (.ireturn, 1) := by decide +kernel
