/-! The law's own walk, behind the constructors. -/
def Scr (K : KT) (g : GT) (LS : Nat) (xs : Nat → Int) : Prop := match K with
  | (_, _, _, _, s, _, _, _, _, _, _) => va_X (g.2.2.2 7) LS (fun j => Int32.ofInt (xs j)) s s.heap ∧ g.2.2.2 7 < g.1 ∧ LS ≤ 3072 ∧ g.1 ≤ s.heap.size ∧ ∀ j, ok32 (xs j)
section LawRows
variable {K : KT} {g : GT} {own : String} {cc : ByteArray} {nL fr cm sm : Nat} {cs : Nat × Nat} {pc : Nat} {L : List (Nat × Vl)} {st : List Vl} {S : S2} {LS : Nat} {xs : Nat → Int}
theorem g_sld {i : Int} (hC : Ctx K g own cc nL fr cm sm) (hX : Scr K g LS xs) (hd : decode cc pc = .ok (.iaload, 1)) (hi : inb i LS) (kk : G K g nL cs (pc + 1) L (vi (xs i.toNat) :: st) S) : G K g nL cs pc L (vi i :: vo 7 :: st) S := by
  obtain ⟨p, l, e, R, s, m, args, below, meth, c0, Q⟩ := K
  obtain ⟨x1, x2, x3, x4, x5⟩ := hX
  intro H locs ls h1 h2 h3 h4 h5
  have hi' : ok32 i := okv_head h3
  refine va_sld hC.1 hC.2.1 x1 (Nat.lt_of_lt_of_le x2 x4) (Nat.not_le.mpr x2) h2 (in_of32 hi' hi.1 hi.2) hd ?_
  rw [clamp_of32 hi']
  exact kk H locs ls h1 h2 (okv_cons (v := vi _) (x5 _) (okv_tail (okv_tail h3))) h4 h5
theorem g_slen (hC : Ctx K g own cc nL fr cm sm) (hX : Scr K g LS xs) (hd : decode cc pc = .ok (.arraylength, 1)) (kk : G K g nL cs (pc + 1) L (vi (LS : Int) :: st) S) : G K g nL cs pc L (vo 7 :: st) S := by
  obtain ⟨p, l, e, R, s, m, args, below, meth, c0, Q⟩ := K
  obtain ⟨x1, x2, x3, x4, x5⟩ := hX
  intro H locs ls h1 h2 h3 h4 h5
  refine va_slen hC.1 hC.2.1 x1 (Nat.lt_of_lt_of_le x2 x4) (Nat.not_le.mpr x2) h2 hd ?_
  have hk := kk H locs ls h1 h2 (okv_cons (v := vi (LS : Int)) (by show ok32 _; unfold ok32; omega) (okv_tail h3)) h4 h5
  rw [show Int32.ofNat LS = Int32.ofInt (LS : Int) from (Int32.ofInt_eq_ofNat).symm]
  exact hk
end LawRows
theorem dL_law_0 : decode cL_law 0 = .ok (.new 7, 3) := by decide +kernel
theorem dL_law_3 : decode cL_law 3 = .ok (.dup, 1) := by decide +kernel
theorem dL_law_4 : decode cL_law 4 = .ok (.invokespecial 9, 3) := by decide +kernel
theorem dL_law_7 : decode cL_law 7 = .ok (.astore_n 1, 1) := by decide +kernel
theorem dL_law_8 : decode cL_law 8 = .ok (.new 10, 3) := by decide +kernel
theorem dL_law_11 : decode cL_law 11 = .ok (.dup, 1) := by decide +kernel
theorem dL_law_12 : decode cL_law 12 = .ok (.invokespecial 12, 3) := by decide +kernel
theorem dL_law_15 : decode cL_law 15 = .ok (.astore_n 2, 1) := by decide +kernel
theorem dL_law_16 : decode cL_law 16 = .ok (.iconst 0, 1) := by decide +kernel
theorem dL_law_17 : decode cL_law 17 = .ok (.istore_n 3, 1) := by decide +kernel
theorem dL_law_18 : decode cL_law 18 = .ok (.iload_n 3, 1) := by decide +kernel
theorem dL_law_19 : decode cL_law 19 = .ok (.aload_n 0, 1) := by decide +kernel
theorem dL_law_20 : decode cL_law 20 = .ok (.arraylength, 1) := by decide +kernel
theorem dL_law_21 : decode cL_law 21 = .ok (.bipush 6, 2) := by decide +kernel
theorem dL_law_23 : decode cL_law 23 = .ok (.isub, 1) := by decide +kernel
theorem dL_law_24 : decode cL_law 24 = .ok (.if_icmp .gt 1458, 3) := by decide +kernel
theorem dL_law_27 : decode cL_law 27 = .ok (.aload_n 0, 1) := by decide +kernel
theorem dL_law_28 : decode cL_law 28 = .ok (.iload_n 3, 1) := by decide +kernel
theorem dL_law_29 : decode cL_law 29 = .ok (.iaload, 1) := by decide +kernel
theorem dL_law_30 : decode cL_law 30 = .ok (.bipush 63, 2) := by decide +kernel
theorem dL_law_32 : decode cL_law 32 = .ok (.iand, 1) := by decide +kernel
theorem dL_law_33 : decode cL_law 33 = .ok (.tableswitch 1443 0 40 #[179, 202, 235, 278, 321, 354, 377, 390, 423, 446, 479, 522, 555, 578, 611, 634, 647, 690, 713, 736, 779, 832, 885, 908, 931, 964, 977, 1000, 1013, 1026, 1039, 1052, 1075, 1118, 1141, 1174, 1217, 1290, 1324, 1387, 1420], 179) := by decide +kernel
theorem dL_law_212 : decode cL_law 212 = .ok (.aload_n 1, 1) := by decide +kernel
theorem dL_law_213 : decode cL_law 213 = .ok (.aload_n 0, 1) := by decide +kernel
theorem dL_law_214 : decode cL_law 214 = .ok (.iload_n 3, 1) := by decide +kernel
theorem dL_law_215 : decode cL_law 215 = .ok (.iconst 1, 1) := by decide +kernel
theorem dL_law_216 : decode cL_law 216 = .ok (.iadd, 1) := by decide +kernel
theorem dL_law_217 : decode cL_law 217 = .ok (.iaload, 1) := by decide +kernel
theorem dL_law_218 : decode cL_law 218 = .ok (.invokevirtual 13, 3) := by decide +kernel
theorem dL_law_221 : decode cL_law 221 = .ok (.aload_n 2, 1) := by decide +kernel
theorem dL_law_222 : decode cL_law 222 = .ok (.aload_n 0, 1) := by decide +kernel
theorem dL_law_223 : decode cL_law 223 = .ok (.iload_n 3, 1) := by decide +kernel
theorem dL_law_224 : decode cL_law 224 = .ok (.iconst 1, 1) := by decide +kernel
theorem dL_law_225 : decode cL_law 225 = .ok (.iadd, 1) := by decide +kernel
theorem dL_law_226 : decode cL_law 226 = .ok (.iaload, 1) := by decide +kernel
theorem dL_law_227 : decode cL_law 227 = .ok (.invokevirtual 17, 3) := by decide +kernel
theorem dL_law_230 : decode cL_law 230 = .ok (.if_icmp .eq 1246, 3) := by decide +kernel
theorem dL_law_233 : decode cL_law 233 = .ok (.iconst 0, 1) := by decide +kernel
theorem dL_law_234 : decode cL_law 234 = .ok (.ireturn, 1) := by decide +kernel
theorem dL_law_235 : decode cL_law 235 = .ok (.aload_n 1, 1) := by decide +kernel
theorem dL_law_236 : decode cL_law 236 = .ok (.aload_n 0, 1) := by decide +kernel
theorem dL_law_237 : decode cL_law 237 = .ok (.iload_n 3, 1) := by decide +kernel
theorem dL_law_238 : decode cL_law 238 = .ok (.iconst 1, 1) := by decide +kernel
theorem dL_law_239 : decode cL_law 239 = .ok (.iadd, 1) := by decide +kernel
theorem dL_law_240 : decode cL_law 240 = .ok (.iaload, 1) := by decide +kernel
theorem dL_law_241 : decode cL_law 241 = .ok (.aload_n 0, 1) := by decide +kernel
theorem dL_law_242 : decode cL_law 242 = .ok (.iload_n 3, 1) := by decide +kernel
theorem dL_law_243 : decode cL_law 243 = .ok (.iconst 2, 1) := by decide +kernel
theorem dL_law_244 : decode cL_law 244 = .ok (.iadd, 1) := by decide +kernel
theorem dL_law_245 : decode cL_law 245 = .ok (.iaload, 1) := by decide +kernel
theorem dL_law_246 : decode cL_law 246 = .ok (.invokevirtual 18, 3) := by decide +kernel
theorem dL_law_249 : decode cL_law 249 = .ok (.aload_n 2, 1) := by decide +kernel
theorem dL_law_250 : decode cL_law 250 = .ok (.aload_n 0, 1) := by decide +kernel
theorem dL_law_251 : decode cL_law 251 = .ok (.iload_n 3, 1) := by decide +kernel
theorem dL_law_252 : decode cL_law 252 = .ok (.iconst 1, 1) := by decide +kernel
theorem dL_law_253 : decode cL_law 253 = .ok (.iadd, 1) := by decide +kernel
theorem dL_law_254 : decode cL_law 254 = .ok (.iaload, 1) := by decide +kernel
theorem dL_law_255 : decode cL_law 255 = .ok (.aload_n 0, 1) := by decide +kernel
theorem dL_law_256 : decode cL_law 256 = .ok (.iload_n 3, 1) := by decide +kernel
theorem dL_law_257 : decode cL_law 257 = .ok (.iconst 2, 1) := by decide +kernel
theorem dL_law_258 : decode cL_law 258 = .ok (.iadd, 1) := by decide +kernel
theorem dL_law_259 : decode cL_law 259 = .ok (.iaload, 1) := by decide +kernel
theorem dL_law_260 : decode cL_law 260 = .ok (.invokevirtual 22, 3) := by decide +kernel
theorem dL_law_263 : decode cL_law 263 = .ok (.if_icmp .eq 1213, 3) := by decide +kernel
theorem dL_law_266 : decode cL_law 266 = .ok (.iconst 0, 1) := by decide +kernel
theorem dL_law_267 : decode cL_law 267 = .ok (.ireturn, 1) := by decide +kernel
theorem dL_law_268 : decode cL_law 268 = .ok (.aload_n 1, 1) := by decide +kernel
theorem dL_law_269 : decode cL_law 269 = .ok (.aload_n 0, 1) := by decide +kernel
theorem dL_law_270 : decode cL_law 270 = .ok (.iload_n 3, 1) := by decide +kernel
theorem dL_law_271 : decode cL_law 271 = .ok (.iconst 1, 1) := by decide +kernel
theorem dL_law_272 : decode cL_law 272 = .ok (.iadd, 1) := by decide +kernel
theorem dL_law_273 : decode cL_law 273 = .ok (.iaload, 1) := by decide +kernel
theorem dL_law_274 : decode cL_law 274 = .ok (.aload_n 0, 1) := by decide +kernel
theorem dL_law_275 : decode cL_law 275 = .ok (.iload_n 3, 1) := by decide +kernel
theorem dL_law_276 : decode cL_law 276 = .ok (.iconst 2, 1) := by decide +kernel
theorem dL_law_277 : decode cL_law 277 = .ok (.iadd, 1) := by decide +kernel
theorem dL_law_278 : decode cL_law 278 = .ok (.iaload, 1) := by decide +kernel
theorem dL_law_279 : decode cL_law 279 = .ok (.aload_n 0, 1) := by decide +kernel
theorem dL_law_280 : decode cL_law 280 = .ok (.iload_n 3, 1) := by decide +kernel
theorem dL_law_281 : decode cL_law 281 = .ok (.iconst 3, 1) := by decide +kernel
theorem dL_law_282 : decode cL_law 282 = .ok (.iadd, 1) := by decide +kernel
theorem dL_law_283 : decode cL_law 283 = .ok (.iaload, 1) := by decide +kernel
theorem dL_law_284 : decode cL_law 284 = .ok (.invokevirtual 23, 3) := by decide +kernel
theorem dL_law_287 : decode cL_law 287 = .ok (.aload_n 2, 1) := by decide +kernel
theorem dL_law_288 : decode cL_law 288 = .ok (.aload_n 0, 1) := by decide +kernel
theorem dL_law_289 : decode cL_law 289 = .ok (.iload_n 3, 1) := by decide +kernel
theorem dL_law_290 : decode cL_law 290 = .ok (.iconst 1, 1) := by decide +kernel
theorem dL_law_291 : decode cL_law 291 = .ok (.iadd, 1) := by decide +kernel
theorem dL_law_292 : decode cL_law 292 = .ok (.iaload, 1) := by decide +kernel
theorem dL_law_293 : decode cL_law 293 = .ok (.aload_n 0, 1) := by decide +kernel
theorem dL_law_294 : decode cL_law 294 = .ok (.iload_n 3, 1) := by decide +kernel
theorem dL_law_295 : decode cL_law 295 = .ok (.iconst 2, 1) := by decide +kernel
theorem dL_law_296 : decode cL_law 296 = .ok (.iadd, 1) := by decide +kernel
theorem dL_law_297 : decode cL_law 297 = .ok (.iaload, 1) := by decide +kernel
theorem dL_law_298 : decode cL_law 298 = .ok (.aload_n 0, 1) := by decide +kernel
theorem dL_law_299 : decode cL_law 299 = .ok (.iload_n 3, 1) := by decide +kernel
theorem dL_law_300 : decode cL_law 300 = .ok (.iconst 3, 1) := by decide +kernel
theorem dL_law_301 : decode cL_law 301 = .ok (.iadd, 1) := by decide +kernel
theorem dL_law_302 : decode cL_law 302 = .ok (.iaload, 1) := by decide +kernel
theorem dL_law_303 : decode cL_law 303 = .ok (.invokevirtual 27, 3) := by decide +kernel
theorem dL_law_306 : decode cL_law 306 = .ok (.if_icmp .eq 1170, 3) := by decide +kernel
theorem dL_law_309 : decode cL_law 309 = .ok (.iconst 0, 1) := by decide +kernel
theorem dL_law_310 : decode cL_law 310 = .ok (.ireturn, 1) := by decide +kernel
theorem dL_law_311 : decode cL_law 311 = .ok (.aload_n 1, 1) := by decide +kernel
theorem dL_law_312 : decode cL_law 312 = .ok (.aload_n 0, 1) := by decide +kernel
theorem dL_law_313 : decode cL_law 313 = .ok (.iload_n 3, 1) := by decide +kernel
theorem dL_law_314 : decode cL_law 314 = .ok (.iconst 1, 1) := by decide +kernel
theorem dL_law_315 : decode cL_law 315 = .ok (.iadd, 1) := by decide +kernel
theorem dL_law_316 : decode cL_law 316 = .ok (.iaload, 1) := by decide +kernel
theorem dL_law_317 : decode cL_law 317 = .ok (.aload_n 0, 1) := by decide +kernel
theorem dL_law_318 : decode cL_law 318 = .ok (.iload_n 3, 1) := by decide +kernel
theorem dL_law_319 : decode cL_law 319 = .ok (.iconst 2, 1) := by decide +kernel
theorem dL_law_320 : decode cL_law 320 = .ok (.iadd, 1) := by decide +kernel
theorem dL_law_321 : decode cL_law 321 = .ok (.iaload, 1) := by decide +kernel
theorem dL_law_322 : decode cL_law 322 = .ok (.aload_n 0, 1) := by decide +kernel
theorem dL_law_323 : decode cL_law 323 = .ok (.iload_n 3, 1) := by decide +kernel
theorem dL_law_324 : decode cL_law 324 = .ok (.iconst 3, 1) := by decide +kernel
theorem dL_law_325 : decode cL_law 325 = .ok (.iadd, 1) := by decide +kernel
theorem dL_law_326 : decode cL_law 326 = .ok (.iaload, 1) := by decide +kernel
theorem dL_law_327 : decode cL_law 327 = .ok (.invokevirtual 28, 3) := by decide +kernel
theorem dL_law_330 : decode cL_law 330 = .ok (.aload_n 2, 1) := by decide +kernel
theorem dL_law_331 : decode cL_law 331 = .ok (.aload_n 0, 1) := by decide +kernel
theorem dL_law_332 : decode cL_law 332 = .ok (.iload_n 3, 1) := by decide +kernel
theorem dL_law_333 : decode cL_law 333 = .ok (.iconst 1, 1) := by decide +kernel
theorem dL_law_334 : decode cL_law 334 = .ok (.iadd, 1) := by decide +kernel
theorem dL_law_335 : decode cL_law 335 = .ok (.iaload, 1) := by decide +kernel
theorem dL_law_336 : decode cL_law 336 = .ok (.aload_n 0, 1) := by decide +kernel
theorem dL_law_337 : decode cL_law 337 = .ok (.iload_n 3, 1) := by decide +kernel
theorem dL_law_338 : decode cL_law 338 = .ok (.iconst 2, 1) := by decide +kernel
theorem dL_law_339 : decode cL_law 339 = .ok (.iadd, 1) := by decide +kernel
theorem dL_law_340 : decode cL_law 340 = .ok (.iaload, 1) := by decide +kernel
theorem dL_law_341 : decode cL_law 341 = .ok (.aload_n 0, 1) := by decide +kernel
theorem dL_law_342 : decode cL_law 342 = .ok (.iload_n 3, 1) := by decide +kernel
theorem dL_law_343 : decode cL_law 343 = .ok (.iconst 3, 1) := by decide +kernel
theorem dL_law_344 : decode cL_law 344 = .ok (.iadd, 1) := by decide +kernel
theorem dL_law_345 : decode cL_law 345 = .ok (.iaload, 1) := by decide +kernel
theorem dL_law_346 : decode cL_law 346 = .ok (.invokevirtual 31, 3) := by decide +kernel
theorem dL_law_349 : decode cL_law 349 = .ok (.if_icmp .eq 1127, 3) := by decide +kernel
theorem dL_law_352 : decode cL_law 352 = .ok (.iconst 0, 1) := by decide +kernel
theorem dL_law_353 : decode cL_law 353 = .ok (.ireturn, 1) := by decide +kernel
theorem dL_law_354 : decode cL_law 354 = .ok (.aload_n 1, 1) := by decide +kernel
theorem dL_law_355 : decode cL_law 355 = .ok (.aload_n 0, 1) := by decide +kernel
theorem dL_law_356 : decode cL_law 356 = .ok (.iload_n 3, 1) := by decide +kernel
theorem dL_law_357 : decode cL_law 357 = .ok (.iconst 1, 1) := by decide +kernel
theorem dL_law_358 : decode cL_law 358 = .ok (.iadd, 1) := by decide +kernel
theorem dL_law_359 : decode cL_law 359 = .ok (.iaload, 1) := by decide +kernel
theorem dL_law_360 : decode cL_law 360 = .ok (.aload_n 0, 1) := by decide +kernel
theorem dL_law_361 : decode cL_law 361 = .ok (.iload_n 3, 1) := by decide +kernel
theorem dL_law_362 : decode cL_law 362 = .ok (.iconst 2, 1) := by decide +kernel
theorem dL_law_363 : decode cL_law 363 = .ok (.iadd, 1) := by decide +kernel
theorem dL_law_364 : decode cL_law 364 = .ok (.iaload, 1) := by decide +kernel
theorem dL_law_365 : decode cL_law 365 = .ok (.invokevirtual 32, 3) := by decide +kernel
theorem dL_law_368 : decode cL_law 368 = .ok (.aload_n 2, 1) := by decide +kernel
theorem dL_law_369 : decode cL_law 369 = .ok (.aload_n 0, 1) := by decide +kernel
theorem dL_law_370 : decode cL_law 370 = .ok (.iload_n 3, 1) := by decide +kernel
theorem dL_law_371 : decode cL_law 371 = .ok (.iconst 1, 1) := by decide +kernel
theorem dL_law_372 : decode cL_law 372 = .ok (.iadd, 1) := by decide +kernel
theorem dL_law_373 : decode cL_law 373 = .ok (.iaload, 1) := by decide +kernel
theorem dL_law_374 : decode cL_law 374 = .ok (.aload_n 0, 1) := by decide +kernel
theorem dL_law_375 : decode cL_law 375 = .ok (.iload_n 3, 1) := by decide +kernel
theorem dL_law_376 : decode cL_law 376 = .ok (.iconst 2, 1) := by decide +kernel
theorem dL_law_377 : decode cL_law 377 = .ok (.iadd, 1) := by decide +kernel
theorem dL_law_378 : decode cL_law 378 = .ok (.iaload, 1) := by decide +kernel
theorem dL_law_379 : decode cL_law 379 = .ok (.invokevirtual 35, 3) := by decide +kernel
theorem dL_law_382 : decode cL_law 382 = .ok (.if_icmp .eq 1094, 3) := by decide +kernel
theorem dL_law_385 : decode cL_law 385 = .ok (.iconst 0, 1) := by decide +kernel
theorem dL_law_386 : decode cL_law 386 = .ok (.ireturn, 1) := by decide +kernel
theorem dL_law_387 : decode cL_law 387 = .ok (.aload_n 1, 1) := by decide +kernel
theorem dL_law_388 : decode cL_law 388 = .ok (.aload_n 0, 1) := by decide +kernel
theorem dL_law_389 : decode cL_law 389 = .ok (.iload_n 3, 1) := by decide +kernel
theorem dL_law_390 : decode cL_law 390 = .ok (.iconst 1, 1) := by decide +kernel
theorem dL_law_391 : decode cL_law 391 = .ok (.iadd, 1) := by decide +kernel
theorem dL_law_392 : decode cL_law 392 = .ok (.iaload, 1) := by decide +kernel
theorem dL_law_393 : decode cL_law 393 = .ok (.invokevirtual 36, 3) := by decide +kernel
theorem dL_law_396 : decode cL_law 396 = .ok (.aload_n 2, 1) := by decide +kernel
theorem dL_law_397 : decode cL_law 397 = .ok (.aload_n 0, 1) := by decide +kernel
theorem dL_law_398 : decode cL_law 398 = .ok (.iload_n 3, 1) := by decide +kernel
theorem dL_law_399 : decode cL_law 399 = .ok (.iconst 1, 1) := by decide +kernel
theorem dL_law_400 : decode cL_law 400 = .ok (.iadd, 1) := by decide +kernel
theorem dL_law_401 : decode cL_law 401 = .ok (.iaload, 1) := by decide +kernel
theorem dL_law_402 : decode cL_law 402 = .ok (.invokevirtual 39, 3) := by decide +kernel
theorem dL_law_405 : decode cL_law 405 = .ok (.if_icmp .eq 1071, 3) := by decide +kernel
theorem dL_law_408 : decode cL_law 408 = .ok (.iconst 0, 1) := by decide +kernel
theorem dL_law_409 : decode cL_law 409 = .ok (.ireturn, 1) := by decide +kernel
theorem dL_law_410 : decode cL_law 410 = .ok (.aload_n 1, 1) := by decide +kernel
theorem dL_law_411 : decode cL_law 411 = .ok (.invokevirtual 40, 3) := by decide +kernel
theorem dL_law_414 : decode cL_law 414 = .ok (.aload_n 2, 1) := by decide +kernel
theorem dL_law_415 : decode cL_law 415 = .ok (.invokevirtual 44, 3) := by decide +kernel
theorem dL_law_418 : decode cL_law 418 = .ok (.if_icmp .eq 1058, 3) := by decide +kernel
theorem dL_law_421 : decode cL_law 421 = .ok (.iconst 0, 1) := by decide +kernel
theorem dL_law_422 : decode cL_law 422 = .ok (.ireturn, 1) := by decide +kernel
theorem dL_law_423 : decode cL_law 423 = .ok (.aload_n 1, 1) := by decide +kernel
theorem dL_law_424 : decode cL_law 424 = .ok (.aload_n 0, 1) := by decide +kernel
theorem dL_law_425 : decode cL_law 425 = .ok (.iload_n 3, 1) := by decide +kernel
theorem dL_law_426 : decode cL_law 426 = .ok (.iconst 1, 1) := by decide +kernel
theorem dL_law_427 : decode cL_law 427 = .ok (.iadd, 1) := by decide +kernel
theorem dL_law_428 : decode cL_law 428 = .ok (.iaload, 1) := by decide +kernel
theorem dL_law_429 : decode cL_law 429 = .ok (.aload_n 0, 1) := by decide +kernel
theorem dL_law_430 : decode cL_law 430 = .ok (.iload_n 3, 1) := by decide +kernel
theorem dL_law_431 : decode cL_law 431 = .ok (.iconst 2, 1) := by decide +kernel
theorem dL_law_432 : decode cL_law 432 = .ok (.iadd, 1) := by decide +kernel
theorem dL_law_433 : decode cL_law 433 = .ok (.iaload, 1) := by decide +kernel
theorem dL_law_434 : decode cL_law 434 = .ok (.invokevirtual 45, 3) := by decide +kernel
theorem dL_law_437 : decode cL_law 437 = .ok (.aload_n 2, 1) := by decide +kernel
theorem dL_law_438 : decode cL_law 438 = .ok (.aload_n 0, 1) := by decide +kernel
theorem dL_law_439 : decode cL_law 439 = .ok (.iload_n 3, 1) := by decide +kernel
theorem dL_law_440 : decode cL_law 440 = .ok (.iconst 1, 1) := by decide +kernel
theorem dL_law_441 : decode cL_law 441 = .ok (.iadd, 1) := by decide +kernel
theorem dL_law_442 : decode cL_law 442 = .ok (.iaload, 1) := by decide +kernel
theorem dL_law_443 : decode cL_law 443 = .ok (.aload_n 0, 1) := by decide +kernel
theorem dL_law_444 : decode cL_law 444 = .ok (.iload_n 3, 1) := by decide +kernel
theorem dL_law_445 : decode cL_law 445 = .ok (.iconst 2, 1) := by decide +kernel
theorem dL_law_446 : decode cL_law 446 = .ok (.iadd, 1) := by decide +kernel
theorem dL_law_447 : decode cL_law 447 = .ok (.iaload, 1) := by decide +kernel
theorem dL_law_448 : decode cL_law 448 = .ok (.invokevirtual 48, 3) := by decide +kernel
theorem dL_law_451 : decode cL_law 451 = .ok (.if_icmp .eq 1025, 3) := by decide +kernel
theorem dL_law_454 : decode cL_law 454 = .ok (.iconst 0, 1) := by decide +kernel
theorem dL_law_455 : decode cL_law 455 = .ok (.ireturn, 1) := by decide +kernel
theorem dL_law_456 : decode cL_law 456 = .ok (.aload_n 1, 1) := by decide +kernel
theorem dL_law_457 : decode cL_law 457 = .ok (.aload_n 0, 1) := by decide +kernel
theorem dL_law_458 : decode cL_law 458 = .ok (.iload_n 3, 1) := by decide +kernel
theorem dL_law_459 : decode cL_law 459 = .ok (.iconst 1, 1) := by decide +kernel
theorem dL_law_460 : decode cL_law 460 = .ok (.iadd, 1) := by decide +kernel
theorem dL_law_461 : decode cL_law 461 = .ok (.iaload, 1) := by decide +kernel
theorem dL_law_462 : decode cL_law 462 = .ok (.invokevirtual 49, 3) := by decide +kernel
theorem dL_law_465 : decode cL_law 465 = .ok (.aload_n 2, 1) := by decide +kernel
theorem dL_law_466 : decode cL_law 466 = .ok (.aload_n 0, 1) := by decide +kernel
theorem dL_law_467 : decode cL_law 467 = .ok (.iload_n 3, 1) := by decide +kernel
theorem dL_law_468 : decode cL_law 468 = .ok (.iconst 1, 1) := by decide +kernel
theorem dL_law_469 : decode cL_law 469 = .ok (.iadd, 1) := by decide +kernel
theorem dL_law_470 : decode cL_law 470 = .ok (.iaload, 1) := by decide +kernel
theorem dL_law_471 : decode cL_law 471 = .ok (.invokevirtual 52, 3) := by decide +kernel
theorem dL_law_474 : decode cL_law 474 = .ok (.if_icmp .eq 1002, 3) := by decide +kernel
theorem dL_law_477 : decode cL_law 477 = .ok (.iconst 0, 1) := by decide +kernel
theorem dL_law_478 : decode cL_law 478 = .ok (.ireturn, 1) := by decide +kernel
theorem dL_law_479 : decode cL_law 479 = .ok (.aload_n 1, 1) := by decide +kernel
theorem dL_law_480 : decode cL_law 480 = .ok (.aload_n 0, 1) := by decide +kernel
theorem dL_law_481 : decode cL_law 481 = .ok (.iload_n 3, 1) := by decide +kernel
theorem dL_law_482 : decode cL_law 482 = .ok (.iconst 1, 1) := by decide +kernel
theorem dL_law_483 : decode cL_law 483 = .ok (.iadd, 1) := by decide +kernel
theorem dL_law_484 : decode cL_law 484 = .ok (.iaload, 1) := by decide +kernel
theorem dL_law_485 : decode cL_law 485 = .ok (.aload_n 0, 1) := by decide +kernel
theorem dL_law_486 : decode cL_law 486 = .ok (.iload_n 3, 1) := by decide +kernel
theorem dL_law_487 : decode cL_law 487 = .ok (.iconst 2, 1) := by decide +kernel
theorem dL_law_488 : decode cL_law 488 = .ok (.iadd, 1) := by decide +kernel
theorem dL_law_489 : decode cL_law 489 = .ok (.iaload, 1) := by decide +kernel
theorem dL_law_490 : decode cL_law 490 = .ok (.invokevirtual 53, 3) := by decide +kernel
theorem dL_law_493 : decode cL_law 493 = .ok (.aload_n 2, 1) := by decide +kernel
theorem dL_law_494 : decode cL_law 494 = .ok (.aload_n 0, 1) := by decide +kernel
theorem dL_law_495 : decode cL_law 495 = .ok (.iload_n 3, 1) := by decide +kernel
theorem dL_law_496 : decode cL_law 496 = .ok (.iconst 1, 1) := by decide +kernel
theorem dL_law_497 : decode cL_law 497 = .ok (.iadd, 1) := by decide +kernel
theorem dL_law_498 : decode cL_law 498 = .ok (.iaload, 1) := by decide +kernel
theorem dL_law_499 : decode cL_law 499 = .ok (.aload_n 0, 1) := by decide +kernel
theorem dL_law_500 : decode cL_law 500 = .ok (.iload_n 3, 1) := by decide +kernel
theorem dL_law_501 : decode cL_law 501 = .ok (.iconst 2, 1) := by decide +kernel
theorem dL_law_502 : decode cL_law 502 = .ok (.iadd, 1) := by decide +kernel
theorem dL_law_503 : decode cL_law 503 = .ok (.iaload, 1) := by decide +kernel
theorem dL_law_504 : decode cL_law 504 = .ok (.invokevirtual 56, 3) := by decide +kernel
theorem dL_law_507 : decode cL_law 507 = .ok (.if_icmp .eq 969, 3) := by decide +kernel
theorem dL_law_510 : decode cL_law 510 = .ok (.iconst 0, 1) := by decide +kernel
theorem dL_law_511 : decode cL_law 511 = .ok (.ireturn, 1) := by decide +kernel
theorem dL_law_512 : decode cL_law 512 = .ok (.aload_n 1, 1) := by decide +kernel
theorem dL_law_513 : decode cL_law 513 = .ok (.aload_n 0, 1) := by decide +kernel
theorem dL_law_514 : decode cL_law 514 = .ok (.iload_n 3, 1) := by decide +kernel
theorem dL_law_515 : decode cL_law 515 = .ok (.iconst 1, 1) := by decide +kernel
theorem dL_law_516 : decode cL_law 516 = .ok (.iadd, 1) := by decide +kernel
theorem dL_law_517 : decode cL_law 517 = .ok (.iaload, 1) := by decide +kernel
theorem dL_law_518 : decode cL_law 518 = .ok (.aload_n 0, 1) := by decide +kernel
theorem dL_law_519 : decode cL_law 519 = .ok (.iload_n 3, 1) := by decide +kernel
theorem dL_law_520 : decode cL_law 520 = .ok (.iconst 2, 1) := by decide +kernel
theorem dL_law_521 : decode cL_law 521 = .ok (.iadd, 1) := by decide +kernel
theorem dL_law_522 : decode cL_law 522 = .ok (.iaload, 1) := by decide +kernel
theorem dL_law_523 : decode cL_law 523 = .ok (.aload_n 0, 1) := by decide +kernel
theorem dL_law_524 : decode cL_law 524 = .ok (.iload_n 3, 1) := by decide +kernel
theorem dL_law_525 : decode cL_law 525 = .ok (.iconst 3, 1) := by decide +kernel
theorem dL_law_526 : decode cL_law 526 = .ok (.iadd, 1) := by decide +kernel
theorem dL_law_527 : decode cL_law 527 = .ok (.iaload, 1) := by decide +kernel
theorem dL_law_528 : decode cL_law 528 = .ok (.invokevirtual 57, 3) := by decide +kernel
theorem dL_law_531 : decode cL_law 531 = .ok (.aload_n 2, 1) := by decide +kernel
theorem dL_law_532 : decode cL_law 532 = .ok (.aload_n 0, 1) := by decide +kernel
theorem dL_law_533 : decode cL_law 533 = .ok (.iload_n 3, 1) := by decide +kernel
theorem dL_law_534 : decode cL_law 534 = .ok (.iconst 1, 1) := by decide +kernel
theorem dL_law_535 : decode cL_law 535 = .ok (.iadd, 1) := by decide +kernel
theorem dL_law_536 : decode cL_law 536 = .ok (.iaload, 1) := by decide +kernel
theorem dL_law_537 : decode cL_law 537 = .ok (.aload_n 0, 1) := by decide +kernel
theorem dL_law_538 : decode cL_law 538 = .ok (.iload_n 3, 1) := by decide +kernel
theorem dL_law_539 : decode cL_law 539 = .ok (.iconst 2, 1) := by decide +kernel
theorem dL_law_540 : decode cL_law 540 = .ok (.iadd, 1) := by decide +kernel
theorem dL_law_541 : decode cL_law 541 = .ok (.iaload, 1) := by decide +kernel
theorem dL_law_542 : decode cL_law 542 = .ok (.aload_n 0, 1) := by decide +kernel
theorem dL_law_543 : decode cL_law 543 = .ok (.iload_n 3, 1) := by decide +kernel
theorem dL_law_544 : decode cL_law 544 = .ok (.iconst 3, 1) := by decide +kernel
theorem dL_law_545 : decode cL_law 545 = .ok (.iadd, 1) := by decide +kernel
theorem dL_law_546 : decode cL_law 546 = .ok (.iaload, 1) := by decide +kernel
theorem dL_law_547 : decode cL_law 547 = .ok (.invokevirtual 60, 3) := by decide +kernel
theorem dL_law_550 : decode cL_law 550 = .ok (.if_icmp .eq 926, 3) := by decide +kernel
theorem dL_law_553 : decode cL_law 553 = .ok (.iconst 0, 1) := by decide +kernel
theorem dL_law_554 : decode cL_law 554 = .ok (.ireturn, 1) := by decide +kernel
theorem dL_law_555 : decode cL_law 555 = .ok (.aload_n 1, 1) := by decide +kernel
theorem dL_law_556 : decode cL_law 556 = .ok (.aload_n 0, 1) := by decide +kernel
theorem dL_law_557 : decode cL_law 557 = .ok (.iload_n 3, 1) := by decide +kernel
theorem dL_law_558 : decode cL_law 558 = .ok (.iconst 1, 1) := by decide +kernel
theorem dL_law_559 : decode cL_law 559 = .ok (.iadd, 1) := by decide +kernel
theorem dL_law_560 : decode cL_law 560 = .ok (.iaload, 1) := by decide +kernel
theorem dL_law_561 : decode cL_law 561 = .ok (.aload_n 0, 1) := by decide +kernel
theorem dL_law_562 : decode cL_law 562 = .ok (.iload_n 3, 1) := by decide +kernel
theorem dL_law_563 : decode cL_law 563 = .ok (.iconst 2, 1) := by decide +kernel
theorem dL_law_564 : decode cL_law 564 = .ok (.iadd, 1) := by decide +kernel
theorem dL_law_565 : decode cL_law 565 = .ok (.iaload, 1) := by decide +kernel
theorem dL_law_566 : decode cL_law 566 = .ok (.invokevirtual 61, 3) := by decide +kernel
theorem dL_law_569 : decode cL_law 569 = .ok (.aload_n 2, 1) := by decide +kernel
theorem dL_law_570 : decode cL_law 570 = .ok (.aload_n 0, 1) := by decide +kernel
theorem dL_law_571 : decode cL_law 571 = .ok (.iload_n 3, 1) := by decide +kernel
theorem dL_law_572 : decode cL_law 572 = .ok (.iconst 1, 1) := by decide +kernel
theorem dL_law_573 : decode cL_law 573 = .ok (.iadd, 1) := by decide +kernel
theorem dL_law_574 : decode cL_law 574 = .ok (.iaload, 1) := by decide +kernel
theorem dL_law_575 : decode cL_law 575 = .ok (.aload_n 0, 1) := by decide +kernel
theorem dL_law_576 : decode cL_law 576 = .ok (.iload_n 3, 1) := by decide +kernel
theorem dL_law_577 : decode cL_law 577 = .ok (.iconst 2, 1) := by decide +kernel
theorem dL_law_578 : decode cL_law 578 = .ok (.iadd, 1) := by decide +kernel
theorem dL_law_579 : decode cL_law 579 = .ok (.iaload, 1) := by decide +kernel
theorem dL_law_580 : decode cL_law 580 = .ok (.invokevirtual 64, 3) := by decide +kernel
theorem dL_law_583 : decode cL_law 583 = .ok (.if_icmp .eq 893, 3) := by decide +kernel
theorem dL_law_586 : decode cL_law 586 = .ok (.iconst 0, 1) := by decide +kernel
theorem dL_law_587 : decode cL_law 587 = .ok (.ireturn, 1) := by decide +kernel
theorem dL_law_588 : decode cL_law 588 = .ok (.aload_n 1, 1) := by decide +kernel
theorem dL_law_589 : decode cL_law 589 = .ok (.aload_n 0, 1) := by decide +kernel
theorem dL_law_590 : decode cL_law 590 = .ok (.iload_n 3, 1) := by decide +kernel
theorem dL_law_591 : decode cL_law 591 = .ok (.iconst 1, 1) := by decide +kernel
theorem dL_law_592 : decode cL_law 592 = .ok (.iadd, 1) := by decide +kernel
theorem dL_law_593 : decode cL_law 593 = .ok (.iaload, 1) := by decide +kernel
theorem dL_law_594 : decode cL_law 594 = .ok (.invokevirtual 65, 3) := by decide +kernel
theorem dL_law_597 : decode cL_law 597 = .ok (.aload_n 2, 1) := by decide +kernel
theorem dL_law_598 : decode cL_law 598 = .ok (.aload_n 0, 1) := by decide +kernel
theorem dL_law_599 : decode cL_law 599 = .ok (.iload_n 3, 1) := by decide +kernel
theorem dL_law_600 : decode cL_law 600 = .ok (.iconst 1, 1) := by decide +kernel
theorem dL_law_601 : decode cL_law 601 = .ok (.iadd, 1) := by decide +kernel
theorem dL_law_602 : decode cL_law 602 = .ok (.iaload, 1) := by decide +kernel
theorem dL_law_603 : decode cL_law 603 = .ok (.invokevirtual 68, 3) := by decide +kernel
theorem dL_law_606 : decode cL_law 606 = .ok (.if_icmp .eq 870, 3) := by decide +kernel
theorem dL_law_609 : decode cL_law 609 = .ok (.iconst 0, 1) := by decide +kernel
theorem dL_law_610 : decode cL_law 610 = .ok (.ireturn, 1) := by decide +kernel
theorem dL_law_611 : decode cL_law 611 = .ok (.aload_n 1, 1) := by decide +kernel
theorem dL_law_612 : decode cL_law 612 = .ok (.aload_n 0, 1) := by decide +kernel
theorem dL_law_613 : decode cL_law 613 = .ok (.iload_n 3, 1) := by decide +kernel
theorem dL_law_614 : decode cL_law 614 = .ok (.iconst 1, 1) := by decide +kernel
theorem dL_law_615 : decode cL_law 615 = .ok (.iadd, 1) := by decide +kernel
theorem dL_law_616 : decode cL_law 616 = .ok (.iaload, 1) := by decide +kernel
theorem dL_law_617 : decode cL_law 617 = .ok (.aload_n 0, 1) := by decide +kernel
theorem dL_law_618 : decode cL_law 618 = .ok (.iload_n 3, 1) := by decide +kernel
theorem dL_law_619 : decode cL_law 619 = .ok (.iconst 2, 1) := by decide +kernel
theorem dL_law_620 : decode cL_law 620 = .ok (.iadd, 1) := by decide +kernel
theorem dL_law_621 : decode cL_law 621 = .ok (.iaload, 1) := by decide +kernel
theorem dL_law_622 : decode cL_law 622 = .ok (.invokevirtual 69, 3) := by decide +kernel
theorem dL_law_625 : decode cL_law 625 = .ok (.aload_n 2, 1) := by decide +kernel
theorem dL_law_626 : decode cL_law 626 = .ok (.aload_n 0, 1) := by decide +kernel
theorem dL_law_627 : decode cL_law 627 = .ok (.iload_n 3, 1) := by decide +kernel
theorem dL_law_628 : decode cL_law 628 = .ok (.iconst 1, 1) := by decide +kernel
theorem dL_law_629 : decode cL_law 629 = .ok (.iadd, 1) := by decide +kernel
theorem dL_law_630 : decode cL_law 630 = .ok (.iaload, 1) := by decide +kernel
theorem dL_law_631 : decode cL_law 631 = .ok (.aload_n 0, 1) := by decide +kernel
theorem dL_law_632 : decode cL_law 632 = .ok (.iload_n 3, 1) := by decide +kernel
theorem dL_law_633 : decode cL_law 633 = .ok (.iconst 2, 1) := by decide +kernel
theorem dL_law_634 : decode cL_law 634 = .ok (.iadd, 1) := by decide +kernel
theorem dL_law_635 : decode cL_law 635 = .ok (.iaload, 1) := by decide +kernel
theorem dL_law_636 : decode cL_law 636 = .ok (.invokevirtual 72, 3) := by decide +kernel
theorem dL_law_639 : decode cL_law 639 = .ok (.if_icmp .eq 837, 3) := by decide +kernel
theorem dL_law_642 : decode cL_law 642 = .ok (.iconst 0, 1) := by decide +kernel
theorem dL_law_643 : decode cL_law 643 = .ok (.ireturn, 1) := by decide +kernel
theorem dL_law_644 : decode cL_law 644 = .ok (.aload_n 1, 1) := by decide +kernel
theorem dL_law_645 : decode cL_law 645 = .ok (.aload_n 0, 1) := by decide +kernel
theorem dL_law_646 : decode cL_law 646 = .ok (.iload_n 3, 1) := by decide +kernel
theorem dL_law_647 : decode cL_law 647 = .ok (.iconst 1, 1) := by decide +kernel
theorem dL_law_648 : decode cL_law 648 = .ok (.iadd, 1) := by decide +kernel
theorem dL_law_649 : decode cL_law 649 = .ok (.iaload, 1) := by decide +kernel
theorem dL_law_650 : decode cL_law 650 = .ok (.invokevirtual 73, 3) := by decide +kernel
theorem dL_law_653 : decode cL_law 653 = .ok (.aload_n 2, 1) := by decide +kernel
theorem dL_law_654 : decode cL_law 654 = .ok (.aload_n 0, 1) := by decide +kernel
theorem dL_law_655 : decode cL_law 655 = .ok (.iload_n 3, 1) := by decide +kernel
theorem dL_law_656 : decode cL_law 656 = .ok (.iconst 1, 1) := by decide +kernel
theorem dL_law_657 : decode cL_law 657 = .ok (.iadd, 1) := by decide +kernel
theorem dL_law_658 : decode cL_law 658 = .ok (.iaload, 1) := by decide +kernel
theorem dL_law_659 : decode cL_law 659 = .ok (.invokevirtual 76, 3) := by decide +kernel
theorem dL_law_662 : decode cL_law 662 = .ok (.if_icmp .eq 814, 3) := by decide +kernel
theorem dL_law_665 : decode cL_law 665 = .ok (.iconst 0, 1) := by decide +kernel
theorem dL_law_666 : decode cL_law 666 = .ok (.ireturn, 1) := by decide +kernel
theorem dL_law_667 : decode cL_law 667 = .ok (.aload_n 1, 1) := by decide +kernel
theorem dL_law_668 : decode cL_law 668 = .ok (.invokevirtual 77, 3) := by decide +kernel
theorem dL_law_671 : decode cL_law 671 = .ok (.aload_n 2, 1) := by decide +kernel
theorem dL_law_672 : decode cL_law 672 = .ok (.invokevirtual 80, 3) := by decide +kernel
theorem dL_law_675 : decode cL_law 675 = .ok (.if_icmp .eq 801, 3) := by decide +kernel
theorem dL_law_678 : decode cL_law 678 = .ok (.iconst 0, 1) := by decide +kernel
theorem dL_law_679 : decode cL_law 679 = .ok (.ireturn, 1) := by decide +kernel
theorem dL_law_680 : decode cL_law 680 = .ok (.aload_n 1, 1) := by decide +kernel
theorem dL_law_681 : decode cL_law 681 = .ok (.aload_n 0, 1) := by decide +kernel
theorem dL_law_682 : decode cL_law 682 = .ok (.iload_n 3, 1) := by decide +kernel
theorem dL_law_683 : decode cL_law 683 = .ok (.iconst 1, 1) := by decide +kernel
theorem dL_law_684 : decode cL_law 684 = .ok (.iadd, 1) := by decide +kernel
theorem dL_law_685 : decode cL_law 685 = .ok (.iaload, 1) := by decide +kernel
theorem dL_law_686 : decode cL_law 686 = .ok (.aload_n 0, 1) := by decide +kernel
theorem dL_law_687 : decode cL_law 687 = .ok (.iload_n 3, 1) := by decide +kernel
theorem dL_law_688 : decode cL_law 688 = .ok (.iconst 2, 1) := by decide +kernel
theorem dL_law_689 : decode cL_law 689 = .ok (.iadd, 1) := by decide +kernel
theorem dL_law_690 : decode cL_law 690 = .ok (.iaload, 1) := by decide +kernel
theorem dL_law_691 : decode cL_law 691 = .ok (.aload_n 0, 1) := by decide +kernel
theorem dL_law_692 : decode cL_law 692 = .ok (.iload_n 3, 1) := by decide +kernel
theorem dL_law_693 : decode cL_law 693 = .ok (.iconst 3, 1) := by decide +kernel
theorem dL_law_694 : decode cL_law 694 = .ok (.iadd, 1) := by decide +kernel
theorem dL_law_695 : decode cL_law 695 = .ok (.iaload, 1) := by decide +kernel
theorem dL_law_696 : decode cL_law 696 = .ok (.invokevirtual 81, 3) := by decide +kernel
theorem dL_law_699 : decode cL_law 699 = .ok (.aload_n 2, 1) := by decide +kernel
theorem dL_law_700 : decode cL_law 700 = .ok (.aload_n 0, 1) := by decide +kernel
theorem dL_law_701 : decode cL_law 701 = .ok (.iload_n 3, 1) := by decide +kernel
theorem dL_law_702 : decode cL_law 702 = .ok (.iconst 1, 1) := by decide +kernel
theorem dL_law_703 : decode cL_law 703 = .ok (.iadd, 1) := by decide +kernel
theorem dL_law_704 : decode cL_law 704 = .ok (.iaload, 1) := by decide +kernel
theorem dL_law_705 : decode cL_law 705 = .ok (.aload_n 0, 1) := by decide +kernel
theorem dL_law_706 : decode cL_law 706 = .ok (.iload_n 3, 1) := by decide +kernel
theorem dL_law_707 : decode cL_law 707 = .ok (.iconst 2, 1) := by decide +kernel
theorem dL_law_708 : decode cL_law 708 = .ok (.iadd, 1) := by decide +kernel
theorem dL_law_709 : decode cL_law 709 = .ok (.iaload, 1) := by decide +kernel
theorem dL_law_710 : decode cL_law 710 = .ok (.aload_n 0, 1) := by decide +kernel
theorem dL_law_711 : decode cL_law 711 = .ok (.iload_n 3, 1) := by decide +kernel
theorem dL_law_712 : decode cL_law 712 = .ok (.iconst 3, 1) := by decide +kernel
theorem dL_law_713 : decode cL_law 713 = .ok (.iadd, 1) := by decide +kernel
theorem dL_law_714 : decode cL_law 714 = .ok (.iaload, 1) := by decide +kernel
theorem dL_law_715 : decode cL_law 715 = .ok (.invokevirtual 84, 3) := by decide +kernel
theorem dL_law_718 : decode cL_law 718 = .ok (.if_icmp .eq 758, 3) := by decide +kernel
theorem dL_law_721 : decode cL_law 721 = .ok (.iconst 0, 1) := by decide +kernel
theorem dL_law_722 : decode cL_law 722 = .ok (.ireturn, 1) := by decide +kernel
theorem dL_law_723 : decode cL_law 723 = .ok (.aload_n 1, 1) := by decide +kernel
theorem dL_law_724 : decode cL_law 724 = .ok (.aload_n 0, 1) := by decide +kernel
theorem dL_law_725 : decode cL_law 725 = .ok (.iload_n 3, 1) := by decide +kernel
theorem dL_law_726 : decode cL_law 726 = .ok (.iconst 1, 1) := by decide +kernel
theorem dL_law_727 : decode cL_law 727 = .ok (.iadd, 1) := by decide +kernel
theorem dL_law_728 : decode cL_law 728 = .ok (.iaload, 1) := by decide +kernel
theorem dL_law_729 : decode cL_law 729 = .ok (.invokevirtual 85, 3) := by decide +kernel
theorem dL_law_732 : decode cL_law 732 = .ok (.aload_n 2, 1) := by decide +kernel
theorem dL_law_733 : decode cL_law 733 = .ok (.aload_n 0, 1) := by decide +kernel
theorem dL_law_734 : decode cL_law 734 = .ok (.iload_n 3, 1) := by decide +kernel
theorem dL_law_735 : decode cL_law 735 = .ok (.iconst 1, 1) := by decide +kernel
theorem dL_law_736 : decode cL_law 736 = .ok (.iadd, 1) := by decide +kernel
theorem dL_law_737 : decode cL_law 737 = .ok (.iaload, 1) := by decide +kernel
theorem dL_law_738 : decode cL_law 738 = .ok (.invokevirtual 88, 3) := by decide +kernel
theorem dL_law_741 : decode cL_law 741 = .ok (.if_icmp .eq 735, 3) := by decide +kernel
theorem dL_law_744 : decode cL_law 744 = .ok (.iconst 0, 1) := by decide +kernel
theorem dL_law_745 : decode cL_law 745 = .ok (.ireturn, 1) := by decide +kernel
theorem dL_law_746 : decode cL_law 746 = .ok (.aload_n 1, 1) := by decide +kernel
theorem dL_law_747 : decode cL_law 747 = .ok (.aload_n 0, 1) := by decide +kernel
theorem dL_law_748 : decode cL_law 748 = .ok (.iload_n 3, 1) := by decide +kernel
theorem dL_law_749 : decode cL_law 749 = .ok (.iconst 1, 1) := by decide +kernel
theorem dL_law_750 : decode cL_law 750 = .ok (.iadd, 1) := by decide +kernel
theorem dL_law_751 : decode cL_law 751 = .ok (.iaload, 1) := by decide +kernel
theorem dL_law_752 : decode cL_law 752 = .ok (.invokevirtual 89, 3) := by decide +kernel
theorem dL_law_755 : decode cL_law 755 = .ok (.aload_n 2, 1) := by decide +kernel
theorem dL_law_756 : decode cL_law 756 = .ok (.aload_n 0, 1) := by decide +kernel
theorem dL_law_757 : decode cL_law 757 = .ok (.iload_n 3, 1) := by decide +kernel
theorem dL_law_758 : decode cL_law 758 = .ok (.iconst 1, 1) := by decide +kernel
theorem dL_law_759 : decode cL_law 759 = .ok (.iadd, 1) := by decide +kernel
theorem dL_law_760 : decode cL_law 760 = .ok (.iaload, 1) := by decide +kernel
theorem dL_law_761 : decode cL_law 761 = .ok (.invokevirtual 92, 3) := by decide +kernel
theorem dL_law_764 : decode cL_law 764 = .ok (.if_icmp .eq 712, 3) := by decide +kernel
theorem dL_law_767 : decode cL_law 767 = .ok (.iconst 0, 1) := by decide +kernel
theorem dL_law_768 : decode cL_law 768 = .ok (.ireturn, 1) := by decide +kernel
theorem dL_law_769 : decode cL_law 769 = .ok (.aload_n 1, 1) := by decide +kernel
theorem dL_law_770 : decode cL_law 770 = .ok (.aload_n 0, 1) := by decide +kernel
theorem dL_law_771 : decode cL_law 771 = .ok (.iload_n 3, 1) := by decide +kernel
theorem dL_law_772 : decode cL_law 772 = .ok (.iconst 1, 1) := by decide +kernel
theorem dL_law_773 : decode cL_law 773 = .ok (.iadd, 1) := by decide +kernel
theorem dL_law_774 : decode cL_law 774 = .ok (.iaload, 1) := by decide +kernel
theorem dL_law_775 : decode cL_law 775 = .ok (.aload_n 0, 1) := by decide +kernel
theorem dL_law_776 : decode cL_law 776 = .ok (.iload_n 3, 1) := by decide +kernel
theorem dL_law_777 : decode cL_law 777 = .ok (.iconst 2, 1) := by decide +kernel
theorem dL_law_778 : decode cL_law 778 = .ok (.iadd, 1) := by decide +kernel
theorem dL_law_779 : decode cL_law 779 = .ok (.iaload, 1) := by decide +kernel
theorem dL_law_780 : decode cL_law 780 = .ok (.aload_n 0, 1) := by decide +kernel
theorem dL_law_781 : decode cL_law 781 = .ok (.iload_n 3, 1) := by decide +kernel
theorem dL_law_782 : decode cL_law 782 = .ok (.iconst 3, 1) := by decide +kernel
theorem dL_law_783 : decode cL_law 783 = .ok (.iadd, 1) := by decide +kernel
theorem dL_law_784 : decode cL_law 784 = .ok (.iaload, 1) := by decide +kernel
theorem dL_law_785 : decode cL_law 785 = .ok (.invokevirtual 93, 3) := by decide +kernel
theorem dL_law_788 : decode cL_law 788 = .ok (.aload_n 2, 1) := by decide +kernel
theorem dL_law_789 : decode cL_law 789 = .ok (.aload_n 0, 1) := by decide +kernel
theorem dL_law_790 : decode cL_law 790 = .ok (.iload_n 3, 1) := by decide +kernel
theorem dL_law_791 : decode cL_law 791 = .ok (.iconst 1, 1) := by decide +kernel
theorem dL_law_792 : decode cL_law 792 = .ok (.iadd, 1) := by decide +kernel
theorem dL_law_793 : decode cL_law 793 = .ok (.iaload, 1) := by decide +kernel
theorem dL_law_794 : decode cL_law 794 = .ok (.aload_n 0, 1) := by decide +kernel
theorem dL_law_795 : decode cL_law 795 = .ok (.iload_n 3, 1) := by decide +kernel
theorem dL_law_796 : decode cL_law 796 = .ok (.iconst 2, 1) := by decide +kernel
theorem dL_law_797 : decode cL_law 797 = .ok (.iadd, 1) := by decide +kernel
theorem dL_law_798 : decode cL_law 798 = .ok (.iaload, 1) := by decide +kernel
theorem dL_law_799 : decode cL_law 799 = .ok (.aload_n 0, 1) := by decide +kernel
theorem dL_law_800 : decode cL_law 800 = .ok (.iload_n 3, 1) := by decide +kernel
theorem dL_law_801 : decode cL_law 801 = .ok (.iconst 3, 1) := by decide +kernel
theorem dL_law_802 : decode cL_law 802 = .ok (.iadd, 1) := by decide +kernel
theorem dL_law_803 : decode cL_law 803 = .ok (.iaload, 1) := by decide +kernel
theorem dL_law_804 : decode cL_law 804 = .ok (.invokevirtual 96, 3) := by decide +kernel
theorem dL_law_807 : decode cL_law 807 = .ok (.if_icmp .eq 669, 3) := by decide +kernel
theorem dL_law_810 : decode cL_law 810 = .ok (.iconst 0, 1) := by decide +kernel
theorem dL_law_811 : decode cL_law 811 = .ok (.ireturn, 1) := by decide +kernel
theorem dL_law_812 : decode cL_law 812 = .ok (.aload_n 1, 1) := by decide +kernel
theorem dL_law_813 : decode cL_law 813 = .ok (.aload_n 0, 1) := by decide +kernel
theorem dL_law_814 : decode cL_law 814 = .ok (.iload_n 3, 1) := by decide +kernel
theorem dL_law_815 : decode cL_law 815 = .ok (.iconst 1, 1) := by decide +kernel
theorem dL_law_816 : decode cL_law 816 = .ok (.iadd, 1) := by decide +kernel
theorem dL_law_817 : decode cL_law 817 = .ok (.iaload, 1) := by decide +kernel
theorem dL_law_818 : decode cL_law 818 = .ok (.aload_n 0, 1) := by decide +kernel
theorem dL_law_819 : decode cL_law 819 = .ok (.iload_n 3, 1) := by decide +kernel
theorem dL_law_820 : decode cL_law 820 = .ok (.iconst 2, 1) := by decide +kernel
theorem dL_law_821 : decode cL_law 821 = .ok (.iadd, 1) := by decide +kernel
theorem dL_law_822 : decode cL_law 822 = .ok (.iaload, 1) := by decide +kernel
theorem dL_law_823 : decode cL_law 823 = .ok (.aload_n 0, 1) := by decide +kernel
theorem dL_law_824 : decode cL_law 824 = .ok (.iload_n 3, 1) := by decide +kernel
theorem dL_law_825 : decode cL_law 825 = .ok (.iconst 3, 1) := by decide +kernel
theorem dL_law_826 : decode cL_law 826 = .ok (.iadd, 1) := by decide +kernel
theorem dL_law_827 : decode cL_law 827 = .ok (.iaload, 1) := by decide +kernel
theorem dL_law_828 : decode cL_law 828 = .ok (.aload_n 0, 1) := by decide +kernel
theorem dL_law_829 : decode cL_law 829 = .ok (.iload_n 3, 1) := by decide +kernel
theorem dL_law_830 : decode cL_law 830 = .ok (.iconst 4, 1) := by decide +kernel
theorem dL_law_831 : decode cL_law 831 = .ok (.iadd, 1) := by decide +kernel
theorem dL_law_832 : decode cL_law 832 = .ok (.iaload, 1) := by decide +kernel
theorem dL_law_833 : decode cL_law 833 = .ok (.invokevirtual 97, 3) := by decide +kernel
theorem dL_law_836 : decode cL_law 836 = .ok (.aload_n 2, 1) := by decide +kernel
theorem dL_law_837 : decode cL_law 837 = .ok (.aload_n 0, 1) := by decide +kernel
theorem dL_law_838 : decode cL_law 838 = .ok (.iload_n 3, 1) := by decide +kernel
theorem dL_law_839 : decode cL_law 839 = .ok (.iconst 1, 1) := by decide +kernel
theorem dL_law_840 : decode cL_law 840 = .ok (.iadd, 1) := by decide +kernel
theorem dL_law_841 : decode cL_law 841 = .ok (.iaload, 1) := by decide +kernel
theorem dL_law_842 : decode cL_law 842 = .ok (.aload_n 0, 1) := by decide +kernel
theorem dL_law_843 : decode cL_law 843 = .ok (.iload_n 3, 1) := by decide +kernel
theorem dL_law_844 : decode cL_law 844 = .ok (.iconst 2, 1) := by decide +kernel
theorem dL_law_845 : decode cL_law 845 = .ok (.iadd, 1) := by decide +kernel
theorem dL_law_846 : decode cL_law 846 = .ok (.iaload, 1) := by decide +kernel
theorem dL_law_847 : decode cL_law 847 = .ok (.aload_n 0, 1) := by decide +kernel
theorem dL_law_848 : decode cL_law 848 = .ok (.iload_n 3, 1) := by decide +kernel
theorem dL_law_849 : decode cL_law 849 = .ok (.iconst 3, 1) := by decide +kernel
theorem dL_law_850 : decode cL_law 850 = .ok (.iadd, 1) := by decide +kernel
theorem dL_law_851 : decode cL_law 851 = .ok (.iaload, 1) := by decide +kernel
theorem dL_law_852 : decode cL_law 852 = .ok (.aload_n 0, 1) := by decide +kernel
theorem dL_law_853 : decode cL_law 853 = .ok (.iload_n 3, 1) := by decide +kernel
theorem dL_law_854 : decode cL_law 854 = .ok (.iconst 4, 1) := by decide +kernel
theorem dL_law_855 : decode cL_law 855 = .ok (.iadd, 1) := by decide +kernel
theorem dL_law_856 : decode cL_law 856 = .ok (.iaload, 1) := by decide +kernel
theorem dL_law_857 : decode cL_law 857 = .ok (.invokevirtual 101, 3) := by decide +kernel
theorem dL_law_860 : decode cL_law 860 = .ok (.if_icmp .eq 616, 3) := by decide +kernel
theorem dL_law_863 : decode cL_law 863 = .ok (.iconst 0, 1) := by decide +kernel
theorem dL_law_864 : decode cL_law 864 = .ok (.ireturn, 1) := by decide +kernel
theorem dL_law_865 : decode cL_law 865 = .ok (.aload_n 1, 1) := by decide +kernel
theorem dL_law_866 : decode cL_law 866 = .ok (.aload_n 0, 1) := by decide +kernel
theorem dL_law_867 : decode cL_law 867 = .ok (.iload_n 3, 1) := by decide +kernel
theorem dL_law_868 : decode cL_law 868 = .ok (.iconst 1, 1) := by decide +kernel
theorem dL_law_869 : decode cL_law 869 = .ok (.iadd, 1) := by decide +kernel
theorem dL_law_870 : decode cL_law 870 = .ok (.iaload, 1) := by decide +kernel
theorem dL_law_871 : decode cL_law 871 = .ok (.aload_n 0, 1) := by decide +kernel
theorem dL_law_872 : decode cL_law 872 = .ok (.iload_n 3, 1) := by decide +kernel
theorem dL_law_873 : decode cL_law 873 = .ok (.iconst 2, 1) := by decide +kernel
theorem dL_law_874 : decode cL_law 874 = .ok (.iadd, 1) := by decide +kernel
theorem dL_law_875 : decode cL_law 875 = .ok (.iaload, 1) := by decide +kernel
theorem dL_law_876 : decode cL_law 876 = .ok (.aload_n 0, 1) := by decide +kernel
theorem dL_law_877 : decode cL_law 877 = .ok (.iload_n 3, 1) := by decide +kernel
theorem dL_law_878 : decode cL_law 878 = .ok (.iconst 3, 1) := by decide +kernel
theorem dL_law_879 : decode cL_law 879 = .ok (.iadd, 1) := by decide +kernel
theorem dL_law_880 : decode cL_law 880 = .ok (.iaload, 1) := by decide +kernel
theorem dL_law_881 : decode cL_law 881 = .ok (.aload_n 0, 1) := by decide +kernel
theorem dL_law_882 : decode cL_law 882 = .ok (.iload_n 3, 1) := by decide +kernel
theorem dL_law_883 : decode cL_law 883 = .ok (.iconst 4, 1) := by decide +kernel
theorem dL_law_884 : decode cL_law 884 = .ok (.iadd, 1) := by decide +kernel
theorem dL_law_885 : decode cL_law 885 = .ok (.iaload, 1) := by decide +kernel
theorem dL_law_886 : decode cL_law 886 = .ok (.invokevirtual 102, 3) := by decide +kernel
theorem dL_law_889 : decode cL_law 889 = .ok (.aload_n 2, 1) := by decide +kernel
theorem dL_law_890 : decode cL_law 890 = .ok (.aload_n 0, 1) := by decide +kernel
theorem dL_law_891 : decode cL_law 891 = .ok (.iload_n 3, 1) := by decide +kernel
theorem dL_law_892 : decode cL_law 892 = .ok (.iconst 1, 1) := by decide +kernel
theorem dL_law_893 : decode cL_law 893 = .ok (.iadd, 1) := by decide +kernel
theorem dL_law_894 : decode cL_law 894 = .ok (.iaload, 1) := by decide +kernel
theorem dL_law_895 : decode cL_law 895 = .ok (.aload_n 0, 1) := by decide +kernel
theorem dL_law_896 : decode cL_law 896 = .ok (.iload_n 3, 1) := by decide +kernel
theorem dL_law_897 : decode cL_law 897 = .ok (.iconst 2, 1) := by decide +kernel
theorem dL_law_898 : decode cL_law 898 = .ok (.iadd, 1) := by decide +kernel
theorem dL_law_899 : decode cL_law 899 = .ok (.iaload, 1) := by decide +kernel
theorem dL_law_900 : decode cL_law 900 = .ok (.aload_n 0, 1) := by decide +kernel
theorem dL_law_901 : decode cL_law 901 = .ok (.iload_n 3, 1) := by decide +kernel
theorem dL_law_902 : decode cL_law 902 = .ok (.iconst 3, 1) := by decide +kernel
theorem dL_law_903 : decode cL_law 903 = .ok (.iadd, 1) := by decide +kernel
theorem dL_law_904 : decode cL_law 904 = .ok (.iaload, 1) := by decide +kernel
theorem dL_law_905 : decode cL_law 905 = .ok (.aload_n 0, 1) := by decide +kernel
theorem dL_law_906 : decode cL_law 906 = .ok (.iload_n 3, 1) := by decide +kernel
theorem dL_law_907 : decode cL_law 907 = .ok (.iconst 4, 1) := by decide +kernel
theorem dL_law_908 : decode cL_law 908 = .ok (.iadd, 1) := by decide +kernel
theorem dL_law_909 : decode cL_law 909 = .ok (.iaload, 1) := by decide +kernel
theorem dL_law_910 : decode cL_law 910 = .ok (.invokevirtual 105, 3) := by decide +kernel
theorem dL_law_913 : decode cL_law 913 = .ok (.if_icmp .eq 563, 3) := by decide +kernel
theorem dL_law_916 : decode cL_law 916 = .ok (.iconst 0, 1) := by decide +kernel
theorem dL_law_917 : decode cL_law 917 = .ok (.ireturn, 1) := by decide +kernel
theorem dL_law_918 : decode cL_law 918 = .ok (.aload_n 1, 1) := by decide +kernel
theorem dL_law_919 : decode cL_law 919 = .ok (.aload_n 0, 1) := by decide +kernel
theorem dL_law_920 : decode cL_law 920 = .ok (.iload_n 3, 1) := by decide +kernel
theorem dL_law_921 : decode cL_law 921 = .ok (.iconst 1, 1) := by decide +kernel
theorem dL_law_922 : decode cL_law 922 = .ok (.iadd, 1) := by decide +kernel
theorem dL_law_923 : decode cL_law 923 = .ok (.iaload, 1) := by decide +kernel
theorem dL_law_924 : decode cL_law 924 = .ok (.invokevirtual 106, 3) := by decide +kernel
theorem dL_law_927 : decode cL_law 927 = .ok (.aload_n 2, 1) := by decide +kernel
theorem dL_law_928 : decode cL_law 928 = .ok (.aload_n 0, 1) := by decide +kernel
theorem dL_law_929 : decode cL_law 929 = .ok (.iload_n 3, 1) := by decide +kernel
theorem dL_law_930 : decode cL_law 930 = .ok (.iconst 1, 1) := by decide +kernel
theorem dL_law_931 : decode cL_law 931 = .ok (.iadd, 1) := by decide +kernel
theorem dL_law_932 : decode cL_law 932 = .ok (.iaload, 1) := by decide +kernel
theorem dL_law_933 : decode cL_law 933 = .ok (.invokevirtual 109, 3) := by decide +kernel
theorem dL_law_936 : decode cL_law 936 = .ok (.if_icmp .eq 540, 3) := by decide +kernel
theorem dL_law_939 : decode cL_law 939 = .ok (.iconst 0, 1) := by decide +kernel
theorem dL_law_940 : decode cL_law 940 = .ok (.ireturn, 1) := by decide +kernel
theorem dL_law_941 : decode cL_law 941 = .ok (.aload_n 1, 1) := by decide +kernel
theorem dL_law_942 : decode cL_law 942 = .ok (.aload_n 0, 1) := by decide +kernel
theorem dL_law_943 : decode cL_law 943 = .ok (.iload_n 3, 1) := by decide +kernel
theorem dL_law_944 : decode cL_law 944 = .ok (.iconst 1, 1) := by decide +kernel
theorem dL_law_945 : decode cL_law 945 = .ok (.iadd, 1) := by decide +kernel
theorem dL_law_946 : decode cL_law 946 = .ok (.iaload, 1) := by decide +kernel
theorem dL_law_947 : decode cL_law 947 = .ok (.invokevirtual 110, 3) := by decide +kernel
theorem dL_law_950 : decode cL_law 950 = .ok (.aload_n 2, 1) := by decide +kernel
theorem dL_law_951 : decode cL_law 951 = .ok (.aload_n 0, 1) := by decide +kernel
theorem dL_law_952 : decode cL_law 952 = .ok (.iload_n 3, 1) := by decide +kernel
theorem dL_law_953 : decode cL_law 953 = .ok (.iconst 1, 1) := by decide +kernel
theorem dL_law_954 : decode cL_law 954 = .ok (.iadd, 1) := by decide +kernel
theorem dL_law_955 : decode cL_law 955 = .ok (.iaload, 1) := by decide +kernel
theorem dL_law_956 : decode cL_law 956 = .ok (.invokevirtual 113, 3) := by decide +kernel
theorem dL_law_959 : decode cL_law 959 = .ok (.if_icmp .eq 517, 3) := by decide +kernel
theorem dL_law_962 : decode cL_law 962 = .ok (.iconst 0, 1) := by decide +kernel
theorem dL_law_963 : decode cL_law 963 = .ok (.ireturn, 1) := by decide +kernel
theorem dL_law_964 : decode cL_law 964 = .ok (.aload_n 1, 1) := by decide +kernel
theorem dL_law_965 : decode cL_law 965 = .ok (.aload_n 0, 1) := by decide +kernel
theorem dL_law_966 : decode cL_law 966 = .ok (.iload_n 3, 1) := by decide +kernel
theorem dL_law_967 : decode cL_law 967 = .ok (.iconst 1, 1) := by decide +kernel
theorem dL_law_968 : decode cL_law 968 = .ok (.iadd, 1) := by decide +kernel
theorem dL_law_969 : decode cL_law 969 = .ok (.iaload, 1) := by decide +kernel
theorem dL_law_970 : decode cL_law 970 = .ok (.aload_n 0, 1) := by decide +kernel
theorem dL_law_971 : decode cL_law 971 = .ok (.iload_n 3, 1) := by decide +kernel
theorem dL_law_972 : decode cL_law 972 = .ok (.iconst 2, 1) := by decide +kernel
theorem dL_law_973 : decode cL_law 973 = .ok (.iadd, 1) := by decide +kernel
theorem dL_law_974 : decode cL_law 974 = .ok (.iaload, 1) := by decide +kernel
theorem dL_law_975 : decode cL_law 975 = .ok (.invokevirtual 114, 3) := by decide +kernel
theorem dL_law_978 : decode cL_law 978 = .ok (.aload_n 2, 1) := by decide +kernel
theorem dL_law_979 : decode cL_law 979 = .ok (.aload_n 0, 1) := by decide +kernel
theorem dL_law_980 : decode cL_law 980 = .ok (.iload_n 3, 1) := by decide +kernel
theorem dL_law_981 : decode cL_law 981 = .ok (.iconst 1, 1) := by decide +kernel
theorem dL_law_982 : decode cL_law 982 = .ok (.iadd, 1) := by decide +kernel
theorem dL_law_983 : decode cL_law 983 = .ok (.iaload, 1) := by decide +kernel
theorem dL_law_984 : decode cL_law 984 = .ok (.aload_n 0, 1) := by decide +kernel
theorem dL_law_985 : decode cL_law 985 = .ok (.iload_n 3, 1) := by decide +kernel
theorem dL_law_986 : decode cL_law 986 = .ok (.iconst 2, 1) := by decide +kernel
theorem dL_law_987 : decode cL_law 987 = .ok (.iadd, 1) := by decide +kernel
theorem dL_law_988 : decode cL_law 988 = .ok (.iaload, 1) := by decide +kernel
theorem dL_law_989 : decode cL_law 989 = .ok (.invokevirtual 117, 3) := by decide +kernel
theorem dL_law_992 : decode cL_law 992 = .ok (.if_icmp .eq 484, 3) := by decide +kernel
theorem dL_law_995 : decode cL_law 995 = .ok (.iconst 0, 1) := by decide +kernel
theorem dL_law_996 : decode cL_law 996 = .ok (.ireturn, 1) := by decide +kernel
theorem dL_law_997 : decode cL_law 997 = .ok (.aload_n 1, 1) := by decide +kernel
theorem dL_law_998 : decode cL_law 998 = .ok (.invokevirtual 118, 3) := by decide +kernel
theorem dL_law_1001 : decode cL_law 1001 = .ok (.aload_n 2, 1) := by decide +kernel
theorem dL_law_1002 : decode cL_law 1002 = .ok (.invokevirtual 121, 3) := by decide +kernel
theorem dL_law_1005 : decode cL_law 1005 = .ok (.if_icmp .eq 471, 3) := by decide +kernel
theorem dL_law_1008 : decode cL_law 1008 = .ok (.iconst 0, 1) := by decide +kernel
theorem dL_law_1009 : decode cL_law 1009 = .ok (.ireturn, 1) := by decide +kernel
theorem dL_law_1010 : decode cL_law 1010 = .ok (.aload_n 1, 1) := by decide +kernel
theorem dL_law_1011 : decode cL_law 1011 = .ok (.aload_n 0, 1) := by decide +kernel
theorem dL_law_1012 : decode cL_law 1012 = .ok (.iload_n 3, 1) := by decide +kernel
theorem dL_law_1013 : decode cL_law 1013 = .ok (.iconst 1, 1) := by decide +kernel
theorem dL_law_1014 : decode cL_law 1014 = .ok (.iadd, 1) := by decide +kernel
theorem dL_law_1015 : decode cL_law 1015 = .ok (.iaload, 1) := by decide +kernel
theorem dL_law_1016 : decode cL_law 1016 = .ok (.invokevirtual 122, 3) := by decide +kernel
theorem dL_law_1019 : decode cL_law 1019 = .ok (.aload_n 2, 1) := by decide +kernel
theorem dL_law_1020 : decode cL_law 1020 = .ok (.aload_n 0, 1) := by decide +kernel
theorem dL_law_1021 : decode cL_law 1021 = .ok (.iload_n 3, 1) := by decide +kernel
theorem dL_law_1022 : decode cL_law 1022 = .ok (.iconst 1, 1) := by decide +kernel
theorem dL_law_1023 : decode cL_law 1023 = .ok (.iadd, 1) := by decide +kernel
theorem dL_law_1024 : decode cL_law 1024 = .ok (.iaload, 1) := by decide +kernel
theorem dL_law_1025 : decode cL_law 1025 = .ok (.invokevirtual 125, 3) := by decide +kernel
theorem dL_law_1028 : decode cL_law 1028 = .ok (.if_icmp .eq 448, 3) := by decide +kernel
theorem dL_law_1031 : decode cL_law 1031 = .ok (.iconst 0, 1) := by decide +kernel
theorem dL_law_1032 : decode cL_law 1032 = .ok (.ireturn, 1) := by decide +kernel
theorem dL_law_1033 : decode cL_law 1033 = .ok (.aload_n 1, 1) := by decide +kernel
theorem dL_law_1034 : decode cL_law 1034 = .ok (.invokevirtual 126, 3) := by decide +kernel
theorem dL_law_1037 : decode cL_law 1037 = .ok (.aload_n 2, 1) := by decide +kernel
theorem dL_law_1038 : decode cL_law 1038 = .ok (.invokevirtual 129, 3) := by decide +kernel
theorem dL_law_1041 : decode cL_law 1041 = .ok (.if_icmp .eq 435, 3) := by decide +kernel
theorem dL_law_1044 : decode cL_law 1044 = .ok (.iconst 0, 1) := by decide +kernel
theorem dL_law_1045 : decode cL_law 1045 = .ok (.ireturn, 1) := by decide +kernel
theorem dL_law_1046 : decode cL_law 1046 = .ok (.aload_n 1, 1) := by decide +kernel
theorem dL_law_1047 : decode cL_law 1047 = .ok (.invokevirtual 130, 3) := by decide +kernel
theorem dL_law_1050 : decode cL_law 1050 = .ok (.aload_n 2, 1) := by decide +kernel
theorem dL_law_1051 : decode cL_law 1051 = .ok (.invokevirtual 133, 3) := by decide +kernel
theorem dL_law_1054 : decode cL_law 1054 = .ok (.if_icmp .eq 422, 3) := by decide +kernel
theorem dL_law_1057 : decode cL_law 1057 = .ok (.iconst 0, 1) := by decide +kernel
theorem dL_law_1058 : decode cL_law 1058 = .ok (.ireturn, 1) := by decide +kernel
theorem dL_law_1059 : decode cL_law 1059 = .ok (.aload_n 1, 1) := by decide +kernel
theorem dL_law_1060 : decode cL_law 1060 = .ok (.invokevirtual 134, 3) := by decide +kernel
theorem dL_law_1063 : decode cL_law 1063 = .ok (.aload_n 2, 1) := by decide +kernel
theorem dL_law_1064 : decode cL_law 1064 = .ok (.invokevirtual 137, 3) := by decide +kernel
theorem dL_law_1067 : decode cL_law 1067 = .ok (.if_icmp .eq 409, 3) := by decide +kernel
theorem dL_law_1070 : decode cL_law 1070 = .ok (.iconst 0, 1) := by decide +kernel
theorem dL_law_1071 : decode cL_law 1071 = .ok (.ireturn, 1) := by decide +kernel
theorem dL_law_1072 : decode cL_law 1072 = .ok (.aload_n 1, 1) := by decide +kernel
theorem dL_law_1073 : decode cL_law 1073 = .ok (.invokevirtual 138, 3) := by decide +kernel
theorem dL_law_1076 : decode cL_law 1076 = .ok (.aload_n 2, 1) := by decide +kernel
theorem dL_law_1077 : decode cL_law 1077 = .ok (.invokevirtual 141, 3) := by decide +kernel
theorem dL_law_1080 : decode cL_law 1080 = .ok (.if_icmp .eq 396, 3) := by decide +kernel
theorem dL_law_1083 : decode cL_law 1083 = .ok (.iconst 0, 1) := by decide +kernel
theorem dL_law_1084 : decode cL_law 1084 = .ok (.ireturn, 1) := by decide +kernel
theorem dL_law_1085 : decode cL_law 1085 = .ok (.aload_n 1, 1) := by decide +kernel
theorem dL_law_1086 : decode cL_law 1086 = .ok (.aload_n 0, 1) := by decide +kernel
theorem dL_law_1087 : decode cL_law 1087 = .ok (.iload_n 3, 1) := by decide +kernel
theorem dL_law_1088 : decode cL_law 1088 = .ok (.iconst 1, 1) := by decide +kernel
theorem dL_law_1089 : decode cL_law 1089 = .ok (.iadd, 1) := by decide +kernel
theorem dL_law_1090 : decode cL_law 1090 = .ok (.iaload, 1) := by decide +kernel
theorem dL_law_1091 : decode cL_law 1091 = .ok (.invokevirtual 142, 3) := by decide +kernel
theorem dL_law_1094 : decode cL_law 1094 = .ok (.aload_n 2, 1) := by decide +kernel
theorem dL_law_1095 : decode cL_law 1095 = .ok (.aload_n 0, 1) := by decide +kernel
theorem dL_law_1096 : decode cL_law 1096 = .ok (.iload_n 3, 1) := by decide +kernel
theorem dL_law_1097 : decode cL_law 1097 = .ok (.iconst 1, 1) := by decide +kernel
theorem dL_law_1098 : decode cL_law 1098 = .ok (.iadd, 1) := by decide +kernel
theorem dL_law_1099 : decode cL_law 1099 = .ok (.iaload, 1) := by decide +kernel
theorem dL_law_1100 : decode cL_law 1100 = .ok (.invokevirtual 145, 3) := by decide +kernel
theorem dL_law_1103 : decode cL_law 1103 = .ok (.if_icmp .eq 373, 3) := by decide +kernel
theorem dL_law_1106 : decode cL_law 1106 = .ok (.iconst 0, 1) := by decide +kernel
theorem dL_law_1107 : decode cL_law 1107 = .ok (.ireturn, 1) := by decide +kernel
theorem dL_law_1108 : decode cL_law 1108 = .ok (.aload_n 1, 1) := by decide +kernel
theorem dL_law_1109 : decode cL_law 1109 = .ok (.aload_n 0, 1) := by decide +kernel
theorem dL_law_1110 : decode cL_law 1110 = .ok (.iload_n 3, 1) := by decide +kernel
theorem dL_law_1111 : decode cL_law 1111 = .ok (.iconst 1, 1) := by decide +kernel
theorem dL_law_1112 : decode cL_law 1112 = .ok (.iadd, 1) := by decide +kernel
theorem dL_law_1113 : decode cL_law 1113 = .ok (.iaload, 1) := by decide +kernel
theorem dL_law_1114 : decode cL_law 1114 = .ok (.aload_n 0, 1) := by decide +kernel
theorem dL_law_1115 : decode cL_law 1115 = .ok (.iload_n 3, 1) := by decide +kernel
theorem dL_law_1116 : decode cL_law 1116 = .ok (.iconst 2, 1) := by decide +kernel
theorem dL_law_1117 : decode cL_law 1117 = .ok (.iadd, 1) := by decide +kernel
theorem dL_law_1118 : decode cL_law 1118 = .ok (.iaload, 1) := by decide +kernel
theorem dL_law_1119 : decode cL_law 1119 = .ok (.aload_n 0, 1) := by decide +kernel
theorem dL_law_1120 : decode cL_law 1120 = .ok (.iload_n 3, 1) := by decide +kernel
theorem dL_law_1121 : decode cL_law 1121 = .ok (.iconst 3, 1) := by decide +kernel
theorem dL_law_1122 : decode cL_law 1122 = .ok (.iadd, 1) := by decide +kernel
theorem dL_law_1123 : decode cL_law 1123 = .ok (.iaload, 1) := by decide +kernel
theorem dL_law_1124 : decode cL_law 1124 = .ok (.invokevirtual 146, 3) := by decide +kernel
theorem dL_law_1127 : decode cL_law 1127 = .ok (.aload_n 2, 1) := by decide +kernel
theorem dL_law_1128 : decode cL_law 1128 = .ok (.aload_n 0, 1) := by decide +kernel
theorem dL_law_1129 : decode cL_law 1129 = .ok (.iload_n 3, 1) := by decide +kernel
theorem dL_law_1130 : decode cL_law 1130 = .ok (.iconst 1, 1) := by decide +kernel
theorem dL_law_1131 : decode cL_law 1131 = .ok (.iadd, 1) := by decide +kernel
theorem dL_law_1132 : decode cL_law 1132 = .ok (.iaload, 1) := by decide +kernel
theorem dL_law_1133 : decode cL_law 1133 = .ok (.aload_n 0, 1) := by decide +kernel
theorem dL_law_1134 : decode cL_law 1134 = .ok (.iload_n 3, 1) := by decide +kernel
theorem dL_law_1135 : decode cL_law 1135 = .ok (.iconst 2, 1) := by decide +kernel
theorem dL_law_1136 : decode cL_law 1136 = .ok (.iadd, 1) := by decide +kernel
theorem dL_law_1137 : decode cL_law 1137 = .ok (.iaload, 1) := by decide +kernel
theorem dL_law_1138 : decode cL_law 1138 = .ok (.aload_n 0, 1) := by decide +kernel
theorem dL_law_1139 : decode cL_law 1139 = .ok (.iload_n 3, 1) := by decide +kernel
theorem dL_law_1140 : decode cL_law 1140 = .ok (.iconst 3, 1) := by decide +kernel
theorem dL_law_1141 : decode cL_law 1141 = .ok (.iadd, 1) := by decide +kernel
theorem dL_law_1142 : decode cL_law 1142 = .ok (.iaload, 1) := by decide +kernel
theorem dL_law_1143 : decode cL_law 1143 = .ok (.invokevirtual 149, 3) := by decide +kernel
theorem dL_law_1146 : decode cL_law 1146 = .ok (.if_icmp .eq 330, 3) := by decide +kernel
theorem dL_law_1149 : decode cL_law 1149 = .ok (.iconst 0, 1) := by decide +kernel
theorem dL_law_1150 : decode cL_law 1150 = .ok (.ireturn, 1) := by decide +kernel
theorem dL_law_1151 : decode cL_law 1151 = .ok (.aload_n 1, 1) := by decide +kernel
theorem dL_law_1152 : decode cL_law 1152 = .ok (.aload_n 0, 1) := by decide +kernel
theorem dL_law_1153 : decode cL_law 1153 = .ok (.iload_n 3, 1) := by decide +kernel
theorem dL_law_1154 : decode cL_law 1154 = .ok (.iconst 1, 1) := by decide +kernel
theorem dL_law_1155 : decode cL_law 1155 = .ok (.iadd, 1) := by decide +kernel
theorem dL_law_1156 : decode cL_law 1156 = .ok (.iaload, 1) := by decide +kernel
theorem dL_law_1157 : decode cL_law 1157 = .ok (.invokevirtual 150, 3) := by decide +kernel
theorem dL_law_1160 : decode cL_law 1160 = .ok (.aload_n 2, 1) := by decide +kernel
theorem dL_law_1161 : decode cL_law 1161 = .ok (.aload_n 0, 1) := by decide +kernel
theorem dL_law_1162 : decode cL_law 1162 = .ok (.iload_n 3, 1) := by decide +kernel
theorem dL_law_1163 : decode cL_law 1163 = .ok (.iconst 1, 1) := by decide +kernel
theorem dL_law_1164 : decode cL_law 1164 = .ok (.iadd, 1) := by decide +kernel
theorem dL_law_1165 : decode cL_law 1165 = .ok (.iaload, 1) := by decide +kernel
theorem dL_law_1166 : decode cL_law 1166 = .ok (.invokevirtual 153, 3) := by decide +kernel
theorem dL_law_1169 : decode cL_law 1169 = .ok (.if_icmp .eq 307, 3) := by decide +kernel
theorem dL_law_1172 : decode cL_law 1172 = .ok (.iconst 0, 1) := by decide +kernel
theorem dL_law_1173 : decode cL_law 1173 = .ok (.ireturn, 1) := by decide +kernel
theorem dL_law_1174 : decode cL_law 1174 = .ok (.aload_n 1, 1) := by decide +kernel
theorem dL_law_1175 : decode cL_law 1175 = .ok (.aload_n 0, 1) := by decide +kernel
theorem dL_law_1176 : decode cL_law 1176 = .ok (.iload_n 3, 1) := by decide +kernel
theorem dL_law_1177 : decode cL_law 1177 = .ok (.iconst 1, 1) := by decide +kernel
theorem dL_law_1178 : decode cL_law 1178 = .ok (.iadd, 1) := by decide +kernel
theorem dL_law_1179 : decode cL_law 1179 = .ok (.iaload, 1) := by decide +kernel
theorem dL_law_1180 : decode cL_law 1180 = .ok (.aload_n 0, 1) := by decide +kernel
theorem dL_law_1181 : decode cL_law 1181 = .ok (.iload_n 3, 1) := by decide +kernel
theorem dL_law_1182 : decode cL_law 1182 = .ok (.iconst 2, 1) := by decide +kernel
theorem dL_law_1183 : decode cL_law 1183 = .ok (.iadd, 1) := by decide +kernel
theorem dL_law_1184 : decode cL_law 1184 = .ok (.iaload, 1) := by decide +kernel
theorem dL_law_1185 : decode cL_law 1185 = .ok (.invokevirtual 154, 3) := by decide +kernel
theorem dL_law_1188 : decode cL_law 1188 = .ok (.aload_n 2, 1) := by decide +kernel
theorem dL_law_1189 : decode cL_law 1189 = .ok (.aload_n 0, 1) := by decide +kernel
theorem dL_law_1190 : decode cL_law 1190 = .ok (.iload_n 3, 1) := by decide +kernel
theorem dL_law_1191 : decode cL_law 1191 = .ok (.iconst 1, 1) := by decide +kernel
theorem dL_law_1192 : decode cL_law 1192 = .ok (.iadd, 1) := by decide +kernel
theorem dL_law_1193 : decode cL_law 1193 = .ok (.iaload, 1) := by decide +kernel
theorem dL_law_1194 : decode cL_law 1194 = .ok (.aload_n 0, 1) := by decide +kernel
theorem dL_law_1195 : decode cL_law 1195 = .ok (.iload_n 3, 1) := by decide +kernel
theorem dL_law_1196 : decode cL_law 1196 = .ok (.iconst 2, 1) := by decide +kernel
theorem dL_law_1197 : decode cL_law 1197 = .ok (.iadd, 1) := by decide +kernel
theorem dL_law_1198 : decode cL_law 1198 = .ok (.iaload, 1) := by decide +kernel
theorem dL_law_1199 : decode cL_law 1199 = .ok (.invokevirtual 157, 3) := by decide +kernel
theorem dL_law_1202 : decode cL_law 1202 = .ok (.if_icmp .eq 274, 3) := by decide +kernel
theorem dL_law_1205 : decode cL_law 1205 = .ok (.iconst 0, 1) := by decide +kernel
theorem dL_law_1206 : decode cL_law 1206 = .ok (.ireturn, 1) := by decide +kernel
theorem dL_law_1207 : decode cL_law 1207 = .ok (.aload_n 1, 1) := by decide +kernel
theorem dL_law_1208 : decode cL_law 1208 = .ok (.aload_n 0, 1) := by decide +kernel
theorem dL_law_1209 : decode cL_law 1209 = .ok (.iload_n 3, 1) := by decide +kernel
theorem dL_law_1210 : decode cL_law 1210 = .ok (.iconst 1, 1) := by decide +kernel
theorem dL_law_1211 : decode cL_law 1211 = .ok (.iadd, 1) := by decide +kernel
theorem dL_law_1212 : decode cL_law 1212 = .ok (.iaload, 1) := by decide +kernel
theorem dL_law_1213 : decode cL_law 1213 = .ok (.aload_n 0, 1) := by decide +kernel
theorem dL_law_1214 : decode cL_law 1214 = .ok (.iload_n 3, 1) := by decide +kernel
theorem dL_law_1215 : decode cL_law 1215 = .ok (.iconst 2, 1) := by decide +kernel
theorem dL_law_1216 : decode cL_law 1216 = .ok (.iadd, 1) := by decide +kernel
theorem dL_law_1217 : decode cL_law 1217 = .ok (.iaload, 1) := by decide +kernel
theorem dL_law_1218 : decode cL_law 1218 = .ok (.aload_n 0, 1) := by decide +kernel
theorem dL_law_1219 : decode cL_law 1219 = .ok (.iload_n 3, 1) := by decide +kernel
theorem dL_law_1220 : decode cL_law 1220 = .ok (.iconst 3, 1) := by decide +kernel
theorem dL_law_1221 : decode cL_law 1221 = .ok (.iadd, 1) := by decide +kernel
theorem dL_law_1222 : decode cL_law 1222 = .ok (.iaload, 1) := by decide +kernel
theorem dL_law_1223 : decode cL_law 1223 = .ok (.invokevirtual 158, 3) := by decide +kernel
theorem dL_law_1226 : decode cL_law 1226 = .ok (.aload_n 2, 1) := by decide +kernel
theorem dL_law_1227 : decode cL_law 1227 = .ok (.aload_n 0, 1) := by decide +kernel
theorem dL_law_1228 : decode cL_law 1228 = .ok (.iload_n 3, 1) := by decide +kernel
theorem dL_law_1229 : decode cL_law 1229 = .ok (.iconst 1, 1) := by decide +kernel
theorem dL_law_1230 : decode cL_law 1230 = .ok (.iadd, 1) := by decide +kernel
theorem dL_law_1231 : decode cL_law 1231 = .ok (.iaload, 1) := by decide +kernel
theorem dL_law_1232 : decode cL_law 1232 = .ok (.aload_n 0, 1) := by decide +kernel
theorem dL_law_1233 : decode cL_law 1233 = .ok (.iload_n 3, 1) := by decide +kernel
theorem dL_law_1234 : decode cL_law 1234 = .ok (.iconst 2, 1) := by decide +kernel
theorem dL_law_1235 : decode cL_law 1235 = .ok (.iadd, 1) := by decide +kernel
theorem dL_law_1236 : decode cL_law 1236 = .ok (.iaload, 1) := by decide +kernel
theorem dL_law_1237 : decode cL_law 1237 = .ok (.aload_n 0, 1) := by decide +kernel
theorem dL_law_1238 : decode cL_law 1238 = .ok (.iload_n 3, 1) := by decide +kernel
theorem dL_law_1239 : decode cL_law 1239 = .ok (.iconst 3, 1) := by decide +kernel
theorem dL_law_1240 : decode cL_law 1240 = .ok (.iadd, 1) := by decide +kernel
theorem dL_law_1241 : decode cL_law 1241 = .ok (.iaload, 1) := by decide +kernel
theorem dL_law_1242 : decode cL_law 1242 = .ok (.invokevirtual 161, 3) := by decide +kernel
theorem dL_law_1245 : decode cL_law 1245 = .ok (.if_icmp .eq 231, 3) := by decide +kernel
theorem dL_law_1248 : decode cL_law 1248 = .ok (.iconst 0, 1) := by decide +kernel
theorem dL_law_1249 : decode cL_law 1249 = .ok (.ireturn, 1) := by decide +kernel
theorem dL_law_1250 : decode cL_law 1250 = .ok (.aload_n 1, 1) := by decide +kernel
theorem dL_law_1251 : decode cL_law 1251 = .ok (.aload_n 0, 1) := by decide +kernel
theorem dL_law_1252 : decode cL_law 1252 = .ok (.iload_n 3, 1) := by decide +kernel
theorem dL_law_1253 : decode cL_law 1253 = .ok (.iconst 1, 1) := by decide +kernel
theorem dL_law_1254 : decode cL_law 1254 = .ok (.iadd, 1) := by decide +kernel
theorem dL_law_1255 : decode cL_law 1255 = .ok (.iaload, 1) := by decide +kernel
theorem dL_law_1256 : decode cL_law 1256 = .ok (.aload_n 0, 1) := by decide +kernel
theorem dL_law_1257 : decode cL_law 1257 = .ok (.iload_n 3, 1) := by decide +kernel
theorem dL_law_1258 : decode cL_law 1258 = .ok (.iconst 2, 1) := by decide +kernel
theorem dL_law_1259 : decode cL_law 1259 = .ok (.iadd, 1) := by decide +kernel
theorem dL_law_1260 : decode cL_law 1260 = .ok (.iaload, 1) := by decide +kernel
theorem dL_law_1261 : decode cL_law 1261 = .ok (.aload_n 0, 1) := by decide +kernel
theorem dL_law_1262 : decode cL_law 1262 = .ok (.iload_n 3, 1) := by decide +kernel
theorem dL_law_1263 : decode cL_law 1263 = .ok (.iconst 3, 1) := by decide +kernel
theorem dL_law_1264 : decode cL_law 1264 = .ok (.iadd, 1) := by decide +kernel
theorem dL_law_1265 : decode cL_law 1265 = .ok (.iaload, 1) := by decide +kernel
theorem dL_law_1266 : decode cL_law 1266 = .ok (.i2l, 1) := by decide +kernel
theorem dL_law_1267 : decode cL_law 1267 = .ok (.bipush 32, 2) := by decide +kernel
theorem dL_law_1269 : decode cL_law 1269 = .ok (.lshl, 1) := by decide +kernel
theorem dL_law_1270 : decode cL_law 1270 = .ok (.aload_n 0, 1) := by decide +kernel
theorem dL_law_1271 : decode cL_law 1271 = .ok (.iload_n 3, 1) := by decide +kernel
theorem dL_law_1272 : decode cL_law 1272 = .ok (.iconst 4, 1) := by decide +kernel
theorem dL_law_1273 : decode cL_law 1273 = .ok (.iadd, 1) := by decide +kernel
theorem dL_law_1274 : decode cL_law 1274 = .ok (.iaload, 1) := by decide +kernel
theorem dL_law_1275 : decode cL_law 1275 = .ok (.i2l, 1) := by decide +kernel
theorem dL_law_1276 : decode cL_law 1276 = .ok (.ldc2_w 162, 3) := by decide +kernel
theorem dL_law_1279 : decode cL_law 1279 = .ok (.land, 1) := by decide +kernel
theorem dL_law_1280 : decode cL_law 1280 = .ok (.lor, 1) := by decide +kernel
theorem dL_law_1281 : decode cL_law 1281 = .ok (.invokevirtual 164, 3) := by decide +kernel
theorem dL_law_1284 : decode cL_law 1284 = .ok (.aload_n 2, 1) := by decide +kernel
theorem dL_law_1285 : decode cL_law 1285 = .ok (.aload_n 0, 1) := by decide +kernel
theorem dL_law_1286 : decode cL_law 1286 = .ok (.iload_n 3, 1) := by decide +kernel
theorem dL_law_1287 : decode cL_law 1287 = .ok (.iconst 1, 1) := by decide +kernel
theorem dL_law_1288 : decode cL_law 1288 = .ok (.iadd, 1) := by decide +kernel
theorem dL_law_1289 : decode cL_law 1289 = .ok (.iaload, 1) := by decide +kernel
theorem dL_law_1290 : decode cL_law 1290 = .ok (.aload_n 0, 1) := by decide +kernel
theorem dL_law_1291 : decode cL_law 1291 = .ok (.iload_n 3, 1) := by decide +kernel
theorem dL_law_1292 : decode cL_law 1292 = .ok (.iconst 2, 1) := by decide +kernel
theorem dL_law_1293 : decode cL_law 1293 = .ok (.iadd, 1) := by decide +kernel
theorem dL_law_1294 : decode cL_law 1294 = .ok (.iaload, 1) := by decide +kernel
theorem dL_law_1295 : decode cL_law 1295 = .ok (.aload_n 0, 1) := by decide +kernel
theorem dL_law_1296 : decode cL_law 1296 = .ok (.iload_n 3, 1) := by decide +kernel
theorem dL_law_1297 : decode cL_law 1297 = .ok (.iconst 3, 1) := by decide +kernel
theorem dL_law_1298 : decode cL_law 1298 = .ok (.iadd, 1) := by decide +kernel
theorem dL_law_1299 : decode cL_law 1299 = .ok (.iaload, 1) := by decide +kernel
theorem dL_law_1300 : decode cL_law 1300 = .ok (.i2l, 1) := by decide +kernel
theorem dL_law_1301 : decode cL_law 1301 = .ok (.bipush 32, 2) := by decide +kernel
theorem dL_law_1303 : decode cL_law 1303 = .ok (.lshl, 1) := by decide +kernel
theorem dL_law_1304 : decode cL_law 1304 = .ok (.aload_n 0, 1) := by decide +kernel
theorem dL_law_1305 : decode cL_law 1305 = .ok (.iload_n 3, 1) := by decide +kernel
theorem dL_law_1306 : decode cL_law 1306 = .ok (.iconst 4, 1) := by decide +kernel
theorem dL_law_1307 : decode cL_law 1307 = .ok (.iadd, 1) := by decide +kernel
theorem dL_law_1308 : decode cL_law 1308 = .ok (.iaload, 1) := by decide +kernel
theorem dL_law_1309 : decode cL_law 1309 = .ok (.i2l, 1) := by decide +kernel
theorem dL_law_1310 : decode cL_law 1310 = .ok (.ldc2_w 162, 3) := by decide +kernel
theorem dL_law_1313 : decode cL_law 1313 = .ok (.land, 1) := by decide +kernel
theorem dL_law_1314 : decode cL_law 1314 = .ok (.lor, 1) := by decide +kernel
theorem dL_law_1315 : decode cL_law 1315 = .ok (.invokevirtual 168, 3) := by decide +kernel
theorem dL_law_1318 : decode cL_law 1318 = .ok (.if_icmp .eq 158, 3) := by decide +kernel
theorem dL_law_1321 : decode cL_law 1321 = .ok (.iconst 0, 1) := by decide +kernel
theorem dL_law_1322 : decode cL_law 1322 = .ok (.ireturn, 1) := by decide +kernel
theorem dL_law_1323 : decode cL_law 1323 = .ok (.aload_n 1, 1) := by decide +kernel
theorem dL_law_1324 : decode cL_law 1324 = .ok (.aload_n 0, 1) := by decide +kernel
theorem dL_law_1325 : decode cL_law 1325 = .ok (.iload_n 3, 1) := by decide +kernel
theorem dL_law_1326 : decode cL_law 1326 = .ok (.iconst 1, 1) := by decide +kernel
theorem dL_law_1327 : decode cL_law 1327 = .ok (.iadd, 1) := by decide +kernel
theorem dL_law_1328 : decode cL_law 1328 = .ok (.iaload, 1) := by decide +kernel
theorem dL_law_1329 : decode cL_law 1329 = .ok (.aload_n 0, 1) := by decide +kernel
theorem dL_law_1330 : decode cL_law 1330 = .ok (.iload_n 3, 1) := by decide +kernel
theorem dL_law_1331 : decode cL_law 1331 = .ok (.iconst 2, 1) := by decide +kernel
theorem dL_law_1332 : decode cL_law 1332 = .ok (.iadd, 1) := by decide +kernel
theorem dL_law_1333 : decode cL_law 1333 = .ok (.iaload, 1) := by decide +kernel
theorem dL_law_1334 : decode cL_law 1334 = .ok (.invokevirtual 169, 3) := by decide +kernel
theorem dL_law_1337 : decode cL_law 1337 = .ok (.aload_n 2, 1) := by decide +kernel
theorem dL_law_1338 : decode cL_law 1338 = .ok (.aload_n 0, 1) := by decide +kernel
theorem dL_law_1339 : decode cL_law 1339 = .ok (.iload_n 3, 1) := by decide +kernel
theorem dL_law_1340 : decode cL_law 1340 = .ok (.iconst 1, 1) := by decide +kernel
theorem dL_law_1341 : decode cL_law 1341 = .ok (.iadd, 1) := by decide +kernel
theorem dL_law_1342 : decode cL_law 1342 = .ok (.iaload, 1) := by decide +kernel
theorem dL_law_1343 : decode cL_law 1343 = .ok (.aload_n 0, 1) := by decide +kernel
theorem dL_law_1344 : decode cL_law 1344 = .ok (.iload_n 3, 1) := by decide +kernel
theorem dL_law_1345 : decode cL_law 1345 = .ok (.iconst 2, 1) := by decide +kernel
theorem dL_law_1346 : decode cL_law 1346 = .ok (.iadd, 1) := by decide +kernel
theorem dL_law_1347 : decode cL_law 1347 = .ok (.iaload, 1) := by decide +kernel
theorem dL_law_1348 : decode cL_law 1348 = .ok (.invokevirtual 173, 3) := by decide +kernel
theorem dL_law_1351 : decode cL_law 1351 = .ok (.lcmp, 1) := by decide +kernel
theorem dL_law_1352 : decode cL_law 1352 = .ok (.ifCond .eq 124, 3) := by decide +kernel
theorem dL_law_1355 : decode cL_law 1355 = .ok (.iconst 0, 1) := by decide +kernel
theorem dL_law_1356 : decode cL_law 1356 = .ok (.ireturn, 1) := by decide +kernel
theorem dL_law_1357 : decode cL_law 1357 = .ok (.aload_n 1, 1) := by decide +kernel
theorem dL_law_1358 : decode cL_law 1358 = .ok (.aload_n 0, 1) := by decide +kernel
theorem dL_law_1359 : decode cL_law 1359 = .ok (.iload_n 3, 1) := by decide +kernel
theorem dL_law_1360 : decode cL_law 1360 = .ok (.iconst 1, 1) := by decide +kernel
theorem dL_law_1361 : decode cL_law 1361 = .ok (.iadd, 1) := by decide +kernel
theorem dL_law_1362 : decode cL_law 1362 = .ok (.iaload, 1) := by decide +kernel
theorem dL_law_1363 : decode cL_law 1363 = .ok (.aload_n 0, 1) := by decide +kernel
theorem dL_law_1364 : decode cL_law 1364 = .ok (.iload_n 3, 1) := by decide +kernel
theorem dL_law_1365 : decode cL_law 1365 = .ok (.iconst 2, 1) := by decide +kernel
theorem dL_law_1366 : decode cL_law 1366 = .ok (.iadd, 1) := by decide +kernel
theorem dL_law_1367 : decode cL_law 1367 = .ok (.iaload, 1) := by decide +kernel
theorem dL_law_1368 : decode cL_law 1368 = .ok (.aload_n 0, 1) := by decide +kernel
theorem dL_law_1369 : decode cL_law 1369 = .ok (.iload_n 3, 1) := by decide +kernel
theorem dL_law_1370 : decode cL_law 1370 = .ok (.iconst 3, 1) := by decide +kernel
theorem dL_law_1371 : decode cL_law 1371 = .ok (.iadd, 1) := by decide +kernel
theorem dL_law_1372 : decode cL_law 1372 = .ok (.iaload, 1) := by decide +kernel
theorem dL_law_1373 : decode cL_law 1373 = .ok (.aload_n 0, 1) := by decide +kernel
theorem dL_law_1374 : decode cL_law 1374 = .ok (.iload_n 3, 1) := by decide +kernel
theorem dL_law_1375 : decode cL_law 1375 = .ok (.iconst 4, 1) := by decide +kernel
theorem dL_law_1376 : decode cL_law 1376 = .ok (.iadd, 1) := by decide +kernel
theorem dL_law_1377 : decode cL_law 1377 = .ok (.iaload, 1) := by decide +kernel
theorem dL_law_1378 : decode cL_law 1378 = .ok (.aload_n 0, 1) := by decide +kernel
theorem dL_law_1379 : decode cL_law 1379 = .ok (.iload_n 3, 1) := by decide +kernel
theorem dL_law_1380 : decode cL_law 1380 = .ok (.iconst 5, 1) := by decide +kernel
theorem dL_law_1381 : decode cL_law 1381 = .ok (.iadd, 1) := by decide +kernel
theorem dL_law_1382 : decode cL_law 1382 = .ok (.iaload, 1) := by decide +kernel
theorem dL_law_1383 : decode cL_law 1383 = .ok (.invokevirtual 174, 3) := by decide +kernel
theorem dL_law_1386 : decode cL_law 1386 = .ok (.aload_n 2, 1) := by decide +kernel
theorem dL_law_1387 : decode cL_law 1387 = .ok (.aload_n 0, 1) := by decide +kernel
theorem dL_law_1388 : decode cL_law 1388 = .ok (.iload_n 3, 1) := by decide +kernel
theorem dL_law_1389 : decode cL_law 1389 = .ok (.iconst 1, 1) := by decide +kernel
theorem dL_law_1390 : decode cL_law 1390 = .ok (.iadd, 1) := by decide +kernel
theorem dL_law_1391 : decode cL_law 1391 = .ok (.iaload, 1) := by decide +kernel
theorem dL_law_1392 : decode cL_law 1392 = .ok (.aload_n 0, 1) := by decide +kernel
theorem dL_law_1393 : decode cL_law 1393 = .ok (.iload_n 3, 1) := by decide +kernel
theorem dL_law_1394 : decode cL_law 1394 = .ok (.iconst 2, 1) := by decide +kernel
theorem dL_law_1395 : decode cL_law 1395 = .ok (.iadd, 1) := by decide +kernel
theorem dL_law_1396 : decode cL_law 1396 = .ok (.iaload, 1) := by decide +kernel
theorem dL_law_1397 : decode cL_law 1397 = .ok (.aload_n 0, 1) := by decide +kernel
theorem dL_law_1398 : decode cL_law 1398 = .ok (.iload_n 3, 1) := by decide +kernel
theorem dL_law_1399 : decode cL_law 1399 = .ok (.iconst 3, 1) := by decide +kernel
theorem dL_law_1400 : decode cL_law 1400 = .ok (.iadd, 1) := by decide +kernel
theorem dL_law_1401 : decode cL_law 1401 = .ok (.iaload, 1) := by decide +kernel
theorem dL_law_1402 : decode cL_law 1402 = .ok (.aload_n 0, 1) := by decide +kernel
theorem dL_law_1403 : decode cL_law 1403 = .ok (.iload_n 3, 1) := by decide +kernel
theorem dL_law_1404 : decode cL_law 1404 = .ok (.iconst 4, 1) := by decide +kernel
theorem dL_law_1405 : decode cL_law 1405 = .ok (.iadd, 1) := by decide +kernel
theorem dL_law_1406 : decode cL_law 1406 = .ok (.iaload, 1) := by decide +kernel
theorem dL_law_1407 : decode cL_law 1407 = .ok (.aload_n 0, 1) := by decide +kernel
theorem dL_law_1408 : decode cL_law 1408 = .ok (.iload_n 3, 1) := by decide +kernel
theorem dL_law_1409 : decode cL_law 1409 = .ok (.iconst 5, 1) := by decide +kernel
theorem dL_law_1410 : decode cL_law 1410 = .ok (.iadd, 1) := by decide +kernel
theorem dL_law_1411 : decode cL_law 1411 = .ok (.iaload, 1) := by decide +kernel
theorem dL_law_1412 : decode cL_law 1412 = .ok (.invokevirtual 178, 3) := by decide +kernel
theorem dL_law_1415 : decode cL_law 1415 = .ok (.if_icmp .eq 61, 3) := by decide +kernel
theorem dL_law_1418 : decode cL_law 1418 = .ok (.iconst 0, 1) := by decide +kernel
theorem dL_law_1419 : decode cL_law 1419 = .ok (.ireturn, 1) := by decide +kernel
theorem dL_law_1420 : decode cL_law 1420 = .ok (.aload_n 1, 1) := by decide +kernel
theorem dL_law_1421 : decode cL_law 1421 = .ok (.aload_n 0, 1) := by decide +kernel
theorem dL_law_1422 : decode cL_law 1422 = .ok (.iload_n 3, 1) := by decide +kernel
theorem dL_law_1423 : decode cL_law 1423 = .ok (.iconst 1, 1) := by decide +kernel
theorem dL_law_1424 : decode cL_law 1424 = .ok (.iadd, 1) := by decide +kernel
theorem dL_law_1425 : decode cL_law 1425 = .ok (.iaload, 1) := by decide +kernel
theorem dL_law_1426 : decode cL_law 1426 = .ok (.aload_n 0, 1) := by decide +kernel
theorem dL_law_1427 : decode cL_law 1427 = .ok (.iload_n 3, 1) := by decide +kernel
theorem dL_law_1428 : decode cL_law 1428 = .ok (.iconst 2, 1) := by decide +kernel
theorem dL_law_1429 : decode cL_law 1429 = .ok (.iadd, 1) := by decide +kernel
theorem dL_law_1430 : decode cL_law 1430 = .ok (.iaload, 1) := by decide +kernel
theorem dL_law_1431 : decode cL_law 1431 = .ok (.invokevirtual 179, 3) := by decide +kernel
theorem dL_law_1434 : decode cL_law 1434 = .ok (.aload_n 2, 1) := by decide +kernel
theorem dL_law_1435 : decode cL_law 1435 = .ok (.aload_n 0, 1) := by decide +kernel
theorem dL_law_1436 : decode cL_law 1436 = .ok (.iload_n 3, 1) := by decide +kernel
theorem dL_law_1437 : decode cL_law 1437 = .ok (.iconst 1, 1) := by decide +kernel
theorem dL_law_1438 : decode cL_law 1438 = .ok (.iadd, 1) := by decide +kernel
theorem dL_law_1439 : decode cL_law 1439 = .ok (.iaload, 1) := by decide +kernel
theorem dL_law_1440 : decode cL_law 1440 = .ok (.aload_n 0, 1) := by decide +kernel
theorem dL_law_1441 : decode cL_law 1441 = .ok (.iload_n 3, 1) := by decide +kernel
theorem dL_law_1442 : decode cL_law 1442 = .ok (.iconst 2, 1) := by decide +kernel
theorem dL_law_1443 : decode cL_law 1443 = .ok (.iadd, 1) := by decide +kernel
theorem dL_law_1444 : decode cL_law 1444 = .ok (.iaload, 1) := by decide +kernel
theorem dL_law_1445 : decode cL_law 1445 = .ok (.invokevirtual 182, 3) := by decide +kernel
theorem dL_law_1448 : decode cL_law 1448 = .ok (.if_icmp .eq 28, 3) := by decide +kernel
theorem dL_law_1451 : decode cL_law 1451 = .ok (.iconst 0, 1) := by decide +kernel
theorem dL_law_1452 : decode cL_law 1452 = .ok (.ireturn, 1) := by decide +kernel
theorem dL_law_1453 : decode cL_law 1453 = .ok (.aload_n 1, 1) := by decide +kernel
theorem dL_law_1454 : decode cL_law 1454 = .ok (.aload_n 0, 1) := by decide +kernel
theorem dL_law_1455 : decode cL_law 1455 = .ok (.iload_n 3, 1) := by decide +kernel
theorem dL_law_1456 : decode cL_law 1456 = .ok (.iconst 1, 1) := by decide +kernel
theorem dL_law_1457 : decode cL_law 1457 = .ok (.iadd, 1) := by decide +kernel
theorem dL_law_1458 : decode cL_law 1458 = .ok (.iaload, 1) := by decide +kernel
theorem dL_law_1459 : decode cL_law 1459 = .ok (.invokevirtual 183, 3) := by decide +kernel
theorem dL_law_1462 : decode cL_law 1462 = .ok (.aload_n 2, 1) := by decide +kernel
theorem dL_law_1463 : decode cL_law 1463 = .ok (.aload_n 0, 1) := by decide +kernel
theorem dL_law_1464 : decode cL_law 1464 = .ok (.iload_n 3, 1) := by decide +kernel
theorem dL_law_1465 : decode cL_law 1465 = .ok (.iconst 1, 1) := by decide +kernel
theorem dL_law_1466 : decode cL_law 1466 = .ok (.iadd, 1) := by decide +kernel
theorem dL_law_1467 : decode cL_law 1467 = .ok (.iaload, 1) := by decide +kernel
theorem dL_law_1468 : decode cL_law 1468 = .ok (.invokevirtual 186, 3) := by decide +kernel
theorem dL_law_1471 : decode cL_law 1471 = .ok (.if_icmp .eq 5, 3) := by decide +kernel
theorem dL_law_1474 : decode cL_law 1474 = .ok (.iconst 0, 1) := by decide +kernel
theorem dL_law_1475 : decode cL_law 1475 = .ok (.ireturn, 1) := by decide +kernel
theorem dL_law_1476 : decode cL_law 1476 = .ok (.iinc 3 6, 3) := by decide +kernel
theorem dL_law_1479 : decode cL_law 1479 = .ok (.goto (-1461), 3) := by decide +kernel
theorem dL_law_1482 : decode cL_law 1482 = .ok (.iconst 1, 1) := by decide +kernel
theorem dL_law_1483 : decode cL_law 1483 = .ok (.ireturn, 1) := by decide +kernel
noncomputable def fL_law_1476 (xs : Nat → Int) (LS : Nat) (c1 : Nat) (c2 : Nat) (k18 : Int → St → Option (Int × St)) (x3 : Int) (σ : St) : Option (Int × St) := k18 (i_add x3 6) σ
noncomputable def fL_law_18 (xs : Nat → Int) (LS : Nat) (c1 : Nat) (c2 : Nat) : Nat → Int → St → Option (Int × St)
  | 0, _, _ => none
  | n + 1, x3, σ => if (i_sub (LS : Int) 6) < x3 then (some (1, σ)) else (if inb x3 LS then if (i_and (xs (Int.toNat x3)) 63) = 0 then (if inb (i_add x3 1) LS then Option.bind (fX9_thing c1 (xs (Int.toNat (i_add x3 1))) σ) fun q1 => if inb (i_add x3 1) LS then Option.bind (fX10_thing c2 (xs (Int.toNat (i_add x3 1))) q1.2) fun q2 => if q1.1 = q2.1 then (fL_law_1476 xs LS c1 c2 (fL_law_18 xs LS c1 c2 n) x3 q2.2) else (some (0, q2.2)) else none else none) else if (i_and (xs (Int.toNat x3)) 63) = 1 then (if inb (i_add x3 1) LS then if inb (i_add x3 2) LS then Option.bind (fX9_bidder c1 (xs (Int.toNat (i_add x3 1))) (xs (Int.toNat (i_add x3 2))) σ) fun q4 => if inb (i_add x3 1) LS then if inb (i_add x3 2) LS then Option.bind (fX10_bidder c2 (xs (Int.toNat (i_add x3 1))) (xs (Int.toNat (i_add x3 2))) q4.2) fun q5 => if q4.1 = q5.1 then (fL_law_1476 xs LS c1 c2 (fL_law_18 xs LS c1 c2 n) x3 q5.2) else (some (0, q5.2)) else none else none else none else none) else if (i_and (xs (Int.toNat x3)) 63) = 2 then (if inb (i_add x3 1) LS then if inb (i_add x3 2) LS then if inb (i_add x3 3) LS then Option.bind (fX9_bidders c1 (xs (Int.toNat (i_add x3 1))) (xs (Int.toNat (i_add x3 2))) (xs (Int.toNat (i_add x3 3))) σ) fun q7 => if inb (i_add x3 1) LS then if inb (i_add x3 2) LS then if inb (i_add x3 3) LS then Option.bind (fX10_bidders c2 (xs (Int.toNat (i_add x3 1))) (xs (Int.toNat (i_add x3 2))) (xs (Int.toNat (i_add x3 3))) q7.2) fun q8 => if q7.1 = q8.1 then (fL_law_1476 xs LS c1 c2 (fL_law_18 xs LS c1 c2 n) x3 q8.2) else (some (0, q8.2)) else none else none else none else none else none else none) else if (i_and (xs (Int.toNat x3)) 63) = 3 then (if inb (i_add x3 1) LS then if inb (i_add x3 2) LS then if inb (i_add x3 3) LS then Option.bind (fX9_mend c1 (xs (Int.toNat (i_add x3 1))) (xs (Int.toNat (i_add x3 2))) (xs (Int.toNat (i_add x3 3))) σ) fun q10 => if inb (i_add x3 1) LS then if inb (i_add x3 2) LS then if inb (i_add x3 3) LS then Option.bind (fX10_mend c2 (xs (Int.toNat (i_add x3 1))) (xs (Int.toNat (i_add x3 2))) (xs (Int.toNat (i_add x3 3))) q10.2) fun q11 => if q10.1 = q11.1 then (fL_law_1476 xs LS c1 c2 (fL_law_18 xs LS c1 c2 n) x3 q11.2) else (some (0, q11.2)) else none else none else none else none else none else none) else if (i_and (xs (Int.toNat x3)) 63) = 4 then (if inb (i_add x3 1) LS then if inb (i_add x3 2) LS then Option.bind (fX9_of c1 (xs (Int.toNat (i_add x3 1))) (xs (Int.toNat (i_add x3 2))) σ) fun q13 => if inb (i_add x3 1) LS then if inb (i_add x3 2) LS then Option.bind (fX10_of c2 (xs (Int.toNat (i_add x3 1))) (xs (Int.toNat (i_add x3 2))) q13.2) fun q14 => if q13.1 = q14.1 then (fL_law_1476 xs LS c1 c2 (fL_law_18 xs LS c1 c2 n) x3 q14.2) else (some (0, q14.2)) else none else none else none else none) else if (i_and (xs (Int.toNat x3)) 63) = 5 then (if inb (i_add x3 1) LS then Option.bind (fX9_feed c1 (xs (Int.toNat (i_add x3 1))) σ) fun q16 => if inb (i_add x3 1) LS then Option.bind (fX10_feed c2 (xs (Int.toNat (i_add x3 1))) q16.2) fun q17 => if q16.1 = q17.1 then (fL_law_1476 xs LS c1 c2 (fL_law_18 xs LS c1 c2 n) x3 q17.2) else (some (0, q17.2)) else none else none) else if (i_and (xs (Int.toNat x3)) 63) = 6 then (Option.bind (fX9_law c1 σ) fun q19 => Option.bind (fX10_law c2 q19.2) fun q20 => if q19.1 = q20.1 then (fL_law_1476 xs LS c1 c2 (fL_law_18 xs LS c1 c2 n) x3 q20.2) else (some (0, q20.2))) else if (i_and (xs (Int.toNat x3)) 63) = 7 then (if inb (i_add x3 1) LS then if inb (i_add x3 2) LS then Option.bind (fX9_years c1 (xs (Int.toNat (i_add x3 1))) (xs (Int.toNat (i_add x3 2))) σ) fun q22 => if inb (i_add x3 1) LS then if inb (i_add x3 2) LS then Option.bind (fX10_years c2 (xs (Int.toNat (i_add x3 1))) (xs (Int.toNat (i_add x3 2))) q22.2) fun q23 => if q22.1 = q23.1 then (fL_law_1476 xs LS c1 c2 (fL_law_18 xs LS c1 c2 n) x3 q23.2) else (some (0, q23.2)) else none else none else none else none) else if (i_and (xs (Int.toNat x3)) 63) = 8 then (if inb (i_add x3 1) LS then Option.bind (fX9_wins c1 (xs (Int.toNat (i_add x3 1))) σ) fun q25 => if inb (i_add x3 1) LS then Option.bind (fX10_wins c2 (xs (Int.toNat (i_add x3 1))) q25.2) fun q26 => if q25.1 = q26.1 then (fL_law_1476 xs LS c1 c2 (fL_law_18 xs LS c1 c2 n) x3 q26.2) else (some (0, q26.2)) else none else none) else if (i_and (xs (Int.toNat x3)) 63) = 9 then (if inb (i_add x3 1) LS then if inb (i_add x3 2) LS then Option.bind (fX9_sale c1 (xs (Int.toNat (i_add x3 1))) (xs (Int.toNat (i_add x3 2))) σ) fun q28 => if inb (i_add x3 1) LS then if inb (i_add x3 2) LS then Option.bind (fX10_sale c2 (xs (Int.toNat (i_add x3 1))) (xs (Int.toNat (i_add x3 2))) q28.2) fun q29 => if q28.1 = q29.1 then (fL_law_1476 xs LS c1 c2 (fL_law_18 xs LS c1 c2 n) x3 q29.2) else (some (0, q29.2)) else none else none else none else none) else if (i_and (xs (Int.toNat x3)) 63) = 10 then (if inb (i_add x3 1) LS then if inb (i_add x3 2) LS then if inb (i_add x3 3) LS then Option.bind (fX9_after c1 (xs (Int.toNat (i_add x3 1))) (xs (Int.toNat (i_add x3 2))) (xs (Int.toNat (i_add x3 3))) σ) fun q31 => if inb (i_add x3 1) LS then if inb (i_add x3 2) LS then if inb (i_add x3 3) LS then Option.bind (fX10_after c2 (xs (Int.toNat (i_add x3 1))) (xs (Int.toNat (i_add x3 2))) (xs (Int.toNat (i_add x3 3))) q31.2) fun q32 => if q31.1 = q32.1 then (fL_law_1476 xs LS c1 c2 (fL_law_18 xs LS c1 c2 n) x3 q32.2) else (some (0, q32.2)) else none else none else none else none else none else none) else if (i_and (xs (Int.toNat x3)) 63) = 11 then (if inb (i_add x3 1) LS then if inb (i_add x3 2) LS then Option.bind (fX9_bestOrder c1 (xs (Int.toNat (i_add x3 1))) (xs (Int.toNat (i_add x3 2))) σ) fun q34 => if inb (i_add x3 1) LS then if inb (i_add x3 2) LS then Option.bind (fX10_bestOrder c2 (xs (Int.toNat (i_add x3 1))) (xs (Int.toNat (i_add x3 2))) q34.2) fun q35 => if q34.1 = q35.1 then (fL_law_1476 xs LS c1 c2 (fL_law_18 xs LS c1 c2 n) x3 q35.2) else (some (0, q35.2)) else none else none else none else none) else if (i_and (xs (Int.toNat x3)) 63) = 12 then (if inb (i_add x3 1) LS then Option.bind (fX9_feign c1 (xs (Int.toNat (i_add x3 1))) σ) fun q37 => if inb (i_add x3 1) LS then Option.bind (fX10_feign c2 (xs (Int.toNat (i_add x3 1))) q37.2) fun q38 => if q37.1 = q38.1 then (fL_law_1476 xs LS c1 c2 (fL_law_18 xs LS c1 c2 n) x3 q38.2) else (some (0, q38.2)) else none else none) else if (i_and (xs (Int.toNat x3)) 63) = 13 then (if inb (i_add x3 1) LS then if inb (i_add x3 2) LS then Option.bind (fX9_examined c1 (xs (Int.toNat (i_add x3 1))) (xs (Int.toNat (i_add x3 2))) σ) fun q40 => if inb (i_add x3 1) LS then if inb (i_add x3 2) LS then Option.bind (fX10_examined c2 (xs (Int.toNat (i_add x3 1))) (xs (Int.toNat (i_add x3 2))) q40.2) fun q41 => if q40.1 = q41.1 then (fL_law_1476 xs LS c1 c2 (fL_law_18 xs LS c1 c2 n) x3 q41.2) else (some (0, q41.2)) else none else none else none else none) else if (i_and (xs (Int.toNat x3)) 63) = 14 then (if inb (i_add x3 1) LS then Option.bind (fX9_dealt c1 (xs (Int.toNat (i_add x3 1))) σ) fun q43 => if inb (i_add x3 1) LS then Option.bind (fX10_dealt c2 (xs (Int.toNat (i_add x3 1))) q43.2) fun q44 => if q43.1 = q44.1 then (fL_law_1476 xs LS c1 c2 (fL_law_18 xs LS c1 c2 n) x3 q44.2) else (some (0, q44.2)) else none else none) else if (i_and (xs (Int.toNat x3)) 63) = 15 then (Option.bind (fX9_hands c1 σ) fun q46 => Option.bind (fX10_hands c2 q46.2) fun q47 => if q46.1 = q47.1 then (fL_law_1476 xs LS c1 c2 (fL_law_18 xs LS c1 c2 n) x3 q47.2) else (some (0, q47.2))) else if (i_and (xs (Int.toNat x3)) 63) = 16 then (if inb (i_add x3 1) LS then if inb (i_add x3 2) LS then if inb (i_add x3 3) LS then Option.bind (fX9_later c1 (xs (Int.toNat (i_add x3 1))) (xs (Int.toNat (i_add x3 2))) (xs (Int.toNat (i_add x3 3))) σ) fun q49 => if inb (i_add x3 1) LS then if inb (i_add x3 2) LS then if inb (i_add x3 3) LS then Option.bind (fX10_later c2 (xs (Int.toNat (i_add x3 1))) (xs (Int.toNat (i_add x3 2))) (xs (Int.toNat (i_add x3 3))) q49.2) fun q50 => if q49.1 = q50.1 then (fL_law_1476 xs LS c1 c2 (fL_law_18 xs LS c1 c2 n) x3 q50.2) else (some (0, q50.2)) else none else none else none else none else none else none) else if (i_and (xs (Int.toNat x3)) 63) = 17 then (if inb (i_add x3 1) LS then Option.bind (fX9_missed c1 (xs (Int.toNat (i_add x3 1))) σ) fun q52 => if inb (i_add x3 1) LS then Option.bind (fX10_missed c2 (xs (Int.toNat (i_add x3 1))) q52.2) fun q53 => if q52.1 = q53.1 then (fL_law_1476 xs LS c1 c2 (fL_law_18 xs LS c1 c2 n) x3 q53.2) else (some (0, q53.2)) else none else none) else if (i_and (xs (Int.toNat x3)) 63) = 18 then (if inb (i_add x3 1) LS then Option.bind (fX9_judge c1 (xs (Int.toNat (i_add x3 1))) σ) fun q55 => if inb (i_add x3 1) LS then Option.bind (fX10_judge c2 (xs (Int.toNat (i_add x3 1))) q55.2) fun q56 => if q55.1 = q56.1 then (fL_law_1476 xs LS c1 c2 (fL_law_18 xs LS c1 c2 n) x3 q56.2) else (some (0, q56.2)) else none else none) else if (i_and (xs (Int.toNat x3)) 63) = 19 then (if inb (i_add x3 1) LS then if inb (i_add x3 2) LS then if inb (i_add x3 3) LS then Option.bind (fX9_fits c1 (xs (Int.toNat (i_add x3 1))) (xs (Int.toNat (i_add x3 2))) (xs (Int.toNat (i_add x3 3))) σ) fun q58 => if inb (i_add x3 1) LS then if inb (i_add x3 2) LS then if inb (i_add x3 3) LS then Option.bind (fX10_fits c2 (xs (Int.toNat (i_add x3 1))) (xs (Int.toNat (i_add x3 2))) (xs (Int.toNat (i_add x3 3))) q58.2) fun q59 => if q58.1 = q59.1 then (fL_law_1476 xs LS c1 c2 (fL_law_18 xs LS c1 c2 n) x3 q59.2) else (some (0, q59.2)) else none else none else none else none else none else none) else if (i_and (xs (Int.toNat x3)) 63) = 20 then (if inb (i_add x3 1) LS then if inb (i_add x3 2) LS then if inb (i_add x3 3) LS then if inb (i_add x3 4) LS then Option.bind (fX9_byTurns c1 (xs (Int.toNat (i_add x3 1))) (xs (Int.toNat (i_add x3 2))) (xs (Int.toNat (i_add x3 3))) (xs (Int.toNat (i_add x3 4))) σ) fun q61 => if inb (i_add x3 1) LS then if inb (i_add x3 2) LS then if inb (i_add x3 3) LS then if inb (i_add x3 4) LS then Option.bind (fX10_byTurns c2 (xs (Int.toNat (i_add x3 1))) (xs (Int.toNat (i_add x3 2))) (xs (Int.toNat (i_add x3 3))) (xs (Int.toNat (i_add x3 4))) q61.2) fun q62 => if q61.1 = q62.1 then (fL_law_1476 xs LS c1 c2 (fL_law_18 xs LS c1 c2 n) x3 q62.2) else (some (0, q62.2)) else none else none else none else none else none else none else none else none) else if (i_and (xs (Int.toNat x3)) 63) = 21 then (if inb (i_add x3 1) LS then if inb (i_add x3 2) LS then if inb (i_add x3 3) LS then if inb (i_add x3 4) LS then Option.bind (fX9_drawn c1 (xs (Int.toNat (i_add x3 1))) (xs (Int.toNat (i_add x3 2))) (xs (Int.toNat (i_add x3 3))) (xs (Int.toNat (i_add x3 4))) σ) fun q64 => if inb (i_add x3 1) LS then if inb (i_add x3 2) LS then if inb (i_add x3 3) LS then if inb (i_add x3 4) LS then Option.bind (fX10_drawn c2 (xs (Int.toNat (i_add x3 1))) (xs (Int.toNat (i_add x3 2))) (xs (Int.toNat (i_add x3 3))) (xs (Int.toNat (i_add x3 4))) q64.2) fun q65 => if q64.1 = q65.1 then (fL_law_1476 xs LS c1 c2 (fL_law_18 xs LS c1 c2 n) x3 q65.2) else (some (0, q65.2)) else none else none else none else none else none else none else none else none) else if (i_and (xs (Int.toNat x3)) 63) = 22 then (if inb (i_add x3 1) LS then Option.bind (fX9_putUp c1 (xs (Int.toNat (i_add x3 1))) σ) fun q67 => if inb (i_add x3 1) LS then Option.bind (fX10_putUp c2 (xs (Int.toNat (i_add x3 1))) q67.2) fun q68 => if q67.1 = q68.1 then (fL_law_1476 xs LS c1 c2 (fL_law_18 xs LS c1 c2 n) x3 q68.2) else (some (0, q68.2)) else none else none) else if (i_and (xs (Int.toNat x3)) 63) = 23 then (if inb (i_add x3 1) LS then Option.bind (fX9_loses c1 (xs (Int.toNat (i_add x3 1))) σ) fun q70 => if inb (i_add x3 1) LS then Option.bind (fX10_loses c2 (xs (Int.toNat (i_add x3 1))) q70.2) fun q71 => if q70.1 = q71.1 then (fL_law_1476 xs LS c1 c2 (fL_law_18 xs LS c1 c2 n) x3 q71.2) else (some (0, q71.2)) else none else none) else if (i_and (xs (Int.toNat x3)) 63) = 24 then (if inb (i_add x3 1) LS then if inb (i_add x3 2) LS then Option.bind (fX9_slip c1 (xs (Int.toNat (i_add x3 1))) (xs (Int.toNat (i_add x3 2))) σ) fun q73 => if inb (i_add x3 1) LS then if inb (i_add x3 2) LS then Option.bind (fX10_slip c2 (xs (Int.toNat (i_add x3 1))) (xs (Int.toNat (i_add x3 2))) q73.2) fun q74 => if q73.1 = q74.1 then (fL_law_1476 xs LS c1 c2 (fL_law_18 xs LS c1 c2 n) x3 q74.2) else (some (0, q74.2)) else none else none else none else none) else if (i_and (xs (Int.toNat x3)) 63) = 25 then (Option.bind (fX9_year c1 σ) fun q76 => Option.bind (fX10_year c2 q76.2) fun q77 => if q76.1 = q77.1 then (fL_law_1476 xs LS c1 c2 (fL_law_18 xs LS c1 c2 n) x3 q77.2) else (some (0, q77.2))) else if (i_and (xs (Int.toNat x3)) 63) = 26 then (if inb (i_add x3 1) LS then Option.bind (fX9_led c1 (xs (Int.toNat (i_add x3 1))) σ) fun q79 => if inb (i_add x3 1) LS then Option.bind (fX10_led c2 (xs (Int.toNat (i_add x3 1))) q79.2) fun q80 => if q79.1 = q80.1 then (fL_law_1476 xs LS c1 c2 (fL_law_18 xs LS c1 c2 n) x3 q80.2) else (some (0, q80.2)) else none else none) else if (i_and (xs (Int.toNat x3)) 63) = 27 then (Option.bind (fX9_image c1 σ) fun q82 => Option.bind (fX10_image c2 q82.2) fun q83 => if q82.1 = q83.1 then (fL_law_1476 xs LS c1 c2 (fL_law_18 xs LS c1 c2 n) x3 q83.2) else (some (0, q83.2))) else if (i_and (xs (Int.toNat x3)) 63) = 28 then (Option.bind (fX9_back c1 σ) fun q85 => Option.bind (fX10_back c2 q85.2) fun q86 => if q85.1 = q86.1 then (fL_law_1476 xs LS c1 c2 (fL_law_18 xs LS c1 c2 n) x3 q86.2) else (some (0, q86.2))) else if (i_and (xs (Int.toNat x3)) 63) = 29 then (Option.bind (fX9_undo c1 σ) fun q88 => Option.bind (fX10_undo c2 q88.2) fun q89 => if q88.1 = q89.1 then (fL_law_1476 xs LS c1 c2 (fL_law_18 xs LS c1 c2 n) x3 q89.2) else (some (0, q89.2))) else if (i_and (xs (Int.toNat x3)) 63) = 30 then (Option.bind (fX9_redo c1 σ) fun q91 => Option.bind (fX10_redo c2 q91.2) fun q92 => if q91.1 = q92.1 then (fL_law_1476 xs LS c1 c2 (fL_law_18 xs LS c1 c2 n) x3 q92.2) else (some (0, q92.2))) else if (i_and (xs (Int.toNat x3)) 63) = 31 then (if inb (i_add x3 1) LS then Option.bind (fX9_body c1 (xs (Int.toNat (i_add x3 1))) σ) fun q94 => if inb (i_add x3 1) LS then Option.bind (fX10_body c2 (xs (Int.toNat (i_add x3 1))) q94.2) fun q95 => if q94.1 = q95.1 then (fL_law_1476 xs LS c1 c2 (fL_law_18 xs LS c1 c2 n) x3 q95.2) else (some (0, q95.2)) else none else none) else if (i_and (xs (Int.toNat x3)) 63) = 32 then (if inb (i_add x3 1) LS then if inb (i_add x3 2) LS then if inb (i_add x3 3) LS then Option.bind (fX9_act c1 (xs (Int.toNat (i_add x3 1))) (xs (Int.toNat (i_add x3 2))) (xs (Int.toNat (i_add x3 3))) σ) fun q97 => if inb (i_add x3 1) LS then if inb (i_add x3 2) LS then if inb (i_add x3 3) LS then Option.bind (fX10_act c2 (xs (Int.toNat (i_add x3 1))) (xs (Int.toNat (i_add x3 2))) (xs (Int.toNat (i_add x3 3))) q97.2) fun q98 => if q97.1 = q98.1 then (fL_law_1476 xs LS c1 c2 (fL_law_18 xs LS c1 c2 n) x3 q98.2) else (some (0, q98.2)) else none else none else none else none else none else none) else if (i_and (xs (Int.toNat x3)) 63) = 33 then (if inb (i_add x3 1) LS then Option.bind (fX9_trace c1 (xs (Int.toNat (i_add x3 1))) σ) fun q100 => if inb (i_add x3 1) LS then Option.bind (fX10_trace c2 (xs (Int.toNat (i_add x3 1))) q100.2) fun q101 => if q100.1 = q101.1 then (fL_law_1476 xs LS c1 c2 (fL_law_18 xs LS c1 c2 n) x3 q101.2) else (some (0, q101.2)) else none else none) else if (i_and (xs (Int.toNat x3)) 63) = 34 then (if inb (i_add x3 1) LS then if inb (i_add x3 2) LS then Option.bind (fX9_keep c1 (xs (Int.toNat (i_add x3 1))) (xs (Int.toNat (i_add x3 2))) σ) fun q103 => if inb (i_add x3 1) LS then if inb (i_add x3 2) LS then Option.bind (fX10_keep c2 (xs (Int.toNat (i_add x3 1))) (xs (Int.toNat (i_add x3 2))) q103.2) fun q104 => if q103.1 = q104.1 then (fL_law_1476 xs LS c1 c2 (fL_law_18 xs LS c1 c2 n) x3 q104.2) else (some (0, q104.2)) else none else none else none else none) else if (i_and (xs (Int.toNat x3)) 63) = 35 then (if inb (i_add x3 1) LS then if inb (i_add x3 2) LS then if inb (i_add x3 3) LS then Option.bind (fX9_row c1 (xs (Int.toNat (i_add x3 1))) (xs (Int.toNat (i_add x3 2))) (xs (Int.toNat (i_add x3 3))) σ) fun q106 => if inb (i_add x3 1) LS then if inb (i_add x3 2) LS then if inb (i_add x3 3) LS then Option.bind (fX10_row c2 (xs (Int.toNat (i_add x3 1))) (xs (Int.toNat (i_add x3 2))) (xs (Int.toNat (i_add x3 3))) q106.2) fun q107 => if q106.1 = q107.1 then (fL_law_1476 xs LS c1 c2 (fL_law_18 xs LS c1 c2 n) x3 q107.2) else (some (0, q107.2)) else none else none else none else none else none else none) else if (i_and (xs (Int.toNat x3)) 63) = 36 then (if inb (i_add x3 1) LS then if inb (i_add x3 2) LS then if inb (i_add x3 3) LS then if inb (i_add x3 4) LS then Option.bind (fX9_put c1 (xs (Int.toNat (i_add x3 1))) (xs (Int.toNat (i_add x3 2))) (l_or (l_shl (c_i2l (xs (Int.toNat (i_add x3 3)))) 32) (l_and (c_i2l (xs (Int.toNat (i_add x3 4)))) 4294967295)) σ) fun q109 => if inb (i_add x3 1) LS then if inb (i_add x3 2) LS then if inb (i_add x3 3) LS then if inb (i_add x3 4) LS then Option.bind (fX10_put c2 (xs (Int.toNat (i_add x3 1))) (xs (Int.toNat (i_add x3 2))) (l_or (l_shl (c_i2l (xs (Int.toNat (i_add x3 3)))) 32) (l_and (c_i2l (xs (Int.toNat (i_add x3 4)))) 4294967295)) q109.2) fun q110 => if q109.1 = q110.1 then (fL_law_1476 xs LS c1 c2 (fL_law_18 xs LS c1 c2 n) x3 q110.2) else (some (0, q110.2)) else none else none else none else none else none else none else none else none) else if (i_and (xs (Int.toNat x3)) 63) = 37 then (if inb (i_add x3 1) LS then if inb (i_add x3 2) LS then Option.bind (fX9_element c1 (xs (Int.toNat (i_add x3 1))) (xs (Int.toNat (i_add x3 2))) σ) fun q112 => if inb (i_add x3 1) LS then if inb (i_add x3 2) LS then Option.bind (fX10_element c2 (xs (Int.toNat (i_add x3 1))) (xs (Int.toNat (i_add x3 2))) q112.2) fun q113 => if (l_cmp q112.1 q113.1) = 0 then (fL_law_1476 xs LS c1 c2 (fL_law_18 xs LS c1 c2 n) x3 q113.2) else (some (0, q113.2)) else none else none else none else none) else if (i_and (xs (Int.toNat x3)) 63) = 38 then (if inb (i_add x3 1) LS then if inb (i_add x3 2) LS then if inb (i_add x3 3) LS then if inb (i_add x3 4) LS then if inb (i_add x3 5) LS then Option.bind (fX9_shift c1 (xs (Int.toNat (i_add x3 1))) (xs (Int.toNat (i_add x3 2))) (xs (Int.toNat (i_add x3 3))) (xs (Int.toNat (i_add x3 4))) (xs (Int.toNat (i_add x3 5))) σ) fun q115 => if inb (i_add x3 1) LS then if inb (i_add x3 2) LS then if inb (i_add x3 3) LS then if inb (i_add x3 4) LS then if inb (i_add x3 5) LS then Option.bind (fX10_shift c2 (xs (Int.toNat (i_add x3 1))) (xs (Int.toNat (i_add x3 2))) (xs (Int.toNat (i_add x3 3))) (xs (Int.toNat (i_add x3 4))) (xs (Int.toNat (i_add x3 5))) q115.2) fun q116 => if q115.1 = q116.1 then (fL_law_1476 xs LS c1 c2 (fL_law_18 xs LS c1 c2 n) x3 q116.2) else (some (0, q116.2)) else none else none else none else none else none else none else none else none else none else none) else if (i_and (xs (Int.toNat x3)) 63) = 39 then (if inb (i_add x3 1) LS then if inb (i_add x3 2) LS then Option.bind (fX9_taken c1 (xs (Int.toNat (i_add x3 1))) (xs (Int.toNat (i_add x3 2))) σ) fun q118 => if inb (i_add x3 1) LS then if inb (i_add x3 2) LS then Option.bind (fX10_taken c2 (xs (Int.toNat (i_add x3 1))) (xs (Int.toNat (i_add x3 2))) q118.2) fun q119 => if q118.1 = q119.1 then (fL_law_1476 xs LS c1 c2 (fL_law_18 xs LS c1 c2 n) x3 q119.2) else (some (0, q119.2)) else none else none else none else none) else if (i_and (xs (Int.toNat x3)) 63) = 40 then (if inb (i_add x3 1) LS then Option.bind (fX9_count c1 (xs (Int.toNat (i_add x3 1))) σ) fun q121 => if inb (i_add x3 1) LS then Option.bind (fX10_count c2 (xs (Int.toNat (i_add x3 1))) q121.2) fun q122 => if q121.1 = q122.1 then (fL_law_1476 xs LS c1 c2 (fL_law_18 xs LS c1 c2 n) x3 q122.2) else (some (0, q122.2)) else none else none) else (fL_law_1476 xs LS c1 c2 (fL_law_18 xs LS c1 c2 n) x3 σ) else none)
noncomputable def fL_law_16 (xs : Nat → Int) (LS : Nat) (c1 : Nat) (c2 : Nat) (σ : St) : Option (Int × St) := fL_law_18 xs LS c1 c2 FU 0 σ
theorem bL_law_1476 {K : KT} {g : GT} {cm sm : Nat} {cs : Nat × Nat} {c1 : Nat} {c2 : Nat} {xs : Nat → Int} {LS : Nat} {k18 : Int → St → Option (Int × St)} {r : Int} {σ' : St} (hC : Ctx K g RL cL_law 4 806 cm sm) (hcs : cs.1 ≤ cm ∧ cs.2 ≤ sm) (h1 : isO 9 c1 = true) (h2 : isO 10 c2 = true) (hX : Scr K g LS xs) (hk18 : ∀ (x3 : Int) (σ : St), k18 x3 σ = some (r, σ') → G K g 4 cs 18 [(0, vo 7), (1, vr c1), (2, vr c2), (3, vi x3)] [] (SH0, σ)) (hR : RetZ K g cL_law 4 cs r (SH0, σ')) : ∀ (x3 : Int) (σ : St), fL_law_1476 xs LS c1 c2 k18 x3 σ = some (r, σ') → G K g 4 cs 1476 [(0, vo 7), (1, vr c1), (2, vr c2), (3, vi x3)] [] (SH0, σ) := by
  intro x3 σ h
  unfold fL_law_1476 at h
  refine g_iinc hC dL_law_1476 3 rfl (Nat.le_of_ble_eq_true rfl) rfl ?_
  refine g_goto hC dL_law_1479 (tgt := 18) (by decide) ?_
  exact g_pick [1, 2, 3, 0] rfl (hk18 _ _ h)
theorem bL_law_18 {K : KT} {g : GT} {cm sm : Nat} {cs : Nat × Nat} {c1 : Nat} {c2 : Nat} {xs : Nat → Int} {LS : Nat} {r : Int} {σ' : St} (hC : Ctx K g RL cL_law 4 806 cm sm) (hcs : cs.1 ≤ cm ∧ cs.2 ≤ sm) (h1 : isO 9 c1 = true) (h2 : isO 10 c2 = true) (hX : Scr K g LS xs) (hR : RetZ K g cL_law 4 cs r (SH0, σ')) : ∀ (n : Nat) (x3 : Int) (σ : St), fL_law_18 xs LS c1 c2 n x3 σ = some (r, σ') → G K g 4 cs 18 [(0, vo 7), (1, vr c1), (2, vr c2), (3, vi x3)] [] (SH0, σ) := by
  intro n
  induction n with
  | zero =>
    intro x3 σ h
    rw [fL_law_18.eq_1] at h
    cases h
  | succ n ih =>
    intro x3 σ h
    rw [fL_law_18.eq_2] at h
    refine g_iload_n hC dL_law_18 3 rfl rfl ?_
    refine g_aloado_n hC dL_law_19 0 rfl rfl ?_
    refine g_slen hC hX dL_law_20 ?_
    refine g_bipush hC dL_law_21 bp_6 ?_
    refine g_isub hC dL_law_23 ?_
    refine g_icmp_gt hC dL_law_24 (tgt := 1482) (by decide) (fun h9 => ?_) (fun h9 => ?_)
    · rw [if_pos h9] at h
      refine g_iconst hC dL_law_1482 ok_1 ?_
      exact ret_z h hR (by decide) dL_law_1483
    · rw [if_neg h9] at h
      refine g_aloado_n hC dL_law_27 0 rfl rfl ?_
      refine g_iload_n hC dL_law_28 3 rfl rfl ?_
      obtain ⟨b9, h⟩ := of_ite h
      refine g_sld hC hX dL_law_29 b9 ?_
      refine g_bipush hC dL_law_30 bp_63 ?_
      refine g_iand hC dL_law_32 ?_
      by_cases h9 : (i_and (xs (Int.toNat x3)) 63) = 0
      · rw [if_pos h9] at h
        refine g_table hC dL_law_33 212 (Or.inr (by (try dsimp only); rw [h9]; exact ⟨by decide, by decide, 179, rfl, by decide⟩)) ?_
        refine g_aload_n hC dL_law_212 1 rfl rfl ?_
        refine g_aloado_n hC dL_law_213 0 rfl rfl ?_
        refine g_iload_n hC dL_law_214 3 rfl rfl ?_
        refine g_iconst hC dL_law_215 ok_1 ?_
        refine g_iadd hC dL_law_216 ?_
        obtain ⟨b9, h⟩ := of_ite h
        refine g_sld hC hX dL_law_217 b9 ?_
        obtain ⟨⟨r1, s1⟩, e1, h⟩ := of_bind h
        try dsimp only at h
        refine s_callVi hC dL_law_218 (tX9_thing h1 e1) miX9_thing mvX9_thing mlRL_13 (isO_spec h1) vc_9 rfl rfl (Nat.le_of_ble_eq_true rfl) (Nat.le_of_ble_eq_true rfl) (Nat.le_of_ble_eq_true rfl) hcs ?_
        refine g_aload_n hC dL_law_221 2 rfl rfl ?_
        refine g_aloado_n hC dL_law_222 0 rfl rfl ?_
        refine g_iload_n hC dL_law_223 3 rfl rfl ?_
        refine g_iconst hC dL_law_224 ok_1 ?_
        refine g_iadd hC dL_law_225 ?_
        obtain ⟨b9, h⟩ := of_ite h
        refine g_sld hC hX dL_law_226 b9 ?_
        obtain ⟨⟨r2, s2⟩, e2, h⟩ := of_bind h
        try dsimp only at h
        refine s_callVi hC dL_law_227 (tX10_thing h2 e2) miX10_thing mvX10_thing mlRL_17 (isO_spec h2) vc_10 rfl rfl (Nat.le_of_ble_eq_true rfl) (Nat.le_of_ble_eq_true rfl) (Nat.le_of_ble_eq_true rfl) hcs ?_
        refine g_icmp_eq hC dL_law_230 (tgt := 1476) (by decide) (fun h9 => ?_) (fun h9 => ?_)
        · rw [if_pos h9] at h
          exact g_pick [0, 1, 2, 3] rfl (bL_law_1476 hC hcs h1 h2 hX ih hR _ _ h)
        · rw [if_neg h9] at h
          refine g_iconst hC dL_law_233 ok_0 ?_
          exact ret_z h hR (by decide) dL_law_234
      rw [if_neg h9] at h
      have n3 := h9
      clear h9
      by_cases h9 : (i_and (xs (Int.toNat x3)) 63) = 1
      · rw [if_pos h9] at h
        refine g_table hC dL_law_33 235 (Or.inr (by (try dsimp only); rw [h9]; exact ⟨by decide, by decide, 202, rfl, by decide⟩)) ?_
        refine g_aload_n hC dL_law_235 1 rfl rfl ?_
        refine g_aloado_n hC dL_law_236 0 rfl rfl ?_
        refine g_iload_n hC dL_law_237 3 rfl rfl ?_
        refine g_iconst hC dL_law_238 ok_1 ?_
        refine g_iadd hC dL_law_239 ?_
        obtain ⟨b9, h⟩ := of_ite h
        refine g_sld hC hX dL_law_240 b9 ?_
        refine g_aloado_n hC dL_law_241 0 rfl rfl ?_
        refine g_iload_n hC dL_law_242 3 rfl rfl ?_
        refine g_iconst hC dL_law_243 ok_2 ?_
        refine g_iadd hC dL_law_244 ?_
        obtain ⟨b9, h⟩ := of_ite h
        refine g_sld hC hX dL_law_245 b9 ?_
        obtain ⟨⟨r4, s4⟩, e4, h⟩ := of_bind h
        try dsimp only at h
        refine s_callVi hC dL_law_246 (tX9_bidder h1 e4) miX9_bidder mvX9_bidder mlRL_18 (isO_spec h1) vc_9 rfl rfl (Nat.le_of_ble_eq_true rfl) (Nat.le_of_ble_eq_true rfl) (Nat.le_of_ble_eq_true rfl) hcs ?_
        refine g_aload_n hC dL_law_249 2 rfl rfl ?_
        refine g_aloado_n hC dL_law_250 0 rfl rfl ?_
        refine g_iload_n hC dL_law_251 3 rfl rfl ?_
        refine g_iconst hC dL_law_252 ok_1 ?_
        refine g_iadd hC dL_law_253 ?_
        obtain ⟨b9, h⟩ := of_ite h
        refine g_sld hC hX dL_law_254 b9 ?_
        refine g_aloado_n hC dL_law_255 0 rfl rfl ?_
        refine g_iload_n hC dL_law_256 3 rfl rfl ?_
        refine g_iconst hC dL_law_257 ok_2 ?_
        refine g_iadd hC dL_law_258 ?_
        obtain ⟨b9, h⟩ := of_ite h
        refine g_sld hC hX dL_law_259 b9 ?_
        obtain ⟨⟨r5, s5⟩, e5, h⟩ := of_bind h
        try dsimp only at h
        refine s_callVi hC dL_law_260 (tX10_bidder h2 e5) miX10_bidder mvX10_bidder mlRL_22 (isO_spec h2) vc_10 rfl rfl (Nat.le_of_ble_eq_true rfl) (Nat.le_of_ble_eq_true rfl) (Nat.le_of_ble_eq_true rfl) hcs ?_
        refine g_icmp_eq hC dL_law_263 (tgt := 1476) (by decide) (fun h9 => ?_) (fun h9 => ?_)
        · rw [if_pos h9] at h
          exact g_pick [0, 1, 2, 3] rfl (bL_law_1476 hC hcs h1 h2 hX ih hR _ _ h)
        · rw [if_neg h9] at h
          refine g_iconst hC dL_law_266 ok_0 ?_
          exact ret_z h hR (by decide) dL_law_267
      rw [if_neg h9] at h
      have n6 := h9
      clear h9
      by_cases h9 : (i_and (xs (Int.toNat x3)) 63) = 2
      · rw [if_pos h9] at h
        refine g_table hC dL_law_33 268 (Or.inr (by (try dsimp only); rw [h9]; exact ⟨by decide, by decide, 235, rfl, by decide⟩)) ?_
        refine g_aload_n hC dL_law_268 1 rfl rfl ?_
        refine g_aloado_n hC dL_law_269 0 rfl rfl ?_
        refine g_iload_n hC dL_law_270 3 rfl rfl ?_
        refine g_iconst hC dL_law_271 ok_1 ?_
        refine g_iadd hC dL_law_272 ?_
        obtain ⟨b9, h⟩ := of_ite h
        refine g_sld hC hX dL_law_273 b9 ?_
        refine g_aloado_n hC dL_law_274 0 rfl rfl ?_
        refine g_iload_n hC dL_law_275 3 rfl rfl ?_
        refine g_iconst hC dL_law_276 ok_2 ?_
        refine g_iadd hC dL_law_277 ?_
        obtain ⟨b9, h⟩ := of_ite h
        refine g_sld hC hX dL_law_278 b9 ?_
        refine g_aloado_n hC dL_law_279 0 rfl rfl ?_
        refine g_iload_n hC dL_law_280 3 rfl rfl ?_
        refine g_iconst hC dL_law_281 ok_3 ?_
        refine g_iadd hC dL_law_282 ?_
        obtain ⟨b9, h⟩ := of_ite h
        refine g_sld hC hX dL_law_283 b9 ?_
        obtain ⟨⟨r7, s7⟩, e7, h⟩ := of_bind h
        try dsimp only at h
        refine s_callVi hC dL_law_284 (tX9_bidders h1 e7) miX9_bidders mvX9_bidders mlRL_23 (isO_spec h1) vc_9 rfl rfl (Nat.le_of_ble_eq_true rfl) (Nat.le_of_ble_eq_true rfl) (Nat.le_of_ble_eq_true rfl) hcs ?_
        refine g_aload_n hC dL_law_287 2 rfl rfl ?_
        refine g_aloado_n hC dL_law_288 0 rfl rfl ?_
        refine g_iload_n hC dL_law_289 3 rfl rfl ?_
        refine g_iconst hC dL_law_290 ok_1 ?_
        refine g_iadd hC dL_law_291 ?_
        obtain ⟨b9, h⟩ := of_ite h
        refine g_sld hC hX dL_law_292 b9 ?_
        refine g_aloado_n hC dL_law_293 0 rfl rfl ?_
        refine g_iload_n hC dL_law_294 3 rfl rfl ?_
        refine g_iconst hC dL_law_295 ok_2 ?_
        refine g_iadd hC dL_law_296 ?_
        obtain ⟨b9, h⟩ := of_ite h
        refine g_sld hC hX dL_law_297 b9 ?_
        refine g_aloado_n hC dL_law_298 0 rfl rfl ?_
        refine g_iload_n hC dL_law_299 3 rfl rfl ?_
        refine g_iconst hC dL_law_300 ok_3 ?_
        refine g_iadd hC dL_law_301 ?_
        obtain ⟨b9, h⟩ := of_ite h
        refine g_sld hC hX dL_law_302 b9 ?_
        obtain ⟨⟨r8, s8⟩, e8, h⟩ := of_bind h
        try dsimp only at h
        refine s_callVi hC dL_law_303 (tX10_bidders h2 e8) miX10_bidders mvX10_bidders mlRL_27 (isO_spec h2) vc_10 rfl rfl (Nat.le_of_ble_eq_true rfl) (Nat.le_of_ble_eq_true rfl) (Nat.le_of_ble_eq_true rfl) hcs ?_
        refine g_icmp_eq hC dL_law_306 (tgt := 1476) (by decide) (fun h9 => ?_) (fun h9 => ?_)
        · rw [if_pos h9] at h
          exact g_pick [0, 1, 2, 3] rfl (bL_law_1476 hC hcs h1 h2 hX ih hR _ _ h)
        · rw [if_neg h9] at h
          refine g_iconst hC dL_law_309 ok_0 ?_
          exact ret_z h hR (by decide) dL_law_310
      rw [if_neg h9] at h
      have n9 := h9
      clear h9
      by_cases h9 : (i_and (xs (Int.toNat x3)) 63) = 3
      · rw [if_pos h9] at h
        refine g_table hC dL_law_33 311 (Or.inr (by (try dsimp only); rw [h9]; exact ⟨by decide, by decide, 278, rfl, by decide⟩)) ?_
        refine g_aload_n hC dL_law_311 1 rfl rfl ?_
        refine g_aloado_n hC dL_law_312 0 rfl rfl ?_
        refine g_iload_n hC dL_law_313 3 rfl rfl ?_
        refine g_iconst hC dL_law_314 ok_1 ?_
        refine g_iadd hC dL_law_315 ?_
        obtain ⟨b9, h⟩ := of_ite h
        refine g_sld hC hX dL_law_316 b9 ?_
        refine g_aloado_n hC dL_law_317 0 rfl rfl ?_
        refine g_iload_n hC dL_law_318 3 rfl rfl ?_
        refine g_iconst hC dL_law_319 ok_2 ?_
        refine g_iadd hC dL_law_320 ?_
        obtain ⟨b9, h⟩ := of_ite h
        refine g_sld hC hX dL_law_321 b9 ?_
        refine g_aloado_n hC dL_law_322 0 rfl rfl ?_
        refine g_iload_n hC dL_law_323 3 rfl rfl ?_
        refine g_iconst hC dL_law_324 ok_3 ?_
        refine g_iadd hC dL_law_325 ?_
        obtain ⟨b9, h⟩ := of_ite h
        refine g_sld hC hX dL_law_326 b9 ?_
        obtain ⟨⟨r10, s10⟩, e10, h⟩ := of_bind h
        try dsimp only at h
        refine s_callVi hC dL_law_327 (tX9_mend h1 e10) miX9_mend mvX9_mend mlRL_28 (isO_spec h1) vc_9 rfl rfl (Nat.le_of_ble_eq_true rfl) (Nat.le_of_ble_eq_true rfl) (Nat.le_of_ble_eq_true rfl) hcs ?_
        refine g_aload_n hC dL_law_330 2 rfl rfl ?_
        refine g_aloado_n hC dL_law_331 0 rfl rfl ?_
        refine g_iload_n hC dL_law_332 3 rfl rfl ?_
        refine g_iconst hC dL_law_333 ok_1 ?_
        refine g_iadd hC dL_law_334 ?_
        obtain ⟨b9, h⟩ := of_ite h
        refine g_sld hC hX dL_law_335 b9 ?_
        refine g_aloado_n hC dL_law_336 0 rfl rfl ?_
        refine g_iload_n hC dL_law_337 3 rfl rfl ?_
        refine g_iconst hC dL_law_338 ok_2 ?_
        refine g_iadd hC dL_law_339 ?_
        obtain ⟨b9, h⟩ := of_ite h
        refine g_sld hC hX dL_law_340 b9 ?_
        refine g_aloado_n hC dL_law_341 0 rfl rfl ?_
        refine g_iload_n hC dL_law_342 3 rfl rfl ?_
        refine g_iconst hC dL_law_343 ok_3 ?_
        refine g_iadd hC dL_law_344 ?_
        obtain ⟨b9, h⟩ := of_ite h
        refine g_sld hC hX dL_law_345 b9 ?_
        obtain ⟨⟨r11, s11⟩, e11, h⟩ := of_bind h
        try dsimp only at h
        refine s_callVi hC dL_law_346 (tX10_mend h2 e11) miX10_mend mvX10_mend mlRL_31 (isO_spec h2) vc_10 rfl rfl (Nat.le_of_ble_eq_true rfl) (Nat.le_of_ble_eq_true rfl) (Nat.le_of_ble_eq_true rfl) hcs ?_
        refine g_icmp_eq hC dL_law_349 (tgt := 1476) (by decide) (fun h9 => ?_) (fun h9 => ?_)
        · rw [if_pos h9] at h
          exact g_pick [0, 1, 2, 3] rfl (bL_law_1476 hC hcs h1 h2 hX ih hR _ _ h)
        · rw [if_neg h9] at h
          refine g_iconst hC dL_law_352 ok_0 ?_
          exact ret_z h hR (by decide) dL_law_353
      rw [if_neg h9] at h
      have n12 := h9
      clear h9
      by_cases h9 : (i_and (xs (Int.toNat x3)) 63) = 4
      · rw [if_pos h9] at h
        refine g_table hC dL_law_33 354 (Or.inr (by (try dsimp only); rw [h9]; exact ⟨by decide, by decide, 321, rfl, by decide⟩)) ?_
        refine g_aload_n hC dL_law_354 1 rfl rfl ?_
        refine g_aloado_n hC dL_law_355 0 rfl rfl ?_
        refine g_iload_n hC dL_law_356 3 rfl rfl ?_
        refine g_iconst hC dL_law_357 ok_1 ?_
        refine g_iadd hC dL_law_358 ?_
        obtain ⟨b9, h⟩ := of_ite h
        refine g_sld hC hX dL_law_359 b9 ?_
        refine g_aloado_n hC dL_law_360 0 rfl rfl ?_
        refine g_iload_n hC dL_law_361 3 rfl rfl ?_
        refine g_iconst hC dL_law_362 ok_2 ?_
        refine g_iadd hC dL_law_363 ?_
        obtain ⟨b9, h⟩ := of_ite h
        refine g_sld hC hX dL_law_364 b9 ?_
        obtain ⟨⟨r13, s13⟩, e13, h⟩ := of_bind h
        try dsimp only at h
        refine s_callVi hC dL_law_365 (tX9_of h1 e13) miX9_of mvX9_of mlRL_32 (isO_spec h1) vc_9 rfl rfl (Nat.le_of_ble_eq_true rfl) (Nat.le_of_ble_eq_true rfl) (Nat.le_of_ble_eq_true rfl) hcs ?_
        refine g_aload_n hC dL_law_368 2 rfl rfl ?_
        refine g_aloado_n hC dL_law_369 0 rfl rfl ?_
        refine g_iload_n hC dL_law_370 3 rfl rfl ?_
        refine g_iconst hC dL_law_371 ok_1 ?_
        refine g_iadd hC dL_law_372 ?_
        obtain ⟨b9, h⟩ := of_ite h
        refine g_sld hC hX dL_law_373 b9 ?_
        refine g_aloado_n hC dL_law_374 0 rfl rfl ?_
        refine g_iload_n hC dL_law_375 3 rfl rfl ?_
        refine g_iconst hC dL_law_376 ok_2 ?_
        refine g_iadd hC dL_law_377 ?_
        obtain ⟨b9, h⟩ := of_ite h
        refine g_sld hC hX dL_law_378 b9 ?_
        obtain ⟨⟨r14, s14⟩, e14, h⟩ := of_bind h
        try dsimp only at h
        refine s_callVi hC dL_law_379 (tX10_of h2 e14) miX10_of mvX10_of mlRL_35 (isO_spec h2) vc_10 rfl rfl (Nat.le_of_ble_eq_true rfl) (Nat.le_of_ble_eq_true rfl) (Nat.le_of_ble_eq_true rfl) hcs ?_
        refine g_icmp_eq hC dL_law_382 (tgt := 1476) (by decide) (fun h9 => ?_) (fun h9 => ?_)
        · rw [if_pos h9] at h
          exact g_pick [0, 1, 2, 3] rfl (bL_law_1476 hC hcs h1 h2 hX ih hR _ _ h)
        · rw [if_neg h9] at h
          refine g_iconst hC dL_law_385 ok_0 ?_
          exact ret_z h hR (by decide) dL_law_386
      rw [if_neg h9] at h
      have n15 := h9
      clear h9
      by_cases h9 : (i_and (xs (Int.toNat x3)) 63) = 5
      · rw [if_pos h9] at h
        refine g_table hC dL_law_33 387 (Or.inr (by (try dsimp only); rw [h9]; exact ⟨by decide, by decide, 354, rfl, by decide⟩)) ?_
        refine g_aload_n hC dL_law_387 1 rfl rfl ?_
        refine g_aloado_n hC dL_law_388 0 rfl rfl ?_
        refine g_iload_n hC dL_law_389 3 rfl rfl ?_
        refine g_iconst hC dL_law_390 ok_1 ?_
        refine g_iadd hC dL_law_391 ?_
        obtain ⟨b9, h⟩ := of_ite h
        refine g_sld hC hX dL_law_392 b9 ?_
        obtain ⟨⟨r16, s16⟩, e16, h⟩ := of_bind h
        try dsimp only at h
        refine s_callVi hC dL_law_393 (tX9_feed h1 e16) miX9_feed mvX9_feed mlRL_36 (isO_spec h1) vc_9 rfl rfl (Nat.le_of_ble_eq_true rfl) (Nat.le_of_ble_eq_true rfl) (Nat.le_of_ble_eq_true rfl) hcs ?_
        refine g_aload_n hC dL_law_396 2 rfl rfl ?_
        refine g_aloado_n hC dL_law_397 0 rfl rfl ?_
        refine g_iload_n hC dL_law_398 3 rfl rfl ?_
        refine g_iconst hC dL_law_399 ok_1 ?_
        refine g_iadd hC dL_law_400 ?_
        obtain ⟨b9, h⟩ := of_ite h
        refine g_sld hC hX dL_law_401 b9 ?_
        obtain ⟨⟨r17, s17⟩, e17, h⟩ := of_bind h
        try dsimp only at h
        refine s_callVi hC dL_law_402 (tX10_feed h2 e17) miX10_feed mvX10_feed mlRL_39 (isO_spec h2) vc_10 rfl rfl (Nat.le_of_ble_eq_true rfl) (Nat.le_of_ble_eq_true rfl) (Nat.le_of_ble_eq_true rfl) hcs ?_
        refine g_icmp_eq hC dL_law_405 (tgt := 1476) (by decide) (fun h9 => ?_) (fun h9 => ?_)
        · rw [if_pos h9] at h
          exact g_pick [0, 1, 2, 3] rfl (bL_law_1476 hC hcs h1 h2 hX ih hR _ _ h)
        · rw [if_neg h9] at h
          refine g_iconst hC dL_law_408 ok_0 ?_
          exact ret_z h hR (by decide) dL_law_409
      rw [if_neg h9] at h
      have n18 := h9
      clear h9
      by_cases h9 : (i_and (xs (Int.toNat x3)) 63) = 6
      · rw [if_pos h9] at h
        refine g_table hC dL_law_33 410 (Or.inr (by (try dsimp only); rw [h9]; exact ⟨by decide, by decide, 377, rfl, by decide⟩)) ?_
        refine g_aload_n hC dL_law_410 1 rfl rfl ?_
        obtain ⟨⟨r19, s19⟩, e19, h⟩ := of_bind h
        try dsimp only at h
        refine s_callVi hC dL_law_411 (tX9_law h1 e19) miX9_law mvX9_law mlRL_40 (isO_spec h1) vc_9 rfl rfl (Nat.le_of_ble_eq_true rfl) (Nat.le_of_ble_eq_true rfl) (Nat.le_of_ble_eq_true rfl) hcs ?_
        refine g_aload_n hC dL_law_414 2 rfl rfl ?_
        obtain ⟨⟨r20, s20⟩, e20, h⟩ := of_bind h
        try dsimp only at h
        refine s_callVi hC dL_law_415 (tX10_law h2 e20) miX10_law mvX10_law mlRL_44 (isO_spec h2) vc_10 rfl rfl (Nat.le_of_ble_eq_true rfl) (Nat.le_of_ble_eq_true rfl) (Nat.le_of_ble_eq_true rfl) hcs ?_
        refine g_icmp_eq hC dL_law_418 (tgt := 1476) (by decide) (fun h9 => ?_) (fun h9 => ?_)
        · rw [if_pos h9] at h
          exact g_pick [0, 1, 2, 3] rfl (bL_law_1476 hC hcs h1 h2 hX ih hR _ _ h)
        · rw [if_neg h9] at h
          refine g_iconst hC dL_law_421 ok_0 ?_
          exact ret_z h hR (by decide) dL_law_422
      rw [if_neg h9] at h
      have n21 := h9
      clear h9
      by_cases h9 : (i_and (xs (Int.toNat x3)) 63) = 7
      · rw [if_pos h9] at h
        refine g_table hC dL_law_33 423 (Or.inr (by (try dsimp only); rw [h9]; exact ⟨by decide, by decide, 390, rfl, by decide⟩)) ?_
        refine g_aload_n hC dL_law_423 1 rfl rfl ?_
        refine g_aloado_n hC dL_law_424 0 rfl rfl ?_
        refine g_iload_n hC dL_law_425 3 rfl rfl ?_
        refine g_iconst hC dL_law_426 ok_1 ?_
        refine g_iadd hC dL_law_427 ?_
        obtain ⟨b9, h⟩ := of_ite h
        refine g_sld hC hX dL_law_428 b9 ?_
        refine g_aloado_n hC dL_law_429 0 rfl rfl ?_
        refine g_iload_n hC dL_law_430 3 rfl rfl ?_
        refine g_iconst hC dL_law_431 ok_2 ?_
        refine g_iadd hC dL_law_432 ?_
        obtain ⟨b9, h⟩ := of_ite h
        refine g_sld hC hX dL_law_433 b9 ?_
        obtain ⟨⟨r22, s22⟩, e22, h⟩ := of_bind h
        try dsimp only at h
        refine s_callVi hC dL_law_434 (tX9_years h1 e22) miX9_years mvX9_years mlRL_45 (isO_spec h1) vc_9 rfl rfl (Nat.le_of_ble_eq_true rfl) (Nat.le_of_ble_eq_true rfl) (Nat.le_of_ble_eq_true rfl) hcs ?_
        refine g_aload_n hC dL_law_437 2 rfl rfl ?_
        refine g_aloado_n hC dL_law_438 0 rfl rfl ?_
        refine g_iload_n hC dL_law_439 3 rfl rfl ?_
        refine g_iconst hC dL_law_440 ok_1 ?_
        refine g_iadd hC dL_law_441 ?_
        obtain ⟨b9, h⟩ := of_ite h
        refine g_sld hC hX dL_law_442 b9 ?_
        refine g_aloado_n hC dL_law_443 0 rfl rfl ?_
        refine g_iload_n hC dL_law_444 3 rfl rfl ?_
        refine g_iconst hC dL_law_445 ok_2 ?_
        refine g_iadd hC dL_law_446 ?_
        obtain ⟨b9, h⟩ := of_ite h
        refine g_sld hC hX dL_law_447 b9 ?_
        obtain ⟨⟨r23, s23⟩, e23, h⟩ := of_bind h
        try dsimp only at h
        refine s_callVi hC dL_law_448 (tX10_years h2 e23) miX10_years mvX10_years mlRL_48 (isO_spec h2) vc_10 rfl rfl (Nat.le_of_ble_eq_true rfl) (Nat.le_of_ble_eq_true rfl) (Nat.le_of_ble_eq_true rfl) hcs ?_
        refine g_icmp_eq hC dL_law_451 (tgt := 1476) (by decide) (fun h9 => ?_) (fun h9 => ?_)
        · rw [if_pos h9] at h
          exact g_pick [0, 1, 2, 3] rfl (bL_law_1476 hC hcs h1 h2 hX ih hR _ _ h)
        · rw [if_neg h9] at h
          refine g_iconst hC dL_law_454 ok_0 ?_
          exact ret_z h hR (by decide) dL_law_455
      rw [if_neg h9] at h
      have n24 := h9
      clear h9
      by_cases h9 : (i_and (xs (Int.toNat x3)) 63) = 8
      · rw [if_pos h9] at h
        refine g_table hC dL_law_33 456 (Or.inr (by (try dsimp only); rw [h9]; exact ⟨by decide, by decide, 423, rfl, by decide⟩)) ?_
        refine g_aload_n hC dL_law_456 1 rfl rfl ?_
        refine g_aloado_n hC dL_law_457 0 rfl rfl ?_
        refine g_iload_n hC dL_law_458 3 rfl rfl ?_
        refine g_iconst hC dL_law_459 ok_1 ?_
        refine g_iadd hC dL_law_460 ?_
        obtain ⟨b9, h⟩ := of_ite h
        refine g_sld hC hX dL_law_461 b9 ?_
        obtain ⟨⟨r25, s25⟩, e25, h⟩ := of_bind h
        try dsimp only at h
        refine s_callVi hC dL_law_462 (tX9_wins h1 e25) miX9_wins mvX9_wins mlRL_49 (isO_spec h1) vc_9 rfl rfl (Nat.le_of_ble_eq_true rfl) (Nat.le_of_ble_eq_true rfl) (Nat.le_of_ble_eq_true rfl) hcs ?_
        refine g_aload_n hC dL_law_465 2 rfl rfl ?_
        refine g_aloado_n hC dL_law_466 0 rfl rfl ?_
        refine g_iload_n hC dL_law_467 3 rfl rfl ?_
        refine g_iconst hC dL_law_468 ok_1 ?_
        refine g_iadd hC dL_law_469 ?_
        obtain ⟨b9, h⟩ := of_ite h
        refine g_sld hC hX dL_law_470 b9 ?_
        obtain ⟨⟨r26, s26⟩, e26, h⟩ := of_bind h
        try dsimp only at h
        refine s_callVi hC dL_law_471 (tX10_wins h2 e26) miX10_wins mvX10_wins mlRL_52 (isO_spec h2) vc_10 rfl rfl (Nat.le_of_ble_eq_true rfl) (Nat.le_of_ble_eq_true rfl) (Nat.le_of_ble_eq_true rfl) hcs ?_
        refine g_icmp_eq hC dL_law_474 (tgt := 1476) (by decide) (fun h9 => ?_) (fun h9 => ?_)
        · rw [if_pos h9] at h
          exact g_pick [0, 1, 2, 3] rfl (bL_law_1476 hC hcs h1 h2 hX ih hR _ _ h)
        · rw [if_neg h9] at h
          refine g_iconst hC dL_law_477 ok_0 ?_
          exact ret_z h hR (by decide) dL_law_478
      rw [if_neg h9] at h
      have n27 := h9
      clear h9
      by_cases h9 : (i_and (xs (Int.toNat x3)) 63) = 9
      · rw [if_pos h9] at h
        refine g_table hC dL_law_33 479 (Or.inr (by (try dsimp only); rw [h9]; exact ⟨by decide, by decide, 446, rfl, by decide⟩)) ?_
        refine g_aload_n hC dL_law_479 1 rfl rfl ?_
        refine g_aloado_n hC dL_law_480 0 rfl rfl ?_
        refine g_iload_n hC dL_law_481 3 rfl rfl ?_
        refine g_iconst hC dL_law_482 ok_1 ?_
        refine g_iadd hC dL_law_483 ?_
        obtain ⟨b9, h⟩ := of_ite h
        refine g_sld hC hX dL_law_484 b9 ?_
        refine g_aloado_n hC dL_law_485 0 rfl rfl ?_
        refine g_iload_n hC dL_law_486 3 rfl rfl ?_
        refine g_iconst hC dL_law_487 ok_2 ?_
        refine g_iadd hC dL_law_488 ?_
        obtain ⟨b9, h⟩ := of_ite h
        refine g_sld hC hX dL_law_489 b9 ?_
        obtain ⟨⟨r28, s28⟩, e28, h⟩ := of_bind h
        try dsimp only at h
        refine s_callVi hC dL_law_490 (tX9_sale h1 e28) miX9_sale mvX9_sale mlRL_53 (isO_spec h1) vc_9 rfl rfl (Nat.le_of_ble_eq_true rfl) (Nat.le_of_ble_eq_true rfl) (Nat.le_of_ble_eq_true rfl) hcs ?_
        refine g_aload_n hC dL_law_493 2 rfl rfl ?_
        refine g_aloado_n hC dL_law_494 0 rfl rfl ?_
        refine g_iload_n hC dL_law_495 3 rfl rfl ?_
        refine g_iconst hC dL_law_496 ok_1 ?_
        refine g_iadd hC dL_law_497 ?_
        obtain ⟨b9, h⟩ := of_ite h
        refine g_sld hC hX dL_law_498 b9 ?_
        refine g_aloado_n hC dL_law_499 0 rfl rfl ?_
        refine g_iload_n hC dL_law_500 3 rfl rfl ?_
        refine g_iconst hC dL_law_501 ok_2 ?_
        refine g_iadd hC dL_law_502 ?_
        obtain ⟨b9, h⟩ := of_ite h
        refine g_sld hC hX dL_law_503 b9 ?_
        obtain ⟨⟨r29, s29⟩, e29, h⟩ := of_bind h
        try dsimp only at h
        refine s_callVi hC dL_law_504 (tX10_sale h2 e29) miX10_sale mvX10_sale mlRL_56 (isO_spec h2) vc_10 rfl rfl (Nat.le_of_ble_eq_true rfl) (Nat.le_of_ble_eq_true rfl) (Nat.le_of_ble_eq_true rfl) hcs ?_
        refine g_icmp_eq hC dL_law_507 (tgt := 1476) (by decide) (fun h9 => ?_) (fun h9 => ?_)
        · rw [if_pos h9] at h
          exact g_pick [0, 1, 2, 3] rfl (bL_law_1476 hC hcs h1 h2 hX ih hR _ _ h)
        · rw [if_neg h9] at h
          refine g_iconst hC dL_law_510 ok_0 ?_
          exact ret_z h hR (by decide) dL_law_511
      rw [if_neg h9] at h
      have n30 := h9
      clear h9
      by_cases h9 : (i_and (xs (Int.toNat x3)) 63) = 10
      · rw [if_pos h9] at h
        refine g_table hC dL_law_33 512 (Or.inr (by (try dsimp only); rw [h9]; exact ⟨by decide, by decide, 479, rfl, by decide⟩)) ?_
        refine g_aload_n hC dL_law_512 1 rfl rfl ?_
        refine g_aloado_n hC dL_law_513 0 rfl rfl ?_
        refine g_iload_n hC dL_law_514 3 rfl rfl ?_
        refine g_iconst hC dL_law_515 ok_1 ?_
        refine g_iadd hC dL_law_516 ?_
        obtain ⟨b9, h⟩ := of_ite h
        refine g_sld hC hX dL_law_517 b9 ?_
        refine g_aloado_n hC dL_law_518 0 rfl rfl ?_
        refine g_iload_n hC dL_law_519 3 rfl rfl ?_
        refine g_iconst hC dL_law_520 ok_2 ?_
        refine g_iadd hC dL_law_521 ?_
        obtain ⟨b9, h⟩ := of_ite h
        refine g_sld hC hX dL_law_522 b9 ?_
        refine g_aloado_n hC dL_law_523 0 rfl rfl ?_
        refine g_iload_n hC dL_law_524 3 rfl rfl ?_
        refine g_iconst hC dL_law_525 ok_3 ?_
        refine g_iadd hC dL_law_526 ?_
        obtain ⟨b9, h⟩ := of_ite h
        refine g_sld hC hX dL_law_527 b9 ?_
        obtain ⟨⟨r31, s31⟩, e31, h⟩ := of_bind h
        try dsimp only at h
        refine s_callVi hC dL_law_528 (tX9_after h1 e31) miX9_after mvX9_after mlRL_57 (isO_spec h1) vc_9 rfl rfl (Nat.le_of_ble_eq_true rfl) (Nat.le_of_ble_eq_true rfl) (Nat.le_of_ble_eq_true rfl) hcs ?_
        refine g_aload_n hC dL_law_531 2 rfl rfl ?_
        refine g_aloado_n hC dL_law_532 0 rfl rfl ?_
        refine g_iload_n hC dL_law_533 3 rfl rfl ?_
        refine g_iconst hC dL_law_534 ok_1 ?_
        refine g_iadd hC dL_law_535 ?_
        obtain ⟨b9, h⟩ := of_ite h
        refine g_sld hC hX dL_law_536 b9 ?_
        refine g_aloado_n hC dL_law_537 0 rfl rfl ?_
        refine g_iload_n hC dL_law_538 3 rfl rfl ?_
        refine g_iconst hC dL_law_539 ok_2 ?_
        refine g_iadd hC dL_law_540 ?_
        obtain ⟨b9, h⟩ := of_ite h
        refine g_sld hC hX dL_law_541 b9 ?_
        refine g_aloado_n hC dL_law_542 0 rfl rfl ?_
        refine g_iload_n hC dL_law_543 3 rfl rfl ?_
        refine g_iconst hC dL_law_544 ok_3 ?_
        refine g_iadd hC dL_law_545 ?_
        obtain ⟨b9, h⟩ := of_ite h
        refine g_sld hC hX dL_law_546 b9 ?_
        obtain ⟨⟨r32, s32⟩, e32, h⟩ := of_bind h
        try dsimp only at h
        refine s_callVi hC dL_law_547 (tX10_after h2 e32) miX10_after mvX10_after mlRL_60 (isO_spec h2) vc_10 rfl rfl (Nat.le_of_ble_eq_true rfl) (Nat.le_of_ble_eq_true rfl) (Nat.le_of_ble_eq_true rfl) hcs ?_
        refine g_icmp_eq hC dL_law_550 (tgt := 1476) (by decide) (fun h9 => ?_) (fun h9 => ?_)
        · rw [if_pos h9] at h
          exact g_pick [0, 1, 2, 3] rfl (bL_law_1476 hC hcs h1 h2 hX ih hR _ _ h)
        · rw [if_neg h9] at h
          refine g_iconst hC dL_law_553 ok_0 ?_
          exact ret_z h hR (by decide) dL_law_554
      rw [if_neg h9] at h
      have n33 := h9
      clear h9
      by_cases h9 : (i_and (xs (Int.toNat x3)) 63) = 11
      · rw [if_pos h9] at h
        refine g_table hC dL_law_33 555 (Or.inr (by (try dsimp only); rw [h9]; exact ⟨by decide, by decide, 522, rfl, by decide⟩)) ?_
        refine g_aload_n hC dL_law_555 1 rfl rfl ?_
        refine g_aloado_n hC dL_law_556 0 rfl rfl ?_
        refine g_iload_n hC dL_law_557 3 rfl rfl ?_
        refine g_iconst hC dL_law_558 ok_1 ?_
        refine g_iadd hC dL_law_559 ?_
        obtain ⟨b9, h⟩ := of_ite h
        refine g_sld hC hX dL_law_560 b9 ?_
        refine g_aloado_n hC dL_law_561 0 rfl rfl ?_
        refine g_iload_n hC dL_law_562 3 rfl rfl ?_
        refine g_iconst hC dL_law_563 ok_2 ?_
        refine g_iadd hC dL_law_564 ?_
        obtain ⟨b9, h⟩ := of_ite h
        refine g_sld hC hX dL_law_565 b9 ?_
        obtain ⟨⟨r34, s34⟩, e34, h⟩ := of_bind h
        try dsimp only at h
        refine s_callVi hC dL_law_566 (tX9_bestOrder h1 e34) miX9_bestOrder mvX9_bestOrder mlRL_61 (isO_spec h1) vc_9 rfl rfl (Nat.le_of_ble_eq_true rfl) (Nat.le_of_ble_eq_true rfl) (Nat.le_of_ble_eq_true rfl) hcs ?_
        refine g_aload_n hC dL_law_569 2 rfl rfl ?_
        refine g_aloado_n hC dL_law_570 0 rfl rfl ?_
        refine g_iload_n hC dL_law_571 3 rfl rfl ?_
        refine g_iconst hC dL_law_572 ok_1 ?_
        refine g_iadd hC dL_law_573 ?_
        obtain ⟨b9, h⟩ := of_ite h
        refine g_sld hC hX dL_law_574 b9 ?_
        refine g_aloado_n hC dL_law_575 0 rfl rfl ?_
        refine g_iload_n hC dL_law_576 3 rfl rfl ?_
        refine g_iconst hC dL_law_577 ok_2 ?_
        refine g_iadd hC dL_law_578 ?_
        obtain ⟨b9, h⟩ := of_ite h
        refine g_sld hC hX dL_law_579 b9 ?_
        obtain ⟨⟨r35, s35⟩, e35, h⟩ := of_bind h
        try dsimp only at h
        refine s_callVi hC dL_law_580 (tX10_bestOrder h2 e35) miX10_bestOrder mvX10_bestOrder mlRL_64 (isO_spec h2) vc_10 rfl rfl (Nat.le_of_ble_eq_true rfl) (Nat.le_of_ble_eq_true rfl) (Nat.le_of_ble_eq_true rfl) hcs ?_
        refine g_icmp_eq hC dL_law_583 (tgt := 1476) (by decide) (fun h9 => ?_) (fun h9 => ?_)
        · rw [if_pos h9] at h
          exact g_pick [0, 1, 2, 3] rfl (bL_law_1476 hC hcs h1 h2 hX ih hR _ _ h)
        · rw [if_neg h9] at h
          refine g_iconst hC dL_law_586 ok_0 ?_
          exact ret_z h hR (by decide) dL_law_587
      rw [if_neg h9] at h
      have n36 := h9
      clear h9
      by_cases h9 : (i_and (xs (Int.toNat x3)) 63) = 12
      · rw [if_pos h9] at h
        refine g_table hC dL_law_33 588 (Or.inr (by (try dsimp only); rw [h9]; exact ⟨by decide, by decide, 555, rfl, by decide⟩)) ?_
        refine g_aload_n hC dL_law_588 1 rfl rfl ?_
        refine g_aloado_n hC dL_law_589 0 rfl rfl ?_
        refine g_iload_n hC dL_law_590 3 rfl rfl ?_
        refine g_iconst hC dL_law_591 ok_1 ?_
        refine g_iadd hC dL_law_592 ?_
        obtain ⟨b9, h⟩ := of_ite h
        refine g_sld hC hX dL_law_593 b9 ?_
        obtain ⟨⟨r37, s37⟩, e37, h⟩ := of_bind h
        try dsimp only at h
        refine s_callVi hC dL_law_594 (tX9_feign h1 e37) miX9_feign mvX9_feign mlRL_65 (isO_spec h1) vc_9 rfl rfl (Nat.le_of_ble_eq_true rfl) (Nat.le_of_ble_eq_true rfl) (Nat.le_of_ble_eq_true rfl) hcs ?_
        refine g_aload_n hC dL_law_597 2 rfl rfl ?_
        refine g_aloado_n hC dL_law_598 0 rfl rfl ?_
        refine g_iload_n hC dL_law_599 3 rfl rfl ?_
        refine g_iconst hC dL_law_600 ok_1 ?_
        refine g_iadd hC dL_law_601 ?_
        obtain ⟨b9, h⟩ := of_ite h
        refine g_sld hC hX dL_law_602 b9 ?_
        obtain ⟨⟨r38, s38⟩, e38, h⟩ := of_bind h
        try dsimp only at h
        refine s_callVi hC dL_law_603 (tX10_feign h2 e38) miX10_feign mvX10_feign mlRL_68 (isO_spec h2) vc_10 rfl rfl (Nat.le_of_ble_eq_true rfl) (Nat.le_of_ble_eq_true rfl) (Nat.le_of_ble_eq_true rfl) hcs ?_
        refine g_icmp_eq hC dL_law_606 (tgt := 1476) (by decide) (fun h9 => ?_) (fun h9 => ?_)
        · rw [if_pos h9] at h
          exact g_pick [0, 1, 2, 3] rfl (bL_law_1476 hC hcs h1 h2 hX ih hR _ _ h)
        · rw [if_neg h9] at h
          refine g_iconst hC dL_law_609 ok_0 ?_
          exact ret_z h hR (by decide) dL_law_610
      rw [if_neg h9] at h
      have n39 := h9
      clear h9
      by_cases h9 : (i_and (xs (Int.toNat x3)) 63) = 13
      · rw [if_pos h9] at h
        refine g_table hC dL_law_33 611 (Or.inr (by (try dsimp only); rw [h9]; exact ⟨by decide, by decide, 578, rfl, by decide⟩)) ?_
        refine g_aload_n hC dL_law_611 1 rfl rfl ?_
        refine g_aloado_n hC dL_law_612 0 rfl rfl ?_
        refine g_iload_n hC dL_law_613 3 rfl rfl ?_
        refine g_iconst hC dL_law_614 ok_1 ?_
        refine g_iadd hC dL_law_615 ?_
        obtain ⟨b9, h⟩ := of_ite h
        refine g_sld hC hX dL_law_616 b9 ?_
        refine g_aloado_n hC dL_law_617 0 rfl rfl ?_
        refine g_iload_n hC dL_law_618 3 rfl rfl ?_
        refine g_iconst hC dL_law_619 ok_2 ?_
        refine g_iadd hC dL_law_620 ?_
        obtain ⟨b9, h⟩ := of_ite h
        refine g_sld hC hX dL_law_621 b9 ?_
        obtain ⟨⟨r40, s40⟩, e40, h⟩ := of_bind h
        try dsimp only at h
        refine s_callVi hC dL_law_622 (tX9_examined h1 e40) miX9_examined mvX9_examined mlRL_69 (isO_spec h1) vc_9 rfl rfl (Nat.le_of_ble_eq_true rfl) (Nat.le_of_ble_eq_true rfl) (Nat.le_of_ble_eq_true rfl) hcs ?_
        refine g_aload_n hC dL_law_625 2 rfl rfl ?_
        refine g_aloado_n hC dL_law_626 0 rfl rfl ?_
        refine g_iload_n hC dL_law_627 3 rfl rfl ?_
        refine g_iconst hC dL_law_628 ok_1 ?_
        refine g_iadd hC dL_law_629 ?_
        obtain ⟨b9, h⟩ := of_ite h
        refine g_sld hC hX dL_law_630 b9 ?_
        refine g_aloado_n hC dL_law_631 0 rfl rfl ?_
        refine g_iload_n hC dL_law_632 3 rfl rfl ?_
        refine g_iconst hC dL_law_633 ok_2 ?_
        refine g_iadd hC dL_law_634 ?_
        obtain ⟨b9, h⟩ := of_ite h
        refine g_sld hC hX dL_law_635 b9 ?_
        obtain ⟨⟨r41, s41⟩, e41, h⟩ := of_bind h
        try dsimp only at h
        refine s_callVi hC dL_law_636 (tX10_examined h2 e41) miX10_examined mvX10_examined mlRL_72 (isO_spec h2) vc_10 rfl rfl (Nat.le_of_ble_eq_true rfl) (Nat.le_of_ble_eq_true rfl) (Nat.le_of_ble_eq_true rfl) hcs ?_
        refine g_icmp_eq hC dL_law_639 (tgt := 1476) (by decide) (fun h9 => ?_) (fun h9 => ?_)
        · rw [if_pos h9] at h
          exact g_pick [0, 1, 2, 3] rfl (bL_law_1476 hC hcs h1 h2 hX ih hR _ _ h)
        · rw [if_neg h9] at h
          refine g_iconst hC dL_law_642 ok_0 ?_
          exact ret_z h hR (by decide) dL_law_643
      rw [if_neg h9] at h
      have n42 := h9
      clear h9
      by_cases h9 : (i_and (xs (Int.toNat x3)) 63) = 14
      · rw [if_pos h9] at h
        refine g_table hC dL_law_33 644 (Or.inr (by (try dsimp only); rw [h9]; exact ⟨by decide, by decide, 611, rfl, by decide⟩)) ?_
        refine g_aload_n hC dL_law_644 1 rfl rfl ?_
        refine g_aloado_n hC dL_law_645 0 rfl rfl ?_
        refine g_iload_n hC dL_law_646 3 rfl rfl ?_
        refine g_iconst hC dL_law_647 ok_1 ?_
        refine g_iadd hC dL_law_648 ?_
        obtain ⟨b9, h⟩ := of_ite h
        refine g_sld hC hX dL_law_649 b9 ?_
        obtain ⟨⟨r43, s43⟩, e43, h⟩ := of_bind h
        try dsimp only at h
        refine s_callVi hC dL_law_650 (tX9_dealt h1 e43) miX9_dealt mvX9_dealt mlRL_73 (isO_spec h1) vc_9 rfl rfl (Nat.le_of_ble_eq_true rfl) (Nat.le_of_ble_eq_true rfl) (Nat.le_of_ble_eq_true rfl) hcs ?_
        refine g_aload_n hC dL_law_653 2 rfl rfl ?_
        refine g_aloado_n hC dL_law_654 0 rfl rfl ?_
        refine g_iload_n hC dL_law_655 3 rfl rfl ?_
        refine g_iconst hC dL_law_656 ok_1 ?_
        refine g_iadd hC dL_law_657 ?_
        obtain ⟨b9, h⟩ := of_ite h
        refine g_sld hC hX dL_law_658 b9 ?_
        obtain ⟨⟨r44, s44⟩, e44, h⟩ := of_bind h
        try dsimp only at h
        refine s_callVi hC dL_law_659 (tX10_dealt h2 e44) miX10_dealt mvX10_dealt mlRL_76 (isO_spec h2) vc_10 rfl rfl (Nat.le_of_ble_eq_true rfl) (Nat.le_of_ble_eq_true rfl) (Nat.le_of_ble_eq_true rfl) hcs ?_
        refine g_icmp_eq hC dL_law_662 (tgt := 1476) (by decide) (fun h9 => ?_) (fun h9 => ?_)
        · rw [if_pos h9] at h
          exact g_pick [0, 1, 2, 3] rfl (bL_law_1476 hC hcs h1 h2 hX ih hR _ _ h)
        · rw [if_neg h9] at h
          refine g_iconst hC dL_law_665 ok_0 ?_
          exact ret_z h hR (by decide) dL_law_666
      rw [if_neg h9] at h
      have n45 := h9
      clear h9
      by_cases h9 : (i_and (xs (Int.toNat x3)) 63) = 15
      · rw [if_pos h9] at h
        refine g_table hC dL_law_33 667 (Or.inr (by (try dsimp only); rw [h9]; exact ⟨by decide, by decide, 634, rfl, by decide⟩)) ?_
        refine g_aload_n hC dL_law_667 1 rfl rfl ?_
        obtain ⟨⟨r46, s46⟩, e46, h⟩ := of_bind h
        try dsimp only at h
        refine s_callVi hC dL_law_668 (tX9_hands h1 e46) miX9_hands mvX9_hands mlRL_77 (isO_spec h1) vc_9 rfl rfl (Nat.le_of_ble_eq_true rfl) (Nat.le_of_ble_eq_true rfl) (Nat.le_of_ble_eq_true rfl) hcs ?_
        refine g_aload_n hC dL_law_671 2 rfl rfl ?_
        obtain ⟨⟨r47, s47⟩, e47, h⟩ := of_bind h
        try dsimp only at h
        refine s_callVi hC dL_law_672 (tX10_hands h2 e47) miX10_hands mvX10_hands mlRL_80 (isO_spec h2) vc_10 rfl rfl (Nat.le_of_ble_eq_true rfl) (Nat.le_of_ble_eq_true rfl) (Nat.le_of_ble_eq_true rfl) hcs ?_
        refine g_icmp_eq hC dL_law_675 (tgt := 1476) (by decide) (fun h9 => ?_) (fun h9 => ?_)
        · rw [if_pos h9] at h
          exact g_pick [0, 1, 2, 3] rfl (bL_law_1476 hC hcs h1 h2 hX ih hR _ _ h)
        · rw [if_neg h9] at h
          refine g_iconst hC dL_law_678 ok_0 ?_
          exact ret_z h hR (by decide) dL_law_679
      rw [if_neg h9] at h
      have n48 := h9
      clear h9
      by_cases h9 : (i_and (xs (Int.toNat x3)) 63) = 16
      · rw [if_pos h9] at h
        refine g_table hC dL_law_33 680 (Or.inr (by (try dsimp only); rw [h9]; exact ⟨by decide, by decide, 647, rfl, by decide⟩)) ?_
        refine g_aload_n hC dL_law_680 1 rfl rfl ?_
        refine g_aloado_n hC dL_law_681 0 rfl rfl ?_
        refine g_iload_n hC dL_law_682 3 rfl rfl ?_
        refine g_iconst hC dL_law_683 ok_1 ?_
        refine g_iadd hC dL_law_684 ?_
        obtain ⟨b9, h⟩ := of_ite h
        refine g_sld hC hX dL_law_685 b9 ?_
        refine g_aloado_n hC dL_law_686 0 rfl rfl ?_
        refine g_iload_n hC dL_law_687 3 rfl rfl ?_
        refine g_iconst hC dL_law_688 ok_2 ?_
        refine g_iadd hC dL_law_689 ?_
        obtain ⟨b9, h⟩ := of_ite h
        refine g_sld hC hX dL_law_690 b9 ?_
        refine g_aloado_n hC dL_law_691 0 rfl rfl ?_
        refine g_iload_n hC dL_law_692 3 rfl rfl ?_
        refine g_iconst hC dL_law_693 ok_3 ?_
        refine g_iadd hC dL_law_694 ?_
        obtain ⟨b9, h⟩ := of_ite h
        refine g_sld hC hX dL_law_695 b9 ?_
        obtain ⟨⟨r49, s49⟩, e49, h⟩ := of_bind h
        try dsimp only at h
        refine s_callVi hC dL_law_696 (tX9_later h1 e49) miX9_later mvX9_later mlRL_81 (isO_spec h1) vc_9 rfl rfl (Nat.le_of_ble_eq_true rfl) (Nat.le_of_ble_eq_true rfl) (Nat.le_of_ble_eq_true rfl) hcs ?_
        refine g_aload_n hC dL_law_699 2 rfl rfl ?_
        refine g_aloado_n hC dL_law_700 0 rfl rfl ?_
        refine g_iload_n hC dL_law_701 3 rfl rfl ?_
        refine g_iconst hC dL_law_702 ok_1 ?_
        refine g_iadd hC dL_law_703 ?_
        obtain ⟨b9, h⟩ := of_ite h
        refine g_sld hC hX dL_law_704 b9 ?_
        refine g_aloado_n hC dL_law_705 0 rfl rfl ?_
        refine g_iload_n hC dL_law_706 3 rfl rfl ?_
        refine g_iconst hC dL_law_707 ok_2 ?_
        refine g_iadd hC dL_law_708 ?_
        obtain ⟨b9, h⟩ := of_ite h
        refine g_sld hC hX dL_law_709 b9 ?_
        refine g_aloado_n hC dL_law_710 0 rfl rfl ?_
        refine g_iload_n hC dL_law_711 3 rfl rfl ?_
        refine g_iconst hC dL_law_712 ok_3 ?_
        refine g_iadd hC dL_law_713 ?_
        obtain ⟨b9, h⟩ := of_ite h
        refine g_sld hC hX dL_law_714 b9 ?_
        obtain ⟨⟨r50, s50⟩, e50, h⟩ := of_bind h
        try dsimp only at h
        refine s_callVi hC dL_law_715 (tX10_later h2 e50) miX10_later mvX10_later mlRL_84 (isO_spec h2) vc_10 rfl rfl (Nat.le_of_ble_eq_true rfl) (Nat.le_of_ble_eq_true rfl) (Nat.le_of_ble_eq_true rfl) hcs ?_
        refine g_icmp_eq hC dL_law_718 (tgt := 1476) (by decide) (fun h9 => ?_) (fun h9 => ?_)
        · rw [if_pos h9] at h
          exact g_pick [0, 1, 2, 3] rfl (bL_law_1476 hC hcs h1 h2 hX ih hR _ _ h)
        · rw [if_neg h9] at h
          refine g_iconst hC dL_law_721 ok_0 ?_
          exact ret_z h hR (by decide) dL_law_722
      rw [if_neg h9] at h
      have n51 := h9
      clear h9
      by_cases h9 : (i_and (xs (Int.toNat x3)) 63) = 17
      · rw [if_pos h9] at h
        refine g_table hC dL_law_33 723 (Or.inr (by (try dsimp only); rw [h9]; exact ⟨by decide, by decide, 690, rfl, by decide⟩)) ?_
        refine g_aload_n hC dL_law_723 1 rfl rfl ?_
        refine g_aloado_n hC dL_law_724 0 rfl rfl ?_
        refine g_iload_n hC dL_law_725 3 rfl rfl ?_
        refine g_iconst hC dL_law_726 ok_1 ?_
        refine g_iadd hC dL_law_727 ?_
        obtain ⟨b9, h⟩ := of_ite h
        refine g_sld hC hX dL_law_728 b9 ?_
        obtain ⟨⟨r52, s52⟩, e52, h⟩ := of_bind h
        try dsimp only at h
        refine s_callVi hC dL_law_729 (tX9_missed h1 e52) miX9_missed mvX9_missed mlRL_85 (isO_spec h1) vc_9 rfl rfl (Nat.le_of_ble_eq_true rfl) (Nat.le_of_ble_eq_true rfl) (Nat.le_of_ble_eq_true rfl) hcs ?_
        refine g_aload_n hC dL_law_732 2 rfl rfl ?_
        refine g_aloado_n hC dL_law_733 0 rfl rfl ?_
        refine g_iload_n hC dL_law_734 3 rfl rfl ?_
        refine g_iconst hC dL_law_735 ok_1 ?_
        refine g_iadd hC dL_law_736 ?_
        obtain ⟨b9, h⟩ := of_ite h
        refine g_sld hC hX dL_law_737 b9 ?_
        obtain ⟨⟨r53, s53⟩, e53, h⟩ := of_bind h
        try dsimp only at h
        refine s_callVi hC dL_law_738 (tX10_missed h2 e53) miX10_missed mvX10_missed mlRL_88 (isO_spec h2) vc_10 rfl rfl (Nat.le_of_ble_eq_true rfl) (Nat.le_of_ble_eq_true rfl) (Nat.le_of_ble_eq_true rfl) hcs ?_
        refine g_icmp_eq hC dL_law_741 (tgt := 1476) (by decide) (fun h9 => ?_) (fun h9 => ?_)
        · rw [if_pos h9] at h
          exact g_pick [0, 1, 2, 3] rfl (bL_law_1476 hC hcs h1 h2 hX ih hR _ _ h)
        · rw [if_neg h9] at h
          refine g_iconst hC dL_law_744 ok_0 ?_
          exact ret_z h hR (by decide) dL_law_745
      rw [if_neg h9] at h
      have n54 := h9
      clear h9
      by_cases h9 : (i_and (xs (Int.toNat x3)) 63) = 18
      · rw [if_pos h9] at h
        refine g_table hC dL_law_33 746 (Or.inr (by (try dsimp only); rw [h9]; exact ⟨by decide, by decide, 713, rfl, by decide⟩)) ?_
        refine g_aload_n hC dL_law_746 1 rfl rfl ?_
        refine g_aloado_n hC dL_law_747 0 rfl rfl ?_
        refine g_iload_n hC dL_law_748 3 rfl rfl ?_
        refine g_iconst hC dL_law_749 ok_1 ?_
        refine g_iadd hC dL_law_750 ?_
        obtain ⟨b9, h⟩ := of_ite h
        refine g_sld hC hX dL_law_751 b9 ?_
        obtain ⟨⟨r55, s55⟩, e55, h⟩ := of_bind h
        try dsimp only at h
        refine s_callVi hC dL_law_752 (tX9_judge h1 e55) miX9_judge mvX9_judge mlRL_89 (isO_spec h1) vc_9 rfl rfl (Nat.le_of_ble_eq_true rfl) (Nat.le_of_ble_eq_true rfl) (Nat.le_of_ble_eq_true rfl) hcs ?_
        refine g_aload_n hC dL_law_755 2 rfl rfl ?_
        refine g_aloado_n hC dL_law_756 0 rfl rfl ?_
        refine g_iload_n hC dL_law_757 3 rfl rfl ?_
        refine g_iconst hC dL_law_758 ok_1 ?_
        refine g_iadd hC dL_law_759 ?_
        obtain ⟨b9, h⟩ := of_ite h
        refine g_sld hC hX dL_law_760 b9 ?_
        obtain ⟨⟨r56, s56⟩, e56, h⟩ := of_bind h
        try dsimp only at h
        refine s_callVi hC dL_law_761 (tX10_judge h2 e56) miX10_judge mvX10_judge mlRL_92 (isO_spec h2) vc_10 rfl rfl (Nat.le_of_ble_eq_true rfl) (Nat.le_of_ble_eq_true rfl) (Nat.le_of_ble_eq_true rfl) hcs ?_
        refine g_icmp_eq hC dL_law_764 (tgt := 1476) (by decide) (fun h9 => ?_) (fun h9 => ?_)
        · rw [if_pos h9] at h
          exact g_pick [0, 1, 2, 3] rfl (bL_law_1476 hC hcs h1 h2 hX ih hR _ _ h)
        · rw [if_neg h9] at h
          refine g_iconst hC dL_law_767 ok_0 ?_
          exact ret_z h hR (by decide) dL_law_768
      rw [if_neg h9] at h
      have n57 := h9
      clear h9
      by_cases h9 : (i_and (xs (Int.toNat x3)) 63) = 19
      · rw [if_pos h9] at h
        refine g_table hC dL_law_33 769 (Or.inr (by (try dsimp only); rw [h9]; exact ⟨by decide, by decide, 736, rfl, by decide⟩)) ?_
        refine g_aload_n hC dL_law_769 1 rfl rfl ?_
        refine g_aloado_n hC dL_law_770 0 rfl rfl ?_
        refine g_iload_n hC dL_law_771 3 rfl rfl ?_
        refine g_iconst hC dL_law_772 ok_1 ?_
        refine g_iadd hC dL_law_773 ?_
        obtain ⟨b9, h⟩ := of_ite h
        refine g_sld hC hX dL_law_774 b9 ?_
        refine g_aloado_n hC dL_law_775 0 rfl rfl ?_
        refine g_iload_n hC dL_law_776 3 rfl rfl ?_
        refine g_iconst hC dL_law_777 ok_2 ?_
        refine g_iadd hC dL_law_778 ?_
        obtain ⟨b9, h⟩ := of_ite h
        refine g_sld hC hX dL_law_779 b9 ?_
        refine g_aloado_n hC dL_law_780 0 rfl rfl ?_
        refine g_iload_n hC dL_law_781 3 rfl rfl ?_
        refine g_iconst hC dL_law_782 ok_3 ?_
        refine g_iadd hC dL_law_783 ?_
        obtain ⟨b9, h⟩ := of_ite h
        refine g_sld hC hX dL_law_784 b9 ?_
        obtain ⟨⟨r58, s58⟩, e58, h⟩ := of_bind h
        try dsimp only at h
        refine s_callVi hC dL_law_785 (tX9_fits h1 e58) miX9_fits mvX9_fits mlRL_93 (isO_spec h1) vc_9 rfl rfl (Nat.le_of_ble_eq_true rfl) (Nat.le_of_ble_eq_true rfl) (Nat.le_of_ble_eq_true rfl) hcs ?_
        refine g_aload_n hC dL_law_788 2 rfl rfl ?_
        refine g_aloado_n hC dL_law_789 0 rfl rfl ?_
        refine g_iload_n hC dL_law_790 3 rfl rfl ?_
        refine g_iconst hC dL_law_791 ok_1 ?_
        refine g_iadd hC dL_law_792 ?_
        obtain ⟨b9, h⟩ := of_ite h
        refine g_sld hC hX dL_law_793 b9 ?_
        refine g_aloado_n hC dL_law_794 0 rfl rfl ?_
        refine g_iload_n hC dL_law_795 3 rfl rfl ?_
        refine g_iconst hC dL_law_796 ok_2 ?_
        refine g_iadd hC dL_law_797 ?_
        obtain ⟨b9, h⟩ := of_ite h
        refine g_sld hC hX dL_law_798 b9 ?_
        refine g_aloado_n hC dL_law_799 0 rfl rfl ?_
        refine g_iload_n hC dL_law_800 3 rfl rfl ?_
        refine g_iconst hC dL_law_801 ok_3 ?_
        refine g_iadd hC dL_law_802 ?_
        obtain ⟨b9, h⟩ := of_ite h
        refine g_sld hC hX dL_law_803 b9 ?_
        obtain ⟨⟨r59, s59⟩, e59, h⟩ := of_bind h
        try dsimp only at h
        refine s_callVi hC dL_law_804 (tX10_fits h2 e59) miX10_fits mvX10_fits mlRL_96 (isO_spec h2) vc_10 rfl rfl (Nat.le_of_ble_eq_true rfl) (Nat.le_of_ble_eq_true rfl) (Nat.le_of_ble_eq_true rfl) hcs ?_
        refine g_icmp_eq hC dL_law_807 (tgt := 1476) (by decide) (fun h9 => ?_) (fun h9 => ?_)
        · rw [if_pos h9] at h
          exact g_pick [0, 1, 2, 3] rfl (bL_law_1476 hC hcs h1 h2 hX ih hR _ _ h)
        · rw [if_neg h9] at h
          refine g_iconst hC dL_law_810 ok_0 ?_
          exact ret_z h hR (by decide) dL_law_811
      rw [if_neg h9] at h
      have n60 := h9
      clear h9
      by_cases h9 : (i_and (xs (Int.toNat x3)) 63) = 20
      · rw [if_pos h9] at h
        refine g_table hC dL_law_33 812 (Or.inr (by (try dsimp only); rw [h9]; exact ⟨by decide, by decide, 779, rfl, by decide⟩)) ?_
        refine g_aload_n hC dL_law_812 1 rfl rfl ?_
        refine g_aloado_n hC dL_law_813 0 rfl rfl ?_
        refine g_iload_n hC dL_law_814 3 rfl rfl ?_
        refine g_iconst hC dL_law_815 ok_1 ?_
        refine g_iadd hC dL_law_816 ?_
        obtain ⟨b9, h⟩ := of_ite h
        refine g_sld hC hX dL_law_817 b9 ?_
        refine g_aloado_n hC dL_law_818 0 rfl rfl ?_
        refine g_iload_n hC dL_law_819 3 rfl rfl ?_
        refine g_iconst hC dL_law_820 ok_2 ?_
        refine g_iadd hC dL_law_821 ?_
        obtain ⟨b9, h⟩ := of_ite h
        refine g_sld hC hX dL_law_822 b9 ?_
        refine g_aloado_n hC dL_law_823 0 rfl rfl ?_
        refine g_iload_n hC dL_law_824 3 rfl rfl ?_
        refine g_iconst hC dL_law_825 ok_3 ?_
        refine g_iadd hC dL_law_826 ?_
        obtain ⟨b9, h⟩ := of_ite h
        refine g_sld hC hX dL_law_827 b9 ?_
        refine g_aloado_n hC dL_law_828 0 rfl rfl ?_
        refine g_iload_n hC dL_law_829 3 rfl rfl ?_
        refine g_iconst hC dL_law_830 ok_4 ?_
        refine g_iadd hC dL_law_831 ?_
        obtain ⟨b9, h⟩ := of_ite h
        refine g_sld hC hX dL_law_832 b9 ?_
        obtain ⟨⟨r61, s61⟩, e61, h⟩ := of_bind h
        try dsimp only at h
        refine s_callVi hC dL_law_833 (tX9_byTurns h1 e61) miX9_byTurns mvX9_byTurns mlRL_97 (isO_spec h1) vc_9 rfl rfl (Nat.le_of_ble_eq_true rfl) (Nat.le_of_ble_eq_true rfl) (Nat.le_of_ble_eq_true rfl) hcs ?_
        refine g_aload_n hC dL_law_836 2 rfl rfl ?_
        refine g_aloado_n hC dL_law_837 0 rfl rfl ?_
        refine g_iload_n hC dL_law_838 3 rfl rfl ?_
        refine g_iconst hC dL_law_839 ok_1 ?_
        refine g_iadd hC dL_law_840 ?_
        obtain ⟨b9, h⟩ := of_ite h
        refine g_sld hC hX dL_law_841 b9 ?_
        refine g_aloado_n hC dL_law_842 0 rfl rfl ?_
        refine g_iload_n hC dL_law_843 3 rfl rfl ?_
        refine g_iconst hC dL_law_844 ok_2 ?_
        refine g_iadd hC dL_law_845 ?_
        obtain ⟨b9, h⟩ := of_ite h
        refine g_sld hC hX dL_law_846 b9 ?_
        refine g_aloado_n hC dL_law_847 0 rfl rfl ?_
        refine g_iload_n hC dL_law_848 3 rfl rfl ?_
        refine g_iconst hC dL_law_849 ok_3 ?_
        refine g_iadd hC dL_law_850 ?_
        obtain ⟨b9, h⟩ := of_ite h
        refine g_sld hC hX dL_law_851 b9 ?_
        refine g_aloado_n hC dL_law_852 0 rfl rfl ?_
        refine g_iload_n hC dL_law_853 3 rfl rfl ?_
        refine g_iconst hC dL_law_854 ok_4 ?_
        refine g_iadd hC dL_law_855 ?_
        obtain ⟨b9, h⟩ := of_ite h
        refine g_sld hC hX dL_law_856 b9 ?_
        obtain ⟨⟨r62, s62⟩, e62, h⟩ := of_bind h
        try dsimp only at h
        refine s_callVi hC dL_law_857 (tX10_byTurns h2 e62) miX10_byTurns mvX10_byTurns mlRL_101 (isO_spec h2) vc_10 rfl rfl (Nat.le_of_ble_eq_true rfl) (Nat.le_of_ble_eq_true rfl) (Nat.le_of_ble_eq_true rfl) hcs ?_
        refine g_icmp_eq hC dL_law_860 (tgt := 1476) (by decide) (fun h9 => ?_) (fun h9 => ?_)
        · rw [if_pos h9] at h
          exact g_pick [0, 1, 2, 3] rfl (bL_law_1476 hC hcs h1 h2 hX ih hR _ _ h)
        · rw [if_neg h9] at h
          refine g_iconst hC dL_law_863 ok_0 ?_
          exact ret_z h hR (by decide) dL_law_864
      rw [if_neg h9] at h
      have n63 := h9
      clear h9
      by_cases h9 : (i_and (xs (Int.toNat x3)) 63) = 21
      · rw [if_pos h9] at h
        refine g_table hC dL_law_33 865 (Or.inr (by (try dsimp only); rw [h9]; exact ⟨by decide, by decide, 832, rfl, by decide⟩)) ?_
        refine g_aload_n hC dL_law_865 1 rfl rfl ?_
        refine g_aloado_n hC dL_law_866 0 rfl rfl ?_
        refine g_iload_n hC dL_law_867 3 rfl rfl ?_
        refine g_iconst hC dL_law_868 ok_1 ?_
        refine g_iadd hC dL_law_869 ?_
        obtain ⟨b9, h⟩ := of_ite h
        refine g_sld hC hX dL_law_870 b9 ?_
        refine g_aloado_n hC dL_law_871 0 rfl rfl ?_
        refine g_iload_n hC dL_law_872 3 rfl rfl ?_
        refine g_iconst hC dL_law_873 ok_2 ?_
        refine g_iadd hC dL_law_874 ?_
        obtain ⟨b9, h⟩ := of_ite h
        refine g_sld hC hX dL_law_875 b9 ?_
        refine g_aloado_n hC dL_law_876 0 rfl rfl ?_
        refine g_iload_n hC dL_law_877 3 rfl rfl ?_
        refine g_iconst hC dL_law_878 ok_3 ?_
        refine g_iadd hC dL_law_879 ?_
        obtain ⟨b9, h⟩ := of_ite h
        refine g_sld hC hX dL_law_880 b9 ?_
        refine g_aloado_n hC dL_law_881 0 rfl rfl ?_
        refine g_iload_n hC dL_law_882 3 rfl rfl ?_
        refine g_iconst hC dL_law_883 ok_4 ?_
        refine g_iadd hC dL_law_884 ?_
        obtain ⟨b9, h⟩ := of_ite h
        refine g_sld hC hX dL_law_885 b9 ?_
        obtain ⟨⟨r64, s64⟩, e64, h⟩ := of_bind h
        try dsimp only at h
        refine s_callVi hC dL_law_886 (tX9_drawn h1 e64) miX9_drawn mvX9_drawn mlRL_102 (isO_spec h1) vc_9 rfl rfl (Nat.le_of_ble_eq_true rfl) (Nat.le_of_ble_eq_true rfl) (Nat.le_of_ble_eq_true rfl) hcs ?_
        refine g_aload_n hC dL_law_889 2 rfl rfl ?_
        refine g_aloado_n hC dL_law_890 0 rfl rfl ?_
        refine g_iload_n hC dL_law_891 3 rfl rfl ?_
        refine g_iconst hC dL_law_892 ok_1 ?_
        refine g_iadd hC dL_law_893 ?_
        obtain ⟨b9, h⟩ := of_ite h
        refine g_sld hC hX dL_law_894 b9 ?_
        refine g_aloado_n hC dL_law_895 0 rfl rfl ?_
        refine g_iload_n hC dL_law_896 3 rfl rfl ?_
        refine g_iconst hC dL_law_897 ok_2 ?_
        refine g_iadd hC dL_law_898 ?_
        obtain ⟨b9, h⟩ := of_ite h
        refine g_sld hC hX dL_law_899 b9 ?_
        refine g_aloado_n hC dL_law_900 0 rfl rfl ?_
        refine g_iload_n hC dL_law_901 3 rfl rfl ?_
        refine g_iconst hC dL_law_902 ok_3 ?_
        refine g_iadd hC dL_law_903 ?_
        obtain ⟨b9, h⟩ := of_ite h
        refine g_sld hC hX dL_law_904 b9 ?_
        refine g_aloado_n hC dL_law_905 0 rfl rfl ?_
        refine g_iload_n hC dL_law_906 3 rfl rfl ?_
        refine g_iconst hC dL_law_907 ok_4 ?_
        refine g_iadd hC dL_law_908 ?_
        obtain ⟨b9, h⟩ := of_ite h
        refine g_sld hC hX dL_law_909 b9 ?_
        obtain ⟨⟨r65, s65⟩, e65, h⟩ := of_bind h
        try dsimp only at h
        refine s_callVi hC dL_law_910 (tX10_drawn h2 e65) miX10_drawn mvX10_drawn mlRL_105 (isO_spec h2) vc_10 rfl rfl (Nat.le_of_ble_eq_true rfl) (Nat.le_of_ble_eq_true rfl) (Nat.le_of_ble_eq_true rfl) hcs ?_
        refine g_icmp_eq hC dL_law_913 (tgt := 1476) (by decide) (fun h9 => ?_) (fun h9 => ?_)
        · rw [if_pos h9] at h
          exact g_pick [0, 1, 2, 3] rfl (bL_law_1476 hC hcs h1 h2 hX ih hR _ _ h)
        · rw [if_neg h9] at h
          refine g_iconst hC dL_law_916 ok_0 ?_
          exact ret_z h hR (by decide) dL_law_917
      rw [if_neg h9] at h
      have n66 := h9
      clear h9
      by_cases h9 : (i_and (xs (Int.toNat x3)) 63) = 22
      · rw [if_pos h9] at h
        refine g_table hC dL_law_33 918 (Or.inr (by (try dsimp only); rw [h9]; exact ⟨by decide, by decide, 885, rfl, by decide⟩)) ?_
        refine g_aload_n hC dL_law_918 1 rfl rfl ?_
        refine g_aloado_n hC dL_law_919 0 rfl rfl ?_
        refine g_iload_n hC dL_law_920 3 rfl rfl ?_
        refine g_iconst hC dL_law_921 ok_1 ?_
        refine g_iadd hC dL_law_922 ?_
        obtain ⟨b9, h⟩ := of_ite h
        refine g_sld hC hX dL_law_923 b9 ?_
        obtain ⟨⟨r67, s67⟩, e67, h⟩ := of_bind h
        try dsimp only at h
        refine s_callVi hC dL_law_924 (tX9_putUp h1 e67) miX9_putUp mvX9_putUp mlRL_106 (isO_spec h1) vc_9 rfl rfl (Nat.le_of_ble_eq_true rfl) (Nat.le_of_ble_eq_true rfl) (Nat.le_of_ble_eq_true rfl) hcs ?_
        refine g_aload_n hC dL_law_927 2 rfl rfl ?_
        refine g_aloado_n hC dL_law_928 0 rfl rfl ?_
        refine g_iload_n hC dL_law_929 3 rfl rfl ?_
        refine g_iconst hC dL_law_930 ok_1 ?_
        refine g_iadd hC dL_law_931 ?_
        obtain ⟨b9, h⟩ := of_ite h
        refine g_sld hC hX dL_law_932 b9 ?_
        obtain ⟨⟨r68, s68⟩, e68, h⟩ := of_bind h
        try dsimp only at h
        refine s_callVi hC dL_law_933 (tX10_putUp h2 e68) miX10_putUp mvX10_putUp mlRL_109 (isO_spec h2) vc_10 rfl rfl (Nat.le_of_ble_eq_true rfl) (Nat.le_of_ble_eq_true rfl) (Nat.le_of_ble_eq_true rfl) hcs ?_
        refine g_icmp_eq hC dL_law_936 (tgt := 1476) (by decide) (fun h9 => ?_) (fun h9 => ?_)
        · rw [if_pos h9] at h
          exact g_pick [0, 1, 2, 3] rfl (bL_law_1476 hC hcs h1 h2 hX ih hR _ _ h)
        · rw [if_neg h9] at h
          refine g_iconst hC dL_law_939 ok_0 ?_
          exact ret_z h hR (by decide) dL_law_940
      rw [if_neg h9] at h
      have n69 := h9
      clear h9
      by_cases h9 : (i_and (xs (Int.toNat x3)) 63) = 23
      · rw [if_pos h9] at h
        refine g_table hC dL_law_33 941 (Or.inr (by (try dsimp only); rw [h9]; exact ⟨by decide, by decide, 908, rfl, by decide⟩)) ?_
        refine g_aload_n hC dL_law_941 1 rfl rfl ?_
        refine g_aloado_n hC dL_law_942 0 rfl rfl ?_
        refine g_iload_n hC dL_law_943 3 rfl rfl ?_
        refine g_iconst hC dL_law_944 ok_1 ?_
        refine g_iadd hC dL_law_945 ?_
        obtain ⟨b9, h⟩ := of_ite h
        refine g_sld hC hX dL_law_946 b9 ?_
        obtain ⟨⟨r70, s70⟩, e70, h⟩ := of_bind h
        try dsimp only at h
        refine s_callVi hC dL_law_947 (tX9_loses h1 e70) miX9_loses mvX9_loses mlRL_110 (isO_spec h1) vc_9 rfl rfl (Nat.le_of_ble_eq_true rfl) (Nat.le_of_ble_eq_true rfl) (Nat.le_of_ble_eq_true rfl) hcs ?_
        refine g_aload_n hC dL_law_950 2 rfl rfl ?_
        refine g_aloado_n hC dL_law_951 0 rfl rfl ?_
        refine g_iload_n hC dL_law_952 3 rfl rfl ?_
        refine g_iconst hC dL_law_953 ok_1 ?_
        refine g_iadd hC dL_law_954 ?_
        obtain ⟨b9, h⟩ := of_ite h
        refine g_sld hC hX dL_law_955 b9 ?_
        obtain ⟨⟨r71, s71⟩, e71, h⟩ := of_bind h
        try dsimp only at h
        refine s_callVi hC dL_law_956 (tX10_loses h2 e71) miX10_loses mvX10_loses mlRL_113 (isO_spec h2) vc_10 rfl rfl (Nat.le_of_ble_eq_true rfl) (Nat.le_of_ble_eq_true rfl) (Nat.le_of_ble_eq_true rfl) hcs ?_
        refine g_icmp_eq hC dL_law_959 (tgt := 1476) (by decide) (fun h9 => ?_) (fun h9 => ?_)
        · rw [if_pos h9] at h
          exact g_pick [0, 1, 2, 3] rfl (bL_law_1476 hC hcs h1 h2 hX ih hR _ _ h)
        · rw [if_neg h9] at h
          refine g_iconst hC dL_law_962 ok_0 ?_
          exact ret_z h hR (by decide) dL_law_963
      rw [if_neg h9] at h
      have n72 := h9
      clear h9
      by_cases h9 : (i_and (xs (Int.toNat x3)) 63) = 24
      · rw [if_pos h9] at h
        refine g_table hC dL_law_33 964 (Or.inr (by (try dsimp only); rw [h9]; exact ⟨by decide, by decide, 931, rfl, by decide⟩)) ?_
        refine g_aload_n hC dL_law_964 1 rfl rfl ?_
        refine g_aloado_n hC dL_law_965 0 rfl rfl ?_
        refine g_iload_n hC dL_law_966 3 rfl rfl ?_
        refine g_iconst hC dL_law_967 ok_1 ?_
        refine g_iadd hC dL_law_968 ?_
        obtain ⟨b9, h⟩ := of_ite h
        refine g_sld hC hX dL_law_969 b9 ?_
        refine g_aloado_n hC dL_law_970 0 rfl rfl ?_
        refine g_iload_n hC dL_law_971 3 rfl rfl ?_
        refine g_iconst hC dL_law_972 ok_2 ?_
        refine g_iadd hC dL_law_973 ?_
        obtain ⟨b9, h⟩ := of_ite h
        refine g_sld hC hX dL_law_974 b9 ?_
        obtain ⟨⟨r73, s73⟩, e73, h⟩ := of_bind h
        try dsimp only at h
        refine s_callVi hC dL_law_975 (tX9_slip h1 e73) miX9_slip mvX9_slip mlRL_114 (isO_spec h1) vc_9 rfl rfl (Nat.le_of_ble_eq_true rfl) (Nat.le_of_ble_eq_true rfl) (Nat.le_of_ble_eq_true rfl) hcs ?_
        refine g_aload_n hC dL_law_978 2 rfl rfl ?_
        refine g_aloado_n hC dL_law_979 0 rfl rfl ?_
        refine g_iload_n hC dL_law_980 3 rfl rfl ?_
        refine g_iconst hC dL_law_981 ok_1 ?_
        refine g_iadd hC dL_law_982 ?_
        obtain ⟨b9, h⟩ := of_ite h
        refine g_sld hC hX dL_law_983 b9 ?_
        refine g_aloado_n hC dL_law_984 0 rfl rfl ?_
        refine g_iload_n hC dL_law_985 3 rfl rfl ?_
        refine g_iconst hC dL_law_986 ok_2 ?_
        refine g_iadd hC dL_law_987 ?_
        obtain ⟨b9, h⟩ := of_ite h
        refine g_sld hC hX dL_law_988 b9 ?_
        obtain ⟨⟨r74, s74⟩, e74, h⟩ := of_bind h
        try dsimp only at h
        refine s_callVi hC dL_law_989 (tX10_slip h2 e74) miX10_slip mvX10_slip mlRL_117 (isO_spec h2) vc_10 rfl rfl (Nat.le_of_ble_eq_true rfl) (Nat.le_of_ble_eq_true rfl) (Nat.le_of_ble_eq_true rfl) hcs ?_
        refine g_icmp_eq hC dL_law_992 (tgt := 1476) (by decide) (fun h9 => ?_) (fun h9 => ?_)
        · rw [if_pos h9] at h
          exact g_pick [0, 1, 2, 3] rfl (bL_law_1476 hC hcs h1 h2 hX ih hR _ _ h)
        · rw [if_neg h9] at h
          refine g_iconst hC dL_law_995 ok_0 ?_
          exact ret_z h hR (by decide) dL_law_996
      rw [if_neg h9] at h
      have n75 := h9
      clear h9
      by_cases h9 : (i_and (xs (Int.toNat x3)) 63) = 25
      · rw [if_pos h9] at h
        refine g_table hC dL_law_33 997 (Or.inr (by (try dsimp only); rw [h9]; exact ⟨by decide, by decide, 964, rfl, by decide⟩)) ?_
        refine g_aload_n hC dL_law_997 1 rfl rfl ?_
        obtain ⟨⟨r76, s76⟩, e76, h⟩ := of_bind h
        try dsimp only at h
        refine s_callVi hC dL_law_998 (tX9_year h1 e76) miX9_year mvX9_year mlRL_118 (isO_spec h1) vc_9 rfl rfl (Nat.le_of_ble_eq_true rfl) (Nat.le_of_ble_eq_true rfl) (Nat.le_of_ble_eq_true rfl) hcs ?_
        refine g_aload_n hC dL_law_1001 2 rfl rfl ?_
        obtain ⟨⟨r77, s77⟩, e77, h⟩ := of_bind h
        try dsimp only at h
        refine s_callVi hC dL_law_1002 (tX10_year h2 e77) miX10_year mvX10_year mlRL_121 (isO_spec h2) vc_10 rfl rfl (Nat.le_of_ble_eq_true rfl) (Nat.le_of_ble_eq_true rfl) (Nat.le_of_ble_eq_true rfl) hcs ?_
        refine g_icmp_eq hC dL_law_1005 (tgt := 1476) (by decide) (fun h9 => ?_) (fun h9 => ?_)
        · rw [if_pos h9] at h
          exact g_pick [0, 1, 2, 3] rfl (bL_law_1476 hC hcs h1 h2 hX ih hR _ _ h)
        · rw [if_neg h9] at h
          refine g_iconst hC dL_law_1008 ok_0 ?_
          exact ret_z h hR (by decide) dL_law_1009
      rw [if_neg h9] at h
      have n78 := h9
      clear h9
      by_cases h9 : (i_and (xs (Int.toNat x3)) 63) = 26
      · rw [if_pos h9] at h
        refine g_table hC dL_law_33 1010 (Or.inr (by (try dsimp only); rw [h9]; exact ⟨by decide, by decide, 977, rfl, by decide⟩)) ?_
        refine g_aload_n hC dL_law_1010 1 rfl rfl ?_
        refine g_aloado_n hC dL_law_1011 0 rfl rfl ?_
        refine g_iload_n hC dL_law_1012 3 rfl rfl ?_
        refine g_iconst hC dL_law_1013 ok_1 ?_
        refine g_iadd hC dL_law_1014 ?_
        obtain ⟨b9, h⟩ := of_ite h
        refine g_sld hC hX dL_law_1015 b9 ?_
        obtain ⟨⟨r79, s79⟩, e79, h⟩ := of_bind h
        try dsimp only at h
        refine s_callVi hC dL_law_1016 (tX9_led h1 e79) miX9_led mvX9_led mlRL_122 (isO_spec h1) vc_9 rfl rfl (Nat.le_of_ble_eq_true rfl) (Nat.le_of_ble_eq_true rfl) (Nat.le_of_ble_eq_true rfl) hcs ?_
        refine g_aload_n hC dL_law_1019 2 rfl rfl ?_
        refine g_aloado_n hC dL_law_1020 0 rfl rfl ?_
        refine g_iload_n hC dL_law_1021 3 rfl rfl ?_
        refine g_iconst hC dL_law_1022 ok_1 ?_
        refine g_iadd hC dL_law_1023 ?_
        obtain ⟨b9, h⟩ := of_ite h
        refine g_sld hC hX dL_law_1024 b9 ?_
        obtain ⟨⟨r80, s80⟩, e80, h⟩ := of_bind h
        try dsimp only at h
        refine s_callVi hC dL_law_1025 (tX10_led h2 e80) miX10_led mvX10_led mlRL_125 (isO_spec h2) vc_10 rfl rfl (Nat.le_of_ble_eq_true rfl) (Nat.le_of_ble_eq_true rfl) (Nat.le_of_ble_eq_true rfl) hcs ?_
        refine g_icmp_eq hC dL_law_1028 (tgt := 1476) (by decide) (fun h9 => ?_) (fun h9 => ?_)
        · rw [if_pos h9] at h
          exact g_pick [0, 1, 2, 3] rfl (bL_law_1476 hC hcs h1 h2 hX ih hR _ _ h)
        · rw [if_neg h9] at h
          refine g_iconst hC dL_law_1031 ok_0 ?_
          exact ret_z h hR (by decide) dL_law_1032
      rw [if_neg h9] at h
      have n81 := h9
      clear h9
      by_cases h9 : (i_and (xs (Int.toNat x3)) 63) = 27
      · rw [if_pos h9] at h
        refine g_table hC dL_law_33 1033 (Or.inr (by (try dsimp only); rw [h9]; exact ⟨by decide, by decide, 1000, rfl, by decide⟩)) ?_
        refine g_aload_n hC dL_law_1033 1 rfl rfl ?_
        obtain ⟨⟨r82, s82⟩, e82, h⟩ := of_bind h
        try dsimp only at h
        refine s_callVi hC dL_law_1034 (tX9_image h1 e82) miX9_image mvX9_image mlRL_126 (isO_spec h1) vc_9 rfl rfl (Nat.le_of_ble_eq_true rfl) (Nat.le_of_ble_eq_true rfl) (Nat.le_of_ble_eq_true rfl) hcs ?_
        refine g_aload_n hC dL_law_1037 2 rfl rfl ?_
        obtain ⟨⟨r83, s83⟩, e83, h⟩ := of_bind h
        try dsimp only at h
        refine s_callVi hC dL_law_1038 (tX10_image h2 e83) miX10_image mvX10_image mlRL_129 (isO_spec h2) vc_10 rfl rfl (Nat.le_of_ble_eq_true rfl) (Nat.le_of_ble_eq_true rfl) (Nat.le_of_ble_eq_true rfl) hcs ?_
        refine g_icmp_eq hC dL_law_1041 (tgt := 1476) (by decide) (fun h9 => ?_) (fun h9 => ?_)
        · rw [if_pos h9] at h
          exact g_pick [0, 1, 2, 3] rfl (bL_law_1476 hC hcs h1 h2 hX ih hR _ _ h)
        · rw [if_neg h9] at h
          refine g_iconst hC dL_law_1044 ok_0 ?_
          exact ret_z h hR (by decide) dL_law_1045
      rw [if_neg h9] at h
      have n84 := h9
      clear h9
      by_cases h9 : (i_and (xs (Int.toNat x3)) 63) = 28
      · rw [if_pos h9] at h
        refine g_table hC dL_law_33 1046 (Or.inr (by (try dsimp only); rw [h9]; exact ⟨by decide, by decide, 1013, rfl, by decide⟩)) ?_
        refine g_aload_n hC dL_law_1046 1 rfl rfl ?_
        obtain ⟨⟨r85, s85⟩, e85, h⟩ := of_bind h
        try dsimp only at h
        refine s_callVi hC dL_law_1047 (tX9_back h1 e85) miX9_back mvX9_back mlRL_130 (isO_spec h1) vc_9 rfl rfl (Nat.le_of_ble_eq_true rfl) (Nat.le_of_ble_eq_true rfl) (Nat.le_of_ble_eq_true rfl) hcs ?_
        refine g_aload_n hC dL_law_1050 2 rfl rfl ?_
        obtain ⟨⟨r86, s86⟩, e86, h⟩ := of_bind h
        try dsimp only at h
        refine s_callVi hC dL_law_1051 (tX10_back h2 e86) miX10_back mvX10_back mlRL_133 (isO_spec h2) vc_10 rfl rfl (Nat.le_of_ble_eq_true rfl) (Nat.le_of_ble_eq_true rfl) (Nat.le_of_ble_eq_true rfl) hcs ?_
        refine g_icmp_eq hC dL_law_1054 (tgt := 1476) (by decide) (fun h9 => ?_) (fun h9 => ?_)
        · rw [if_pos h9] at h
          exact g_pick [0, 1, 2, 3] rfl (bL_law_1476 hC hcs h1 h2 hX ih hR _ _ h)
        · rw [if_neg h9] at h
          refine g_iconst hC dL_law_1057 ok_0 ?_
          exact ret_z h hR (by decide) dL_law_1058
      rw [if_neg h9] at h
      have n87 := h9
      clear h9
      by_cases h9 : (i_and (xs (Int.toNat x3)) 63) = 29
      · rw [if_pos h9] at h
        refine g_table hC dL_law_33 1059 (Or.inr (by (try dsimp only); rw [h9]; exact ⟨by decide, by decide, 1026, rfl, by decide⟩)) ?_
        refine g_aload_n hC dL_law_1059 1 rfl rfl ?_
        obtain ⟨⟨r88, s88⟩, e88, h⟩ := of_bind h
        try dsimp only at h
        refine s_callVi hC dL_law_1060 (tX9_undo h1 e88) miX9_undo mvX9_undo mlRL_134 (isO_spec h1) vc_9 rfl rfl (Nat.le_of_ble_eq_true rfl) (Nat.le_of_ble_eq_true rfl) (Nat.le_of_ble_eq_true rfl) hcs ?_
        refine g_aload_n hC dL_law_1063 2 rfl rfl ?_
        obtain ⟨⟨r89, s89⟩, e89, h⟩ := of_bind h
        try dsimp only at h
        refine s_callVi hC dL_law_1064 (tX10_undo h2 e89) miX10_undo mvX10_undo mlRL_137 (isO_spec h2) vc_10 rfl rfl (Nat.le_of_ble_eq_true rfl) (Nat.le_of_ble_eq_true rfl) (Nat.le_of_ble_eq_true rfl) hcs ?_
        refine g_icmp_eq hC dL_law_1067 (tgt := 1476) (by decide) (fun h9 => ?_) (fun h9 => ?_)
        · rw [if_pos h9] at h
          exact g_pick [0, 1, 2, 3] rfl (bL_law_1476 hC hcs h1 h2 hX ih hR _ _ h)
        · rw [if_neg h9] at h
          refine g_iconst hC dL_law_1070 ok_0 ?_
          exact ret_z h hR (by decide) dL_law_1071
      rw [if_neg h9] at h
      have n90 := h9
      clear h9
      by_cases h9 : (i_and (xs (Int.toNat x3)) 63) = 30
      · rw [if_pos h9] at h
        refine g_table hC dL_law_33 1072 (Or.inr (by (try dsimp only); rw [h9]; exact ⟨by decide, by decide, 1039, rfl, by decide⟩)) ?_
        refine g_aload_n hC dL_law_1072 1 rfl rfl ?_
        obtain ⟨⟨r91, s91⟩, e91, h⟩ := of_bind h
        try dsimp only at h
        refine s_callVi hC dL_law_1073 (tX9_redo h1 e91) miX9_redo mvX9_redo mlRL_138 (isO_spec h1) vc_9 rfl rfl (Nat.le_of_ble_eq_true rfl) (Nat.le_of_ble_eq_true rfl) (Nat.le_of_ble_eq_true rfl) hcs ?_
        refine g_aload_n hC dL_law_1076 2 rfl rfl ?_
        obtain ⟨⟨r92, s92⟩, e92, h⟩ := of_bind h
        try dsimp only at h
        refine s_callVi hC dL_law_1077 (tX10_redo h2 e92) miX10_redo mvX10_redo mlRL_141 (isO_spec h2) vc_10 rfl rfl (Nat.le_of_ble_eq_true rfl) (Nat.le_of_ble_eq_true rfl) (Nat.le_of_ble_eq_true rfl) hcs ?_
        refine g_icmp_eq hC dL_law_1080 (tgt := 1476) (by decide) (fun h9 => ?_) (fun h9 => ?_)
        · rw [if_pos h9] at h
          exact g_pick [0, 1, 2, 3] rfl (bL_law_1476 hC hcs h1 h2 hX ih hR _ _ h)
        · rw [if_neg h9] at h
          refine g_iconst hC dL_law_1083 ok_0 ?_
          exact ret_z h hR (by decide) dL_law_1084
      rw [if_neg h9] at h
      have n93 := h9
      clear h9
      by_cases h9 : (i_and (xs (Int.toNat x3)) 63) = 31
      · rw [if_pos h9] at h
        refine g_table hC dL_law_33 1085 (Or.inr (by (try dsimp only); rw [h9]; exact ⟨by decide, by decide, 1052, rfl, by decide⟩)) ?_
        refine g_aload_n hC dL_law_1085 1 rfl rfl ?_
        refine g_aloado_n hC dL_law_1086 0 rfl rfl ?_
        refine g_iload_n hC dL_law_1087 3 rfl rfl ?_
        refine g_iconst hC dL_law_1088 ok_1 ?_
        refine g_iadd hC dL_law_1089 ?_
        obtain ⟨b9, h⟩ := of_ite h
        refine g_sld hC hX dL_law_1090 b9 ?_
        obtain ⟨⟨r94, s94⟩, e94, h⟩ := of_bind h
        try dsimp only at h
        refine s_callVi hC dL_law_1091 (tX9_body h1 e94) miX9_body mvX9_body mlRL_142 (isO_spec h1) vc_9 rfl rfl (Nat.le_of_ble_eq_true rfl) (Nat.le_of_ble_eq_true rfl) (Nat.le_of_ble_eq_true rfl) hcs ?_
        refine g_aload_n hC dL_law_1094 2 rfl rfl ?_
        refine g_aloado_n hC dL_law_1095 0 rfl rfl ?_
        refine g_iload_n hC dL_law_1096 3 rfl rfl ?_
        refine g_iconst hC dL_law_1097 ok_1 ?_
        refine g_iadd hC dL_law_1098 ?_
        obtain ⟨b9, h⟩ := of_ite h
        refine g_sld hC hX dL_law_1099 b9 ?_
        obtain ⟨⟨r95, s95⟩, e95, h⟩ := of_bind h
        try dsimp only at h
        refine s_callVi hC dL_law_1100 (tX10_body h2 e95) miX10_body mvX10_body mlRL_145 (isO_spec h2) vc_10 rfl rfl (Nat.le_of_ble_eq_true rfl) (Nat.le_of_ble_eq_true rfl) (Nat.le_of_ble_eq_true rfl) hcs ?_
        refine g_icmp_eq hC dL_law_1103 (tgt := 1476) (by decide) (fun h9 => ?_) (fun h9 => ?_)
        · rw [if_pos h9] at h
          exact g_pick [0, 1, 2, 3] rfl (bL_law_1476 hC hcs h1 h2 hX ih hR _ _ h)
        · rw [if_neg h9] at h
          refine g_iconst hC dL_law_1106 ok_0 ?_
          exact ret_z h hR (by decide) dL_law_1107
      rw [if_neg h9] at h
      have n96 := h9
      clear h9
      by_cases h9 : (i_and (xs (Int.toNat x3)) 63) = 32
      · rw [if_pos h9] at h
        refine g_table hC dL_law_33 1108 (Or.inr (by (try dsimp only); rw [h9]; exact ⟨by decide, by decide, 1075, rfl, by decide⟩)) ?_
        refine g_aload_n hC dL_law_1108 1 rfl rfl ?_
        refine g_aloado_n hC dL_law_1109 0 rfl rfl ?_
        refine g_iload_n hC dL_law_1110 3 rfl rfl ?_
        refine g_iconst hC dL_law_1111 ok_1 ?_
        refine g_iadd hC dL_law_1112 ?_
        obtain ⟨b9, h⟩ := of_ite h
        refine g_sld hC hX dL_law_1113 b9 ?_
        refine g_aloado_n hC dL_law_1114 0 rfl rfl ?_
        refine g_iload_n hC dL_law_1115 3 rfl rfl ?_
        refine g_iconst hC dL_law_1116 ok_2 ?_
        refine g_iadd hC dL_law_1117 ?_
        obtain ⟨b9, h⟩ := of_ite h
        refine g_sld hC hX dL_law_1118 b9 ?_
        refine g_aloado_n hC dL_law_1119 0 rfl rfl ?_
        refine g_iload_n hC dL_law_1120 3 rfl rfl ?_
        refine g_iconst hC dL_law_1121 ok_3 ?_
        refine g_iadd hC dL_law_1122 ?_
        obtain ⟨b9, h⟩ := of_ite h
        refine g_sld hC hX dL_law_1123 b9 ?_
        obtain ⟨⟨r97, s97⟩, e97, h⟩ := of_bind h
        try dsimp only at h
        refine s_callVi hC dL_law_1124 (tX9_act h1 e97) miX9_act mvX9_act mlRL_146 (isO_spec h1) vc_9 rfl rfl (Nat.le_of_ble_eq_true rfl) (Nat.le_of_ble_eq_true rfl) (Nat.le_of_ble_eq_true rfl) hcs ?_
        refine g_aload_n hC dL_law_1127 2 rfl rfl ?_
        refine g_aloado_n hC dL_law_1128 0 rfl rfl ?_
        refine g_iload_n hC dL_law_1129 3 rfl rfl ?_
        refine g_iconst hC dL_law_1130 ok_1 ?_
        refine g_iadd hC dL_law_1131 ?_
        obtain ⟨b9, h⟩ := of_ite h
        refine g_sld hC hX dL_law_1132 b9 ?_
        refine g_aloado_n hC dL_law_1133 0 rfl rfl ?_
        refine g_iload_n hC dL_law_1134 3 rfl rfl ?_
        refine g_iconst hC dL_law_1135 ok_2 ?_
        refine g_iadd hC dL_law_1136 ?_
        obtain ⟨b9, h⟩ := of_ite h
        refine g_sld hC hX dL_law_1137 b9 ?_
        refine g_aloado_n hC dL_law_1138 0 rfl rfl ?_
        refine g_iload_n hC dL_law_1139 3 rfl rfl ?_
        refine g_iconst hC dL_law_1140 ok_3 ?_
        refine g_iadd hC dL_law_1141 ?_
        obtain ⟨b9, h⟩ := of_ite h
        refine g_sld hC hX dL_law_1142 b9 ?_
        obtain ⟨⟨r98, s98⟩, e98, h⟩ := of_bind h
        try dsimp only at h
        refine s_callVi hC dL_law_1143 (tX10_act h2 e98) miX10_act mvX10_act mlRL_149 (isO_spec h2) vc_10 rfl rfl (Nat.le_of_ble_eq_true rfl) (Nat.le_of_ble_eq_true rfl) (Nat.le_of_ble_eq_true rfl) hcs ?_
        refine g_icmp_eq hC dL_law_1146 (tgt := 1476) (by decide) (fun h9 => ?_) (fun h9 => ?_)
        · rw [if_pos h9] at h
          exact g_pick [0, 1, 2, 3] rfl (bL_law_1476 hC hcs h1 h2 hX ih hR _ _ h)
        · rw [if_neg h9] at h
          refine g_iconst hC dL_law_1149 ok_0 ?_
          exact ret_z h hR (by decide) dL_law_1150
      rw [if_neg h9] at h
      have n99 := h9
      clear h9
      by_cases h9 : (i_and (xs (Int.toNat x3)) 63) = 33
      · rw [if_pos h9] at h
        refine g_table hC dL_law_33 1151 (Or.inr (by (try dsimp only); rw [h9]; exact ⟨by decide, by decide, 1118, rfl, by decide⟩)) ?_
        refine g_aload_n hC dL_law_1151 1 rfl rfl ?_
        refine g_aloado_n hC dL_law_1152 0 rfl rfl ?_
        refine g_iload_n hC dL_law_1153 3 rfl rfl ?_
        refine g_iconst hC dL_law_1154 ok_1 ?_
        refine g_iadd hC dL_law_1155 ?_
        obtain ⟨b9, h⟩ := of_ite h
        refine g_sld hC hX dL_law_1156 b9 ?_
        obtain ⟨⟨r100, s100⟩, e100, h⟩ := of_bind h
        try dsimp only at h
        refine s_callVi hC dL_law_1157 (tX9_trace h1 e100) miX9_trace mvX9_trace mlRL_150 (isO_spec h1) vc_9 rfl rfl (Nat.le_of_ble_eq_true rfl) (Nat.le_of_ble_eq_true rfl) (Nat.le_of_ble_eq_true rfl) hcs ?_
        refine g_aload_n hC dL_law_1160 2 rfl rfl ?_
        refine g_aloado_n hC dL_law_1161 0 rfl rfl ?_
        refine g_iload_n hC dL_law_1162 3 rfl rfl ?_
        refine g_iconst hC dL_law_1163 ok_1 ?_
        refine g_iadd hC dL_law_1164 ?_
        obtain ⟨b9, h⟩ := of_ite h
        refine g_sld hC hX dL_law_1165 b9 ?_
        obtain ⟨⟨r101, s101⟩, e101, h⟩ := of_bind h
        try dsimp only at h
        refine s_callVi hC dL_law_1166 (tX10_trace h2 e101) miX10_trace mvX10_trace mlRL_153 (isO_spec h2) vc_10 rfl rfl (Nat.le_of_ble_eq_true rfl) (Nat.le_of_ble_eq_true rfl) (Nat.le_of_ble_eq_true rfl) hcs ?_
        refine g_icmp_eq hC dL_law_1169 (tgt := 1476) (by decide) (fun h9 => ?_) (fun h9 => ?_)
        · rw [if_pos h9] at h
          exact g_pick [0, 1, 2, 3] rfl (bL_law_1476 hC hcs h1 h2 hX ih hR _ _ h)
        · rw [if_neg h9] at h
          refine g_iconst hC dL_law_1172 ok_0 ?_
          exact ret_z h hR (by decide) dL_law_1173
      rw [if_neg h9] at h
      have n102 := h9
      clear h9
      by_cases h9 : (i_and (xs (Int.toNat x3)) 63) = 34
      · rw [if_pos h9] at h
        refine g_table hC dL_law_33 1174 (Or.inr (by (try dsimp only); rw [h9]; exact ⟨by decide, by decide, 1141, rfl, by decide⟩)) ?_
        refine g_aload_n hC dL_law_1174 1 rfl rfl ?_
        refine g_aloado_n hC dL_law_1175 0 rfl rfl ?_
        refine g_iload_n hC dL_law_1176 3 rfl rfl ?_
        refine g_iconst hC dL_law_1177 ok_1 ?_
        refine g_iadd hC dL_law_1178 ?_
        obtain ⟨b9, h⟩ := of_ite h
        refine g_sld hC hX dL_law_1179 b9 ?_
        refine g_aloado_n hC dL_law_1180 0 rfl rfl ?_
        refine g_iload_n hC dL_law_1181 3 rfl rfl ?_
        refine g_iconst hC dL_law_1182 ok_2 ?_
        refine g_iadd hC dL_law_1183 ?_
        obtain ⟨b9, h⟩ := of_ite h
        refine g_sld hC hX dL_law_1184 b9 ?_
        obtain ⟨⟨r103, s103⟩, e103, h⟩ := of_bind h
        try dsimp only at h
        refine s_callVi hC dL_law_1185 (tX9_keep h1 e103) miX9_keep mvX9_keep mlRL_154 (isO_spec h1) vc_9 rfl rfl (Nat.le_of_ble_eq_true rfl) (Nat.le_of_ble_eq_true rfl) (Nat.le_of_ble_eq_true rfl) hcs ?_
        refine g_aload_n hC dL_law_1188 2 rfl rfl ?_
        refine g_aloado_n hC dL_law_1189 0 rfl rfl ?_
        refine g_iload_n hC dL_law_1190 3 rfl rfl ?_
        refine g_iconst hC dL_law_1191 ok_1 ?_
        refine g_iadd hC dL_law_1192 ?_
        obtain ⟨b9, h⟩ := of_ite h
        refine g_sld hC hX dL_law_1193 b9 ?_
        refine g_aloado_n hC dL_law_1194 0 rfl rfl ?_
        refine g_iload_n hC dL_law_1195 3 rfl rfl ?_
        refine g_iconst hC dL_law_1196 ok_2 ?_
        refine g_iadd hC dL_law_1197 ?_
        obtain ⟨b9, h⟩ := of_ite h
        refine g_sld hC hX dL_law_1198 b9 ?_
        obtain ⟨⟨r104, s104⟩, e104, h⟩ := of_bind h
        try dsimp only at h
        refine s_callVi hC dL_law_1199 (tX10_keep h2 e104) miX10_keep mvX10_keep mlRL_157 (isO_spec h2) vc_10 rfl rfl (Nat.le_of_ble_eq_true rfl) (Nat.le_of_ble_eq_true rfl) (Nat.le_of_ble_eq_true rfl) hcs ?_
        refine g_icmp_eq hC dL_law_1202 (tgt := 1476) (by decide) (fun h9 => ?_) (fun h9 => ?_)
        · rw [if_pos h9] at h
          exact g_pick [0, 1, 2, 3] rfl (bL_law_1476 hC hcs h1 h2 hX ih hR _ _ h)
        · rw [if_neg h9] at h
          refine g_iconst hC dL_law_1205 ok_0 ?_
          exact ret_z h hR (by decide) dL_law_1206
      rw [if_neg h9] at h
      have n105 := h9
      clear h9
      by_cases h9 : (i_and (xs (Int.toNat x3)) 63) = 35
      · rw [if_pos h9] at h
        refine g_table hC dL_law_33 1207 (Or.inr (by (try dsimp only); rw [h9]; exact ⟨by decide, by decide, 1174, rfl, by decide⟩)) ?_
        refine g_aload_n hC dL_law_1207 1 rfl rfl ?_
        refine g_aloado_n hC dL_law_1208 0 rfl rfl ?_
        refine g_iload_n hC dL_law_1209 3 rfl rfl ?_
        refine g_iconst hC dL_law_1210 ok_1 ?_
        refine g_iadd hC dL_law_1211 ?_
        obtain ⟨b9, h⟩ := of_ite h
        refine g_sld hC hX dL_law_1212 b9 ?_
        refine g_aloado_n hC dL_law_1213 0 rfl rfl ?_
        refine g_iload_n hC dL_law_1214 3 rfl rfl ?_
        refine g_iconst hC dL_law_1215 ok_2 ?_
        refine g_iadd hC dL_law_1216 ?_
        obtain ⟨b9, h⟩ := of_ite h
        refine g_sld hC hX dL_law_1217 b9 ?_
        refine g_aloado_n hC dL_law_1218 0 rfl rfl ?_
        refine g_iload_n hC dL_law_1219 3 rfl rfl ?_
        refine g_iconst hC dL_law_1220 ok_3 ?_
        refine g_iadd hC dL_law_1221 ?_
        obtain ⟨b9, h⟩ := of_ite h
        refine g_sld hC hX dL_law_1222 b9 ?_
        obtain ⟨⟨r106, s106⟩, e106, h⟩ := of_bind h
        try dsimp only at h
        refine s_callVi hC dL_law_1223 (tX9_row h1 e106) miX9_row mvX9_row mlRL_158 (isO_spec h1) vc_9 rfl rfl (Nat.le_of_ble_eq_true rfl) (Nat.le_of_ble_eq_true rfl) (Nat.le_of_ble_eq_true rfl) hcs ?_
        refine g_aload_n hC dL_law_1226 2 rfl rfl ?_
        refine g_aloado_n hC dL_law_1227 0 rfl rfl ?_
        refine g_iload_n hC dL_law_1228 3 rfl rfl ?_
        refine g_iconst hC dL_law_1229 ok_1 ?_
        refine g_iadd hC dL_law_1230 ?_
        obtain ⟨b9, h⟩ := of_ite h
        refine g_sld hC hX dL_law_1231 b9 ?_
        refine g_aloado_n hC dL_law_1232 0 rfl rfl ?_
        refine g_iload_n hC dL_law_1233 3 rfl rfl ?_
        refine g_iconst hC dL_law_1234 ok_2 ?_
        refine g_iadd hC dL_law_1235 ?_
        obtain ⟨b9, h⟩ := of_ite h
        refine g_sld hC hX dL_law_1236 b9 ?_
        refine g_aloado_n hC dL_law_1237 0 rfl rfl ?_
        refine g_iload_n hC dL_law_1238 3 rfl rfl ?_
        refine g_iconst hC dL_law_1239 ok_3 ?_
        refine g_iadd hC dL_law_1240 ?_
        obtain ⟨b9, h⟩ := of_ite h
        refine g_sld hC hX dL_law_1241 b9 ?_
        obtain ⟨⟨r107, s107⟩, e107, h⟩ := of_bind h
        try dsimp only at h
        refine s_callVi hC dL_law_1242 (tX10_row h2 e107) miX10_row mvX10_row mlRL_161 (isO_spec h2) vc_10 rfl rfl (Nat.le_of_ble_eq_true rfl) (Nat.le_of_ble_eq_true rfl) (Nat.le_of_ble_eq_true rfl) hcs ?_
        refine g_icmp_eq hC dL_law_1245 (tgt := 1476) (by decide) (fun h9 => ?_) (fun h9 => ?_)
        · rw [if_pos h9] at h
          exact g_pick [0, 1, 2, 3] rfl (bL_law_1476 hC hcs h1 h2 hX ih hR _ _ h)
        · rw [if_neg h9] at h
          refine g_iconst hC dL_law_1248 ok_0 ?_
          exact ret_z h hR (by decide) dL_law_1249
      rw [if_neg h9] at h
      have n108 := h9
      clear h9
      by_cases h9 : (i_and (xs (Int.toNat x3)) 63) = 36
      · rw [if_pos h9] at h
        refine g_table hC dL_law_33 1250 (Or.inr (by (try dsimp only); rw [h9]; exact ⟨by decide, by decide, 1217, rfl, by decide⟩)) ?_
        refine g_aload_n hC dL_law_1250 1 rfl rfl ?_
        refine g_aloado_n hC dL_law_1251 0 rfl rfl ?_
        refine g_iload_n hC dL_law_1252 3 rfl rfl ?_
        refine g_iconst hC dL_law_1253 ok_1 ?_
        refine g_iadd hC dL_law_1254 ?_
        obtain ⟨b9, h⟩ := of_ite h
        refine g_sld hC hX dL_law_1255 b9 ?_
        refine g_aloado_n hC dL_law_1256 0 rfl rfl ?_
        refine g_iload_n hC dL_law_1257 3 rfl rfl ?_
        refine g_iconst hC dL_law_1258 ok_2 ?_
        refine g_iadd hC dL_law_1259 ?_
        obtain ⟨b9, h⟩ := of_ite h
        refine g_sld hC hX dL_law_1260 b9 ?_
        refine g_aloado_n hC dL_law_1261 0 rfl rfl ?_
        refine g_iload_n hC dL_law_1262 3 rfl rfl ?_
        refine g_iconst hC dL_law_1263 ok_3 ?_
        refine g_iadd hC dL_law_1264 ?_
        obtain ⟨b9, h⟩ := of_ite h
        refine g_sld hC hX dL_law_1265 b9 ?_
        refine g_i2l hC dL_law_1266 ?_
        refine g_bipush hC dL_law_1267 bp_32 ?_
        refine g_lshl hC dL_law_1269 ?_
        refine g_aloado_n hC dL_law_1270 0 rfl rfl ?_
        refine g_iload_n hC dL_law_1271 3 rfl rfl ?_
        refine g_iconst hC dL_law_1272 ok_4 ?_
        refine g_iadd hC dL_law_1273 ?_
        obtain ⟨b9, h⟩ := of_ite h
        refine g_sld hC hX dL_law_1274 b9 ?_
        refine g_i2l hC dL_law_1275 ?_
        refine g_ldc2 hC dL_law_1276 kRL_162 ?_
        refine g_land hC dL_law_1279 ?_
        refine g_lor hC dL_law_1280 ?_
        obtain ⟨⟨r109, s109⟩, e109, h⟩ := of_bind h
        try dsimp only at h
        refine s_callVi hC dL_law_1281 (tX9_put h1 e109) miX9_put mvX9_put mlRL_164 (isO_spec h1) vc_9 rfl rfl (Nat.le_of_ble_eq_true rfl) (Nat.le_of_ble_eq_true rfl) (Nat.le_of_ble_eq_true rfl) hcs ?_
        refine g_aload_n hC dL_law_1284 2 rfl rfl ?_
        refine g_aloado_n hC dL_law_1285 0 rfl rfl ?_
        refine g_iload_n hC dL_law_1286 3 rfl rfl ?_
        refine g_iconst hC dL_law_1287 ok_1 ?_
        refine g_iadd hC dL_law_1288 ?_
        obtain ⟨b9, h⟩ := of_ite h
        refine g_sld hC hX dL_law_1289 b9 ?_
        refine g_aloado_n hC dL_law_1290 0 rfl rfl ?_
        refine g_iload_n hC dL_law_1291 3 rfl rfl ?_
        refine g_iconst hC dL_law_1292 ok_2 ?_
        refine g_iadd hC dL_law_1293 ?_
        obtain ⟨b9, h⟩ := of_ite h
        refine g_sld hC hX dL_law_1294 b9 ?_
        refine g_aloado_n hC dL_law_1295 0 rfl rfl ?_
        refine g_iload_n hC dL_law_1296 3 rfl rfl ?_
        refine g_iconst hC dL_law_1297 ok_3 ?_
        refine g_iadd hC dL_law_1298 ?_
        obtain ⟨b9, h⟩ := of_ite h
        refine g_sld hC hX dL_law_1299 b9 ?_
        refine g_i2l hC dL_law_1300 ?_
        refine g_bipush hC dL_law_1301 bp_32 ?_
        refine g_lshl hC dL_law_1303 ?_
        refine g_aloado_n hC dL_law_1304 0 rfl rfl ?_
        refine g_iload_n hC dL_law_1305 3 rfl rfl ?_
        refine g_iconst hC dL_law_1306 ok_4 ?_
        refine g_iadd hC dL_law_1307 ?_
        obtain ⟨b9, h⟩ := of_ite h
        refine g_sld hC hX dL_law_1308 b9 ?_
        refine g_i2l hC dL_law_1309 ?_
        refine g_ldc2 hC dL_law_1310 kRL_162 ?_
        refine g_land hC dL_law_1313 ?_
        refine g_lor hC dL_law_1314 ?_
        obtain ⟨⟨r110, s110⟩, e110, h⟩ := of_bind h
        try dsimp only at h
        refine s_callVi hC dL_law_1315 (tX10_put h2 e110) miX10_put mvX10_put mlRL_168 (isO_spec h2) vc_10 rfl rfl (Nat.le_of_ble_eq_true rfl) (Nat.le_of_ble_eq_true rfl) (Nat.le_of_ble_eq_true rfl) hcs ?_
        refine g_icmp_eq hC dL_law_1318 (tgt := 1476) (by decide) (fun h9 => ?_) (fun h9 => ?_)
        · rw [if_pos h9] at h
          exact g_pick [0, 1, 2, 3] rfl (bL_law_1476 hC hcs h1 h2 hX ih hR _ _ h)
        · rw [if_neg h9] at h
          refine g_iconst hC dL_law_1321 ok_0 ?_
          exact ret_z h hR (by decide) dL_law_1322
      rw [if_neg h9] at h
      have n111 := h9
      clear h9
      by_cases h9 : (i_and (xs (Int.toNat x3)) 63) = 37
      · rw [if_pos h9] at h
        refine g_table hC dL_law_33 1323 (Or.inr (by (try dsimp only); rw [h9]; exact ⟨by decide, by decide, 1290, rfl, by decide⟩)) ?_
        refine g_aload_n hC dL_law_1323 1 rfl rfl ?_
        refine g_aloado_n hC dL_law_1324 0 rfl rfl ?_
        refine g_iload_n hC dL_law_1325 3 rfl rfl ?_
        refine g_iconst hC dL_law_1326 ok_1 ?_
        refine g_iadd hC dL_law_1327 ?_
        obtain ⟨b9, h⟩ := of_ite h
        refine g_sld hC hX dL_law_1328 b9 ?_
        refine g_aloado_n hC dL_law_1329 0 rfl rfl ?_
        refine g_iload_n hC dL_law_1330 3 rfl rfl ?_
        refine g_iconst hC dL_law_1331 ok_2 ?_
        refine g_iadd hC dL_law_1332 ?_
        obtain ⟨b9, h⟩ := of_ite h
        refine g_sld hC hX dL_law_1333 b9 ?_
        obtain ⟨⟨r112, s112⟩, e112, h⟩ := of_bind h
        try dsimp only at h
        refine s_callVl hC dL_law_1334 (tX9_element h1 e112) miX9_element mvX9_element mlRL_169 (isO_spec h1) vc_9 rfl rfl (Nat.le_of_ble_eq_true rfl) (Nat.le_of_ble_eq_true rfl) (Nat.le_of_ble_eq_true rfl) hcs ?_
        refine g_aload_n hC dL_law_1337 2 rfl rfl ?_
        refine g_aloado_n hC dL_law_1338 0 rfl rfl ?_
        refine g_iload_n hC dL_law_1339 3 rfl rfl ?_
        refine g_iconst hC dL_law_1340 ok_1 ?_
        refine g_iadd hC dL_law_1341 ?_
        obtain ⟨b9, h⟩ := of_ite h
        refine g_sld hC hX dL_law_1342 b9 ?_
        refine g_aloado_n hC dL_law_1343 0 rfl rfl ?_
        refine g_iload_n hC dL_law_1344 3 rfl rfl ?_
        refine g_iconst hC dL_law_1345 ok_2 ?_
        refine g_iadd hC dL_law_1346 ?_
        obtain ⟨b9, h⟩ := of_ite h
        refine g_sld hC hX dL_law_1347 b9 ?_
        obtain ⟨⟨r113, s113⟩, e113, h⟩ := of_bind h
        try dsimp only at h
        refine s_callVl hC dL_law_1348 (tX10_element h2 e113) miX10_element mvX10_element mlRL_173 (isO_spec h2) vc_10 rfl rfl (Nat.le_of_ble_eq_true rfl) (Nat.le_of_ble_eq_true rfl) (Nat.le_of_ble_eq_true rfl) hcs ?_
        refine g_lcmp hC dL_law_1351 ?_
        refine g_if_eq hC dL_law_1352 (tgt := 1476) (by decide) (fun h9 => ?_) (fun h9 => ?_)
        · rw [if_pos h9] at h
          exact g_pick [0, 1, 2, 3] rfl (bL_law_1476 hC hcs h1 h2 hX ih hR _ _ h)
        · rw [if_neg h9] at h
          refine g_iconst hC dL_law_1355 ok_0 ?_
          exact ret_z h hR (by decide) dL_law_1356
      rw [if_neg h9] at h
      have n114 := h9
      clear h9
      by_cases h9 : (i_and (xs (Int.toNat x3)) 63) = 38
      · rw [if_pos h9] at h
        refine g_table hC dL_law_33 1357 (Or.inr (by (try dsimp only); rw [h9]; exact ⟨by decide, by decide, 1324, rfl, by decide⟩)) ?_
        refine g_aload_n hC dL_law_1357 1 rfl rfl ?_
        refine g_aloado_n hC dL_law_1358 0 rfl rfl ?_
        refine g_iload_n hC dL_law_1359 3 rfl rfl ?_
        refine g_iconst hC dL_law_1360 ok_1 ?_
        refine g_iadd hC dL_law_1361 ?_
        obtain ⟨b9, h⟩ := of_ite h
        refine g_sld hC hX dL_law_1362 b9 ?_
        refine g_aloado_n hC dL_law_1363 0 rfl rfl ?_
        refine g_iload_n hC dL_law_1364 3 rfl rfl ?_
        refine g_iconst hC dL_law_1365 ok_2 ?_
        refine g_iadd hC dL_law_1366 ?_
        obtain ⟨b9, h⟩ := of_ite h
        refine g_sld hC hX dL_law_1367 b9 ?_
        refine g_aloado_n hC dL_law_1368 0 rfl rfl ?_
        refine g_iload_n hC dL_law_1369 3 rfl rfl ?_
        refine g_iconst hC dL_law_1370 ok_3 ?_
        refine g_iadd hC dL_law_1371 ?_
        obtain ⟨b9, h⟩ := of_ite h
        refine g_sld hC hX dL_law_1372 b9 ?_
        refine g_aloado_n hC dL_law_1373 0 rfl rfl ?_
        refine g_iload_n hC dL_law_1374 3 rfl rfl ?_
        refine g_iconst hC dL_law_1375 ok_4 ?_
        refine g_iadd hC dL_law_1376 ?_
        obtain ⟨b9, h⟩ := of_ite h
        refine g_sld hC hX dL_law_1377 b9 ?_
        refine g_aloado_n hC dL_law_1378 0 rfl rfl ?_
        refine g_iload_n hC dL_law_1379 3 rfl rfl ?_
        refine g_iconst hC dL_law_1380 ok_5 ?_
        refine g_iadd hC dL_law_1381 ?_
        obtain ⟨b9, h⟩ := of_ite h
        refine g_sld hC hX dL_law_1382 b9 ?_
        obtain ⟨⟨r115, s115⟩, e115, h⟩ := of_bind h
        try dsimp only at h
        refine s_callVi hC dL_law_1383 (tX9_shift h1 e115) miX9_shift mvX9_shift mlRL_174 (isO_spec h1) vc_9 rfl rfl (Nat.le_of_ble_eq_true rfl) (Nat.le_of_ble_eq_true rfl) (Nat.le_of_ble_eq_true rfl) hcs ?_
        refine g_aload_n hC dL_law_1386 2 rfl rfl ?_
        refine g_aloado_n hC dL_law_1387 0 rfl rfl ?_
        refine g_iload_n hC dL_law_1388 3 rfl rfl ?_
        refine g_iconst hC dL_law_1389 ok_1 ?_
        refine g_iadd hC dL_law_1390 ?_
        obtain ⟨b9, h⟩ := of_ite h
        refine g_sld hC hX dL_law_1391 b9 ?_
        refine g_aloado_n hC dL_law_1392 0 rfl rfl ?_
        refine g_iload_n hC dL_law_1393 3 rfl rfl ?_
        refine g_iconst hC dL_law_1394 ok_2 ?_
        refine g_iadd hC dL_law_1395 ?_
        obtain ⟨b9, h⟩ := of_ite h
        refine g_sld hC hX dL_law_1396 b9 ?_
        refine g_aloado_n hC dL_law_1397 0 rfl rfl ?_
        refine g_iload_n hC dL_law_1398 3 rfl rfl ?_
        refine g_iconst hC dL_law_1399 ok_3 ?_
        refine g_iadd hC dL_law_1400 ?_
        obtain ⟨b9, h⟩ := of_ite h
        refine g_sld hC hX dL_law_1401 b9 ?_
        refine g_aloado_n hC dL_law_1402 0 rfl rfl ?_
        refine g_iload_n hC dL_law_1403 3 rfl rfl ?_
        refine g_iconst hC dL_law_1404 ok_4 ?_
        refine g_iadd hC dL_law_1405 ?_
        obtain ⟨b9, h⟩ := of_ite h
        refine g_sld hC hX dL_law_1406 b9 ?_
        refine g_aloado_n hC dL_law_1407 0 rfl rfl ?_
        refine g_iload_n hC dL_law_1408 3 rfl rfl ?_
        refine g_iconst hC dL_law_1409 ok_5 ?_
        refine g_iadd hC dL_law_1410 ?_
        obtain ⟨b9, h⟩ := of_ite h
        refine g_sld hC hX dL_law_1411 b9 ?_
        obtain ⟨⟨r116, s116⟩, e116, h⟩ := of_bind h
        try dsimp only at h
        refine s_callVi hC dL_law_1412 (tX10_shift h2 e116) miX10_shift mvX10_shift mlRL_178 (isO_spec h2) vc_10 rfl rfl (Nat.le_of_ble_eq_true rfl) (Nat.le_of_ble_eq_true rfl) (Nat.le_of_ble_eq_true rfl) hcs ?_
        refine g_icmp_eq hC dL_law_1415 (tgt := 1476) (by decide) (fun h9 => ?_) (fun h9 => ?_)
        · rw [if_pos h9] at h
          exact g_pick [0, 1, 2, 3] rfl (bL_law_1476 hC hcs h1 h2 hX ih hR _ _ h)
        · rw [if_neg h9] at h
          refine g_iconst hC dL_law_1418 ok_0 ?_
          exact ret_z h hR (by decide) dL_law_1419
      rw [if_neg h9] at h
      have n117 := h9
      clear h9
      by_cases h9 : (i_and (xs (Int.toNat x3)) 63) = 39
      · rw [if_pos h9] at h
        refine g_table hC dL_law_33 1420 (Or.inr (by (try dsimp only); rw [h9]; exact ⟨by decide, by decide, 1387, rfl, by decide⟩)) ?_
        refine g_aload_n hC dL_law_1420 1 rfl rfl ?_
        refine g_aloado_n hC dL_law_1421 0 rfl rfl ?_
        refine g_iload_n hC dL_law_1422 3 rfl rfl ?_
        refine g_iconst hC dL_law_1423 ok_1 ?_
        refine g_iadd hC dL_law_1424 ?_
        obtain ⟨b9, h⟩ := of_ite h
        refine g_sld hC hX dL_law_1425 b9 ?_
        refine g_aloado_n hC dL_law_1426 0 rfl rfl ?_
        refine g_iload_n hC dL_law_1427 3 rfl rfl ?_
        refine g_iconst hC dL_law_1428 ok_2 ?_
        refine g_iadd hC dL_law_1429 ?_
        obtain ⟨b9, h⟩ := of_ite h
        refine g_sld hC hX dL_law_1430 b9 ?_
        obtain ⟨⟨r118, s118⟩, e118, h⟩ := of_bind h
        try dsimp only at h
        refine s_callVi hC dL_law_1431 (tX9_taken h1 e118) miX9_taken mvX9_taken mlRL_179 (isO_spec h1) vc_9 rfl rfl (Nat.le_of_ble_eq_true rfl) (Nat.le_of_ble_eq_true rfl) (Nat.le_of_ble_eq_true rfl) hcs ?_
        refine g_aload_n hC dL_law_1434 2 rfl rfl ?_
        refine g_aloado_n hC dL_law_1435 0 rfl rfl ?_
        refine g_iload_n hC dL_law_1436 3 rfl rfl ?_
        refine g_iconst hC dL_law_1437 ok_1 ?_
        refine g_iadd hC dL_law_1438 ?_
        obtain ⟨b9, h⟩ := of_ite h
        refine g_sld hC hX dL_law_1439 b9 ?_
        refine g_aloado_n hC dL_law_1440 0 rfl rfl ?_
        refine g_iload_n hC dL_law_1441 3 rfl rfl ?_
        refine g_iconst hC dL_law_1442 ok_2 ?_
        refine g_iadd hC dL_law_1443 ?_
        obtain ⟨b9, h⟩ := of_ite h
        refine g_sld hC hX dL_law_1444 b9 ?_
        obtain ⟨⟨r119, s119⟩, e119, h⟩ := of_bind h
        try dsimp only at h
        refine s_callVi hC dL_law_1445 (tX10_taken h2 e119) miX10_taken mvX10_taken mlRL_182 (isO_spec h2) vc_10 rfl rfl (Nat.le_of_ble_eq_true rfl) (Nat.le_of_ble_eq_true rfl) (Nat.le_of_ble_eq_true rfl) hcs ?_
        refine g_icmp_eq hC dL_law_1448 (tgt := 1476) (by decide) (fun h9 => ?_) (fun h9 => ?_)
        · rw [if_pos h9] at h
          exact g_pick [0, 1, 2, 3] rfl (bL_law_1476 hC hcs h1 h2 hX ih hR _ _ h)
        · rw [if_neg h9] at h
          refine g_iconst hC dL_law_1451 ok_0 ?_
          exact ret_z h hR (by decide) dL_law_1452
      rw [if_neg h9] at h
      have n120 := h9
      clear h9
      by_cases h9 : (i_and (xs (Int.toNat x3)) 63) = 40
      · rw [if_pos h9] at h
        refine g_table hC dL_law_33 1453 (Or.inr (by (try dsimp only); rw [h9]; exact ⟨by decide, by decide, 1420, rfl, by decide⟩)) ?_
        refine g_aload_n hC dL_law_1453 1 rfl rfl ?_
        refine g_aloado_n hC dL_law_1454 0 rfl rfl ?_
        refine g_iload_n hC dL_law_1455 3 rfl rfl ?_
        refine g_iconst hC dL_law_1456 ok_1 ?_
        refine g_iadd hC dL_law_1457 ?_
        obtain ⟨b9, h⟩ := of_ite h
        refine g_sld hC hX dL_law_1458 b9 ?_
        obtain ⟨⟨r121, s121⟩, e121, h⟩ := of_bind h
        try dsimp only at h
        refine s_callVi hC dL_law_1459 (tX9_count h1 e121) miX9_count mvX9_count mlRL_183 (isO_spec h1) vc_9 rfl rfl (Nat.le_of_ble_eq_true rfl) (Nat.le_of_ble_eq_true rfl) (Nat.le_of_ble_eq_true rfl) hcs ?_
        refine g_aload_n hC dL_law_1462 2 rfl rfl ?_
        refine g_aloado_n hC dL_law_1463 0 rfl rfl ?_
        refine g_iload_n hC dL_law_1464 3 rfl rfl ?_
        refine g_iconst hC dL_law_1465 ok_1 ?_
        refine g_iadd hC dL_law_1466 ?_
        obtain ⟨b9, h⟩ := of_ite h
        refine g_sld hC hX dL_law_1467 b9 ?_
        obtain ⟨⟨r122, s122⟩, e122, h⟩ := of_bind h
        try dsimp only at h
        refine s_callVi hC dL_law_1468 (tX10_count h2 e122) miX10_count mvX10_count mlRL_186 (isO_spec h2) vc_10 rfl rfl (Nat.le_of_ble_eq_true rfl) (Nat.le_of_ble_eq_true rfl) (Nat.le_of_ble_eq_true rfl) hcs ?_
        refine g_icmp_eq hC dL_law_1471 (tgt := 1476) (by decide) (fun h9 => ?_) (fun h9 => ?_)
        · rw [if_pos h9] at h
          exact g_pick [0, 1, 2, 3] rfl (bL_law_1476 hC hcs h1 h2 hX ih hR _ _ h)
        · rw [if_neg h9] at h
          refine g_iconst hC dL_law_1474 ok_0 ?_
          exact ret_z h hR (by decide) dL_law_1475
      rw [if_neg h9] at h
      have n123 := h9
      clear h9
      refine g_table hC dL_law_33 1476 (by
        exact Or.inl ⟨by (try dsimp only); omega, by decide⟩) ?_
      exact g_pick [0, 1, 2, 3] rfl (bL_law_1476 hC hcs h1 h2 hX ih hR _ _ h)
theorem bL_law_16 {K : KT} {g : GT} {cm sm : Nat} {cs : Nat × Nat} {c1 : Nat} {c2 : Nat} {xs : Nat → Int} {LS : Nat} {r : Int} {σ' : St} (hC : Ctx K g RL cL_law 4 806 cm sm) (hcs : cs.1 ≤ cm ∧ cs.2 ≤ sm) (h1 : isO 9 c1 = true) (h2 : isO 10 c2 = true) (hX : Scr K g LS xs) (hR : RetZ K g cL_law 4 cs r (SH0, σ')) : ∀ (σ : St), fL_law_16 xs LS c1 c2 σ = some (r, σ') → G K g 4 cs 16 [(0, vo 7), (1, vr c1), (2, vr c2)] [] (SH0, σ) := by
  intro σ h
  unfold fL_law_16 at h
  refine g_iconst hC dL_law_16 ok_0 ?_
  refine g_istore_n hC dL_law_17 rfl (Nat.le_of_ble_eq_true rfl) rfl ?_
  exact g_pick [1, 2, 3, 0] rfl (bL_law_18 hC hcs h1 h2 hX hR _ _ _ h)
