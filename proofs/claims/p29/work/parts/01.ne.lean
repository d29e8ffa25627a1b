theorem dL_arePupils_150 : decode cL_arePupils 150 = .ok (.goto 5, 3) := by decide +kernel
theorem dL_arePupils_153 : decode cL_arePupils 153 = .ok (.iload 11, 2) := by decide +kernel
theorem dL_arePupils_155 : decode cL_arePupils 155 = .ok (.istore 11, 2) := by decide +kernel
theorem dL_arePupils_157 : decode cL_arePupils 157 = .ok (.aload_n 1, 1) := by decide +kernel
theorem dL_arePupils_158 : decode cL_arePupils 158 = .ok (.iload 10, 2) := by decide +kernel
theorem dL_arePupils_160 : decode cL_arePupils 160 = .ok (.iaload, 1) := by decide +kernel
theorem dL_arePupils_161 : decode cL_arePupils 161 = .ok (.invokestatic 15, 3) := by decide +kernel
theorem dL_arePupils_164 : decode cL_arePupils 164 = .ok (.iload 6, 2) := by decide +kernel
theorem dL_arePupils_166 : decode cL_arePupils 166 = .ok (.if_icmp .ne 20, 3) := by decide +kernel
theorem dL_arePupils_169 : decode cL_arePupils 169 = .ok (.iload 8, 2) := by decide +kernel
theorem dL_arePupils_171 : decode cL_arePupils 171 = .ok (.ifCond .lt 10, 3) := by decide +kernel
theorem dL_arePupils_174 : decode cL_arePupils 174 = .ok (.iload 11, 2) := by decide +kernel
theorem dL_arePupils_176 : decode cL_arePupils 176 = .ok (.iload 8, 2) := by decide +kernel
theorem dL_arePupils_178 : decode cL_arePupils 178 = .ok (.if_icmp .ge 8, 3) := by decide +kernel
theorem dL_arePupils_181 : decode cL_arePupils 181 = .ok (.iload 11, 2) := by decide +kernel
theorem dL_arePupils_183 : decode cL_arePupils 183 = .ok (.goto 5, 3) := by decide +kernel
theorem dL_arePupils_186 : decode cL_arePupils 186 = .ok (.iload 8, 2) := by decide +kernel
theorem dL_arePupils_188 : decode cL_arePupils 188 = .ok (.istore 8, 2) := by decide +kernel
theorem dL_arePupils_190 : decode cL_arePupils 190 = .ok (.iinc 10 1, 3) := by decide +kernel
theorem dL_arePupils_193 : decode cL_arePupils 193 = .ok (.goto (-80), 3) := by decide +kernel
theorem dL_arePupils_196 : decode cL_arePupils 196 = .ok (.iconst 0, 1) := by decide +kernel
theorem dL_arePupils_197 : decode cL_arePupils 197 = .ok (.istore 10, 2) := by decide +kernel
theorem dL_arePupils_199 : decode cL_arePupils 199 = .ok (.iload 10, 2) := by decide +kernel
theorem dL_arePupils_201 : decode cL_arePupils 201 = .ok (.aload_n 3, 1) := by decide +kernel
theorem dL_arePupils_202 : decode cL_arePupils 202 = .ok (.iconst 1, 1) := by decide +kernel
theorem dL_arePupils_203 : decode cL_arePupils 203 = .ok (.iaload, 1) := by decide +kernel
theorem dL_arePupils_204 : decode cL_arePupils 204 = .ok (.if_icmp .ge 57, 3) := by decide +kernel
theorem dL_arePupils_207 : decode cL_arePupils 207 = .ok (.aload_n 1, 1) := by decide +kernel
theorem dL_arePupils_208 : decode cL_arePupils 208 = .ok (.aload_n 3, 1) := by decide +kernel
theorem dL_arePupils_209 : decode cL_arePupils 209 = .ok (.iload 10, 2) := by decide +kernel
theorem dL_arePupils_211 : decode cL_arePupils 211 = .ok (.invokestatic 69, 3) := by decide +kernel
theorem dL_arePupils_214 : decode cL_arePupils 214 = .ok (.aload_n 1, 1) := by decide +kernel
theorem dL_arePupils_215 : decode cL_arePupils 215 = .ok (.aload_n 3, 1) := by decide +kernel
theorem dL_arePupils_216 : decode cL_arePupils 216 = .ok (.iload 10, 2) := by decide +kernel
theorem dL_arePupils_218 : decode cL_arePupils 218 = .ok (.invokestatic 28, 3) := by decide +kernel
theorem dL_arePupils_221 : decode cL_arePupils 221 = .ok (.isub, 1) := by decide +kernel
theorem dL_arePupils_222 : decode cL_arePupils 222 = .ok (.istore 11, 2) := by decide +kernel
theorem dL_arePupils_224 : decode cL_arePupils 224 = .ok (.iload 9, 2) := by decide +kernel
theorem dL_arePupils_226 : decode cL_arePupils 226 = .ok (.iload 11, 2) := by decide +kernel
theorem dL_arePupils_228 : decode cL_arePupils 228 = .ok (.iload 7, 2) := by decide +kernel
theorem dL_arePupils_230 : decode cL_arePupils 230 = .ok (.if_icmp .gt 17, 3) := by decide +kernel
theorem dL_arePupils_233 : decode cL_arePupils 233 = .ok (.iload 11, 2) := by decide +kernel
theorem dL_arePupils_235 : decode cL_arePupils 235 = .ok (.iload 7, 2) := by decide +kernel
theorem dL_arePupils_237 : decode cL_arePupils 237 = .ok (.if_icmp .ne 14, 3) := by decide +kernel
theorem dL_arePupils_240 : decode cL_arePupils 240 = .ok (.iload 10, 2) := by decide +kernel
theorem dL_arePupils_242 : decode cL_arePupils 242 = .ok (.iload 6, 2) := by decide +kernel
theorem dL_arePupils_244 : decode cL_arePupils 244 = .ok (.if_icmp .ge 7, 3) := by decide +kernel
theorem dL_arePupils_247 : decode cL_arePupils 247 = .ok (.iconst 1, 1) := by decide +kernel
theorem dL_arePupils_248 : decode cL_arePupils 248 = .ok (.goto 4, 3) := by decide +kernel
theorem dL_arePupils_251 : decode cL_arePupils 251 = .ok (.iconst 0, 1) := by decide +kernel
theorem dL_arePupils_252 : decode cL_arePupils 252 = .ok (.iadd, 1) := by decide +kernel
theorem dL_arePupils_253 : decode cL_arePupils 253 = .ok (.istore 9, 2) := by decide +kernel
theorem dL_arePupils_255 : decode cL_arePupils 255 = .ok (.iinc 10 1, 3) := by decide +kernel
theorem dL_arePupils_258 : decode cL_arePupils 258 = .ok (.goto (-59), 3) := by decide +kernel
theorem dL_arePupils_261 : decode cL_arePupils 261 = .ok (.aload_n 0, 1) := by decide +kernel
theorem dL_arePupils_262 : decode cL_arePupils 262 = .ok (.iload 6, 2) := by decide +kernel
theorem dL_arePupils_264 : decode cL_arePupils 264 = .ok (.iconst 0, 1) := by decide +kernel
theorem dL_arePupils_265 : decode cL_arePupils 265 = .ok (.invokevirtual 63, 3) := by decide +kernel
theorem dL_arePupils_268 : decode cL_arePupils 268 = .ok (.aload_n 1, 1) := by decide +kernel
theorem dL_arePupils_269 : decode cL_arePupils 269 = .ok (.aload_n 3, 1) := by decide +kernel
theorem dL_arePupils_270 : decode cL_arePupils 270 = .ok (.iload 6, 2) := by decide +kernel
theorem dL_arePupils_272 : decode cL_arePupils 272 = .ok (.invokestatic 28, 3) := by decide +kernel
theorem dL_arePupils_275 : decode cL_arePupils 275 = .ok (.if_icmp .ne 232, 3) := by decide +kernel
theorem dL_arePupils_278 : decode cL_arePupils 278 = .ok (.aload_n 0, 1) := by decide +kernel
theorem dL_arePupils_279 : decode cL_arePupils 279 = .ok (.iload 6, 2) := by decide +kernel
theorem dL_arePupils_281 : decode cL_arePupils 281 = .ok (.iconst 1, 1) := by decide +kernel
theorem dL_arePupils_282 : decode cL_arePupils 282 = .ok (.invokevirtual 63, 3) := by decide +kernel
theorem dL_arePupils_285 : decode cL_arePupils 285 = .ok (.aload_n 1, 1) := by decide +kernel
theorem dL_arePupils_286 : decode cL_arePupils 286 = .ok (.aload_n 3, 1) := by decide +kernel
theorem dL_arePupils_287 : decode cL_arePupils 287 = .ok (.iload 6, 2) := by decide +kernel
theorem dL_arePupils_289 : decode cL_arePupils 289 = .ok (.invokestatic 69, 3) := by decide +kernel
theorem dL_arePupils_292 : decode cL_arePupils 292 = .ok (.if_icmp .ne 215, 3) := by decide +kernel
theorem dL_arePupils_295 : decode cL_arePupils 295 = .ok (.aload_n 0, 1) := by decide +kernel
theorem dL_arePupils_296 : decode cL_arePupils 296 = .ok (.iload 6, 2) := by decide +kernel
theorem dL_arePupils_298 : decode cL_arePupils 298 = .ok (.iconst 2, 1) := by decide +kernel
theorem dL_arePupils_299 : decode cL_arePupils 299 = .ok (.invokevirtual 63, 3) := by decide +kernel
theorem dL_arePupils_302 : decode cL_arePupils 302 = .ok (.sipush 1000, 3) := by decide +kernel
theorem dL_arePupils_305 : decode cL_arePupils 305 = .ok (.iload 7, 2) := by decide +kernel
theorem dL_arePupils_307 : decode cL_arePupils 307 = .ok (.iadd, 1) := by decide +kernel
theorem dL_arePupils_308 : decode cL_arePupils 308 = .ok (.if_icmp .ne 199, 3) := by decide +kernel
theorem dL_arePupils_311 : decode cL_arePupils 311 = .ok (.aload_n 0, 1) := by decide +kernel
theorem dL_arePupils_312 : decode cL_arePupils 312 = .ok (.iload 6, 2) := by decide +kernel
theorem dL_arePupils_314 : decode cL_arePupils 314 = .ok (.iconst 3, 1) := by decide +kernel
theorem dL_arePupils_315 : decode cL_arePupils 315 = .ok (.invokevirtual 63, 3) := by decide +kernel
theorem dL_arePupils_318 : decode cL_arePupils 318 = .ok (.sipush 1000, 3) := by decide +kernel
theorem dL_arePupils_321 : decode cL_arePupils 321 = .ok (.iload 7, 2) := by decide +kernel
theorem dL_arePupils_323 : decode cL_arePupils 323 = .ok (.iadd, 1) := by decide +kernel
theorem dL_arePupils_324 : decode cL_arePupils 324 = .ok (.if_icmp .ne 183, 3) := by decide +kernel
theorem dL_arePupils_327 : decode cL_arePupils 327 = .ok (.aload_n 2, 1) := by decide +kernel
theorem dL_arePupils_328 : decode cL_arePupils 328 = .ok (.bipush 6, 2) := by decide +kernel
theorem dL_arePupils_330 : decode cL_arePupils 330 = .ok (.iload 6, 2) := by decide +kernel
theorem dL_arePupils_332 : decode cL_arePupils 332 = .ok (.imul, 1) := by decide +kernel
theorem dL_arePupils_333 : decode cL_arePupils 333 = .ok (.iconst 5, 1) := by decide +kernel
theorem dL_arePupils_334 : decode cL_arePupils 334 = .ok (.iadd, 1) := by decide +kernel
theorem dL_arePupils_335 : decode cL_arePupils 335 = .ok (.iaload, 1) := by decide +kernel
theorem dL_arePupils_336 : decode cL_arePupils 336 = .ok (.iload 7, 2) := by decide +kernel
theorem dL_arePupils_338 : decode cL_arePupils 338 = .ok (.if_icmp .ne 169, 3) := by decide +kernel
theorem dL_arePupils_341 : decode cL_arePupils 341 = .ok (.aload_n 0, 1) := by decide +kernel
theorem dL_arePupils_342 : decode cL_arePupils 342 = .ok (.iload 6, 2) := by decide +kernel
theorem dL_arePupils_344 : decode cL_arePupils 344 = .ok (.iconst 4, 1) := by decide +kernel
theorem dL_arePupils_345 : decode cL_arePupils 345 = .ok (.invokevirtual 63, 3) := by decide +kernel
theorem dL_arePupils_348 : decode cL_arePupils 348 = .ok (.aload_n 2, 1) := by decide +kernel
theorem dL_arePupils_349 : decode cL_arePupils 349 = .ok (.bipush 6, 2) := by decide +kernel
theorem dL_arePupils_351 : decode cL_arePupils 351 = .ok (.iload 6, 2) := by decide +kernel
theorem dL_arePupils_353 : decode cL_arePupils 353 = .ok (.imul, 1) := by decide +kernel
theorem dL_arePupils_354 : decode cL_arePupils 354 = .ok (.iaload, 1) := by decide +kernel
theorem dL_arePupils_355 : decode cL_arePupils 355 = .ok (.if_icmp .ne 152, 3) := by decide +kernel
theorem dL_arePupils_358 : decode cL_arePupils 358 = .ok (.aload_n 0, 1) := by decide +kernel
theorem dL_arePupils_359 : decode cL_arePupils 359 = .ok (.iload 6, 2) := by decide +kernel
theorem dL_arePupils_361 : decode cL_arePupils 361 = .ok (.iconst 5, 1) := by decide +kernel
theorem dL_arePupils_362 : decode cL_arePupils 362 = .ok (.invokevirtual 63, 3) := by decide +kernel
theorem dL_arePupils_365 : decode cL_arePupils 365 = .ok (.aload_n 2, 1) := by decide +kernel
theorem dL_arePupils_366 : decode cL_arePupils 366 = .ok (.bipush 6, 2) := by decide +kernel
theorem dL_arePupils_368 : decode cL_arePupils 368 = .ok (.iload 6, 2) := by decide +kernel
theorem dL_arePupils_370 : decode cL_arePupils 370 = .ok (.imul, 1) := by decide +kernel
theorem dL_arePupils_371 : decode cL_arePupils 371 = .ok (.iconst 1, 1) := by decide +kernel
theorem dL_arePupils_372 : decode cL_arePupils 372 = .ok (.iadd, 1) := by decide +kernel
theorem dL_arePupils_373 : decode cL_arePupils 373 = .ok (.iaload, 1) := by decide +kernel
theorem dL_arePupils_374 : decode cL_arePupils 374 = .ok (.if_icmp .ne 133, 3) := by decide +kernel
theorem dL_arePupils_377 : decode cL_arePupils 377 = .ok (.aload_n 0, 1) := by decide +kernel
theorem dL_arePupils_378 : decode cL_arePupils 378 = .ok (.iload 6, 2) := by decide +kernel
theorem dL_arePupils_380 : decode cL_arePupils 380 = .ok (.bipush 6, 2) := by decide +kernel
theorem dL_arePupils_382 : decode cL_arePupils 382 = .ok (.invokevirtual 63, 3) := by decide +kernel
theorem dL_arePupils_385 : decode cL_arePupils 385 = .ok (.aload_n 2, 1) := by decide +kernel
theorem dL_arePupils_386 : decode cL_arePupils 386 = .ok (.bipush 6, 2) := by decide +kernel
theorem dL_arePupils_388 : decode cL_arePupils 388 = .ok (.iload 6, 2) := by decide +kernel
theorem dL_arePupils_390 : decode cL_arePupils 390 = .ok (.imul, 1) := by decide +kernel
theorem dL_arePupils_391 : decode cL_arePupils 391 = .ok (.iconst 2, 1) := by decide +kernel
theorem dL_arePupils_392 : decode cL_arePupils 392 = .ok (.iadd, 1) := by decide +kernel
theorem dL_arePupils_393 : decode cL_arePupils 393 = .ok (.iaload, 1) := by decide +kernel
theorem dL_arePupils_394 : decode cL_arePupils 394 = .ok (.ifCond .le 17, 3) := by decide +kernel
theorem dL_arePupils_397 : decode cL_arePupils 397 = .ok (.aload_n 2, 1) := by decide +kernel
theorem dL_arePupils_398 : decode cL_arePupils 398 = .ok (.bipush 6, 2) := by decide +kernel
theorem dL_arePupils_400 : decode cL_arePupils 400 = .ok (.iload 6, 2) := by decide +kernel
theorem dL_arePupils_402 : decode cL_arePupils 402 = .ok (.imul, 1) := by decide +kernel
theorem dL_arePupils_403 : decode cL_arePupils 403 = .ok (.iconst 2, 1) := by decide +kernel
theorem dL_arePupils_404 : decode cL_arePupils 404 = .ok (.iadd, 1) := by decide +kernel
theorem dL_arePupils_405 : decode cL_arePupils 405 = .ok (.iaload, 1) := by decide +kernel
theorem dL_arePupils_406 : decode cL_arePupils 406 = .ok (.iconst 1, 1) := by decide +kernel
theorem dL_arePupils_407 : decode cL_arePupils 407 = .ok (.isub, 1) := by decide +kernel
theorem dL_arePupils_408 : decode cL_arePupils 408 = .ok (.goto 5, 3) := by decide +kernel
theorem dL_arePupils_411 : decode cL_arePupils 411 = .ok (.ldc 59, 2) := by decide +kernel
theorem dL_arePupils_413 : decode cL_arePupils 413 = .ok (.if_icmp .ne 94, 3) := by decide +kernel
theorem dL_arePupils_416 : decode cL_arePupils 416 = .ok (.aload_n 0, 1) := by decide +kernel
theorem dL_arePupils_417 : decode cL_arePupils 417 = .ok (.iload 6, 2) := by decide +kernel
theorem dL_arePupils_419 : decode cL_arePupils 419 = .ok (.bipush 7, 2) := by decide +kernel
theorem dL_arePupils_421 : decode cL_arePupils 421 = .ok (.invokevirtual 63, 3) := by decide +kernel
theorem dL_arePupils_424 : decode cL_arePupils 424 = .ok (.aload_n 2, 1) := by decide +kernel
theorem dL_arePupils_425 : decode cL_arePupils 425 = .ok (.bipush 6, 2) := by decide +kernel
theorem dL_arePupils_427 : decode cL_arePupils 427 = .ok (.iload 6, 2) := by decide +kernel
theorem dL_arePupils_429 : decode cL_arePupils 429 = .ok (.imul, 1) := by decide +kernel
theorem dL_arePupils_430 : decode cL_arePupils 430 = .ok (.iconst 3, 1) := by decide +kernel
theorem dL_arePupils_431 : decode cL_arePupils 431 = .ok (.iadd, 1) := by decide +kernel
theorem dL_arePupils_432 : decode cL_arePupils 432 = .ok (.iaload, 1) := by decide +kernel
theorem dL_arePupils_433 : decode cL_arePupils 433 = .ok (.if_icmp .ne 74, 3) := by decide +kernel
theorem dL_arePupils_436 : decode cL_arePupils 436 = .ok (.aload_n 0, 1) := by decide +kernel
theorem dL_arePupils_437 : decode cL_arePupils 437 = .ok (.iload 6, 2) := by decide +kernel
theorem dL_arePupils_439 : decode cL_arePupils 439 = .ok (.bipush 8, 2) := by decide +kernel
theorem dL_arePupils_441 : decode cL_arePupils 441 = .ok (.invokevirtual 63, 3) := by decide +kernel
theorem dL_arePupils_444 : decode cL_arePupils 444 = .ok (.aload_n 2, 1) := by decide +kernel
theorem dL_arePupils_445 : decode cL_arePupils 445 = .ok (.bipush 6, 2) := by decide +kernel
theorem dL_arePupils_447 : decode cL_arePupils 447 = .ok (.iload 6, 2) := by decide +kernel
theorem dL_arePupils_449 : decode cL_arePupils 449 = .ok (.imul, 1) := by decide +kernel
theorem dL_arePupils_450 : decode cL_arePupils 450 = .ok (.iconst 4, 1) := by decide +kernel
theorem dL_arePupils_451 : decode cL_arePupils 451 = .ok (.iadd, 1) := by decide +kernel
theorem dL_arePupils_452 : decode cL_arePupils 452 = .ok (.iaload, 1) := by decide +kernel
theorem dL_arePupils_453 : decode cL_arePupils 453 = .ok (.if_icmp .ne 54, 3) := by decide +kernel
theorem dL_arePupils_456 : decode cL_arePupils 456 = .ok (.aload_n 0, 1) := by decide +kernel
theorem dL_arePupils_457 : decode cL_arePupils 457 = .ok (.iload 6, 2) := by decide +kernel
theorem dL_arePupils_459 : decode cL_arePupils 459 = .ok (.invokevirtual 72, 3) := by decide +kernel
theorem dL_arePupils_462 : decode cL_arePupils 462 = .ok (.iload 8, 2) := by decide +kernel
theorem dL_arePupils_464 : decode cL_arePupils 464 = .ok (.if_icmp .ne 43, 3) := by decide +kernel
theorem dL_arePupils_467 : decode cL_arePupils 467 = .ok (.aload_n 0, 1) := by decide +kernel
theorem dL_arePupils_468 : decode cL_arePupils 468 = .ok (.iload 9, 2) := by decide +kernel
theorem dL_arePupils_470 : decode cL_arePupils 470 = .ok (.invokevirtual 66, 3) := by decide +kernel
theorem dL_arePupils_473 : decode cL_arePupils 473 = .ok (.iload 6, 2) := by decide +kernel
theorem dL_arePupils_475 : decode cL_arePupils 475 = .ok (.if_icmp .ne 32, 3) := by decide +kernel
theorem dL_arePupils_478 : decode cL_arePupils 478 = .ok (.aload_n 0, 1) := by decide +kernel
theorem dL_arePupils_479 : decode cL_arePupils 479 = .ok (.iload 6, 2) := by decide +kernel
theorem dL_arePupils_481 : decode cL_arePupils 481 = .ok (.iconst 1, 1) := by decide +kernel
theorem dL_arePupils_482 : decode cL_arePupils 482 = .ok (.iload 6, 2) := by decide +kernel
theorem dL_arePupils_484 : decode cL_arePupils 484 = .ok (.iadd, 1) := by decide +kernel
theorem dL_arePupils_485 : decode cL_arePupils 485 = .ok (.invokevirtual 75, 3) := by decide +kernel
theorem dL_arePupils_488 : decode cL_arePupils 488 = .ok (.aload_n 1, 1) := by decide +kernel
theorem dL_arePupils_489 : decode cL_arePupils 489 = .ok (.aload_n 2, 1) := by decide +kernel
theorem dL_arePupils_490 : decode cL_arePupils 490 = .ok (.aload_n 3, 1) := by decide +kernel
theorem dL_arePupils_491 : decode cL_arePupils 491 = .ok (.iload 6, 2) := by decide +kernel
theorem dL_arePupils_493 : decode cL_arePupils 493 = .ok (.iconst 1, 1) := by decide +kernel
theorem dL_arePupils_494 : decode cL_arePupils 494 = .ok (.iload 6, 2) := by decide +kernel
theorem dL_arePupils_496 : decode cL_arePupils 496 = .ok (.iadd, 1) := by decide +kernel
theorem dL_arePupils_497 : decode cL_arePupils 497 = .ok (.invokestatic 78, 3) := by decide +kernel
theorem dL_arePupils_500 : decode cL_arePupils 500 = .ok (.if_icmp .ne 7, 3) := by decide +kernel
theorem dL_arePupils_503 : decode cL_arePupils 503 = .ok (.iconst 1, 1) := by decide +kernel
theorem dL_arePupils_504 : decode cL_arePupils 504 = .ok (.goto 4, 3) := by decide +kernel
theorem dL_arePupils_507 : decode cL_arePupils 507 = .ok (.iconst 0, 1) := by decide +kernel
theorem dL_arePupils_508 : decode cL_arePupils 508 = .ok (.istore 5, 2) := by decide +kernel
theorem dL_arePupils_510 : decode cL_arePupils 510 = .ok (.iinc 6 1, 3) := by decide +kernel
theorem dL_arePupils_513 : decode cL_arePupils 513 = .ok (.goto (-465), 3) := by decide +kernel
theorem dL_arePupils_516 : decode cL_arePupils 516 = .ok (.iload 5, 2) := by decide +kernel
theorem dL_arePupils_518 : decode cL_arePupils 518 = .ok (.ifCond .eq 18, 3) := by decide +kernel
theorem dL_arePupils_521 : decode cL_arePupils 521 = .ok (.aload_n 0, 1) := by decide +kernel
theorem dL_arePupils_522 : decode cL_arePupils 522 = .ok (.bipush 11, 2) := by decide +kernel
theorem dL_arePupils_524 : decode cL_arePupils 524 = .ok (.invokevirtual 60, 3) := by decide +kernel
theorem dL_arePupils_527 : decode cL_arePupils 527 = .ok (.iload 4, 2) := by decide +kernel
theorem dL_arePupils_529 : decode cL_arePupils 529 = .ok (.if_icmp .ne 7, 3) := by decide +kernel
theorem dL_arePupils_532 : decode cL_arePupils 532 = .ok (.iconst 1, 1) := by decide +kernel
theorem dL_arePupils_533 : decode cL_arePupils 533 = .ok (.goto 4, 3) := by decide +kernel
theorem dL_arePupils_536 : decode cL_arePupils 536 = .ok (.iconst 0, 1) := by decide +kernel
theorem dL_arePupils_537 : decode cL_arePupils 537 = .ok (.ireturn, 1) := by decide +kernel
set_option maxRecDepth 20000 in
theorem ggL_areRings_X4_ring : GoodIn wsL_areRings wsX4_ring := goodIn_r _ [7, 8, 9, 10, 11, 12, 13, 6, 14, 15, 16, 17, 18, 19, 20, 21, 22, 23, 24, 25, 26, 27, 28, 29, 30, 31, 32, 33, 34, 35, 36, 37, 38, 39, 40, 41, 42, 43, 44, 45, 46, 47, 48, 49, 50, 51, 52, 53, 54, 55, 56, 57, 58, 59, 60, 61, 62, 63, 64, 65, 66, 67, 68, 69, 70, 71, 72, 127, 128, 129, 130, 131, 132, 133, 134, 135, 136, 137, 138, 139, 140, 141, 142, 143, 144, 145, 146, 147, 148, 149] (by decide +kernel) (by decide +kernel)
set_option maxRecDepth 20000 in
theorem gL_areRings_X4_ring : GoodIn wsL_areRings (wsV RL 80 RX4 yX4_ring wsX4_ring) := goodIn_app (goodIn_of _ (by decide +kernel)) ggL_areRings_X4_ring
set_option maxRecDepth 20000 in
theorem ggL_areRings_X4_amount : GoodIn wsL_areRings wsX4_amount := goodIn_r _ [76, 8, 9, 10, 11, 12, 13, 6, 14, 15, 16, 17, 18, 19, 20, 21, 22, 23, 24, 25, 26, 27, 28, 29, 30, 31, 32, 33, 34, 35, 36, 37, 38, 39, 40, 41, 42, 43, 44, 45, 46, 47, 48, 49, 50, 51, 52, 53, 54, 55, 56, 57, 58, 59, 60, 61, 62, 63, 64, 65, 66, 67, 77, 78, 79, 80, 81, 82, 83, 84, 85, 86, 87, 88, 127, 128, 129, 130, 131, 132, 133, 134, 135, 136, 137, 138, 139, 140, 141, 142, 143, 144, 145, 146, 147, 148, 149] (by decide +kernel) (by decide +kernel)
set_option maxRecDepth 20000 in
theorem gL_areRings_X4_amount : GoodIn wsL_areRings (wsV RL 82 RX4 yX4_amount wsX4_amount) := goodIn_app (goodIn_of _ (by decide +kernel)) ggL_areRings_X4_amount
set_option maxRecDepth 20000 in
theorem ggL_areRings_L_ring : GoodIn wsL_areRings wsL_ring := goodIn_r _ [92, 93, 94, 95, 91, 96, 97, 98, 99, 100, 101, 102] (by decide +kernel) (by decide +kernel)
set_option maxRecDepth 20000 in
theorem gL_areRings_L_ring : GoodIn wsL_areRings (va_wsS RL 40 yL_ring wsL_ring) := goodIn_app (goodIn_of _ (by decide +kernel)) ggL_areRings_L_ring
set_option maxRecDepth 20000 in
theorem ggL_areRings_L_amount : GoodIn wsL_areRings wsL_amount := goodIn_r _ [105, 106, 107, 91, 108, 109, 110, 111] (by decide +kernel) (by decide +kernel)
set_option maxRecDepth 20000 in
theorem gL_areRings_L_amount : GoodIn wsL_areRings (va_wsS RL 44 yL_amount wsL_amount) := goodIn_app (goodIn_of _ (by decide +kernel)) ggL_areRings_L_amount
set_option maxRecDepth 20000 in
theorem ggL_areRings_X4_owes : GoodIn wsL_areRings wsX4_owes := goodIn_r _ [115, 10, 8, 116, 117, 118, 30, 119, 120, 28, 29, 31, 32, 12, 13, 6, 14, 121, 122, 123, 124, 125, 126, 34, 35, 36, 37, 38, 39, 40, 41, 127, 128, 129, 130, 131, 137, 138, 139, 140, 141, 142, 143, 144, 145, 146, 147, 148, 149] (by decide +kernel) (by decide +kernel)
set_option maxRecDepth 20000 in
theorem gL_areRings_X4_owes : GoodIn wsL_areRings (wsV RL 84 RX4 yX4_owes wsX4_owes) := goodIn_app (goodIn_of _ (by decide +kernel)) ggL_areRings_X4_owes
set_option maxRecDepth 20000 in
theorem ggL_areRings_L_owed : GoodIn wsL_areRings wsL_owed := goodIn_r _ [108, 109, 110, 91, 111] (by decide +kernel) (by decide +kernel)
set_option maxRecDepth 20000 in
theorem gL_areRings_L_owed : GoodIn wsL_areRings (va_wsS RL 36 yL_owed wsL_owed) := goodIn_app (goodIn_of _ (by decide +kernel)) ggL_areRings_L_owed
theorem dL_areRings_0 : decode cL_areRings 0 = .ok (.aload_n 0, 1) := by decide +kernel
theorem dL_areRings_1 : decode cL_areRings 1 = .ok (.iconst 4, 1) := by decide +kernel
theorem dL_areRings_2 : decode cL_areRings 2 = .ok (.iconst 0, 1) := by decide +kernel
theorem dL_areRings_3 : decode cL_areRings 3 = .ok (.invokevirtual 80, 3) := by decide +kernel
theorem dL_areRings_6 : decode cL_areRings 6 = .ok (.ldc 58, 2) := by decide +kernel
theorem dL_areRings_8 : decode cL_areRings 8 = .ok (.if_icmp .ne 28, 3) := by decide +kernel
theorem dL_areRings_11 : decode cL_areRings 11 = .ok (.aload_n 0, 1) := by decide +kernel
theorem dL_areRings_12 : decode cL_areRings 12 = .ok (.iconst 0, 1) := by decide +kernel
theorem dL_areRings_13 : decode cL_areRings 13 = .ok (.iconst (-1), 1) := by decide +kernel
theorem dL_areRings_14 : decode cL_areRings 14 = .ok (.invokevirtual 80, 3) := by decide +kernel
theorem dL_areRings_17 : decode cL_areRings 17 = .ok (.ldc 58, 2) := by decide +kernel
theorem dL_areRings_19 : decode cL_areRings 19 = .ok (.if_icmp .ne 17, 3) := by decide +kernel
theorem dL_areRings_22 : decode cL_areRings 22 = .ok (.aload_n 0, 1) := by decide +kernel
theorem dL_areRings_23 : decode cL_areRings 23 = .ok (.iconst 4, 1) := by decide +kernel
theorem dL_areRings_24 : decode cL_areRings 24 = .ok (.invokevirtual 82, 3) := by decide +kernel
theorem dL_areRings_27 : decode cL_areRings 27 = .ok (.ldc 58, 2) := by decide +kernel
theorem dL_areRings_29 : decode cL_areRings 29 = .ok (.if_icmp .ne 7, 3) := by decide +kernel
theorem dL_areRings_32 : decode cL_areRings 32 = .ok (.iconst 1, 1) := by decide +kernel
theorem dL_areRings_33 : decode cL_areRings 33 = .ok (.goto 4, 3) := by decide +kernel
theorem dL_areRings_36 : decode cL_areRings 36 = .ok (.iconst 0, 1) := by decide +kernel
theorem dL_areRings_37 : decode cL_areRings 37 = .ok (.istore 4, 2) := by decide +kernel
theorem dL_areRings_39 : decode cL_areRings 39 = .ok (.iconst 0, 1) := by decide +kernel
theorem dL_areRings_40 : decode cL_areRings 40 = .ok (.istore 5, 2) := by decide +kernel
theorem dL_areRings_42 : decode cL_areRings 42 = .ok (.iload 5, 2) := by decide +kernel
theorem dL_areRings_44 : decode cL_areRings 44 = .ok (.iconst 4, 1) := by decide +kernel
theorem dL_areRings_45 : decode cL_areRings 45 = .ok (.if_icmp .ge 187, 3) := by decide +kernel
theorem dL_areRings_48 : decode cL_areRings 48 = .ok (.iload 4, 2) := by decide +kernel
theorem dL_areRings_50 : decode cL_areRings 50 = .ok (.ifCond .eq 182, 3) := by decide +kernel
theorem dL_areRings_53 : decode cL_areRings 53 = .ok (.aload_n 1, 1) := by decide +kernel
theorem dL_areRings_54 : decode cL_areRings 54 = .ok (.aload_n 2, 1) := by decide +kernel
theorem dL_areRings_55 : decode cL_areRings 55 = .ok (.aload_n 3, 1) := by decide +kernel
theorem dL_areRings_56 : decode cL_areRings 56 = .ok (.iload 5, 2) := by decide +kernel
theorem dL_areRings_58 : decode cL_areRings 58 = .ok (.invokestatic 40, 3) := by decide +kernel
theorem dL_areRings_61 : decode cL_areRings 61 = .ok (.istore 6, 2) := by decide +kernel
theorem dL_areRings_63 : decode cL_areRings 63 = .ok (.iconst 0, 1) := by decide +kernel
theorem dL_areRings_64 : decode cL_areRings 64 = .ok (.istore 7, 2) := by decide +kernel
theorem dL_areRings_66 : decode cL_areRings 66 = .ok (.iload 7, 2) := by decide +kernel
theorem dL_areRings_68 : decode cL_areRings 68 = .ok (.iload 6, 2) := by decide +kernel
theorem dL_areRings_70 : decode cL_areRings 70 = .ok (.if_icmp .ge 36, 3) := by decide +kernel
theorem dL_areRings_73 : decode cL_areRings 73 = .ok (.iload 4, 2) := by decide +kernel
theorem dL_areRings_75 : decode cL_areRings 75 = .ok (.ifCond .eq 22, 3) := by decide +kernel
theorem dL_areRings_78 : decode cL_areRings 78 = .ok (.aload_n 0, 1) := by decide +kernel
theorem dL_areRings_79 : decode cL_areRings 79 = .ok (.iload 5, 2) := by decide +kernel
theorem dL_areRings_81 : decode cL_areRings 81 = .ok (.iload 7, 2) := by decide +kernel
theorem dL_areRings_83 : decode cL_areRings 83 = .ok (.invokevirtual 80, 3) := by decide +kernel
theorem dL_areRings_86 : decode cL_areRings 86 = .ok (.aload_n 3, 1) := by decide +kernel
theorem dL_areRings_87 : decode cL_areRings 87 = .ok (.iload 7, 2) := by decide +kernel
theorem dL_areRings_89 : decode cL_areRings 89 = .ok (.iaload, 1) := by decide +kernel
theorem dL_areRings_90 : decode cL_areRings 90 = .ok (.if_icmp .ne 7, 3) := by decide +kernel
theorem dL_areRings_93 : decode cL_areRings 93 = .ok (.iconst 1, 1) := by decide +kernel
theorem dL_areRings_94 : decode cL_areRings 94 = .ok (.goto 4, 3) := by decide +kernel
theorem dL_areRings_97 : decode cL_areRings 97 = .ok (.iconst 0, 1) := by decide +kernel
theorem dL_areRings_98 : decode cL_areRings 98 = .ok (.istore 4, 2) := by decide +kernel
theorem dL_areRings_100 : decode cL_areRings 100 = .ok (.iinc 7 1, 3) := by decide +kernel
theorem dL_areRings_103 : decode cL_areRings 103 = .ok (.goto (-37), 3) := by decide +kernel
theorem dL_areRings_106 : decode cL_areRings 106 = .ok (.iload 4, 2) := by decide +kernel
theorem dL_areRings_108 : decode cL_areRings 108 = .ok (.ifCond .eq 49, 3) := by decide +kernel
theorem dL_areRings_111 : decode cL_areRings 111 = .ok (.aload_n 0, 1) := by decide +kernel
theorem dL_areRings_112 : decode cL_areRings 112 = .ok (.iload 5, 2) := by decide +kernel
theorem dL_areRings_114 : decode cL_areRings 114 = .ok (.iload 6, 2) := by decide +kernel
theorem dL_areRings_116 : decode cL_areRings 116 = .ok (.invokevirtual 80, 3) := by decide +kernel
theorem dL_areRings_119 : decode cL_areRings 119 = .ok (.ldc 59, 2) := by decide +kernel
theorem dL_areRings_121 : decode cL_areRings 121 = .ok (.if_icmp .ne 36, 3) := by decide +kernel
theorem dL_areRings_124 : decode cL_areRings 124 = .ok (.aload_n 0, 1) := by decide +kernel
theorem dL_areRings_125 : decode cL_areRings 125 = .ok (.iload 5, 2) := by decide +kernel
theorem dL_areRings_127 : decode cL_areRings 127 = .ok (.invokevirtual 82, 3) := by decide +kernel
theorem dL_areRings_130 : decode cL_areRings 130 = .ok (.iload 6, 2) := by decide +kernel
theorem dL_areRings_132 : decode cL_areRings 132 = .ok (.ifCond .le 16, 3) := by decide +kernel
theorem dL_areRings_135 : decode cL_areRings 135 = .ok (.aload_n 1, 1) := by decide +kernel
theorem dL_areRings_136 : decode cL_areRings 136 = .ok (.aload_n 2, 1) := by decide +kernel
theorem dL_areRings_137 : decode cL_areRings 137 = .ok (.aload_n 3, 1) := by decide +kernel
theorem dL_areRings_138 : decode cL_areRings 138 = .ok (.iload 6, 2) := by decide +kernel
theorem dL_areRings_140 : decode cL_areRings 140 = .ok (.iload 5, 2) := by decide +kernel
theorem dL_areRings_142 : decode cL_areRings 142 = .ok (.invokestatic 44, 3) := by decide +kernel
theorem dL_areRings_145 : decode cL_areRings 145 = .ok (.goto 5, 3) := by decide +kernel
theorem dL_areRings_148 : decode cL_areRings 148 = .ok (.ldc 59, 2) := by decide +kernel
theorem dL_areRings_150 : decode cL_areRings 150 = .ok (.if_icmp .ne 7, 3) := by decide +kernel
theorem dL_areRings_153 : decode cL_areRings 153 = .ok (.iconst 1, 1) := by decide +kernel
theorem dL_areRings_154 : decode cL_areRings 154 = .ok (.goto 4, 3) := by decide +kernel
theorem dL_areRings_157 : decode cL_areRings 157 = .ok (.iconst 0, 1) := by decide +kernel
theorem dL_areRings_158 : decode cL_areRings 158 = .ok (.istore 4, 2) := by decide +kernel
theorem dL_areRings_160 : decode cL_areRings 160 = .ok (.iconst 0, 1) := by decide +kernel
theorem dL_areRings_161 : decode cL_areRings 161 = .ok (.istore 7, 2) := by decide +kernel
theorem dL_areRings_163 : decode cL_areRings 163 = .ok (.iload 7, 2) := by decide +kernel
theorem dL_areRings_165 : decode cL_areRings 165 = .ok (.aload_n 2, 1) := by decide +kernel
theorem dL_areRings_166 : decode cL_areRings 166 = .ok (.iconst 1, 1) := by decide +kernel
theorem dL_areRings_167 : decode cL_areRings 167 = .ok (.iaload, 1) := by decide +kernel
theorem dL_areRings_168 : decode cL_areRings 168 = .ok (.if_icmp .ge 58, 3) := by decide +kernel
theorem dL_areRings_171 : decode cL_areRings 171 = .ok (.iload 7, 2) := by decide +kernel
theorem dL_areRings_173 : decode cL_areRings 173 = .ok (.iconst 1, 1) := by decide +kernel
theorem dL_areRings_174 : decode cL_areRings 174 = .ok (.iadd, 1) := by decide +kernel
theorem dL_areRings_175 : decode cL_areRings 175 = .ok (.iload 5, 2) := by decide +kernel
theorem dL_areRings_177 : decode cL_areRings 177 = .ok (.iadd, 1) := by decide +kernel
theorem dL_areRings_178 : decode cL_areRings 178 = .ok (.aload_n 2, 1) := by decide +kernel
theorem dL_areRings_179 : decode cL_areRings 179 = .ok (.iconst 1, 1) := by decide +kernel
theorem dL_areRings_180 : decode cL_areRings 180 = .ok (.iaload, 1) := by decide +kernel
theorem dL_areRings_181 : decode cL_areRings 181 = .ok (.irem, 1) := by decide +kernel
theorem dL_areRings_182 : decode cL_areRings 182 = .ok (.istore 8, 2) := by decide +kernel
theorem dL_areRings_184 : decode cL_areRings 184 = .ok (.iload 4, 2) := by decide +kernel
theorem dL_areRings_186 : decode cL_areRings 186 = .ok (.ifCond .eq 31, 3) := by decide +kernel
theorem dL_areRings_189 : decode cL_areRings 189 = .ok (.aload_n 0, 1) := by decide +kernel
theorem dL_areRings_190 : decode cL_areRings 190 = .ok (.iload 7, 2) := by decide +kernel
theorem dL_areRings_192 : decode cL_areRings 192 = .ok (.iload 8, 2) := by decide +kernel
theorem dL_areRings_194 : decode cL_areRings 194 = .ok (.iload 5, 2) := by decide +kernel
theorem dL_areRings_196 : decode cL_areRings 196 = .ok (.invokevirtual 84, 3) := by decide +kernel
theorem dL_areRings_199 : decode cL_areRings 199 = .ok (.aload_n 1, 1) := by decide +kernel
theorem dL_areRings_200 : decode cL_areRings 200 = .ok (.aload_n 2, 1) := by decide +kernel
theorem dL_areRings_201 : decode cL_areRings 201 = .ok (.iload 7, 2) := by decide +kernel
theorem dL_areRings_203 : decode cL_areRings 203 = .ok (.iload 8, 2) := by decide +kernel
theorem dL_areRings_205 : decode cL_areRings 205 = .ok (.iload 5, 2) := by decide +kernel
theorem dL_areRings_207 : decode cL_areRings 207 = .ok (.invokestatic 36, 3) := by decide +kernel
theorem dL_areRings_210 : decode cL_areRings 210 = .ok (.if_icmp .ne 7, 3) := by decide +kernel
theorem dL_areRings_213 : decode cL_areRings 213 = .ok (.iconst 1, 1) := by decide +kernel
theorem dL_areRings_214 : decode cL_areRings 214 = .ok (.goto 4, 3) := by decide +kernel
theorem dL_areRings_217 : decode cL_areRings 217 = .ok (.iconst 0, 1) := by decide +kernel
theorem dL_areRings_218 : decode cL_areRings 218 = .ok (.istore 4, 2) := by decide +kernel
theorem dL_areRings_220 : decode cL_areRings 220 = .ok (.iinc 7 1, 3) := by decide +kernel
theorem dL_areRings_223 : decode cL_areRings 223 = .ok (.goto (-60), 3) := by decide +kernel
theorem dL_areRings_226 : decode cL_areRings 226 = .ok (.iinc 5 1, 3) := by decide +kernel
theorem dL_areRings_229 : decode cL_areRings 229 = .ok (.goto (-187), 3) := by decide +kernel
theorem dL_areRings_232 : decode cL_areRings 232 = .ok (.iload 4, 2) := by decide +kernel
theorem dL_areRings_234 : decode cL_areRings 234 = .ok (.ireturn, 1) := by decide +kernel
set_option maxRecDepth 20000 in
theorem ggL_isActed_X4_pupil : GoodIn wsL_isActed wsX4_pupil := goodIn_r _ [8, 9, 10, 11, 7, 12, 13, 14, 15, 16, 17, 18, 19, 20, 21, 22, 23, 24, 25, 26, 27, 28, 29, 30, 31, 32, 33, 34, 35, 36, 37, 38, 39, 40, 41, 42, 43, 44, 45, 46, 47, 48, 49, 50, 51, 52, 53, 54, 55, 56, 57, 58, 59, 60, 61, 62, 63, 64, 65, 66, 67, 68, 69, 70, 301, 302, 303, 304, 305, 306, 307, 308, 309, 310, 311, 312, 313, 314, 315, 316, 317, 318, 319, 320] (by decide +kernel) (by decide +kernel)
set_option maxRecDepth 20000 in
theorem gL_isActed_X4_pupil : GoodIn wsL_isActed (wsV RL 88 RX4 yX4_pupil wsX4_pupil) := goodIn_app (goodIn_of _ (by decide +kernel)) ggL_isActed_X4_pupil
set_option maxRecDepth 20000 in
theorem ggL_isActed_L_why : GoodIn wsL_isActed wsL_why := goodIn_r _ [74, 75, 76, 73, 77, 78, 79, 80, 81, 82, 83] (by decide +kernel) (by decide +kernel)
set_option maxRecDepth 20000 in
theorem gL_isActed_L_why : GoodIn wsL_isActed (va_wsS RL 78 yL_why wsL_why) := goodIn_app (goodIn_of _ (by decide +kernel)) ggL_isActed_L_why
set_option maxRecDepth 20000 in
theorem ggL_isActed_L_owed : GoodIn wsL_isActed wsL_owed := goodIn_r _ [86, 81, 82, 73, 83] (by decide +kernel) (by decide +kernel)
set_option maxRecDepth 20000 in
theorem gL_isActed_L_owed : GoodIn wsL_isActed (va_wsS RL 36 yL_owed wsL_owed) := goodIn_app (goodIn_of _ (by decide +kernel)) ggL_isActed_L_owed
set_option maxRecDepth 20000 in
theorem ggL_isActed_X4_lend : GoodIn wsL_isActed wsX4_lend := goodIn_r _ [90, 9, 10, 11, 7, 12, 13, 14, 15, 16, 17, 18, 19, 20, 21, 22, 23, 24, 25, 26, 27, 28, 29, 30, 31, 32, 33, 34, 35, 36, 37, 38, 39, 40, 41, 42, 91, 92, 93, 94, 95, 96, 47, 97, 98, 99, 100, 101, 102, 103, 104, 48, 49, 50, 51, 105, 106, 107, 108, 109, 110, 111, 112, 113, 114, 115, 116, 117, 118, 119, 120, 121, 122, 123, 124, 125, 126, 127, 128, 129, 130, 131, 132, 52, 53, 54, 55, 56, 57, 58, 59, 60, 61, 62, 63, 64, 65, 66, 67, 68, 69, 70, 301, 302, 303, 304, 305, 306, 307, 308, 309, 310, 311, 312, 313, 314, 315, 316, 317, 318, 319, 320] (by decide +kernel) (by decide +kernel)
set_option maxRecDepth 20000 in
theorem gL_isActed_X4_lend : GoodIn wsL_isActed (wsV RL 94 RX4 yX4_lend wsX4_lend) := goodIn_app (goodIn_of _ (by decide +kernel)) ggL_isActed_X4_lend
set_option maxRecDepth 20000 in
theorem ggL_isActed_L_take : GoodIn wsL_isActed wsL_take := goodIn_r _ [135, 136, 137, 73, 138, 81, 82, 83, 139, 140, 141] (by decide +kernel) (by decide +kernel)
set_option maxRecDepth 20000 in
theorem gL_isActed_L_take : GoodIn wsL_isActed (va_wsS RL 48 yL_take wsL_take) := goodIn_app (goodIn_of _ (by decide +kernel)) ggL_isActed_L_take
set_option maxRecDepth 20000 in
theorem ggL_isActed_X4_fulfil : GoodIn wsL_isActed wsX4_fulfil := goodIn_r _ [145, 9, 10, 11, 7, 12, 13, 14, 15, 16, 17, 18, 19, 20, 21, 22, 23, 24, 25, 26, 27, 28, 29, 30, 31, 32, 33, 34, 35, 36, 37, 38, 39, 40, 41, 42, 146, 147, 148, 149, 95, 96, 97, 98, 99, 100, 101, 102, 103, 104, 48, 49, 50, 51, 105, 106, 107, 108, 113, 114, 115, 116, 117, 118, 119, 120, 121, 122, 150, 151, 152, 153, 154, 155, 156, 157, 158, 52, 53, 159, 160, 161, 162, 131, 132, 54, 55, 56, 57, 58, 59, 60, 61, 62, 63, 64, 65, 66, 67, 68, 69, 70, 301, 302, 303, 304, 305, 306, 307, 308, 309, 310, 311, 312, 313, 314, 315, 316, 317, 318, 319, 320] (by decide +kernel) (by decide +kernel)
set_option maxRecDepth 20000 in
theorem gL_isActed_X4_fulfil : GoodIn wsL_isActed (wsV RL 98 RX4 yX4_fulfil wsX4_fulfil) := goodIn_app (goodIn_of _ (by decide +kernel)) ggL_isActed_X4_fulfil
set_option maxRecDepth 20000 in
theorem ggL_isActed_X4_guarantee : GoodIn wsL_isActed wsX4_guarantee := goodIn_r _ [166, 9, 10, 11, 7, 12, 13, 14, 15, 16, 17, 18, 19, 20, 21, 22, 23, 24, 25, 26, 27, 28, 29, 30, 31, 32, 33, 34, 35, 36, 37, 38, 39, 40, 41, 42, 167, 168, 169, 170, 95, 101, 102, 103, 104, 48, 49, 50, 51, 97, 98, 99, 100, 121, 122, 131, 132, 54, 55, 56, 57, 58, 59, 60, 61, 62, 63, 64, 65, 66, 67, 68, 69, 70, 301, 302, 303, 304, 305, 306, 307, 308, 309, 310, 311, 312, 313, 314, 315, 316, 317, 318, 319, 320] (by decide +kernel) (by decide +kernel)
set_option maxRecDepth 20000 in
theorem gL_isActed_X4_guarantee : GoodIn wsL_isActed (wsV RL 101 RX4 yX4_guarantee wsX4_guarantee) := goodIn_app (goodIn_of _ (by decide +kernel)) ggL_isActed_X4_guarantee
set_option maxRecDepth 20000 in
theorem ggL_isActed_L_clear : GoodIn wsL_isActed wsL_clear := goodIn_r _ [173, 174, 175, 73, 176, 177, 78, 79, 80, 178, 179, 180, 181, 182, 183, 184, 185, 186, 84, 85, 86, 81, 82, 83, 133, 134, 135, 136, 137, 138, 139, 140, 141] (by decide +kernel) (by decide +kernel)
set_option maxRecDepth 20000 in
theorem gL_isActed_L_clear : GoodIn wsL_isActed (va_wsS RL 104 yL_clear wsL_clear) := goodIn_app (goodIn_of _ (by decide +kernel)) ggL_isActed_L_clear
set_option maxRecDepth 20000 in
theorem ggL_isActed_X4_clear : GoodIn wsL_isActed wsX4_clear := goodIn_r _ [190, 191, 9, 10, 11, 7, 12, 13, 14, 15, 16, 17, 18, 19, 20, 21, 22, 23, 24, 25, 26, 27, 28, 29, 30, 31, 32, 33, 34, 35, 36, 37, 38, 39, 40, 41, 42, 192, 193, 194, 195, 196, 197, 198, 105, 106, 199, 200, 201, 202, 203, 204, 205, 206, 207, 208, 209, 49, 50, 51, 210, 118, 119, 120, 121, 122, 52, 53, 211, 212, 213, 214, 215, 216, 131, 132, 217, 218, 219, 220, 221, 222, 223, 224, 225, 226, 227, 228, 229, 230, 231, 232, 233, 234, 235, 236, 237, 238, 239, 240, 241, 242, 151, 152, 153, 154, 155, 156, 157, 158, 48, 117, 159, 160, 161, 162, 243, 244, 245, 246, 247, 248, 249, 250, 54, 55, 56, 57, 58, 59, 60, 61, 62, 63, 64, 65, 66, 67, 68, 69, 70, 301, 302, 303, 304, 305, 306, 307, 308, 309, 310, 311, 312, 313, 314, 315, 316, 317, 318, 321, 322, 323, 324, 325, 319, 320] (by decide +kernel) (by decide +kernel)
set_option maxRecDepth 20000 in
theorem gL_isActed_X4_clear : GoodIn wsL_isActed (wsV RL 108 RX4 yX4_clear wsX4_clear) := goodIn_app (goodIn_of _ (by decide +kernel)) ggL_isActed_X4_clear
set_option maxRecDepth 20000 in
theorem ggL_isActed_X4_set : GoodIn wsL_isActed wsX4_set := goodIn_r _ [254, 9, 10, 11, 7, 12, 13, 14, 15, 16, 17, 18, 19, 20, 21, 22, 23, 24, 25, 26, 27, 28, 29, 30, 31, 32, 33, 34, 35, 36, 37, 38, 39, 40, 41, 42, 255, 256, 257, 258, 95, 259, 260, 48, 49, 50, 51, 131, 132, 54, 55, 56, 57, 58, 59, 60, 61, 62, 63, 64, 65, 66, 67, 68, 69, 70, 301, 302, 303, 304, 305, 306, 307, 308, 309, 310, 311, 312, 313, 314, 315, 316, 317, 318, 319, 320] (by decide +kernel) (by decide +kernel)
set_option maxRecDepth 20000 in
theorem gL_isActed_X4_set : GoodIn wsL_isActed (wsV RL 110 RX4 yX4_set wsX4_set) := goodIn_app (goodIn_of _ (by decide +kernel)) ggL_isActed_X4_set
set_option maxRecDepth 20000 in
theorem ggL_isActed_X4_holiday : GoodIn wsL_isActed wsX4_holiday := goodIn_r _ [264, 9, 10, 11, 7, 12, 13, 14, 15, 16, 17, 18, 19, 20, 21, 22, 23, 24, 25, 26, 27, 28, 29, 30, 31, 32, 33, 34, 35, 36, 37, 38, 39, 40, 41, 42, 265, 266, 267, 268, 48, 49, 50, 51, 131, 132, 54, 55, 56, 57, 58, 59, 60, 61, 62, 63, 64, 65, 66, 67, 68, 69, 70, 301, 302, 303, 304, 305, 306, 307, 308, 309, 310, 311, 312, 313, 314, 315, 316, 317, 318, 319, 320] (by decide +kernel) (by decide +kernel)
set_option maxRecDepth 20000 in
theorem gL_isActed_X4_holiday : GoodIn wsL_isActed (wsV RL 113 RX4 yX4_holiday wsX4_holiday) := goodIn_app (goodIn_of _ (by decide +kernel)) ggL_isActed_X4_holiday
set_option maxRecDepth 20000 in
theorem ggL_isActed_L_week : GoodIn wsL_isActed wsL_week := goodIn_r _ [271, 272, 78, 79, 73, 80, 81, 82, 83, 136, 137, 138, 178, 179, 180, 181, 182, 183, 139, 140, 141] (by decide +kernel) (by decide +kernel)
set_option maxRecDepth 20000 in
theorem gL_isActed_L_week : GoodIn wsL_isActed (va_wsS RL 117 yL_week wsL_week) := goodIn_app (goodIn_of _ (by decide +kernel)) ggL_isActed_L_week
set_option maxRecDepth 20000 in
theorem ggL_isActed_X4_weeks : GoodIn wsL_isActed wsX4_weeks := goodIn_r _ [276, 9, 10, 11, 7, 12, 13, 14, 15, 16, 17, 18, 19, 20, 21, 22, 23, 24, 25, 26, 27, 28, 29, 30, 31, 32, 33, 34, 35, 36, 37, 38, 39, 40, 41, 42, 277, 278, 279, 280, 95, 47, 48, 49, 50, 51, 281, 282, 283, 284, 52, 53, 285, 286, 287, 288, 289, 290, 291, 292, 121, 122, 293, 294, 295, 296, 123, 124, 125, 126, 131, 132, 297, 298, 299, 300, 159, 160, 161, 162, 54, 55, 56, 57, 58, 59, 60, 61, 62, 63, 64, 65, 66, 67, 68, 69, 70, 301, 302, 303, 304, 305, 306, 307, 308, 309, 310, 311, 312, 313, 314, 315, 316, 317, 318, 319, 320] (by decide +kernel) (by decide +kernel)
set_option maxRecDepth 20000 in
theorem gL_isActed_X4_weeks : GoodIn wsL_isActed (wsV RL 121 RX4 yX4_weeks wsX4_weeks) := goodIn_app (goodIn_of _ (by decide +kernel)) ggL_isActed_X4_weeks
theorem dL_isActed_0 : decode cL_isActed 0 = .ok (.iload 6, 2) := by decide +kernel
theorem dL_isActed_2 : decode cL_isActed 2 = .ok (.bipush 8, 2) := by decide +kernel
theorem dL_isActed_4 : decode cL_isActed 4 = .ok (.irem, 1) := by decide +kernel
theorem dL_isActed_5 : decode cL_isActed 5 = .ok (.istore 7, 2) := by decide +kernel
theorem dL_isActed_7 : decode cL_isActed 7 = .ok (.iload 6, 2) := by decide +kernel
theorem dL_isActed_9 : decode cL_isActed 9 = .ok (.bipush 8, 2) := by decide +kernel
theorem dL_isActed_11 : decode cL_isActed 11 = .ok (.idiv, 1) := by decide +kernel
theorem dL_isActed_12 : decode cL_isActed 12 = .ok (.bipush 8, 2) := by decide +kernel
theorem dL_isActed_14 : decode cL_isActed 14 = .ok (.irem, 1) := by decide +kernel
theorem dL_isActed_15 : decode cL_isActed 15 = .ok (.istore 8, 2) := by decide +kernel
theorem dL_isActed_17 : decode cL_isActed 17 = .ok (.iload 6, 2) := by decide +kernel
theorem dL_isActed_19 : decode cL_isActed 19 = .ok (.bipush 64, 2) := by decide +kernel
theorem dL_isActed_21 : decode cL_isActed 21 = .ok (.idiv, 1) := by decide +kernel
theorem dL_isActed_22 : decode cL_isActed 22 = .ok (.iconst 5, 1) := by decide +kernel
theorem dL_isActed_23 : decode cL_isActed 23 = .ok (.irem, 1) := by decide +kernel
theorem dL_isActed_24 : decode cL_isActed 24 = .ok (.ifCond .ne 14, 3) := by decide +kernel
theorem dL_isActed_27 : decode cL_isActed 27 = .ok (.iload 6, 2) := by decide +kernel
theorem dL_isActed_29 : decode cL_isActed 29 = .ok (.sipush 320, 3) := by decide +kernel
theorem dL_isActed_32 : decode cL_isActed 32 = .ok (.idiv, 1) := by decide +kernel
theorem dL_isActed_33 : decode cL_isActed 33 = .ok (.iconst 4, 1) := by decide +kernel
theorem dL_isActed_34 : decode cL_isActed 34 = .ok (.irem, 1) := by decide +kernel
theorem dL_isActed_35 : decode cL_isActed 35 = .ok (.goto 4, 3) := by decide +kernel
theorem dL_isActed_38 : decode cL_isActed 38 = .ok (.iconst 1, 1) := by decide +kernel
theorem dL_isActed_39 : decode cL_isActed 39 = .ok (.istore 9, 2) := by decide +kernel
theorem dL_isActed_41 : decode cL_isActed 41 = .ok (.iconst 1, 1) := by decide +kernel
theorem dL_isActed_42 : decode cL_isActed 42 = .ok (.iload 6, 2) := by decide +kernel
theorem dL_isActed_44 : decode cL_isActed 44 = .ok (.sipush 1280, 3) := by decide +kernel
theorem dL_isActed_47 : decode cL_isActed 47 = .ok (.idiv, 1) := by decide +kernel
theorem dL_isActed_48 : decode cL_isActed 48 = .ok (.bipush 9, 2) := by decide +kernel
theorem dL_isActed_50 : decode cL_isActed 50 = .ok (.irem, 1) := by decide +kernel
theorem dL_isActed_51 : decode cL_isActed 51 = .ok (.iadd, 1) := by decide +kernel
theorem dL_isActed_52 : decode cL_isActed 52 = .ok (.istore 10, 2) := by decide +kernel
theorem dL_isActed_54 : decode cL_isActed 54 = .ok (.iload 5, 2) := by decide +kernel
theorem dL_isActed_56 : decode cL_isActed 56 = .ok (.ifCond .ne 62, 3) := by decide +kernel
theorem dL_isActed_59 : decode cL_isActed 59 = .ok (.aload_n 3, 1) := by decide +kernel
theorem dL_isActed_60 : decode cL_isActed 60 = .ok (.iconst 1, 1) := by decide +kernel
theorem dL_isActed_61 : decode cL_isActed 61 = .ok (.iaload, 1) := by decide +kernel
theorem dL_isActed_62 : decode cL_isActed 62 = .ok (.bipush 8, 2) := by decide +kernel
theorem dL_isActed_64 : decode cL_isActed 64 = .ok (.if_icmp .ne 7, 3) := by decide +kernel
theorem dL_isActed_67 : decode cL_isActed 67 = .ok (.iconst 1, 1) := by decide +kernel
theorem dL_isActed_68 : decode cL_isActed 68 = .ok (.goto 4, 3) := by decide +kernel
theorem dL_isActed_71 : decode cL_isActed 71 = .ok (.iconst 0, 1) := by decide +kernel
theorem dL_isActed_72 : decode cL_isActed 72 = .ok (.istore 11, 2) := by decide +kernel
theorem dL_isActed_74 : decode cL_isActed 74 = .ok (.aload_n 3, 1) := by decide +kernel
theorem dL_isActed_75 : decode cL_isActed 75 = .ok (.iconst 1, 1) := by decide +kernel
theorem dL_isActed_76 : decode cL_isActed 76 = .ok (.dup2, 1) := by decide +kernel
theorem dL_isActed_77 : decode cL_isActed 77 = .ok (.iaload, 1) := by decide +kernel
theorem dL_isActed_78 : decode cL_isActed 78 = .ok (.iload 11, 2) := by decide +kernel
theorem dL_isActed_80 : decode cL_isActed 80 = .ok (.ifCond .eq 7, 3) := by decide +kernel
theorem dL_isActed_83 : decode cL_isActed 83 = .ok (.iconst 0, 1) := by decide +kernel
theorem dL_isActed_84 : decode cL_isActed 84 = .ok (.goto 4, 3) := by decide +kernel
theorem dL_isActed_87 : decode cL_isActed 87 = .ok (.iconst 1, 1) := by decide +kernel
theorem dL_isActed_88 : decode cL_isActed 88 = .ok (.iadd, 1) := by decide +kernel
theorem dL_isActed_89 : decode cL_isActed 89 = .ok (.iastore, 1) := by decide +kernel
theorem dL_isActed_90 : decode cL_isActed 90 = .ok (.aload_n 0, 1) := by decide +kernel
theorem dL_isActed_91 : decode cL_isActed 91 = .ok (.invokevirtual 88, 3) := by decide +kernel
theorem dL_isActed_94 : decode cL_isActed 94 = .ok (.iload 11, 2) := by decide +kernel
theorem dL_isActed_96 : decode cL_isActed 96 = .ok (.ifCond .eq 8, 3) := by decide +kernel
theorem dL_isActed_99 : decode cL_isActed 99 = .ok (.ldc 92, 2) := by decide +kernel
theorem dL_isActed_101 : decode cL_isActed 101 = .ok (.goto 8, 3) := by decide +kernel
theorem dL_isActed_104 : decode cL_isActed 104 = .ok (.aload_n 3, 1) := by decide +kernel
theorem dL_isActed_105 : decode cL_isActed 105 = .ok (.iconst 1, 1) := by decide +kernel
theorem dL_isActed_106 : decode cL_isActed 106 = .ok (.iaload, 1) := by decide +kernel
theorem dL_isActed_107 : decode cL_isActed 107 = .ok (.iconst 1, 1) := by decide +kernel
theorem dL_isActed_108 : decode cL_isActed 108 = .ok (.isub, 1) := by decide +kernel
theorem dL_isActed_109 : decode cL_isActed 109 = .ok (.if_icmp .ne 7, 3) := by decide +kernel
theorem dL_isActed_112 : decode cL_isActed 112 = .ok (.iconst 1, 1) := by decide +kernel
theorem dL_isActed_113 : decode cL_isActed 113 = .ok (.goto 4, 3) := by decide +kernel
theorem dL_isActed_116 : decode cL_isActed 116 = .ok (.iconst 0, 1) := by decide +kernel
theorem dL_isActed_117 : decode cL_isActed 117 = .ok (.ireturn, 1) := by decide +kernel
theorem dL_isActed_118 : decode cL_isActed 118 = .ok (.iload 7, 2) := by decide +kernel
theorem dL_isActed_120 : decode cL_isActed 120 = .ok (.aload_n 3, 1) := by decide +kernel
theorem dL_isActed_121 : decode cL_isActed 121 = .ok (.iconst 1, 1) := by decide +kernel
theorem dL_isActed_122 : decode cL_isActed 122 = .ok (.iaload, 1) := by decide +kernel
theorem dL_isActed_123 : decode cL_isActed 123 = .ok (.if_icmp .ge 22, 3) := by decide +kernel
theorem dL_isActed_126 : decode cL_isActed 126 = .ok (.iload 8, 2) := by decide +kernel
theorem dL_isActed_128 : decode cL_isActed 128 = .ok (.aload_n 3, 1) := by decide +kernel
theorem dL_isActed_129 : decode cL_isActed 129 = .ok (.iconst 1, 1) := by decide +kernel
theorem dL_isActed_130 : decode cL_isActed 130 = .ok (.iaload, 1) := by decide +kernel
theorem dL_isActed_131 : decode cL_isActed 131 = .ok (.if_icmp .ge 14, 3) := by decide +kernel
theorem dL_isActed_134 : decode cL_isActed 134 = .ok (.iload 7, 2) := by decide +kernel
theorem dL_isActed_136 : decode cL_isActed 136 = .ok (.iload 8, 2) := by decide +kernel
theorem dL_isActed_138 : decode cL_isActed 138 = .ok (.if_icmp .eq 7, 3) := by decide +kernel
theorem dL_isActed_141 : decode cL_isActed 141 = .ok (.iconst 1, 1) := by decide +kernel
theorem dL_isActed_142 : decode cL_isActed 142 = .ok (.goto 4, 3) := by decide +kernel
theorem dL_isActed_145 : decode cL_isActed 145 = .ok (.iconst 0, 1) := by decide +kernel
theorem dL_isActed_146 : decode cL_isActed 146 = .ok (.istore 11, 2) := by decide +kernel
theorem dL_isActed_148 : decode cL_isActed 148 = .ok (.iload 5, 2) := by decide +kernel
theorem dL_isActed_150 : decode cL_isActed 150 = .ok (.bipush 10, 2) := by decide +kernel
theorem dL_isActed_152 : decode cL_isActed 152 = .ok (.if_icmp .ge 157, 3) := by decide +kernel
theorem dL_isActed_155 : decode cL_isActed 155 = .ok (.iload 11, 2) := by decide +kernel
theorem dL_isActed_157 : decode cL_isActed 157 = .ok (.ifCond .ne 8, 3) := by decide +kernel
theorem dL_isActed_160 : decode cL_isActed 160 = .ok (.ldc 58, 2) := by decide +kernel
theorem dL_isActed_162 : decode cL_isActed 162 = .ok (.goto 35, 3) := by decide +kernel
theorem dL_isActed_165 : decode cL_isActed 165 = .ok (.aload_n 1, 1) := by decide +kernel
theorem dL_isActed_166 : decode cL_isActed 166 = .ok (.aload_n 2, 1) := by decide +kernel
theorem dL_isActed_167 : decode cL_isActed 167 = .ok (.aload_n 3, 1) := by decide +kernel
theorem dL_isActed_168 : decode cL_isActed 168 = .ok (.iload 7, 2) := by decide +kernel
theorem dL_isActed_170 : decode cL_isActed 170 = .ok (.iload 10, 2) := by decide +kernel
theorem dL_isActed_172 : decode cL_isActed 172 = .ok (.invokestatic 78, 3) := by decide +kernel
theorem dL_isActed_175 : decode cL_isActed 175 = .ok (.ifCond .le 8, 3) := by decide +kernel
theorem dL_isActed_178 : decode cL_isActed 178 = .ok (.ldc 93, 2) := by decide +kernel
theorem dL_isActed_180 : decode cL_isActed 180 = .ok (.goto 17, 3) := by decide +kernel
theorem dL_isActed_183 : decode cL_isActed 183 = .ok (.aload_n 3, 1) := by decide +kernel
theorem dL_isActed_184 : decode cL_isActed 184 = .ok (.iconst 2, 1) := by decide +kernel
theorem dL_isActed_185 : decode cL_isActed 185 = .ok (.iaload, 1) := by decide +kernel
theorem dL_isActed_186 : decode cL_isActed 186 = .ok (.bipush 40, 2) := by decide +kernel
theorem dL_isActed_188 : decode cL_isActed 188 = .ok (.if_icmp .ne 8, 3) := by decide +kernel
theorem dL_isActed_191 : decode cL_isActed 191 = .ok (.ldc 92, 2) := by decide +kernel
theorem dL_isActed_193 : decode cL_isActed 193 = .ok (.goto 4, 3) := by decide +kernel
theorem dL_isActed_196 : decode cL_isActed 196 = .ok (.iconst 0, 1) := by decide +kernel
theorem dL_isActed_197 : decode cL_isActed 197 = .ok (.istore 12, 2) := by decide +kernel
theorem dL_isActed_199 : decode cL_isActed 199 = .ok (.iload 12, 2) := by decide +kernel
theorem dL_isActed_201 : decode cL_isActed 201 = .ok (.ifCond .ne 85, 3) := by decide +kernel
theorem dL_isActed_204 : decode cL_isActed 204 = .ok (.aload_n 1, 1) := by decide +kernel
theorem dL_isActed_205 : decode cL_isActed 205 = .ok (.aload_n 3, 1) := by decide +kernel
theorem dL_isActed_206 : decode cL_isActed 206 = .ok (.iconst 2, 1) := by decide +kernel
theorem dL_isActed_207 : decode cL_isActed 207 = .ok (.iaload, 1) := by decide +kernel
theorem dL_isActed_208 : decode cL_isActed 208 = .ok (.iload 7, 2) := by decide +kernel
theorem dL_isActed_210 : decode cL_isActed 210 = .ok (.bipush 8, 2) := by decide +kernel
theorem dL_isActed_212 : decode cL_isActed 212 = .ok (.iload 8, 2) := by decide +kernel
theorem dL_isActed_214 : decode cL_isActed 214 = .ok (.imul, 1) := by decide +kernel
theorem dL_isActed_215 : decode cL_isActed 215 = .ok (.iadd, 1) := by decide +kernel
theorem dL_isActed_216 : decode cL_isActed 216 = .ok (.bipush 64, 2) := by decide +kernel
theorem dL_isActed_218 : decode cL_isActed 218 = .ok (.iload 9, 2) := by decide +kernel
theorem dL_isActed_220 : decode cL_isActed 220 = .ok (.imul, 1) := by decide +kernel
theorem dL_isActed_221 : decode cL_isActed 221 = .ok (.iadd, 1) := by decide +kernel
theorem dL_isActed_222 : decode cL_isActed 222 = .ok (.sipush 256, 3) := by decide +kernel
theorem dL_isActed_225 : decode cL_isActed 225 = .ok (.iload 10, 2) := by decide +kernel
theorem dL_isActed_227 : decode cL_isActed 227 = .ok (.imul, 1) := by decide +kernel
theorem dL_isActed_228 : decode cL_isActed 228 = .ok (.iadd, 1) := by decide +kernel
theorem dL_isActed_229 : decode cL_isActed 229 = .ok (.iastore, 1) := by decide +kernel
theorem dL_isActed_230 : decode cL_isActed 230 = .ok (.aload_n 3, 1) := by decide +kernel
theorem dL_isActed_231 : decode cL_isActed 231 = .ok (.iconst 2, 1) := by decide +kernel
theorem dL_isActed_232 : decode cL_isActed 232 = .ok (.dup2, 1) := by decide +kernel
theorem dL_isActed_233 : decode cL_isActed 233 = .ok (.iaload, 1) := by decide +kernel
theorem dL_isActed_234 : decode cL_isActed 234 = .ok (.iconst 1, 1) := by decide +kernel
theorem dL_isActed_235 : decode cL_isActed 235 = .ok (.iadd, 1) := by decide +kernel
theorem dL_isActed_236 : decode cL_isActed 236 = .ok (.iastore, 1) := by decide +kernel
theorem dL_isActed_237 : decode cL_isActed 237 = .ok (.aload_n 3, 1) := by decide +kernel
theorem dL_isActed_238 : decode cL_isActed 238 = .ok (.iconst 3, 1) := by decide +kernel
theorem dL_isActed_239 : decode cL_isActed 239 = .ok (.dup2, 1) := by decide +kernel
theorem dL_isActed_240 : decode cL_isActed 240 = .ok (.iaload, 1) := by decide +kernel
theorem dL_isActed_241 : decode cL_isActed 241 = .ok (.iload 10, 2) := by decide +kernel
theorem dL_isActed_243 : decode cL_isActed 243 = .ok (.iadd, 1) := by decide +kernel
theorem dL_isActed_244 : decode cL_isActed 244 = .ok (.iastore, 1) := by decide +kernel
theorem dL_isActed_245 : decode cL_isActed 245 = .ok (.aload_n 2, 1) := by decide +kernel
theorem dL_isActed_246 : decode cL_isActed 246 = .ok (.bipush 6, 2) := by decide +kernel
theorem dL_isActed_248 : decode cL_isActed 248 = .ok (.iload 7, 2) := by decide +kernel
theorem dL_isActed_250 : decode cL_isActed 250 = .ok (.imul, 1) := by decide +kernel
theorem dL_isActed_251 : decode cL_isActed 251 = .ok (.iconst 5, 1) := by decide +kernel
theorem dL_isActed_252 : decode cL_isActed 252 = .ok (.iadd, 1) := by decide +kernel
theorem dL_isActed_253 : decode cL_isActed 253 = .ok (.dup2, 1) := by decide +kernel
theorem dL_isActed_254 : decode cL_isActed 254 = .ok (.iaload, 1) := by decide +kernel
theorem dL_isActed_255 : decode cL_isActed 255 = .ok (.iload 10, 2) := by decide +kernel
theorem dL_isActed_257 : decode cL_isActed 257 = .ok (.isub, 1) := by decide +kernel
theorem dL_isActed_258 : decode cL_isActed 258 = .ok (.iastore, 1) := by decide +kernel
theorem dL_isActed_259 : decode cL_isActed 259 = .ok (.aload_n 2, 1) := by decide +kernel
theorem dL_isActed_260 : decode cL_isActed 260 = .ok (.bipush 6, 2) := by decide +kernel
theorem dL_isActed_262 : decode cL_isActed 262 = .ok (.iload 8, 2) := by decide +kernel
theorem dL_isActed_264 : decode cL_isActed 264 = .ok (.imul, 1) := by decide +kernel
theorem dL_isActed_265 : decode cL_isActed 265 = .ok (.iconst 5, 1) := by decide +kernel
theorem dL_isActed_266 : decode cL_isActed 266 = .ok (.iadd, 1) := by decide +kernel
theorem dL_isActed_267 : decode cL_isActed 267 = .ok (.dup2, 1) := by decide +kernel
theorem dL_isActed_268 : decode cL_isActed 268 = .ok (.iaload, 1) := by decide +kernel
theorem dL_isActed_269 : decode cL_isActed 269 = .ok (.iload 10, 2) := by decide +kernel
theorem dL_isActed_271 : decode cL_isActed 271 = .ok (.iadd, 1) := by decide +kernel
theorem dL_isActed_272 : decode cL_isActed 272 = .ok (.iastore, 1) := by decide +kernel
theorem dL_isActed_273 : decode cL_isActed 273 = .ok (.aload_n 1, 1) := by decide +kernel
theorem dL_isActed_274 : decode cL_isActed 274 = .ok (.aload_n 3, 1) := by decide +kernel
theorem dL_isActed_275 : decode cL_isActed 275 = .ok (.iload 7, 2) := by decide +kernel
theorem dL_isActed_277 : decode cL_isActed 277 = .ok (.iload 8, 2) := by decide +kernel
theorem dL_isActed_279 : decode cL_isActed 279 = .ok (.iload 9, 2) := by decide +kernel
theorem dL_isActed_281 : decode cL_isActed 281 = .ok (.invokestatic 36, 3) := by decide +kernel
theorem dL_isActed_284 : decode cL_isActed 284 = .ok (.istore 12, 2) := by decide +kernel
theorem dL_isActed_286 : decode cL_isActed 286 = .ok (.aload_n 0, 1) := by decide +kernel
theorem dL_isActed_287 : decode cL_isActed 287 = .ok (.iload 7, 2) := by decide +kernel
theorem dL_isActed_289 : decode cL_isActed 289 = .ok (.iload 8, 2) := by decide +kernel
theorem dL_isActed_291 : decode cL_isActed 291 = .ok (.iload 9, 2) := by decide +kernel
theorem dL_isActed_293 : decode cL_isActed 293 = .ok (.iload 10, 2) := by decide +kernel
theorem dL_isActed_295 : decode cL_isActed 295 = .ok (.invokevirtual 94, 3) := by decide +kernel
theorem dL_isActed_298 : decode cL_isActed 298 = .ok (.iload 12, 2) := by decide +kernel
theorem dL_isActed_300 : decode cL_isActed 300 = .ok (.if_icmp .ne 7, 3) := by decide +kernel
theorem dL_isActed_303 : decode cL_isActed 303 = .ok (.iconst 1, 1) := by decide +kernel
theorem dL_isActed_304 : decode cL_isActed 304 = .ok (.goto 4, 3) := by decide +kernel
theorem dL_isActed_307 : decode cL_isActed 307 = .ok (.iconst 0, 1) := by decide +kernel
theorem dL_isActed_308 : decode cL_isActed 308 = .ok (.ireturn, 1) := by decide +kernel
theorem dL_isActed_309 : decode cL_isActed 309 = .ok (.iload 5, 2) := by decide +kernel
theorem dL_isActed_311 : decode cL_isActed 311 = .ok (.bipush 12, 2) := by decide +kernel
theorem dL_isActed_313 : decode cL_isActed 313 = .ok (.if_icmp .ge 147, 3) := by decide +kernel
theorem dL_isActed_316 : decode cL_isActed 316 = .ok (.iconst 1, 1) := by decide +kernel
theorem dL_isActed_317 : decode cL_isActed 317 = .ok (.iload 10, 2) := by decide +kernel
theorem dL_isActed_319 : decode cL_isActed 319 = .ok (.iconst 3, 1) := by decide +kernel
theorem dL_isActed_320 : decode cL_isActed 320 = .ok (.irem, 1) := by decide +kernel
theorem dL_isActed_321 : decode cL_isActed 321 = .ok (.iadd, 1) := by decide +kernel
theorem dL_isActed_322 : decode cL_isActed 322 = .ok (.istore 12, 2) := by decide +kernel
theorem dL_isActed_324 : decode cL_isActed 324 = .ok (.iload 11, 2) := by decide +kernel
theorem dL_isActed_326 : decode cL_isActed 326 = .ok (.ifCond .ne 8, 3) := by decide +kernel
theorem dL_isActed_329 : decode cL_isActed 329 = .ok (.ldc 58, 2) := by decide +kernel
theorem dL_isActed_331 : decode cL_isActed 331 = .ok (.goto 38, 3) := by decide +kernel
theorem dL_isActed_334 : decode cL_isActed 334 = .ok (.aload_n 1, 1) := by decide +kernel
theorem dL_isActed_335 : decode cL_isActed 335 = .ok (.aload_n 3, 1) := by decide +kernel
theorem dL_isActed_336 : decode cL_isActed 336 = .ok (.iload 7, 2) := by decide +kernel
theorem dL_isActed_338 : decode cL_isActed 338 = .ok (.iload 8, 2) := by decide +kernel
theorem dL_isActed_340 : decode cL_isActed 340 = .ok (.iload 9, 2) := by decide +kernel
theorem dL_isActed_342 : decode cL_isActed 342 = .ok (.invokestatic 36, 3) := by decide +kernel
theorem dL_isActed_345 : decode cL_isActed 345 = .ok (.iload 12, 2) := by decide +kernel
theorem dL_isActed_347 : decode cL_isActed 347 = .ok (.if_icmp .ge 8, 3) := by decide +kernel
theorem dL_isActed_350 : decode cL_isActed 350 = .ok (.ldc 93, 2) := by decide +kernel
theorem dL_isActed_352 : decode cL_isActed 352 = .ok (.goto 17, 3) := by decide +kernel
theorem dL_isActed_355 : decode cL_isActed 355 = .ok (.aload_n 1, 1) := by decide +kernel
theorem dL_isActed_356 : decode cL_isActed 356 = .ok (.aload_n 3, 1) := by decide +kernel
theorem dL_isActed_357 : decode cL_isActed 357 = .ok (.iload 7, 2) := by decide +kernel
theorem dL_isActed_359 : decode cL_isActed 359 = .ok (.iload 8, 2) := by decide +kernel
theorem dL_isActed_361 : decode cL_isActed 361 = .ok (.iload 9, 2) := by decide +kernel
theorem dL_isActed_363 : decode cL_isActed 363 = .ok (.invokestatic 36, 3) := by decide +kernel
theorem dL_isActed_366 : decode cL_isActed 366 = .ok (.iload 12, 2) := by decide +kernel
theorem dL_isActed_368 : decode cL_isActed 368 = .ok (.isub, 1) := by decide +kernel
theorem dL_isActed_369 : decode cL_isActed 369 = .ok (.istore 13, 2) := by decide +kernel
theorem dL_isActed_371 : decode cL_isActed 371 = .ok (.iload 13, 2) := by decide +kernel
theorem dL_isActed_373 : decode cL_isActed 373 = .ok (.ifCond .lt 64, 3) := by decide +kernel
theorem dL_isActed_376 : decode cL_isActed 376 = .ok (.aload_n 1, 1) := by decide +kernel
theorem dL_isActed_377 : decode cL_isActed 377 = .ok (.aload_n 3, 1) := by decide +kernel
theorem dL_isActed_378 : decode cL_isActed 378 = .ok (.iload 7, 2) := by decide +kernel
theorem dL_isActed_380 : decode cL_isActed 380 = .ok (.iload 8, 2) := by decide +kernel
theorem dL_isActed_382 : decode cL_isActed 382 = .ok (.iload 9, 2) := by decide +kernel
theorem dL_isActed_384 : decode cL_isActed 384 = .ok (.iload 12, 2) := by decide +kernel
theorem dL_isActed_386 : decode cL_isActed 386 = .ok (.invokestatic 48, 3) := by decide +kernel
theorem dL_isActed_389 : decode cL_isActed 389 = .ok (.aload_n 2, 1) := by decide +kernel
theorem dL_isActed_390 : decode cL_isActed 390 = .ok (.bipush 6, 2) := by decide +kernel
theorem dL_isActed_392 : decode cL_isActed 392 = .ok (.iload 7, 2) := by decide +kernel
theorem dL_isActed_394 : decode cL_isActed 394 = .ok (.imul, 1) := by decide +kernel
theorem dL_isActed_395 : decode cL_isActed 395 = .ok (.dup2, 1) := by decide +kernel
theorem dL_isActed_396 : decode cL_isActed 396 = .ok (.iaload, 1) := by decide +kernel
theorem dL_isActed_397 : decode cL_isActed 397 = .ok (.iload 12, 2) := by decide +kernel
theorem dL_isActed_399 : decode cL_isActed 399 = .ok (.iadd, 1) := by decide +kernel
theorem dL_isActed_400 : decode cL_isActed 400 = .ok (.iastore, 1) := by decide +kernel
theorem dL_isActed_401 : decode cL_isActed 401 = .ok (.aload_n 2, 1) := by decide +kernel
theorem dL_isActed_402 : decode cL_isActed 402 = .ok (.bipush 6, 2) := by decide +kernel
theorem dL_isActed_404 : decode cL_isActed 404 = .ok (.iload 7, 2) := by decide +kernel
theorem dL_isActed_406 : decode cL_isActed 406 = .ok (.imul, 1) := by decide +kernel
theorem dL_isActed_407 : decode cL_isActed 407 = .ok (.iconst 5, 1) := by decide +kernel
theorem dL_isActed_408 : decode cL_isActed 408 = .ok (.iadd, 1) := by decide +kernel
theorem dL_isActed_409 : decode cL_isActed 409 = .ok (.dup2, 1) := by decide +kernel
theorem dL_isActed_410 : decode cL_isActed 410 = .ok (.iaload, 1) := by decide +kernel
theorem dL_isActed_411 : decode cL_isActed 411 = .ok (.iload 12, 2) := by decide +kernel
theorem dL_isActed_413 : decode cL_isActed 413 = .ok (.iadd, 1) := by decide +kernel
theorem dL_isActed_414 : decode cL_isActed 414 = .ok (.iastore, 1) := by decide +kernel
theorem dL_isActed_415 : decode cL_isActed 415 = .ok (.aload_n 2, 1) := by decide +kernel
theorem dL_isActed_416 : decode cL_isActed 416 = .ok (.bipush 6, 2) := by decide +kernel
theorem dL_isActed_418 : decode cL_isActed 418 = .ok (.iload 8, 2) := by decide +kernel
theorem dL_isActed_420 : decode cL_isActed 420 = .ok (.imul, 1) := by decide +kernel
theorem dL_isActed_421 : decode cL_isActed 421 = .ok (.iconst 5, 1) := by decide +kernel
theorem dL_isActed_422 : decode cL_isActed 422 = .ok (.iadd, 1) := by decide +kernel
theorem dL_isActed_423 : decode cL_isActed 423 = .ok (.dup2, 1) := by decide +kernel
theorem dL_isActed_424 : decode cL_isActed 424 = .ok (.iaload, 1) := by decide +kernel
theorem dL_isActed_425 : decode cL_isActed 425 = .ok (.iload 12, 2) := by decide +kernel
theorem dL_isActed_427 : decode cL_isActed 427 = .ok (.isub, 1) := by decide +kernel
theorem dL_isActed_428 : decode cL_isActed 428 = .ok (.iastore, 1) := by decide +kernel
theorem dL_isActed_429 : decode cL_isActed 429 = .ok (.aload_n 3, 1) := by decide +kernel
theorem dL_isActed_430 : decode cL_isActed 430 = .ok (.iconst 4, 1) := by decide +kernel
theorem dL_isActed_431 : decode cL_isActed 431 = .ok (.dup2, 1) := by decide +kernel
theorem dL_isActed_432 : decode cL_isActed 432 = .ok (.iaload, 1) := by decide +kernel
theorem dL_isActed_433 : decode cL_isActed 433 = .ok (.iload 12, 2) := by decide +kernel
theorem dL_isActed_435 : decode cL_isActed 435 = .ok (.iadd, 1) := by decide +kernel
theorem dL_isActed_436 : decode cL_isActed 436 = .ok (.iastore, 1) := by decide +kernel
theorem dL_isActed_437 : decode cL_isActed 437 = .ok (.aload_n 0, 1) := by decide +kernel
theorem dL_isActed_438 : decode cL_isActed 438 = .ok (.iload 7, 2) := by decide +kernel
theorem dL_isActed_440 : decode cL_isActed 440 = .ok (.iload 8, 2) := by decide +kernel
theorem dL_isActed_442 : decode cL_isActed 442 = .ok (.iload 9, 2) := by decide +kernel
theorem dL_isActed_444 : decode cL_isActed 444 = .ok (.iload 12, 2) := by decide +kernel
theorem dL_isActed_446 : decode cL_isActed 446 = .ok (.invokevirtual 98, 3) := by decide +kernel
theorem dL_isActed_449 : decode cL_isActed 449 = .ok (.iload 13, 2) := by decide +kernel
theorem dL_isActed_451 : decode cL_isActed 451 = .ok (.if_icmp .ne 7, 3) := by decide +kernel
theorem dL_isActed_454 : decode cL_isActed 454 = .ok (.iconst 1, 1) := by decide +kernel
theorem dL_isActed_455 : decode cL_isActed 455 = .ok (.goto 4, 3) := by decide +kernel
theorem dL_isActed_458 : decode cL_isActed 458 = .ok (.iconst 0, 1) := by decide +kernel
theorem dL_isActed_459 : decode cL_isActed 459 = .ok (.ireturn, 1) := by decide +kernel
theorem dL_isActed_460 : decode cL_isActed 460 = .ok (.iload 5, 2) := by decide +kernel
theorem dL_isActed_462 : decode cL_isActed 462 = .ok (.bipush 14, 2) := by decide +kernel
theorem dL_isActed_464 : decode cL_isActed 464 = .ok (.if_icmp .ge 119, 3) := by decide +kernel
theorem dL_isActed_467 : decode cL_isActed 467 = .ok (.iload 7, 2) := by decide +kernel
theorem dL_isActed_469 : decode cL_isActed 469 = .ok (.aload_n 3, 1) := by decide +kernel
theorem dL_isActed_470 : decode cL_isActed 470 = .ok (.iconst 1, 1) := by decide +kernel
theorem dL_isActed_471 : decode cL_isActed 471 = .ok (.iaload, 1) := by decide +kernel
theorem dL_isActed_472 : decode cL_isActed 472 = .ok (.if_icmp .ge 18, 3) := by decide +kernel
theorem dL_isActed_475 : decode cL_isActed 475 = .ok (.iload 10, 2) := by decide +kernel
theorem dL_isActed_477 : decode cL_isActed 477 = .ok (.iconst 1, 1) := by decide +kernel
theorem dL_isActed_478 : decode cL_isActed 478 = .ok (.if_icmp .eq 8, 3) := by decide +kernel
theorem dL_isActed_481 : decode cL_isActed 481 = .ok (.iload 11, 2) := by decide +kernel
theorem dL_isActed_483 : decode cL_isActed 483 = .ok (.ifCond .eq 7, 3) := by decide +kernel
theorem dL_isActed_486 : decode cL_isActed 486 = .ok (.iconst 1, 1) := by decide +kernel
theorem dL_isActed_487 : decode cL_isActed 487 = .ok (.goto 4, 3) := by decide +kernel
theorem dL_isActed_490 : decode cL_isActed 490 = .ok (.iconst 0, 1) := by decide +kernel
theorem dL_isActed_491 : decode cL_isActed 491 = .ok (.istore 12, 2) := by decide +kernel
theorem dL_isActed_493 : decode cL_isActed 493 = .ok (.iload 12, 2) := by decide +kernel
theorem dL_isActed_495 : decode cL_isActed 495 = .ok (.ifCond .eq 15, 3) := by decide +kernel
theorem dL_isActed_498 : decode cL_isActed 498 = .ok (.aload_n 2, 1) := by decide +kernel
theorem dL_isActed_499 : decode cL_isActed 499 = .ok (.bipush 6, 2) := by decide +kernel
theorem dL_isActed_501 : decode cL_isActed 501 = .ok (.iload 7, 2) := by decide +kernel
theorem dL_isActed_503 : decode cL_isActed 503 = .ok (.imul, 1) := by decide +kernel
theorem dL_isActed_504 : decode cL_isActed 504 = .ok (.iconst 2, 1) := by decide +kernel
theorem dL_isActed_505 : decode cL_isActed 505 = .ok (.iadd, 1) := by decide +kernel
theorem dL_isActed_506 : decode cL_isActed 506 = .ok (.iaload, 1) := by decide +kernel
theorem dL_isActed_507 : decode cL_isActed 507 = .ok (.goto 5, 3) := by decide +kernel
theorem dL_isActed_510 : decode cL_isActed 510 = .ok (.ldc 58, 2) := by decide +kernel
theorem dL_isActed_512 : decode cL_isActed 512 = .ok (.istore 13, 2) := by decide +kernel
theorem dL_isActed_514 : decode cL_isActed 514 = .ok (.aload_n 2, 1) := by decide +kernel
theorem dL_isActed_515 : decode cL_isActed 515 = .ok (.bipush 6, 2) := by decide +kernel
theorem dL_isActed_517 : decode cL_isActed 517 = .ok (.iload 7, 2) := by decide +kernel
theorem dL_isActed_519 : decode cL_isActed 519 = .ok (.imul, 1) := by decide +kernel
theorem dL_isActed_520 : decode cL_isActed 520 = .ok (.iconst 2, 1) := by decide +kernel
theorem dL_isActed_521 : decode cL_isActed 521 = .ok (.iadd, 1) := by decide +kernel
theorem dL_isActed_522 : decode cL_isActed 522 = .ok (.iload 12, 2) := by decide +kernel
theorem dL_isActed_524 : decode cL_isActed 524 = .ok (.ifCond .eq 20, 3) := by decide +kernel
theorem dL_isActed_527 : decode cL_isActed 527 = .ok (.iload 10, 2) := by decide +kernel
theorem dL_isActed_529 : decode cL_isActed 529 = .ok (.iconst 1, 1) := by decide +kernel
theorem dL_isActed_530 : decode cL_isActed 530 = .ok (.if_icmp .ne 7, 3) := by decide +kernel
theorem dL_isActed_533 : decode cL_isActed 533 = .ok (.iconst 0, 1) := by decide +kernel
theorem dL_isActed_534 : decode cL_isActed 534 = .ok (.goto 19, 3) := by decide +kernel
theorem dL_isActed_537 : decode cL_isActed 537 = .ok (.iload 8, 2) := by decide +kernel
theorem dL_isActed_539 : decode cL_isActed 539 = .ok (.iconst 1, 1) := by decide +kernel
theorem dL_isActed_540 : decode cL_isActed 540 = .ok (.iadd, 1) := by decide +kernel
theorem dL_isActed_541 : decode cL_isActed 541 = .ok (.goto 12, 3) := by decide +kernel
theorem dL_isActed_544 : decode cL_isActed 544 = .ok (.aload_n 2, 1) := by decide +kernel
theorem dL_isActed_545 : decode cL_isActed 545 = .ok (.bipush 6, 2) := by decide +kernel
theorem dL_isActed_547 : decode cL_isActed 547 = .ok (.iload 7, 2) := by decide +kernel
theorem dL_isActed_549 : decode cL_isActed 549 = .ok (.imul, 1) := by decide +kernel
theorem dL_isActed_550 : decode cL_isActed 550 = .ok (.iconst 2, 1) := by decide +kernel
theorem dL_isActed_551 : decode cL_isActed 551 = .ok (.iadd, 1) := by decide +kernel
theorem dL_isActed_552 : decode cL_isActed 552 = .ok (.iaload, 1) := by decide +kernel
theorem dL_isActed_553 : decode cL_isActed 553 = .ok (.iastore, 1) := by decide +kernel
theorem dL_isActed_554 : decode cL_isActed 554 = .ok (.aload_n 0, 1) := by decide +kernel
theorem dL_isActed_555 : decode cL_isActed 555 = .ok (.iload 7, 2) := by decide +kernel
theorem dL_isActed_557 : decode cL_isActed 557 = .ok (.iload 10, 2) := by decide +kernel
theorem dL_isActed_559 : decode cL_isActed 559 = .ok (.iconst 1, 1) := by decide +kernel
theorem dL_isActed_560 : decode cL_isActed 560 = .ok (.if_icmp .ne 7, 3) := by decide +kernel
theorem dL_isActed_563 : decode cL_isActed 563 = .ok (.iconst (-1), 1) := by decide +kernel
theorem dL_isActed_564 : decode cL_isActed 564 = .ok (.goto 5, 3) := by decide +kernel
theorem dL_isActed_567 : decode cL_isActed 567 = .ok (.iload 8, 2) := by decide +kernel
theorem dL_isActed_569 : decode cL_isActed 569 = .ok (.invokevirtual 101, 3) := by decide +kernel
theorem dL_isActed_572 : decode cL_isActed 572 = .ok (.iload 13, 2) := by decide +kernel
theorem dL_isActed_574 : decode cL_isActed 574 = .ok (.if_icmp .ne 7, 3) := by decide +kernel
theorem dL_isActed_577 : decode cL_isActed 577 = .ok (.iconst 1, 1) := by decide +kernel
theorem dL_isActed_578 : decode cL_isActed 578 = .ok (.goto 4, 3) := by decide +kernel
theorem dL_isActed_581 : decode cL_isActed 581 = .ok (.iconst 0, 1) := by decide +kernel
theorem dL_isActed_582 : decode cL_isActed 582 = .ok (.ireturn, 1) := by decide +kernel
theorem dL_isActed_583 : decode cL_isActed 583 = .ok (.iload 5, 2) := by decide +kernel
theorem dL_isActed_585 : decode cL_isActed 585 = .ok (.bipush 16, 2) := by decide +kernel
theorem dL_isActed_587 : decode cL_isActed 587 = .ok (.if_icmp .ge 50, 3) := by decide +kernel
theorem dL_isActed_590 : decode cL_isActed 590 = .ok (.iload 5, 2) := by decide +kernel
theorem dL_isActed_592 : decode cL_isActed 592 = .ok (.bipush 14, 2) := by decide +kernel
theorem dL_isActed_594 : decode cL_isActed 594 = .ok (.if_icmp .ne 8, 3) := by decide +kernel
theorem dL_isActed_597 : decode cL_isActed 597 = .ok (.iload 9, 2) := by decide +kernel
theorem dL_isActed_599 : decode cL_isActed 599 = .ok (.goto 7, 3) := by decide +kernel
theorem dL_isActed_602 : decode cL_isActed 602 = .ok (.iload 6, 2) := by decide +kernel
theorem dL_isActed_604 : decode cL_isActed 604 = .ok (.iconst 4, 1) := by decide +kernel
theorem dL_isActed_605 : decode cL_isActed 605 = .ok (.irem, 1) := by decide +kernel
theorem dL_isActed_606 : decode cL_isActed 606 = .ok (.istore 12, 2) := by decide +kernel
theorem dL_isActed_608 : decode cL_isActed 608 = .ok (.aload_n 1, 1) := by decide +kernel
theorem dL_isActed_609 : decode cL_isActed 609 = .ok (.aload_n 2, 1) := by decide +kernel
theorem dL_isActed_610 : decode cL_isActed 610 = .ok (.aload_n 3, 1) := by decide +kernel
theorem dL_isActed_611 : decode cL_isActed 611 = .ok (.aload 4, 2) := by decide +kernel
theorem dL_isActed_613 : decode cL_isActed 613 = .ok (.iload 12, 2) := by decide +kernel
theorem dL_isActed_615 : decode cL_isActed 615 = .ok (.invokestatic 104, 3) := by decide +kernel
theorem dL_isActed_618 : decode cL_isActed 618 = .ok (.istore 13, 2) := by decide +kernel
theorem dL_isActed_620 : decode cL_isActed 620 = .ok (.aload_n 0, 1) := by decide +kernel
theorem dL_isActed_621 : decode cL_isActed 621 = .ok (.iload 12, 2) := by decide +kernel
theorem dL_isActed_623 : decode cL_isActed 623 = .ok (.invokevirtual 108, 3) := by decide +kernel
theorem dL_isActed_626 : decode cL_isActed 626 = .ok (.iload 13, 2) := by decide +kernel
theorem dL_isActed_628 : decode cL_isActed 628 = .ok (.if_icmp .ne 7, 3) := by decide +kernel
theorem dL_isActed_631 : decode cL_isActed 631 = .ok (.iconst 1, 1) := by decide +kernel
theorem dL_isActed_632 : decode cL_isActed 632 = .ok (.goto 4, 3) := by decide +kernel
theorem dL_isActed_635 : decode cL_isActed 635 = .ok (.iconst 0, 1) := by decide +kernel
theorem dL_isActed_636 : decode cL_isActed 636 = .ok (.ireturn, 1) := by decide +kernel
theorem dL_isActed_637 : decode cL_isActed 637 = .ok (.iload 5, 2) := by decide +kernel
theorem dL_isActed_639 : decode cL_isActed 639 = .ok (.bipush 16, 2) := by decide +kernel
theorem dL_isActed_641 : decode cL_isActed 641 = .ok (.if_icmp .ne 78, 3) := by decide +kernel
theorem dL_isActed_644 : decode cL_isActed 644 = .ok (.iload 6, 2) := by decide +kernel
theorem dL_isActed_646 : decode cL_isActed 646 = .ok (.bipush 6, 2) := by decide +kernel
theorem dL_isActed_648 : decode cL_isActed 648 = .ok (.irem, 1) := by decide +kernel
theorem dL_isActed_649 : decode cL_isActed 649 = .ok (.istore 12, 2) := by decide +kernel
theorem dL_isActed_651 : decode cL_isActed 651 = .ok (.iload 12, 2) := by decide +kernel
theorem dL_isActed_653 : decode cL_isActed 653 = .ok (.iconst 4, 1) := by decide +kernel
theorem dL_isActed_654 : decode cL_isActed 654 = .ok (.if_icmp .ne 16, 3) := by decide +kernel
theorem dL_isActed_657 : decode cL_isActed 657 = .ok (.iconst 5, 1) := by decide +kernel
theorem dL_isActed_658 : decode cL_isActed 658 = .ok (.iload 6, 2) := by decide +kernel
theorem dL_isActed_660 : decode cL_isActed 660 = .ok (.bipush 6, 2) := by decide +kernel
theorem dL_isActed_662 : decode cL_isActed 662 = .ok (.idiv, 1) := by decide +kernel
theorem dL_isActed_663 : decode cL_isActed 663 = .ok (.bipush 60, 2) := by decide +kernel
theorem dL_isActed_665 : decode cL_isActed 665 = .ok (.irem, 1) := by decide +kernel
theorem dL_isActed_666 : decode cL_isActed 666 = .ok (.iadd, 1) := by decide +kernel
theorem dL_isActed_667 : decode cL_isActed 667 = .ok (.goto 13, 3) := by decide +kernel
theorem dL_isActed_670 : decode cL_isActed 670 = .ok (.iconst 1, 1) := by decide +kernel
theorem dL_isActed_671 : decode cL_isActed 671 = .ok (.iload 6, 2) := by decide +kernel
theorem dL_isActed_673 : decode cL_isActed 673 = .ok (.bipush 6, 2) := by decide +kernel
theorem dL_isActed_675 : decode cL_isActed 675 = .ok (.idiv, 1) := by decide +kernel
theorem dL_isActed_676 : decode cL_isActed 676 = .ok (.bipush 20, 2) := by decide +kernel
theorem dL_isActed_678 : decode cL_isActed 678 = .ok (.irem, 1) := by decide +kernel
theorem dL_isActed_679 : decode cL_isActed 679 = .ok (.iadd, 1) := by decide +kernel
theorem dL_isActed_680 : decode cL_isActed 680 = .ok (.istore 13, 2) := by decide +kernel
theorem dL_isActed_682 : decode cL_isActed 682 = .ok (.aload_n 3, 1) := by decide +kernel
theorem dL_isActed_683 : decode cL_isActed 683 = .ok (.bipush 10, 2) := by decide +kernel
theorem dL_isActed_685 : decode cL_isActed 685 = .ok (.iload 12, 2) := by decide +kernel
theorem dL_isActed_687 : decode cL_isActed 687 = .ok (.iadd, 1) := by decide +kernel
theorem dL_isActed_688 : decode cL_isActed 688 = .ok (.iaload, 1) := by decide +kernel
theorem dL_isActed_689 : decode cL_isActed 689 = .ok (.istore 14, 2) := by decide +kernel
theorem dL_isActed_691 : decode cL_isActed 691 = .ok (.aload_n 3, 1) := by decide +kernel
theorem dL_isActed_692 : decode cL_isActed 692 = .ok (.bipush 10, 2) := by decide +kernel
theorem dL_isActed_694 : decode cL_isActed 694 = .ok (.iload 12, 2) := by decide +kernel
theorem dL_isActed_696 : decode cL_isActed 696 = .ok (.iadd, 1) := by decide +kernel
theorem dL_isActed_697 : decode cL_isActed 697 = .ok (.iload 13, 2) := by decide +kernel
theorem dL_isActed_699 : decode cL_isActed 699 = .ok (.iastore, 1) := by decide +kernel
theorem dL_isActed_700 : decode cL_isActed 700 = .ok (.aload_n 0, 1) := by decide +kernel
theorem dL_isActed_701 : decode cL_isActed 701 = .ok (.iload 12, 2) := by decide +kernel
theorem dL_isActed_703 : decode cL_isActed 703 = .ok (.iload 13, 2) := by decide +kernel
theorem dL_isActed_705 : decode cL_isActed 705 = .ok (.invokevirtual 110, 3) := by decide +kernel
theorem dL_isActed_708 : decode cL_isActed 708 = .ok (.iload 14, 2) := by decide +kernel
theorem dL_isActed_710 : decode cL_isActed 710 = .ok (.if_icmp .ne 7, 3) := by decide +kernel
theorem dL_isActed_713 : decode cL_isActed 713 = .ok (.iconst 1, 1) := by decide +kernel
theorem dL_isActed_714 : decode cL_isActed 714 = .ok (.goto 4, 3) := by decide +kernel
theorem dL_isActed_717 : decode cL_isActed 717 = .ok (.iconst 0, 1) := by decide +kernel
theorem dL_isActed_718 : decode cL_isActed 718 = .ok (.ireturn, 1) := by decide +kernel
theorem dL_isActed_719 : decode cL_isActed 719 = .ok (.iload 5, 2) := by decide +kernel
theorem dL_isActed_721 : decode cL_isActed 721 = .ok (.bipush 17, 2) := by decide +kernel
theorem dL_isActed_723 : decode cL_isActed 723 = .ok (.if_icmp .ne 52, 3) := by decide +kernel
theorem dL_isActed_726 : decode cL_isActed 726 = .ok (.aload_n 3, 1) := by decide +kernel
theorem dL_isActed_727 : decode cL_isActed 727 = .ok (.bipush 9, 2) := by decide +kernel
theorem dL_isActed_729 : decode cL_isActed 729 = .ok (.iaload, 1) := by decide +kernel
theorem dL_isActed_730 : decode cL_isActed 730 = .ok (.istore 12, 2) := by decide +kernel
theorem dL_isActed_732 : decode cL_isActed 732 = .ok (.aload_n 3, 1) := by decide +kernel
theorem dL_isActed_733 : decode cL_isActed 733 = .ok (.bipush 9, 2) := by decide +kernel
theorem dL_isActed_735 : decode cL_isActed 735 = .ok (.iload 6, 2) := by decide +kernel
theorem dL_isActed_737 : decode cL_isActed 737 = .ok (.iconst 3, 1) := by decide +kernel
theorem dL_isActed_738 : decode cL_isActed 738 = .ok (.irem, 1) := by decide +kernel
theorem dL_isActed_739 : decode cL_isActed 739 = .ok (.ifCond .ne 7, 3) := by decide +kernel
theorem dL_isActed_742 : decode cL_isActed 742 = .ok (.iconst 1, 1) := by decide +kernel
theorem dL_isActed_743 : decode cL_isActed 743 = .ok (.goto 4, 3) := by decide +kernel
theorem dL_isActed_746 : decode cL_isActed 746 = .ok (.iconst 0, 1) := by decide +kernel
theorem dL_isActed_747 : decode cL_isActed 747 = .ok (.iastore, 1) := by decide +kernel
theorem dL_isActed_748 : decode cL_isActed 748 = .ok (.aload_n 0, 1) := by decide +kernel
theorem dL_isActed_749 : decode cL_isActed 749 = .ok (.iload 6, 2) := by decide +kernel
theorem dL_isActed_751 : decode cL_isActed 751 = .ok (.iconst 3, 1) := by decide +kernel
theorem dL_isActed_752 : decode cL_isActed 752 = .ok (.irem, 1) := by decide +kernel
theorem dL_isActed_753 : decode cL_isActed 753 = .ok (.ifCond .ne 7, 3) := by decide +kernel
theorem dL_isActed_756 : decode cL_isActed 756 = .ok (.iconst 1, 1) := by decide +kernel
theorem dL_isActed_757 : decode cL_isActed 757 = .ok (.goto 4, 3) := by decide +kernel
theorem dL_isActed_760 : decode cL_isActed 760 = .ok (.iconst 0, 1) := by decide +kernel
theorem dL_isActed_761 : decode cL_isActed 761 = .ok (.invokevirtual 113, 3) := by decide +kernel
theorem dL_isActed_764 : decode cL_isActed 764 = .ok (.iload 12, 2) := by decide +kernel
theorem dL_isActed_766 : decode cL_isActed 766 = .ok (.if_icmp .ne 7, 3) := by decide +kernel
theorem dL_isActed_769 : decode cL_isActed 769 = .ok (.iconst 1, 1) := by decide +kernel
theorem dL_isActed_770 : decode cL_isActed 770 = .ok (.goto 4, 3) := by decide +kernel
theorem dL_isActed_773 : decode cL_isActed 773 = .ok (.iconst 0, 1) := by decide +kernel
theorem dL_isActed_774 : decode cL_isActed 774 = .ok (.ireturn, 1) := by decide +kernel
theorem dL_isActed_775 : decode cL_isActed 775 = .ok (.iconst 1, 1) := by decide +kernel
theorem dL_isActed_776 : decode cL_isActed 776 = .ok (.iload 6, 2) := by decide +kernel
theorem dL_isActed_778 : decode cL_isActed 778 = .ok (.iconst 5, 1) := by decide +kernel
theorem dL_isActed_779 : decode cL_isActed 779 = .ok (.irem, 1) := by decide +kernel
theorem dL_isActed_780 : decode cL_isActed 780 = .ok (.iadd, 1) := by decide +kernel
theorem dL_isActed_781 : decode cL_isActed 781 = .ok (.istore 12, 2) := by decide +kernel
theorem dL_isActed_783 : decode cL_isActed 783 = .ok (.iconst 0, 1) := by decide +kernel
theorem dL_isActed_784 : decode cL_isActed 784 = .ok (.istore 13, 2) := by decide +kernel
theorem dL_isActed_786 : decode cL_isActed 786 = .ok (.iconst 0, 1) := by decide +kernel
theorem dL_isActed_787 : decode cL_isActed 787 = .ok (.istore 14, 2) := by decide +kernel
theorem dL_isActed_789 : decode cL_isActed 789 = .ok (.iload 14, 2) := by decide +kernel
theorem dL_isActed_791 : decode cL_isActed 791 = .ok (.iload 12, 2) := by decide +kernel
theorem dL_isActed_793 : decode cL_isActed 793 = .ok (.if_icmp .ge 20, 3) := by decide +kernel
theorem dL_isActed_796 : decode cL_isActed 796 = .ok (.iload 13, 2) := by decide +kernel
theorem dL_isActed_798 : decode cL_isActed 798 = .ok (.aload_n 1, 1) := by decide +kernel
theorem dL_isActed_799 : decode cL_isActed 799 = .ok (.aload_n 2, 1) := by decide +kernel
theorem dL_isActed_800 : decode cL_isActed 800 = .ok (.aload_n 3, 1) := by decide +kernel
theorem dL_isActed_801 : decode cL_isActed 801 = .ok (.invokestatic 117, 3) := by decide +kernel
theorem dL_isActed_804 : decode cL_isActed 804 = .ok (.iadd, 1) := by decide +kernel
theorem dL_isActed_805 : decode cL_isActed 805 = .ok (.istore 13, 2) := by decide +kernel
theorem dL_isActed_807 : decode cL_isActed 807 = .ok (.iinc 14 1, 3) := by decide +kernel
theorem dL_isActed_810 : decode cL_isActed 810 = .ok (.goto (-21), 3) := by decide +kernel
theorem dL_isActed_813 : decode cL_isActed 813 = .ok (.aload_n 0, 1) := by decide +kernel
theorem dL_isActed_814 : decode cL_isActed 814 = .ok (.iload 12, 2) := by decide +kernel
theorem dL_isActed_816 : decode cL_isActed 816 = .ok (.invokevirtual 121, 3) := by decide +kernel
theorem dL_isActed_819 : decode cL_isActed 819 = .ok (.iload 13, 2) := by decide +kernel
theorem dL_isActed_821 : decode cL_isActed 821 = .ok (.if_icmp .ne 7, 3) := by decide +kernel
theorem dL_isActed_824 : decode cL_isActed 824 = .ok (.iconst 1, 1) := by decide +kernel
theorem dL_isActed_825 : decode cL_isActed 825 = .ok (.goto 4, 3) := by decide +kernel
theorem dL_isActed_828 : decode cL_isActed 828 = .ok (.iconst 0, 1) := by decide +kernel
theorem dL_isActed_829 : decode cL_isActed 829 = .ok (.ireturn, 1) := by decide +kernel
