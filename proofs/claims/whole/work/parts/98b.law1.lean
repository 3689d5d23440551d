/-! ===== the law, case by case, by program ===== -/
theorem dL_law_220 : decode cL_law 220 = .ok (.aload_n 1, 1) := by decide +kernel
theorem dL_law_221 : decode cL_law 221 = .ok (.aload_n 0, 1) := by decide +kernel
theorem dL_law_222 : decode cL_law 222 = .ok (.iload 4, 2) := by decide +kernel
theorem dL_law_224 : decode cL_law 224 = .ok (.iconst 1, 1) := by decide +kernel
theorem dL_law_225 : decode cL_law 225 = .ok (.iadd, 1) := by decide +kernel
theorem dL_law_226 : decode cL_law 226 = .ok (.iaload, 1) := by decide +kernel
theorem dL_law_227 : decode cL_law 227 = .ok (.aload_n 0, 1) := by decide +kernel
theorem dL_law_228 : decode cL_law 228 = .ok (.iload 4, 2) := by decide +kernel
theorem dL_law_230 : decode cL_law 230 = .ok (.iconst 2, 1) := by decide +kernel
theorem dL_law_231 : decode cL_law 231 = .ok (.iadd, 1) := by decide +kernel
theorem dL_law_232 : decode cL_law 232 = .ok (.iaload, 1) := by decide +kernel
theorem dL_law_233 : decode cL_law 233 = .ok (.aload_n 0, 1) := by decide +kernel
theorem dL_law_234 : decode cL_law 234 = .ok (.iload 4, 2) := by decide +kernel
theorem dL_law_236 : decode cL_law 236 = .ok (.iconst 3, 1) := by decide +kernel
theorem dL_law_237 : decode cL_law 237 = .ok (.iadd, 1) := by decide +kernel
theorem dL_law_238 : decode cL_law 238 = .ok (.iaload, 1) := by decide +kernel
theorem dL_law_239 : decode cL_law 239 = .ok (.aload_n 0, 1) := by decide +kernel
theorem dL_law_240 : decode cL_law 240 = .ok (.iload 4, 2) := by decide +kernel
theorem dL_law_242 : decode cL_law 242 = .ok (.iconst 4, 1) := by decide +kernel
theorem dL_law_243 : decode cL_law 243 = .ok (.iadd, 1) := by decide +kernel
theorem dL_law_244 : decode cL_law 244 = .ok (.iaload, 1) := by decide +kernel
theorem dL_law_245 : decode cL_law 245 = .ok (.aload_n 0, 1) := by decide +kernel
theorem dL_law_246 : decode cL_law 246 = .ok (.iload 4, 2) := by decide +kernel
theorem dL_law_248 : decode cL_law 248 = .ok (.iconst 5, 1) := by decide +kernel
theorem dL_law_249 : decode cL_law 249 = .ok (.iadd, 1) := by decide +kernel
theorem dL_law_250 : decode cL_law 250 = .ok (.iaload, 1) := by decide +kernel
theorem dL_law_251 : decode cL_law 251 = .ok (.invokevirtual 28, 3) := by decide +kernel
theorem dL_law_254 : decode cL_law 254 = .ok (.aload_n 2, 1) := by decide +kernel
theorem dL_law_255 : decode cL_law 255 = .ok (.aload_n 0, 1) := by decide +kernel
theorem dL_law_256 : decode cL_law 256 = .ok (.iload 4, 2) := by decide +kernel
theorem dL_law_258 : decode cL_law 258 = .ok (.iconst 1, 1) := by decide +kernel
theorem dL_law_259 : decode cL_law 259 = .ok (.iadd, 1) := by decide +kernel
theorem dL_law_260 : decode cL_law 260 = .ok (.iaload, 1) := by decide +kernel
theorem dL_law_261 : decode cL_law 261 = .ok (.aload_n 0, 1) := by decide +kernel
theorem dL_law_262 : decode cL_law 262 = .ok (.iload 4, 2) := by decide +kernel
theorem dL_law_264 : decode cL_law 264 = .ok (.iconst 2, 1) := by decide +kernel
theorem dL_law_265 : decode cL_law 265 = .ok (.iadd, 1) := by decide +kernel
theorem dL_law_266 : decode cL_law 266 = .ok (.iaload, 1) := by decide +kernel
theorem dL_law_267 : decode cL_law 267 = .ok (.aload_n 0, 1) := by decide +kernel
theorem dL_law_268 : decode cL_law 268 = .ok (.iload 4, 2) := by decide +kernel
theorem dL_law_270 : decode cL_law 270 = .ok (.iconst 3, 1) := by decide +kernel
theorem dL_law_271 : decode cL_law 271 = .ok (.iadd, 1) := by decide +kernel
theorem dL_law_272 : decode cL_law 272 = .ok (.iaload, 1) := by decide +kernel
theorem dL_law_273 : decode cL_law 273 = .ok (.aload_n 0, 1) := by decide +kernel
theorem dL_law_274 : decode cL_law 274 = .ok (.iload 4, 2) := by decide +kernel
theorem dL_law_276 : decode cL_law 276 = .ok (.iconst 4, 1) := by decide +kernel
theorem dL_law_277 : decode cL_law 277 = .ok (.iadd, 1) := by decide +kernel
theorem dL_law_278 : decode cL_law 278 = .ok (.iaload, 1) := by decide +kernel
theorem dL_law_279 : decode cL_law 279 = .ok (.aload_n 0, 1) := by decide +kernel
theorem dL_law_280 : decode cL_law 280 = .ok (.iload 4, 2) := by decide +kernel
theorem dL_law_282 : decode cL_law 282 = .ok (.iconst 5, 1) := by decide +kernel
theorem dL_law_283 : decode cL_law 283 = .ok (.iadd, 1) := by decide +kernel
theorem dL_law_284 : decode cL_law 284 = .ok (.iaload, 1) := by decide +kernel
theorem dL_law_285 : decode cL_law 285 = .ok (.invokevirtual 32, 3) := by decide +kernel
theorem dL_law_288 : decode cL_law 288 = .ok (.if_icmp .eq 1225, 3) := by decide +kernel
theorem dL_law_293 : decode cL_law 293 = .ok (.aload_n 1, 1) := by decide +kernel
theorem dL_law_294 : decode cL_law 294 = .ok (.aload_n 0, 1) := by decide +kernel
theorem dL_law_295 : decode cL_law 295 = .ok (.iload 4, 2) := by decide +kernel
theorem dL_law_297 : decode cL_law 297 = .ok (.iconst 1, 1) := by decide +kernel
theorem dL_law_298 : decode cL_law 298 = .ok (.iadd, 1) := by decide +kernel
theorem dL_law_299 : decode cL_law 299 = .ok (.iaload, 1) := by decide +kernel
theorem dL_law_300 : decode cL_law 300 = .ok (.invokevirtual 33, 3) := by decide +kernel
theorem dL_law_303 : decode cL_law 303 = .ok (.aload_n 2, 1) := by decide +kernel
theorem dL_law_304 : decode cL_law 304 = .ok (.aload_n 0, 1) := by decide +kernel
theorem dL_law_305 : decode cL_law 305 = .ok (.iload 4, 2) := by decide +kernel
theorem dL_law_307 : decode cL_law 307 = .ok (.iconst 1, 1) := by decide +kernel
theorem dL_law_308 : decode cL_law 308 = .ok (.iadd, 1) := by decide +kernel
theorem dL_law_309 : decode cL_law 309 = .ok (.iaload, 1) := by decide +kernel
theorem dL_law_310 : decode cL_law 310 = .ok (.invokevirtual 37, 3) := by decide +kernel
theorem dL_law_313 : decode cL_law 313 = .ok (.if_icmp .eq 1200, 3) := by decide +kernel
theorem dL_law_318 : decode cL_law 318 = .ok (.aload_n 1, 1) := by decide +kernel
theorem dL_law_319 : decode cL_law 319 = .ok (.invokevirtual 38, 3) := by decide +kernel
theorem dL_law_322 : decode cL_law 322 = .ok (.aload_n 2, 1) := by decide +kernel
theorem dL_law_323 : decode cL_law 323 = .ok (.invokevirtual 42, 3) := by decide +kernel
theorem dL_law_326 : decode cL_law 326 = .ok (.if_icmp .eq 1187, 3) := by decide +kernel
theorem dL_law_331 : decode cL_law 331 = .ok (.aload_n 1, 1) := by decide +kernel
theorem dL_law_332 : decode cL_law 332 = .ok (.invokevirtual 43, 3) := by decide +kernel
theorem dL_law_335 : decode cL_law 335 = .ok (.aload_n 2, 1) := by decide +kernel
theorem dL_law_336 : decode cL_law 336 = .ok (.invokevirtual 46, 3) := by decide +kernel
theorem dL_law_339 : decode cL_law 339 = .ok (.if_icmp .eq 1174, 3) := by decide +kernel
theorem dL_law_344 : decode cL_law 344 = .ok (.aload_n 1, 1) := by decide +kernel
theorem dL_law_345 : decode cL_law 345 = .ok (.aload_n 0, 1) := by decide +kernel
theorem dL_law_346 : decode cL_law 346 = .ok (.iload 4, 2) := by decide +kernel
theorem dL_law_348 : decode cL_law 348 = .ok (.iconst 1, 1) := by decide +kernel
theorem dL_law_349 : decode cL_law 349 = .ok (.iadd, 1) := by decide +kernel
theorem dL_law_350 : decode cL_law 350 = .ok (.iaload, 1) := by decide +kernel
theorem dL_law_351 : decode cL_law 351 = .ok (.aload_n 0, 1) := by decide +kernel
theorem dL_law_352 : decode cL_law 352 = .ok (.iload 4, 2) := by decide +kernel
theorem dL_law_354 : decode cL_law 354 = .ok (.iconst 2, 1) := by decide +kernel
theorem dL_law_355 : decode cL_law 355 = .ok (.iadd, 1) := by decide +kernel
theorem dL_law_356 : decode cL_law 356 = .ok (.iaload, 1) := by decide +kernel
theorem dL_law_357 : decode cL_law 357 = .ok (.aload_n 3, 1) := by decide +kernel
theorem dL_law_358 : decode cL_law 358 = .ok (.invokestatic 47, 3) := by decide +kernel
theorem dL_law_361 : decode cL_law 361 = .ok (.istore 5, 2) := by decide +kernel
theorem dL_law_363 : decode cL_law 363 = .ok (.aload_n 2, 1) := by decide +kernel
theorem dL_law_364 : decode cL_law 364 = .ok (.aload_n 0, 1) := by decide +kernel
theorem dL_law_365 : decode cL_law 365 = .ok (.iload 4, 2) := by decide +kernel
theorem dL_law_367 : decode cL_law 367 = .ok (.iconst 1, 1) := by decide +kernel
theorem dL_law_368 : decode cL_law 368 = .ok (.iadd, 1) := by decide +kernel
theorem dL_law_369 : decode cL_law 369 = .ok (.iaload, 1) := by decide +kernel
theorem dL_law_370 : decode cL_law 370 = .ok (.aload_n 0, 1) := by decide +kernel
theorem dL_law_371 : decode cL_law 371 = .ok (.iload 4, 2) := by decide +kernel
theorem dL_law_373 : decode cL_law 373 = .ok (.iconst 2, 1) := by decide +kernel
theorem dL_law_374 : decode cL_law 374 = .ok (.iadd, 1) := by decide +kernel
theorem dL_law_375 : decode cL_law 375 = .ok (.iaload, 1) := by decide +kernel
theorem dL_law_376 : decode cL_law 376 = .ok (.invokevirtual 52, 3) := by decide +kernel
theorem dL_law_379 : decode cL_law 379 = .ok (.istore 6, 2) := by decide +kernel
theorem dL_law_381 : decode cL_law 381 = .ok (.aload_n 2, 1) := by decide +kernel
theorem dL_law_382 : decode cL_law 382 = .ok (.invokevirtual 53, 3) := by decide +kernel
theorem dL_law_385 : decode cL_law 385 = .ok (.iload 5, 2) := by decide +kernel
theorem dL_law_387 : decode cL_law 387 = .ok (.if_icmp .eq 5, 3) := by decide +kernel
theorem dL_law_392 : decode cL_law 392 = .ok (.iload 5, 2) := by decide +kernel
theorem dL_law_394 : decode cL_law 394 = .ok (.ifCond .ne 15, 3) := by decide +kernel
theorem dL_law_397 : decode cL_law 397 = .ok (.aload_n 3, 1) := by decide +kernel
theorem dL_law_398 : decode cL_law 398 = .ok (.iconst 0, 1) := by decide +kernel
theorem dL_law_399 : decode cL_law 399 = .ok (.laload, 1) := by decide +kernel
theorem dL_law_400 : decode cL_law 400 = .ok (.iload 6, 2) := by decide +kernel
theorem dL_law_402 : decode cL_law 402 = .ok (.i2l, 1) := by decide +kernel
theorem dL_law_403 : decode cL_law 403 = .ok (.lcmp, 1) := by decide +kernel
theorem dL_law_404 : decode cL_law 404 = .ok (.ifCond .eq 5, 3) := by decide +kernel
theorem dL_law_409 : decode cL_law 409 = .ok (.goto 1104, 3) := by decide +kernel
theorem dL_law_412 : decode cL_law 412 = .ok (.aload_n 1, 1) := by decide +kernel
theorem dL_law_413 : decode cL_law 413 = .ok (.aload_n 0, 1) := by decide +kernel
theorem dL_law_414 : decode cL_law 414 = .ok (.iload 4, 2) := by decide +kernel
theorem dL_law_416 : decode cL_law 416 = .ok (.iconst 1, 1) := by decide +kernel
theorem dL_law_417 : decode cL_law 417 = .ok (.iadd, 1) := by decide +kernel
theorem dL_law_418 : decode cL_law 418 = .ok (.iaload, 1) := by decide +kernel
theorem dL_law_419 : decode cL_law 419 = .ok (.aload_n 0, 1) := by decide +kernel
theorem dL_law_420 : decode cL_law 420 = .ok (.iload 4, 2) := by decide +kernel
theorem dL_law_422 : decode cL_law 422 = .ok (.iconst 2, 1) := by decide +kernel
theorem dL_law_423 : decode cL_law 423 = .ok (.iadd, 1) := by decide +kernel
theorem dL_law_424 : decode cL_law 424 = .ok (.iaload, 1) := by decide +kernel
theorem dL_law_425 : decode cL_law 425 = .ok (.aload_n 3, 1) := by decide +kernel
theorem dL_law_426 : decode cL_law 426 = .ok (.invokestatic 56, 3) := by decide +kernel
theorem dL_law_429 : decode cL_law 429 = .ok (.istore 5, 2) := by decide +kernel
theorem dL_law_431 : decode cL_law 431 = .ok (.aload_n 2, 1) := by decide +kernel
theorem dL_law_432 : decode cL_law 432 = .ok (.aload_n 0, 1) := by decide +kernel
theorem dL_law_433 : decode cL_law 433 = .ok (.iload 4, 2) := by decide +kernel
theorem dL_law_435 : decode cL_law 435 = .ok (.iconst 1, 1) := by decide +kernel
theorem dL_law_436 : decode cL_law 436 = .ok (.iadd, 1) := by decide +kernel
theorem dL_law_437 : decode cL_law 437 = .ok (.iaload, 1) := by decide +kernel
theorem dL_law_438 : decode cL_law 438 = .ok (.aload_n 0, 1) := by decide +kernel
theorem dL_law_439 : decode cL_law 439 = .ok (.iload 4, 2) := by decide +kernel
theorem dL_law_441 : decode cL_law 441 = .ok (.iconst 2, 1) := by decide +kernel
theorem dL_law_442 : decode cL_law 442 = .ok (.iadd, 1) := by decide +kernel
theorem dL_law_443 : decode cL_law 443 = .ok (.iaload, 1) := by decide +kernel
theorem dL_law_444 : decode cL_law 444 = .ok (.invokevirtual 58, 3) := by decide +kernel
theorem dL_law_447 : decode cL_law 447 = .ok (.istore 6, 2) := by decide +kernel
theorem dL_law_449 : decode cL_law 449 = .ok (.aload_n 2, 1) := by decide +kernel
theorem dL_law_450 : decode cL_law 450 = .ok (.invokevirtual 53, 3) := by decide +kernel
theorem dL_law_453 : decode cL_law 453 = .ok (.iload 5, 2) := by decide +kernel
theorem dL_law_455 : decode cL_law 455 = .ok (.if_icmp .eq 5, 3) := by decide +kernel
theorem dL_law_460 : decode cL_law 460 = .ok (.iload 5, 2) := by decide +kernel
theorem dL_law_462 : decode cL_law 462 = .ok (.ifCond .ne 15, 3) := by decide +kernel
theorem dL_law_465 : decode cL_law 465 = .ok (.aload_n 3, 1) := by decide +kernel
theorem dL_law_466 : decode cL_law 466 = .ok (.iconst 0, 1) := by decide +kernel
theorem dL_law_467 : decode cL_law 467 = .ok (.laload, 1) := by decide +kernel
theorem dL_law_468 : decode cL_law 468 = .ok (.iload 6, 2) := by decide +kernel
theorem dL_law_470 : decode cL_law 470 = .ok (.i2l, 1) := by decide +kernel
theorem dL_law_471 : decode cL_law 471 = .ok (.lcmp, 1) := by decide +kernel
theorem dL_law_472 : decode cL_law 472 = .ok (.ifCond .eq 5, 3) := by decide +kernel
theorem dL_law_477 : decode cL_law 477 = .ok (.goto 1036, 3) := by decide +kernel
theorem dL_law_480 : decode cL_law 480 = .ok (.aload_n 1, 1) := by decide +kernel
theorem dL_law_481 : decode cL_law 481 = .ok (.aload_n 0, 1) := by decide +kernel
theorem dL_law_482 : decode cL_law 482 = .ok (.iload 4, 2) := by decide +kernel
theorem dL_law_484 : decode cL_law 484 = .ok (.iconst 1, 1) := by decide +kernel
theorem dL_law_485 : decode cL_law 485 = .ok (.iadd, 1) := by decide +kernel
theorem dL_law_486 : decode cL_law 486 = .ok (.iaload, 1) := by decide +kernel
theorem dL_law_487 : decode cL_law 487 = .ok (.aload_n 0, 1) := by decide +kernel
theorem dL_law_488 : decode cL_law 488 = .ok (.iload 4, 2) := by decide +kernel
theorem dL_law_490 : decode cL_law 490 = .ok (.iconst 2, 1) := by decide +kernel
theorem dL_law_491 : decode cL_law 491 = .ok (.iadd, 1) := by decide +kernel
theorem dL_law_492 : decode cL_law 492 = .ok (.iaload, 1) := by decide +kernel
theorem dL_law_493 : decode cL_law 493 = .ok (.invokevirtual 59, 3) := by decide +kernel
theorem dL_law_496 : decode cL_law 496 = .ok (.aload_n 2, 1) := by decide +kernel
theorem dL_law_497 : decode cL_law 497 = .ok (.aload_n 0, 1) := by decide +kernel
theorem dL_law_498 : decode cL_law 498 = .ok (.iload 4, 2) := by decide +kernel
theorem dL_law_500 : decode cL_law 500 = .ok (.iconst 1, 1) := by decide +kernel
theorem dL_law_501 : decode cL_law 501 = .ok (.iadd, 1) := by decide +kernel
theorem dL_law_502 : decode cL_law 502 = .ok (.iaload, 1) := by decide +kernel
theorem dL_law_503 : decode cL_law 503 = .ok (.aload_n 0, 1) := by decide +kernel
theorem dL_law_504 : decode cL_law 504 = .ok (.iload 4, 2) := by decide +kernel
theorem dL_law_506 : decode cL_law 506 = .ok (.iconst 2, 1) := by decide +kernel
theorem dL_law_507 : decode cL_law 507 = .ok (.iadd, 1) := by decide +kernel
theorem dL_law_508 : decode cL_law 508 = .ok (.iaload, 1) := by decide +kernel
theorem dL_law_509 : decode cL_law 509 = .ok (.invokevirtual 62, 3) := by decide +kernel
theorem dL_law_512 : decode cL_law 512 = .ok (.if_icmp .eq 1001, 3) := by decide +kernel
theorem dL_law_517 : decode cL_law 517 = .ok (.aload_n 1, 1) := by decide +kernel
theorem dL_law_518 : decode cL_law 518 = .ok (.aload_n 0, 1) := by decide +kernel
theorem dL_law_519 : decode cL_law 519 = .ok (.iload 4, 2) := by decide +kernel
theorem dL_law_521 : decode cL_law 521 = .ok (.iconst 1, 1) := by decide +kernel
theorem dL_law_522 : decode cL_law 522 = .ok (.iadd, 1) := by decide +kernel
theorem dL_law_523 : decode cL_law 523 = .ok (.iaload, 1) := by decide +kernel
theorem dL_law_524 : decode cL_law 524 = .ok (.aload_n 0, 1) := by decide +kernel
theorem dL_law_525 : decode cL_law 525 = .ok (.iload 4, 2) := by decide +kernel
theorem dL_law_527 : decode cL_law 527 = .ok (.iconst 2, 1) := by decide +kernel
theorem dL_law_528 : decode cL_law 528 = .ok (.iadd, 1) := by decide +kernel
theorem dL_law_529 : decode cL_law 529 = .ok (.iaload, 1) := by decide +kernel
theorem dL_law_530 : decode cL_law 530 = .ok (.invokevirtual 63, 3) := by decide +kernel
theorem dL_law_533 : decode cL_law 533 = .ok (.aload_n 2, 1) := by decide +kernel
theorem dL_law_534 : decode cL_law 534 = .ok (.aload_n 0, 1) := by decide +kernel
theorem dL_law_535 : decode cL_law 535 = .ok (.iload 4, 2) := by decide +kernel
theorem dL_law_537 : decode cL_law 537 = .ok (.iconst 1, 1) := by decide +kernel
theorem dL_law_538 : decode cL_law 538 = .ok (.iadd, 1) := by decide +kernel
theorem dL_law_539 : decode cL_law 539 = .ok (.iaload, 1) := by decide +kernel
theorem dL_law_540 : decode cL_law 540 = .ok (.aload_n 0, 1) := by decide +kernel
theorem dL_law_541 : decode cL_law 541 = .ok (.iload 4, 2) := by decide +kernel
theorem dL_law_543 : decode cL_law 543 = .ok (.iconst 2, 1) := by decide +kernel
theorem dL_law_544 : decode cL_law 544 = .ok (.iadd, 1) := by decide +kernel
theorem dL_law_545 : decode cL_law 545 = .ok (.iaload, 1) := by decide +kernel
theorem dL_law_546 : decode cL_law 546 = .ok (.invokevirtual 66, 3) := by decide +kernel
theorem dL_law_549 : decode cL_law 549 = .ok (.if_icmp .eq 964, 3) := by decide +kernel
theorem dL_law_554 : decode cL_law 554 = .ok (.aload_n 1, 1) := by decide +kernel
theorem dL_law_555 : decode cL_law 555 = .ok (.aload_n 0, 1) := by decide +kernel
theorem dL_law_556 : decode cL_law 556 = .ok (.iload 4, 2) := by decide +kernel
theorem dL_law_558 : decode cL_law 558 = .ok (.iconst 1, 1) := by decide +kernel
theorem dL_law_559 : decode cL_law 559 = .ok (.iadd, 1) := by decide +kernel
theorem dL_law_560 : decode cL_law 560 = .ok (.iaload, 1) := by decide +kernel
theorem dL_law_561 : decode cL_law 561 = .ok (.invokevirtual 67, 3) := by decide +kernel
theorem dL_law_564 : decode cL_law 564 = .ok (.aload_n 2, 1) := by decide +kernel
theorem dL_law_565 : decode cL_law 565 = .ok (.aload_n 0, 1) := by decide +kernel
theorem dL_law_566 : decode cL_law 566 = .ok (.iload 4, 2) := by decide +kernel
theorem dL_law_568 : decode cL_law 568 = .ok (.iconst 1, 1) := by decide +kernel
theorem dL_law_569 : decode cL_law 569 = .ok (.iadd, 1) := by decide +kernel
theorem dL_law_570 : decode cL_law 570 = .ok (.iaload, 1) := by decide +kernel
theorem dL_law_571 : decode cL_law 571 = .ok (.invokevirtual 71, 3) := by decide +kernel
theorem dL_law_574 : decode cL_law 574 = .ok (.if_icmp .eq 939, 3) := by decide +kernel
theorem dL_law_579 : decode cL_law 579 = .ok (.aload_n 1, 1) := by decide +kernel
theorem dL_law_580 : decode cL_law 580 = .ok (.aload_n 0, 1) := by decide +kernel
theorem dL_law_581 : decode cL_law 581 = .ok (.iload 4, 2) := by decide +kernel
theorem dL_law_583 : decode cL_law 583 = .ok (.iconst 1, 1) := by decide +kernel
theorem dL_law_584 : decode cL_law 584 = .ok (.iadd, 1) := by decide +kernel
theorem dL_law_585 : decode cL_law 585 = .ok (.iaload, 1) := by decide +kernel
theorem dL_law_586 : decode cL_law 586 = .ok (.aload_n 0, 1) := by decide +kernel
theorem dL_law_587 : decode cL_law 587 = .ok (.iload 4, 2) := by decide +kernel
theorem dL_law_589 : decode cL_law 589 = .ok (.iconst 2, 1) := by decide +kernel
theorem dL_law_590 : decode cL_law 590 = .ok (.iadd, 1) := by decide +kernel
theorem dL_law_591 : decode cL_law 591 = .ok (.iaload, 1) := by decide +kernel
theorem dL_law_592 : decode cL_law 592 = .ok (.invokevirtual 72, 3) := by decide +kernel
theorem dL_law_595 : decode cL_law 595 = .ok (.aload_n 2, 1) := by decide +kernel
theorem dL_law_596 : decode cL_law 596 = .ok (.aload_n 0, 1) := by decide +kernel
theorem dL_law_597 : decode cL_law 597 = .ok (.iload 4, 2) := by decide +kernel
theorem dL_law_599 : decode cL_law 599 = .ok (.iconst 1, 1) := by decide +kernel
theorem dL_law_600 : decode cL_law 600 = .ok (.iadd, 1) := by decide +kernel
theorem dL_law_601 : decode cL_law 601 = .ok (.iaload, 1) := by decide +kernel
theorem dL_law_602 : decode cL_law 602 = .ok (.aload_n 0, 1) := by decide +kernel
theorem dL_law_603 : decode cL_law 603 = .ok (.iload 4, 2) := by decide +kernel
theorem dL_law_605 : decode cL_law 605 = .ok (.iconst 2, 1) := by decide +kernel
theorem dL_law_606 : decode cL_law 606 = .ok (.iadd, 1) := by decide +kernel
theorem dL_law_607 : decode cL_law 607 = .ok (.iaload, 1) := by decide +kernel
theorem dL_law_608 : decode cL_law 608 = .ok (.invokevirtual 75, 3) := by decide +kernel
theorem dL_law_611 : decode cL_law 611 = .ok (.if_icmp .eq 902, 3) := by decide +kernel
theorem dL_law_616 : decode cL_law 616 = .ok (.aload_n 1, 1) := by decide +kernel
theorem dL_law_617 : decode cL_law 617 = .ok (.aload_n 0, 1) := by decide +kernel
theorem dL_law_618 : decode cL_law 618 = .ok (.iload 4, 2) := by decide +kernel
theorem dL_law_620 : decode cL_law 620 = .ok (.iconst 1, 1) := by decide +kernel
theorem dL_law_621 : decode cL_law 621 = .ok (.iadd, 1) := by decide +kernel
theorem dL_law_622 : decode cL_law 622 = .ok (.iaload, 1) := by decide +kernel
theorem dL_law_623 : decode cL_law 623 = .ok (.aload_n 0, 1) := by decide +kernel
theorem dL_law_624 : decode cL_law 624 = .ok (.iload 4, 2) := by decide +kernel
theorem dL_law_626 : decode cL_law 626 = .ok (.iconst 2, 1) := by decide +kernel
theorem dL_law_627 : decode cL_law 627 = .ok (.iadd, 1) := by decide +kernel
theorem dL_law_628 : decode cL_law 628 = .ok (.iaload, 1) := by decide +kernel
theorem dL_law_629 : decode cL_law 629 = .ok (.invokevirtual 76, 3) := by decide +kernel
theorem dL_law_632 : decode cL_law 632 = .ok (.aload_n 2, 1) := by decide +kernel
theorem dL_law_633 : decode cL_law 633 = .ok (.aload_n 0, 1) := by decide +kernel
theorem dL_law_634 : decode cL_law 634 = .ok (.iload 4, 2) := by decide +kernel
theorem dL_law_636 : decode cL_law 636 = .ok (.iconst 1, 1) := by decide +kernel
theorem dL_law_637 : decode cL_law 637 = .ok (.iadd, 1) := by decide +kernel
theorem dL_law_638 : decode cL_law 638 = .ok (.iaload, 1) := by decide +kernel
theorem dL_law_639 : decode cL_law 639 = .ok (.aload_n 0, 1) := by decide +kernel
theorem dL_law_640 : decode cL_law 640 = .ok (.iload 4, 2) := by decide +kernel
theorem dL_law_642 : decode cL_law 642 = .ok (.iconst 2, 1) := by decide +kernel
theorem dL_law_643 : decode cL_law 643 = .ok (.iadd, 1) := by decide +kernel
theorem dL_law_644 : decode cL_law 644 = .ok (.iaload, 1) := by decide +kernel
theorem dL_law_645 : decode cL_law 645 = .ok (.invokevirtual 79, 3) := by decide +kernel
theorem dL_law_648 : decode cL_law 648 = .ok (.if_icmp .eq 865, 3) := by decide +kernel
theorem dL_law_653 : decode cL_law 653 = .ok (.aload_n 1, 1) := by decide +kernel
theorem dL_law_654 : decode cL_law 654 = .ok (.aload_n 0, 1) := by decide +kernel
theorem dL_law_655 : decode cL_law 655 = .ok (.iload 4, 2) := by decide +kernel
theorem dL_law_657 : decode cL_law 657 = .ok (.iconst 1, 1) := by decide +kernel
theorem dL_law_658 : decode cL_law 658 = .ok (.iadd, 1) := by decide +kernel
theorem dL_law_659 : decode cL_law 659 = .ok (.iaload, 1) := by decide +kernel
theorem dL_law_660 : decode cL_law 660 = .ok (.invokevirtual 80, 3) := by decide +kernel
theorem dL_law_663 : decode cL_law 663 = .ok (.aload_n 2, 1) := by decide +kernel
theorem dL_law_664 : decode cL_law 664 = .ok (.aload_n 0, 1) := by decide +kernel
theorem dL_law_665 : decode cL_law 665 = .ok (.iload 4, 2) := by decide +kernel
theorem dL_law_667 : decode cL_law 667 = .ok (.iconst 1, 1) := by decide +kernel
theorem dL_law_668 : decode cL_law 668 = .ok (.iadd, 1) := by decide +kernel
theorem dL_law_669 : decode cL_law 669 = .ok (.iaload, 1) := by decide +kernel
theorem dL_law_670 : decode cL_law 670 = .ok (.invokevirtual 83, 3) := by decide +kernel
theorem dL_law_673 : decode cL_law 673 = .ok (.if_icmp .eq 840, 3) := by decide +kernel
theorem dL_law_678 : decode cL_law 678 = .ok (.aload_n 1, 1) := by decide +kernel
theorem dL_law_679 : decode cL_law 679 = .ok (.aload_n 0, 1) := by decide +kernel
theorem dL_law_680 : decode cL_law 680 = .ok (.iload 4, 2) := by decide +kernel
theorem dL_law_682 : decode cL_law 682 = .ok (.iconst 1, 1) := by decide +kernel
theorem dL_law_683 : decode cL_law 683 = .ok (.iadd, 1) := by decide +kernel
theorem dL_law_684 : decode cL_law 684 = .ok (.iaload, 1) := by decide +kernel
theorem dL_law_685 : decode cL_law 685 = .ok (.invokevirtual 84, 3) := by decide +kernel
theorem dL_law_688 : decode cL_law 688 = .ok (.aload_n 2, 1) := by decide +kernel
theorem dL_law_689 : decode cL_law 689 = .ok (.aload_n 0, 1) := by decide +kernel
theorem dL_law_690 : decode cL_law 690 = .ok (.iload 4, 2) := by decide +kernel
theorem dL_law_692 : decode cL_law 692 = .ok (.iconst 1, 1) := by decide +kernel
theorem dL_law_693 : decode cL_law 693 = .ok (.iadd, 1) := by decide +kernel
theorem dL_law_694 : decode cL_law 694 = .ok (.iaload, 1) := by decide +kernel
theorem dL_law_695 : decode cL_law 695 = .ok (.invokevirtual 87, 3) := by decide +kernel
theorem dL_law_698 : decode cL_law 698 = .ok (.if_icmp .eq 815, 3) := by decide +kernel
theorem dL_law_703 : decode cL_law 703 = .ok (.aload_n 1, 1) := by decide +kernel
theorem dL_law_704 : decode cL_law 704 = .ok (.invokevirtual 88, 3) := by decide +kernel
theorem dL_law_707 : decode cL_law 707 = .ok (.aload_n 2, 1) := by decide +kernel
theorem dL_law_708 : decode cL_law 708 = .ok (.invokevirtual 91, 3) := by decide +kernel
theorem dL_law_711 : decode cL_law 711 = .ok (.if_icmp .eq 802, 3) := by decide +kernel
theorem lc_feed {wad ad1 ad2 : Nat → Nat} {b L o i cells slots : Nat} {xs : Nat → Int32} {Γ : CtC} {f : Nat → Int64} {hc hm : HS} {P : Pl} {A : Ab} (hG : LG wad ad1 ad2 b L xs Γ) (hf : cells + 1 ≤ 601024 ∧ slots + 6 ≤ 7293034) (hi : i + 6 ≤ L) (q : Rel P A hc hm) (K : KK Γ ad1 ad2 b o i cells slots) : AL Γ 220 (lvL ad1 ad2 b o i) [] (WW o f ad1 ad2 (cyOf Γ) hc hm) cells slots := by
  obtain ⟨v, hc2, hm2, P2, A2, e1, e2, q2⟩ := S_feed (F := 20000) (Nat.le_refl _) (xs (i + 1)) (xs (i + 2)) (xs (i + 3)) (xs (i + 4)) (xs (i + 5)) P A hc hm q
  refine z_aload_n hG.1 2 rfl dL_law_220 rfl ?_
  refine l_arg (i := i) (j := 1) hG (z0 := 1) (z4 := 0) rfl rfl (by omega) (by decide) dL_law_221 dL_law_222 dL_law_224 dL_law_225 dL_law_226 ?_
  refine l_arg (i := i) (j := 2) hG (z0 := 1) (z4 := 0) rfl rfl (by omega) (by decide) dL_law_227 dL_law_228 dL_law_230 dL_law_231 dL_law_232 ?_
  refine l_arg (i := i) (j := 3) hG (z0 := 1) (z4 := 0) rfl rfl (by omega) (by decide) dL_law_233 dL_law_234 dL_law_236 dL_law_237 dL_law_238 ?_
  refine l_arg (i := i) (j := 4) hG (z0 := 1) (z4 := 0) rfl rfl (by omega) (by decide) dL_law_239 dL_law_240 dL_law_242 dL_law_243 dL_law_244 ?_
  refine l_arg (i := i) (j := 5) hG (z0 := 1) (z4 := 0) rfl rfl (by omega) (by decide) dL_law_245 dL_law_246 dL_law_248 dL_law_249 dL_law_250 ?_
  refine l_callC hG hf (As := [.int (xs (i + 1)), .int (xs (i + 2)), .int (xs (i + 3)), .int (xs (i + 4)), .int (xs (i + 5))]) (st := []) ml_X11_feed tl_533 (by decide) (c_LC_feed (xs (i + 1)) (xs (i + 2)) (xs (i + 3)) (xs (i + 4)) (xs (i + 5)) hc (v, hc2) e1) rfl (Nat.le_of_ble_eq_true rfl) dL_law_251 ?_
  refine z_aload_n hG.1 3 rfl dL_law_254 rfl ?_
  refine l_arg (i := i) (j := 1) hG (z0 := 1) (z4 := 0) rfl rfl (by omega) (by decide) dL_law_255 dL_law_256 dL_law_258 dL_law_259 dL_law_260 ?_
  refine l_arg (i := i) (j := 2) hG (z0 := 1) (z4 := 0) rfl rfl (by omega) (by decide) dL_law_261 dL_law_262 dL_law_264 dL_law_265 dL_law_266 ?_
  refine l_arg (i := i) (j := 3) hG (z0 := 1) (z4 := 0) rfl rfl (by omega) (by decide) dL_law_267 dL_law_268 dL_law_270 dL_law_271 dL_law_272 ?_
  refine l_arg (i := i) (j := 4) hG (z0 := 1) (z4 := 0) rfl rfl (by omega) (by decide) dL_law_273 dL_law_274 dL_law_276 dL_law_277 dL_law_278 ?_
  refine l_arg (i := i) (j := 5) hG (z0 := 1) (z4 := 0) rfl rfl (by omega) (by decide) dL_law_279 dL_law_280 dL_law_282 dL_law_283 dL_law_284 ?_
  refine l_callM hG ⟨by omega, by omega⟩ (As := [.int (xs (i + 1)), .int (xs (i + 2)), .int (xs (i + 3)), .int (xs (i + 4)), .int (xs (i + 5))]) (st := [.int v]) ml_X12_feed tl_1560 (by decide) (c_M_feed 20000 (xs (i + 1)) (xs (i + 2)) (xs (i + 3)) (xs (i + 4)) (xs (i + 5)) hm (v, hm2) e2) rfl (Nat.le_of_ble_eq_true rfl) dL_law_285 ?_
  exact z_ic_eq hG.1 (tgt := 1513) dL_law_288 rfl (fun _ => K _ _ _ _ _ _ _ (Nat.le_succ _) (Nat.le_add_right _ _) q2) (fun z => absurd rfl z)
theorem lc_end {wad ad1 ad2 : Nat → Nat} {b L o i cells slots : Nat} {xs : Nat → Int32} {Γ : CtC} {f : Nat → Int64} {hc hm : HS} {P : Pl} {A : Ab} (hG : LG wad ad1 ad2 b L xs Γ) (hf : cells + 1 ≤ 601024 ∧ slots + 6 ≤ 7293034) (hi : i + 6 ≤ L) (q : Rel P A hc hm) (K : KK Γ ad1 ad2 b o i cells slots) : AL Γ 293 (lvL ad1 ad2 b o i) [] (WW o f ad1 ad2 (cyOf Γ) hc hm) cells slots := by
  obtain ⟨v, hc2, hm2, P2, A2, e1, e2, q2⟩ := S_end (xs (i + 1)) P A hc hm q
  refine z_aload_n hG.1 2 rfl dL_law_293 rfl ?_
  refine l_arg (i := i) (j := 1) hG (z0 := 1) (z4 := 0) rfl rfl (by omega) (by decide) dL_law_294 dL_law_295 dL_law_297 dL_law_298 dL_law_299 ?_
  refine l_callC hG hf (As := [.int (xs (i + 1))]) (st := []) ml_X11_end tl_549 (by decide) (c_LC_end (xs (i + 1)) hc (v, hc2) e1) rfl (Nat.le_of_ble_eq_true rfl) dL_law_300 ?_
  refine z_aload_n hG.1 3 rfl dL_law_303 rfl ?_
  refine l_arg (i := i) (j := 1) hG (z0 := 1) (z4 := 0) rfl rfl (by omega) (by decide) dL_law_304 dL_law_305 dL_law_307 dL_law_308 dL_law_309 ?_
  refine l_callM hG ⟨by omega, by omega⟩ (As := [.int (xs (i + 1))]) (st := [.int v]) ml_X12_end tl_1569 (by decide) (c_M_end (xs (i + 1)) hm (v, hm2) e2) rfl (Nat.le_of_ble_eq_true rfl) dL_law_310 ?_
  exact z_ic_eq hG.1 (tgt := 1513) dL_law_313 rfl (fun _ => K _ _ _ _ _ _ _ (Nat.le_succ _) (Nat.le_add_right _ _) q2) (fun z => absurd rfl z)
theorem lc_office {wad ad1 ad2 : Nat → Nat} {b L o i cells slots : Nat} {xs : Nat → Int32} {Γ : CtC} {f : Nat → Int64} {hc hm : HS} {P : Pl} {A : Ab} (hG : LG wad ad1 ad2 b L xs Γ) (hf : cells + 1 ≤ 601024 ∧ slots + 6 ≤ 7293034) (hi : i + 6 ≤ L) (q : Rel P A hc hm) (K : KK Γ ad1 ad2 b o i cells slots) : AL Γ 318 (lvL ad1 ad2 b o i) [] (WW o f ad1 ad2 (cyOf Γ) hc hm) cells slots := by
  obtain ⟨v, hc2, hm2, P2, A2, e1, e2, q2⟩ := S_office (F := 20000) (Nat.le_refl _)  P A hc hm q
  refine z_aload_n hG.1 2 rfl dL_law_318 rfl ?_
  refine l_callC hG hf (As := []) (st := []) ml_X11_office tl_557 (by decide) (c_LC_office 20000 hc (v, hc2) e1) rfl (Nat.le_of_ble_eq_true rfl) dL_law_319 ?_
  refine z_aload_n hG.1 3 rfl dL_law_322 rfl ?_
  refine l_callM hG ⟨by omega, by omega⟩ (As := []) (st := [.int v]) ml_X12_office tl_1746 (by decide) (c_M_office 20000 hm (v, hm2) e2) rfl (Nat.le_of_ble_eq_true rfl) dL_law_323 ?_
  exact z_ic_eq hG.1 (tgt := 1513) dL_law_326 rfl (fun _ => K _ _ _ _ _ _ _ (Nat.le_succ _) (Nat.le_add_right _ _) q2) (fun z => absurd rfl z)
theorem lc_fault {wad ad1 ad2 : Nat → Nat} {b L o i cells slots : Nat} {xs : Nat → Int32} {Γ : CtC} {f : Nat → Int64} {hc hm : HS} {P : Pl} {A : Ab} (hG : LG wad ad1 ad2 b L xs Γ) (hf : cells + 1 ≤ 601024 ∧ slots + 6 ≤ 7293034) (hi : i + 6 ≤ L) (q : Rel P A hc hm) (K : KK Γ ad1 ad2 b o i cells slots) : AL Γ 331 (lvL ad1 ad2 b o i) [] (WW o f ad1 ad2 (cyOf Γ) hc hm) cells slots := by
  obtain ⟨v, hc2, hm2, P2, A2, e1, e2, q2⟩ := S_fault  P A hc hm q
  refine z_aload_n hG.1 2 rfl dL_law_331 rfl ?_
  refine l_callC hG hf (As := []) (st := []) ml_X11_fault tl_773 (by decide) (c_LC_fault hc (v, hc2) e1) rfl (Nat.le_of_ble_eq_true rfl) dL_law_332 ?_
  refine z_aload_n hG.1 3 rfl dL_law_335 rfl ?_
  refine l_callM hG ⟨by omega, by omega⟩ (As := []) (st := [.int v]) ml_X12_fault tl_1822 (by decide) (c_M_fault hm (v, hm2) e2) rfl (Nat.le_of_ble_eq_true rfl) dL_law_336 ?_
  exact z_ic_eq hG.1 (tgt := 1513) dL_law_339 rfl (fun _ => K _ _ _ _ _ _ _ (Nat.le_succ _) (Nat.le_add_right _ _) q2) (fun z => absurd rfl z)
theorem dL_cause_0 : decode cL_cause 0 = .ok (.aload_n 3, 1) := by decide +kernel
theorem dL_cause_1 : decode cL_cause 1 = .ok (.iconst 0, 1) := by decide +kernel
theorem dL_cause_2 : decode cL_cause 2 = .ok (.aload_n 0, 1) := by decide +kernel
theorem dL_cause_3 : decode cL_cause 3 = .ok (.iload_n 1, 1) := by decide +kernel
theorem dL_cause_4 : decode cL_cause 4 = .ok (.iload_n 2, 1) := by decide +kernel
theorem dL_cause_5 : decode cL_cause 5 = .ok (.invokevirtual 7, 3) := by decide +kernel
theorem dL_cause_8 : decode cL_cause 8 = .ok (.i2l, 1) := by decide +kernel
theorem dL_cause_9 : decode cL_cause 9 = .ok (.lastore, 1) := by decide +kernel
theorem dL_cause_10 : decode cL_cause 10 = .ok (.goto 7, 3) := by decide +kernel
theorem dL_cause_13 : decode cL_cause 13 = .ok (.astore 4, 2) := by decide +kernel
theorem dL_cause_15 : decode cL_cause 15 = .ok (.iconst 1, 1) := by decide +kernel
theorem dL_cause_16 : decode cL_cause 16 = .ok (.ireturn, 1) := by decide +kernel
theorem dL_cause_17 : decode cL_cause 17 = .ok (.iconst 0, 1) := by decide +kernel
theorem dL_cause_18 : decode cL_cause 18 = .ok (.ireturn, 1) := by decide +kernel
theorem hd_cause : HD cL_cause 7 := ⟨dL_cause_0, dL_cause_1, dL_cause_2, dL_cause_3, dL_cause_4, dL_cause_5, dL_cause_8, dL_cause_9, dL_cause_10, dL_cause_13, dL_cause_15, dL_cause_16, dL_cause_17, dL_cause_18⟩
theorem lc_cause {wad ad1 ad2 : Nat → Nat} {b L o i cells slots : Nat} {xs : Nat → Int32} {Γ : CtC} {f : Nat → Int64} {hc hm : HS} {P : Pl} {A : Ab} (hG : LG wad ad1 ad2 b L xs Γ) (hf : cells + 1 ≤ 601024 ∧ slots + 6 ≤ 7293034) (hi : i + 6 ≤ L) (q : Rel P A hc hm) (K : KK Γ ad1 ad2 b o i cells slots) : AL Γ 344 (lvL ad1 ad2 b o i) [] (WW o f ad1 ad2 (cyOf Γ) hc hm) cells slots := by
  obtain ⟨T1, T2⟩ := T_cause (F := 20000) (Nat.le_refl _) (xs (i + 1)) (xs (i + 2)) P A hc hm q
  have hT : ∃ (r v : Int32) (f1 : Nat → Int64) (hc2 hm2 : HS) (P2 : Pl) (A2 : Ab), CtH ad1 wad yL_cause cL_cause (xs (i + 1)) (xs (i + 2)) o f hc r f1 hc2 ∧ f_M_cause 20000 (xs (i + 1)) (xs (i + 2)) hm = some (v, hm2) ∧ hm2.1 0 0 = r ∧ (r = 0 → f1 0 = v.toInt64) ∧ Rel P2 A2 hc2 hm2 := by
    by_cases hq : (inb (xs (i + 1)) (P 0 3) && inb (xs (i + 2)) 9) = true
    · obtain ⟨v, hc2, hm2, P2, A2, e1, e2, e3, q2⟩ := T1 hq
      exact ⟨nI 0, v, vp_updL f 0 v.toInt64, hc2, hm2, P2, A2, ch_ret (by decide) rfl hd_cause ml_X11_cause tl_1456 (by decide) (c_LC_cause (xs (i + 1)) (xs (i + 2)) hc (v, hc2) e1), e2, e3, fun _ => if_pos rfl, q2⟩
    · have hq : (inb (xs (i + 1)) (P 0 3) && inb (xs (i + 2)) 9) = false := Bool.eq_false_iff.mpr hq
      obtain ⟨v, hm2, e2, e3, q2⟩ := T2 hq
      exact ⟨nI 1, v, f, hc, hm2, P, A, ch_thr (by decide) rfl hd_cause ml_X11_cause tl_1456 tl_1455 (TT_cause q _ _ hq), e2, e3, fun z => absurd z (by decide), q2⟩
  obtain ⟨r, v, f1, hc2, hm2, P2, A2, e1, e2, e3, e4, q2⟩ := hT
  refine z_aload_n hG.1 2 rfl dL_law_344 rfl ?_
  refine l_arg (i := i) (j := 1) hG (z0 := 1) (z4 := 0) rfl rfl (by omega) (by decide) dL_law_345 dL_law_346 dL_law_348 dL_law_349 dL_law_350 ?_
  refine l_arg (i := i) (j := 2) hG (z0 := 1) (z4 := 0) rfl rfl (by omega) (by decide) dL_law_351 dL_law_352 dL_law_354 dL_law_355 dL_law_356 ?_
  refine z_aload_n hG.1 4 rfl dL_law_357 rfl ?_
  refine l_callH hG hf tl_1452 tl_1453 tl_120 tl_1454 ⟨by decide +kernel, by decide +kernel, by decide +kernel⟩ e1 dL_law_358 ?_
  refine z_istore (lv' := [(5, .int r), (4, .int (nI i)), (0, .ref b), (1, .ref (ad1 0)), (2, .ref (ad2 0)), (3, .ref o)]) hG.1 dL_law_361 (by decide) rfl ?_
  refine z_aload_n hG.1 4 rfl dL_law_363 rfl ?_
  refine l_arg (i := i) (j := 1) hG (z0 := 2) (z4 := 1) rfl rfl (by omega) (by decide) dL_law_364 dL_law_365 dL_law_367 dL_law_368 dL_law_369 ?_
  refine l_arg (i := i) (j := 2) hG (z0 := 2) (z4 := 1) rfl rfl (by omega) (by decide) dL_law_370 dL_law_371 dL_law_373 dL_law_374 dL_law_375 ?_
  refine l_callM hG hf (As := [.int (xs (i + 1)), .int (xs (i + 2))]) (st := []) ml_X12_cause tl_1826 (by decide) (c_M_cause 20000 (xs (i + 1)) (xs (i + 2)) hm (v, hm2) e2) rfl (Nat.le_of_ble_eq_true rfl) dL_law_376 ?_
  refine z_istore (lv' := [(6, .int v), (5, .int r), (4, .int (nI i)), (0, .ref b), (1, .ref (ad1 0)), (2, .ref (ad2 0)), (3, .ref o)]) hG.1 dL_law_379 (by decide) rfl ?_
  refine z_aload_n hG.1 5 rfl dL_law_381 rfl ?_
  refine l_callM hG hf (As := []) (st := []) ml_X12_thrown tl_1556 (by decide) (c_M_thrown hm2 (hm2.1 0 0, hm2) (thrown_e hm2)) rfl (Nat.le_of_ble_eq_true rfl) dL_law_382 ?_
  refine z_iload hG.1 1 rfl dL_law_385 ?_
  refine z_ic_eq hG.1 (tgt := 392) dL_law_387 rfl (fun _ => ?_) (fun z => absurd e3 z)
  refine z_iload hG.1 1 rfl dL_law_392 ?_
  have fin : AL Γ 409 [(6, .int v), (5, .int r), (4, .int (nI i)), (0, .ref b), (1, .ref (ad1 0)), (2, .ref (ad2 0)), (3, .ref o)] [] (WW o f1 ad1 ad2 (cyOf Γ) hc2 hm2) (cells + 1) (slots + 6) := z_goto hG.1 (tgt := 1513) dL_law_409 rfl (l_sub [2, 3, 4, 5, 6] rfl (K _ _ _ _ _ _ _ (Nat.le_refl _) (Nat.le_refl _) q2))
  refine z_if_ne hG.1 (tgt := 409) dL_law_394 rfl (fun _ => fin) (fun z => ?_)
  refine z_aload_n hG.1 6 rfl dL_law_397 rfl ?_
  refine z_iconst (v := nI 0) hG.1 dL_law_398 (by decide) ?_
  refine z_lald hG.1 0 2 WW_z rfl (inb_in (by decide)) dL_law_399 ?_
  refine z_iload hG.1 0 rfl dL_law_400 ?_
  refine z_i2l hG.1 dL_law_402 ?_
  refine z_lcmp hG.1 dL_law_403 ?_
  have ez : f1 (nI 0).toNatClampNeg = v.toInt64 := e4 z
  rw [ez, cmp_e]
  exact z_if_eq hG.1 (tgt := 409) dL_law_404 rfl (fun _ => fin) (fun z => absurd rfl z)
theorem dL_odds_0 : decode cL_odds 0 = .ok (.aload_n 3, 1) := by decide +kernel
theorem dL_odds_1 : decode cL_odds 1 = .ok (.iconst 0, 1) := by decide +kernel
theorem dL_odds_2 : decode cL_odds 2 = .ok (.aload_n 0, 1) := by decide +kernel
theorem dL_odds_3 : decode cL_odds 3 = .ok (.iload_n 1, 1) := by decide +kernel
theorem dL_odds_4 : decode cL_odds 4 = .ok (.iload_n 2, 1) := by decide +kernel
theorem dL_odds_5 : decode cL_odds 5 = .ok (.invokevirtual 15, 3) := by decide +kernel
theorem dL_odds_8 : decode cL_odds 8 = .ok (.i2l, 1) := by decide +kernel
theorem dL_odds_9 : decode cL_odds 9 = .ok (.lastore, 1) := by decide +kernel
theorem dL_odds_10 : decode cL_odds 10 = .ok (.goto 7, 3) := by decide +kernel
theorem dL_odds_13 : decode cL_odds 13 = .ok (.astore 4, 2) := by decide +kernel
theorem dL_odds_15 : decode cL_odds 15 = .ok (.iconst 1, 1) := by decide +kernel
theorem dL_odds_16 : decode cL_odds 16 = .ok (.ireturn, 1) := by decide +kernel
theorem dL_odds_17 : decode cL_odds 17 = .ok (.iconst 0, 1) := by decide +kernel
theorem dL_odds_18 : decode cL_odds 18 = .ok (.ireturn, 1) := by decide +kernel
theorem hd_odds : HD cL_odds 15 := ⟨dL_odds_0, dL_odds_1, dL_odds_2, dL_odds_3, dL_odds_4, dL_odds_5, dL_odds_8, dL_odds_9, dL_odds_10, dL_odds_13, dL_odds_15, dL_odds_16, dL_odds_17, dL_odds_18⟩
theorem lc_odds {wad ad1 ad2 : Nat → Nat} {b L o i cells slots : Nat} {xs : Nat → Int32} {Γ : CtC} {f : Nat → Int64} {hc hm : HS} {P : Pl} {A : Ab} (hG : LG wad ad1 ad2 b L xs Γ) (hf : cells + 1 ≤ 601024 ∧ slots + 6 ≤ 7293034) (hi : i + 6 ≤ L) (q : Rel P A hc hm) (K : KK Γ ad1 ad2 b o i cells slots) : AL Γ 412 (lvL ad1 ad2 b o i) [] (WW o f ad1 ad2 (cyOf Γ) hc hm) cells slots := by
  obtain ⟨T1, T2⟩ := T_odds (F := 20000) (Nat.le_refl _) (xs (i + 1)) (xs (i + 2)) P A hc hm q
  have hT : ∃ (r v : Int32) (f1 : Nat → Int64) (hc2 hm2 : HS) (P2 : Pl) (A2 : Ab), CtH ad1 wad yL_odds cL_odds (xs (i + 1)) (xs (i + 2)) o f hc r f1 hc2 ∧ f_M_odds 20000 (xs (i + 1)) (xs (i + 2)) hm = some (v, hm2) ∧ hm2.1 0 0 = r ∧ (r = 0 → f1 0 = v.toInt64) ∧ Rel P2 A2 hc2 hm2 := by
    by_cases hq : (inb (xs (i + 1)) (P 0 3) && inb (xs (i + 2)) 2) = true
    · obtain ⟨v, hc2, hm2, P2, A2, e1, e2, e3, q2⟩ := T1 hq
      exact ⟨nI 0, v, vp_updL f 0 v.toInt64, hc2, hm2, P2, A2, ch_ret (by decide) rfl hd_odds ml_X11_odds tl_1528 (by decide) (c_LC_odds 20000 (xs (i + 1)) (xs (i + 2)) hc (v, hc2) e1), e2, e3, fun _ => if_pos rfl, q2⟩
    · have hq : (inb (xs (i + 1)) (P 0 3) && inb (xs (i + 2)) 2) = false := Bool.eq_false_iff.mpr hq
      obtain ⟨v, hm2, e2, e3, q2⟩ := T2 hq
      exact ⟨nI 1, v, f, hc, hm2, P, A, ch_thr (by decide) rfl hd_odds ml_X11_odds tl_1528 tl_1455 (TT_odds q _ _ hq), e2, e3, fun z => absurd z (by decide), q2⟩
  obtain ⟨r, v, f1, hc2, hm2, P2, A2, e1, e2, e3, e4, q2⟩ := hT
  refine z_aload_n hG.1 2 rfl dL_law_412 rfl ?_
  refine l_arg (i := i) (j := 1) hG (z0 := 1) (z4 := 0) rfl rfl (by omega) (by decide) dL_law_413 dL_law_414 dL_law_416 dL_law_417 dL_law_418 ?_
  refine l_arg (i := i) (j := 2) hG (z0 := 1) (z4 := 0) rfl rfl (by omega) (by decide) dL_law_419 dL_law_420 dL_law_422 dL_law_423 dL_law_424 ?_
  refine z_aload_n hG.1 4 rfl dL_law_425 rfl ?_
  refine l_callH hG hf tl_1525 tl_1526 tl_120 tl_1527 ⟨by decide +kernel, by decide +kernel, by decide +kernel⟩ e1 dL_law_426 ?_
  refine z_istore (lv' := [(5, .int r), (4, .int (nI i)), (0, .ref b), (1, .ref (ad1 0)), (2, .ref (ad2 0)), (3, .ref o)]) hG.1 dL_law_429 (by decide) rfl ?_
  refine z_aload_n hG.1 4 rfl dL_law_431 rfl ?_
  refine l_arg (i := i) (j := 1) hG (z0 := 2) (z4 := 1) rfl rfl (by omega) (by decide) dL_law_432 dL_law_433 dL_law_435 dL_law_436 dL_law_437 ?_
  refine l_arg (i := i) (j := 2) hG (z0 := 2) (z4 := 1) rfl rfl (by omega) (by decide) dL_law_438 dL_law_439 dL_law_441 dL_law_442 dL_law_443 ?_
  refine l_callM hG hf (As := [.int (xs (i + 1)), .int (xs (i + 2))]) (st := []) ml_X12_odds tl_1854 (by decide) (c_M_odds 20000 (xs (i + 1)) (xs (i + 2)) hm (v, hm2) e2) rfl (Nat.le_of_ble_eq_true rfl) dL_law_444 ?_
  refine z_istore (lv' := [(6, .int v), (5, .int r), (4, .int (nI i)), (0, .ref b), (1, .ref (ad1 0)), (2, .ref (ad2 0)), (3, .ref o)]) hG.1 dL_law_447 (by decide) rfl ?_
  refine z_aload_n hG.1 5 rfl dL_law_449 rfl ?_
  refine l_callM hG hf (As := []) (st := []) ml_X12_thrown tl_1556 (by decide) (c_M_thrown hm2 (hm2.1 0 0, hm2) (thrown_e hm2)) rfl (Nat.le_of_ble_eq_true rfl) dL_law_450 ?_
  refine z_iload hG.1 1 rfl dL_law_453 ?_
  refine z_ic_eq hG.1 (tgt := 460) dL_law_455 rfl (fun _ => ?_) (fun z => absurd e3 z)
  refine z_iload hG.1 1 rfl dL_law_460 ?_
  have fin : AL Γ 477 [(6, .int v), (5, .int r), (4, .int (nI i)), (0, .ref b), (1, .ref (ad1 0)), (2, .ref (ad2 0)), (3, .ref o)] [] (WW o f1 ad1 ad2 (cyOf Γ) hc2 hm2) (cells + 1) (slots + 6) := z_goto hG.1 (tgt := 1513) dL_law_477 rfl (l_sub [2, 3, 4, 5, 6] rfl (K _ _ _ _ _ _ _ (Nat.le_refl _) (Nat.le_refl _) q2))
  refine z_if_ne hG.1 (tgt := 477) dL_law_462 rfl (fun _ => fin) (fun z => ?_)
  refine z_aload_n hG.1 6 rfl dL_law_465 rfl ?_
  refine z_iconst (v := nI 0) hG.1 dL_law_466 (by decide) ?_
  refine z_lald hG.1 0 2 WW_z rfl (inb_in (by decide)) dL_law_467 ?_
  refine z_iload hG.1 0 rfl dL_law_468 ?_
  refine z_i2l hG.1 dL_law_470 ?_
  refine z_lcmp hG.1 dL_law_471 ?_
  have ez : f1 (nI 0).toNatClampNeg = v.toInt64 := e4 z
  rw [ez, cmp_e]
  exact z_if_eq hG.1 (tgt := 477) dL_law_472 rfl (fun _ => fin) (fun z => absurd rfl z)
theorem lc_deed {wad ad1 ad2 : Nat → Nat} {b L o i cells slots : Nat} {xs : Nat → Int32} {Γ : CtC} {f : Nat → Int64} {hc hm : HS} {P : Pl} {A : Ab} (hG : LG wad ad1 ad2 b L xs Γ) (hf : cells + 1 ≤ 601024 ∧ slots + 6 ≤ 7293034) (hi : i + 6 ≤ L) (q : Rel P A hc hm) (K : KK Γ ad1 ad2 b o i cells slots) : AL Γ 480 (lvL ad1 ad2 b o i) [] (WW o f ad1 ad2 (cyOf Γ) hc hm) cells slots := by
  obtain ⟨v, hc2, hm2, P2, A2, e1, e2, q2⟩ := S_deed (xs (i + 1)) (xs (i + 2)) P A hc hm q
  refine z_aload_n hG.1 2 rfl dL_law_480 rfl ?_
  refine l_arg (i := i) (j := 1) hG (z0 := 1) (z4 := 0) rfl rfl (by omega) (by decide) dL_law_481 dL_law_482 dL_law_484 dL_law_485 dL_law_486 ?_
  refine l_arg (i := i) (j := 2) hG (z0 := 1) (z4 := 0) rfl rfl (by omega) (by decide) dL_law_487 dL_law_488 dL_law_490 dL_law_491 dL_law_492 ?_
  refine l_callC hG hf (As := [.int (xs (i + 1)), .int (xs (i + 2))]) (st := []) ml_X11_deed tl_777 (by decide) (c_LC_deed (xs (i + 1)) (xs (i + 2)) hc (v, hc2) e1) rfl (Nat.le_of_ble_eq_true rfl) dL_law_493 ?_
  refine z_aload_n hG.1 3 rfl dL_law_496 rfl ?_
  refine l_arg (i := i) (j := 1) hG (z0 := 1) (z4 := 0) rfl rfl (by omega) (by decide) dL_law_497 dL_law_498 dL_law_500 dL_law_501 dL_law_502 ?_
  refine l_arg (i := i) (j := 2) hG (z0 := 1) (z4 := 0) rfl rfl (by omega) (by decide) dL_law_503 dL_law_504 dL_law_506 dL_law_507 dL_law_508 ?_
  refine l_callM hG ⟨by omega, by omega⟩ (As := [.int (xs (i + 1)), .int (xs (i + 2))]) (st := [.int v]) ml_X12_deed tl_1861 (by decide) (c_M_deed (xs (i + 1)) (xs (i + 2)) hm (v, hm2) e2) rfl (Nat.le_of_ble_eq_true rfl) dL_law_509 ?_
  exact z_ic_eq hG.1 (tgt := 1513) dL_law_512 rfl (fun _ => K _ _ _ _ _ _ _ (Nat.le_succ _) (Nat.le_add_right _ _) q2) (fun z => absurd rfl z)
theorem lc_clerk {wad ad1 ad2 : Nat → Nat} {b L o i cells slots : Nat} {xs : Nat → Int32} {Γ : CtC} {f : Nat → Int64} {hc hm : HS} {P : Pl} {A : Ab} (hG : LG wad ad1 ad2 b L xs Γ) (hf : cells + 1 ≤ 601024 ∧ slots + 6 ≤ 7293034) (hi : i + 6 ≤ L) (q : Rel P A hc hm) (K : KK Γ ad1 ad2 b o i cells slots) : AL Γ 517 (lvL ad1 ad2 b o i) [] (WW o f ad1 ad2 (cyOf Γ) hc hm) cells slots := by
  obtain ⟨v, hc2, hm2, P2, A2, e1, e2, q2⟩ := S_clerk (xs (i + 1)) (xs (i + 2)) P A hc hm q
  refine z_aload_n hG.1 2 rfl dL_law_517 rfl ?_
  refine l_arg (i := i) (j := 1) hG (z0 := 1) (z4 := 0) rfl rfl (by omega) (by decide) dL_law_518 dL_law_519 dL_law_521 dL_law_522 dL_law_523 ?_
  refine l_arg (i := i) (j := 2) hG (z0 := 1) (z4 := 0) rfl rfl (by omega) (by decide) dL_law_524 dL_law_525 dL_law_527 dL_law_528 dL_law_529 ?_
  refine l_callC hG hf (As := [.int (xs (i + 1)), .int (xs (i + 2))]) (st := []) ml_X11_clerk tl_786 (by decide) (c_LC_clerk (xs (i + 1)) (xs (i + 2)) hc (v, hc2) e1) rfl (Nat.le_of_ble_eq_true rfl) dL_law_530 ?_
  refine z_aload_n hG.1 3 rfl dL_law_533 rfl ?_
  refine l_arg (i := i) (j := 1) hG (z0 := 1) (z4 := 0) rfl rfl (by omega) (by decide) dL_law_534 dL_law_535 dL_law_537 dL_law_538 dL_law_539 ?_
  refine l_arg (i := i) (j := 2) hG (z0 := 1) (z4 := 0) rfl rfl (by omega) (by decide) dL_law_540 dL_law_541 dL_law_543 dL_law_544 dL_law_545 ?_
  refine l_callM hG ⟨by omega, by omega⟩ (As := [.int (xs (i + 1)), .int (xs (i + 2))]) (st := [.int v]) ml_X12_clerk tl_1869 (by decide) (c_M_clerk (xs (i + 1)) (xs (i + 2)) hm (v, hm2) e2) rfl (Nat.le_of_ble_eq_true rfl) dL_law_546 ?_
  exact z_ic_eq hG.1 (tgt := 1513) dL_law_549 rfl (fun _ => K _ _ _ _ _ _ _ (Nat.le_succ _) (Nat.le_add_right _ _) q2) (fun z => absurd rfl z)
theorem lc_now {wad ad1 ad2 : Nat → Nat} {b L o i cells slots : Nat} {xs : Nat → Int32} {Γ : CtC} {f : Nat → Int64} {hc hm : HS} {P : Pl} {A : Ab} (hG : LG wad ad1 ad2 b L xs Γ) (hf : cells + 1 ≤ 601024 ∧ slots + 6 ≤ 7293034) (hi : i + 6 ≤ L) (q : Rel P A hc hm) (K : KK Γ ad1 ad2 b o i cells slots) : AL Γ 554 (lvL ad1 ad2 b o i) [] (WW o f ad1 ad2 (cyOf Γ) hc hm) cells slots := by
  obtain ⟨v, hc2, hm2, P2, A2, e1, e2, q2⟩ := S_now (F := 20000) (Nat.le_refl _) (xs (i + 1)) P A hc hm q
  refine z_aload_n hG.1 2 rfl dL_law_554 rfl ?_
  refine l_arg (i := i) (j := 1) hG (z0 := 1) (z4 := 0) rfl rfl (by omega) (by decide) dL_law_555 dL_law_556 dL_law_558 dL_law_559 dL_law_560 ?_
  refine l_callC hG hf (As := [.int (xs (i + 1))]) (st := []) ml_X11_now tl_798 (by decide) (c_LC_now 20000 (xs (i + 1)) hc (v, hc2) e1) rfl (Nat.le_of_ble_eq_true rfl) dL_law_561 ?_
  refine z_aload_n hG.1 3 rfl dL_law_564 rfl ?_
  refine l_arg (i := i) (j := 1) hG (z0 := 1) (z4 := 0) rfl rfl (by omega) (by decide) dL_law_565 dL_law_566 dL_law_568 dL_law_569 dL_law_570 ?_
  refine l_callM hG ⟨by omega, by omega⟩ (As := [.int (xs (i + 1))]) (st := [.int v]) ml_X12_now tl_1877 (by decide) (c_M_now 20000 (xs (i + 1)) hm (v, hm2) e2) rfl (Nat.le_of_ble_eq_true rfl) dL_law_571 ?_
  exact z_ic_eq hG.1 (tgt := 1513) dL_law_574 rfl (fun _ => K _ _ _ _ _ _ _ (Nat.le_succ _) (Nat.le_add_right _ _) q2) (fun z => absurd rfl z)
theorem lc_take {wad ad1 ad2 : Nat → Nat} {b L o i cells slots : Nat} {xs : Nat → Int32} {Γ : CtC} {f : Nat → Int64} {hc hm : HS} {P : Pl} {A : Ab} (hG : LG wad ad1 ad2 b L xs Γ) (hf : cells + 1 ≤ 601024 ∧ slots + 6 ≤ 7293034) (hi : i + 6 ≤ L) (q : Rel P A hc hm) (K : KK Γ ad1 ad2 b o i cells slots) : AL Γ 579 (lvL ad1 ad2 b o i) [] (WW o f ad1 ad2 (cyOf Γ) hc hm) cells slots := by
  obtain ⟨v, hc2, hm2, P2, A2, e1, e2, q2⟩ := S_take (F := 20000) (Nat.le_refl _) (xs (i + 1)) (xs (i + 2)) P A hc hm q
  refine z_aload_n hG.1 2 rfl dL_law_579 rfl ?_
  refine l_arg (i := i) (j := 1) hG (z0 := 1) (z4 := 0) rfl rfl (by omega) (by decide) dL_law_580 dL_law_581 dL_law_583 dL_law_584 dL_law_585 ?_
  refine l_arg (i := i) (j := 2) hG (z0 := 1) (z4 := 0) rfl rfl (by omega) (by decide) dL_law_586 dL_law_587 dL_law_589 dL_law_590 dL_law_591 ?_
  refine l_callC hG hf (As := [.int (xs (i + 1)), .int (xs (i + 2))]) (st := []) ml_X11_take tl_814 (by decide) (c_LC_take (xs (i + 1)) (xs (i + 2)) hc (v, hc2) e1) rfl (Nat.le_of_ble_eq_true rfl) dL_law_592 ?_
  refine z_aload_n hG.1 3 rfl dL_law_595 rfl ?_
  refine l_arg (i := i) (j := 1) hG (z0 := 1) (z4 := 0) rfl rfl (by omega) (by decide) dL_law_596 dL_law_597 dL_law_599 dL_law_600 dL_law_601 ?_
  refine l_arg (i := i) (j := 2) hG (z0 := 1) (z4 := 0) rfl rfl (by omega) (by decide) dL_law_602 dL_law_603 dL_law_605 dL_law_606 dL_law_607 ?_
  refine l_callM hG ⟨by omega, by omega⟩ (As := [.int (xs (i + 1)), .int (xs (i + 2))]) (st := [.int v]) ml_X12_take tl_1881 (by decide) (c_M_take 20000 (xs (i + 1)) (xs (i + 2)) hm (v, hm2) e2) rfl (Nat.le_of_ble_eq_true rfl) dL_law_608 ?_
  exact z_ic_eq hG.1 (tgt := 1513) dL_law_611 rfl (fun _ => K _ _ _ _ _ _ _ (Nat.le_succ _) (Nat.le_add_right _ _) q2) (fun z => absurd rfl z)
theorem lc_act {wad ad1 ad2 : Nat → Nat} {b L o i cells slots : Nat} {xs : Nat → Int32} {Γ : CtC} {f : Nat → Int64} {hc hm : HS} {P : Pl} {A : Ab} (hG : LG wad ad1 ad2 b L xs Γ) (hf : cells + 1 ≤ 601024 ∧ slots + 6 ≤ 7293034) (hi : i + 6 ≤ L) (q : Rel P A hc hm) (K : KK Γ ad1 ad2 b o i cells slots) : AL Γ 616 (lvL ad1 ad2 b o i) [] (WW o f ad1 ad2 (cyOf Γ) hc hm) cells slots := by
  obtain ⟨v, hc2, hm2, P2, A2, e1, e2, q2⟩ := S_act (F := 20000) (Nat.le_refl _) (xs (i + 1)) (xs (i + 2)) P A hc hm q
  refine z_aload_n hG.1 2 rfl dL_law_616 rfl ?_
  refine l_arg (i := i) (j := 1) hG (z0 := 1) (z4 := 0) rfl rfl (by omega) (by decide) dL_law_617 dL_law_618 dL_law_620 dL_law_621 dL_law_622 ?_
  refine l_arg (i := i) (j := 2) hG (z0 := 1) (z4 := 0) rfl rfl (by omega) (by decide) dL_law_623 dL_law_624 dL_law_626 dL_law_627 dL_law_628 ?_
  refine l_callC hG hf (As := [.int (xs (i + 1)), .int (xs (i + 2))]) (st := []) ml_X11_act tl_854 (by decide) (c_LC_act (xs (i + 1)) (xs (i + 2)) hc (v, hc2) e1) rfl (Nat.le_of_ble_eq_true rfl) dL_law_629 ?_
  refine z_aload_n hG.1 3 rfl dL_law_632 rfl ?_
  refine l_arg (i := i) (j := 1) hG (z0 := 1) (z4 := 0) rfl rfl (by omega) (by decide) dL_law_633 dL_law_634 dL_law_636 dL_law_637 dL_law_638 ?_
  refine l_arg (i := i) (j := 2) hG (z0 := 1) (z4 := 0) rfl rfl (by omega) (by decide) dL_law_639 dL_law_640 dL_law_642 dL_law_643 dL_law_644 ?_
  refine l_callM hG ⟨by omega, by omega⟩ (As := [.int (xs (i + 1)), .int (xs (i + 2))]) (st := [.int v]) ml_X12_act tl_1905 (by decide) (c_M_act 20000 (xs (i + 1)) (xs (i + 2)) hm (v, hm2) e2) rfl (Nat.le_of_ble_eq_true rfl) dL_law_645 ?_
  exact z_ic_eq hG.1 (tgt := 1513) dL_law_648 rfl (fun _ => K _ _ _ _ _ _ _ (Nat.le_succ _) (Nat.le_add_right _ _) q2) (fun z => absurd rfl z)
theorem lc_drop {wad ad1 ad2 : Nat → Nat} {b L o i cells slots : Nat} {xs : Nat → Int32} {Γ : CtC} {f : Nat → Int64} {hc hm : HS} {P : Pl} {A : Ab} (hG : LG wad ad1 ad2 b L xs Γ) (hf : cells + 1 ≤ 601024 ∧ slots + 6 ≤ 7293034) (hi : i + 6 ≤ L) (q : Rel P A hc hm) (K : KK Γ ad1 ad2 b o i cells slots) : AL Γ 653 (lvL ad1 ad2 b o i) [] (WW o f ad1 ad2 (cyOf Γ) hc hm) cells slots := by
  obtain ⟨v, hc2, hm2, P2, A2, e1, e2, q2⟩ := S_drop (F := 20000) (Nat.le_refl _) (xs (i + 1)) P A hc hm q
  refine z_aload_n hG.1 2 rfl dL_law_653 rfl ?_
  refine l_arg (i := i) (j := 1) hG (z0 := 1) (z4 := 0) rfl rfl (by omega) (by decide) dL_law_654 dL_law_655 dL_law_657 dL_law_658 dL_law_659 ?_
  refine l_callC hG hf (As := [.int (xs (i + 1))]) (st := []) ml_X11_drop tl_879 (by decide) (c_LC_drop (xs (i + 1)) hc (v, hc2) e1) rfl (Nat.le_of_ble_eq_true rfl) dL_law_660 ?_
  refine z_aload_n hG.1 3 rfl dL_law_663 rfl ?_
  refine l_arg (i := i) (j := 1) hG (z0 := 1) (z4 := 0) rfl rfl (by omega) (by decide) dL_law_664 dL_law_665 dL_law_667 dL_law_668 dL_law_669 ?_
  refine l_callM hG ⟨by omega, by omega⟩ (As := [.int (xs (i + 1))]) (st := [.int v]) ml_X12_drop tl_1917 (by decide) (c_M_drop 20000 (xs (i + 1)) hm (v, hm2) e2) rfl (Nat.le_of_ble_eq_true rfl) dL_law_670 ?_
  exact z_ic_eq hG.1 (tgt := 1513) dL_law_673 rfl (fun _ => K _ _ _ _ _ _ _ (Nat.le_succ _) (Nat.le_add_right _ _) q2) (fun z => absurd rfl z)
theorem lc_weeks {wad ad1 ad2 : Nat → Nat} {b L o i cells slots : Nat} {xs : Nat → Int32} {Γ : CtC} {f : Nat → Int64} {hc hm : HS} {P : Pl} {A : Ab} (hG : LG wad ad1 ad2 b L xs Γ) (hf : cells + 1 ≤ 601024 ∧ slots + 6 ≤ 7293034) (hi : i + 6 ≤ L) (q : Rel P A hc hm) (K : KK Γ ad1 ad2 b o i cells slots) : AL Γ 678 (lvL ad1 ad2 b o i) [] (WW o f ad1 ad2 (cyOf Γ) hc hm) cells slots := by
  obtain ⟨v, hc2, hm2, P2, A2, e1, e2, q2⟩ := S_weeks (F := 20000) (Nat.le_refl _) (xs (i + 1)) P A hc hm q
  refine z_aload_n hG.1 2 rfl dL_law_678 rfl ?_
  refine l_arg (i := i) (j := 1) hG (z0 := 1) (z4 := 0) rfl rfl (by omega) (by decide) dL_law_679 dL_law_680 dL_law_682 dL_law_683 dL_law_684 ?_
  refine l_callC hG hf (As := [.int (xs (i + 1))]) (st := []) ml_X11_weeks tl_903 (by decide) (c_LC_weeks 20000 (xs (i + 1)) hc (v, hc2) e1) rfl (Nat.le_of_ble_eq_true rfl) dL_law_685 ?_
  refine z_aload_n hG.1 3 rfl dL_law_688 rfl ?_
  refine l_arg (i := i) (j := 1) hG (z0 := 1) (z4 := 0) rfl rfl (by omega) (by decide) dL_law_689 dL_law_690 dL_law_692 dL_law_693 dL_law_694 ?_
  refine l_callM hG ⟨by omega, by omega⟩ (As := [.int (xs (i + 1))]) (st := [.int v]) ml_X12_weeks tl_1933 (by decide) (c_M_weeks 20000 (xs (i + 1)) hm (v, hm2) e2) rfl (Nat.le_of_ble_eq_true rfl) dL_law_695 ?_
  exact z_ic_eq hG.1 (tgt := 1513) dL_law_698 rfl (fun _ => K _ _ _ _ _ _ _ (Nat.le_succ _) (Nat.le_add_right _ _) q2) (fun z => absurd rfl z)
theorem lc_undo {wad ad1 ad2 : Nat → Nat} {b L o i cells slots : Nat} {xs : Nat → Int32} {Γ : CtC} {f : Nat → Int64} {hc hm : HS} {P : Pl} {A : Ab} (hG : LG wad ad1 ad2 b L xs Γ) (hf : cells + 1 ≤ 601024 ∧ slots + 6 ≤ 7293034) (hi : i + 6 ≤ L) (q : Rel P A hc hm) (K : KK Γ ad1 ad2 b o i cells slots) : AL Γ 703 (lvL ad1 ad2 b o i) [] (WW o f ad1 ad2 (cyOf Γ) hc hm) cells slots := by
  obtain ⟨v, hc2, hm2, P2, A2, e1, e2, q2⟩ := S_undo (F := 20000) (Nat.le_refl _)  P A hc hm q
  refine z_aload_n hG.1 2 rfl dL_law_703 rfl ?_
  refine l_callC hG hf (As := []) (st := []) ml_X11_undo tl_926 (by decide) (c_LC_undo hc (v, hc2) e1) rfl (Nat.le_of_ble_eq_true rfl) dL_law_704 ?_
  refine z_aload_n hG.1 3 rfl dL_law_707 rfl ?_
  refine l_callM hG ⟨by omega, by omega⟩ (As := []) (st := [.int v]) ml_X12_undo tl_1948 (by decide) (c_M_undo 20000 hm (v, hm2) e2) rfl (Nat.le_of_ble_eq_true rfl) dL_law_708 ?_
  exact z_ic_eq hG.1 (tgt := 1513) dL_law_711 rfl (fun _ => K _ _ _ _ _ _ _ (Nat.le_succ _) (Nat.le_add_right _ _) q2) (fun z => absurd rfl z)
