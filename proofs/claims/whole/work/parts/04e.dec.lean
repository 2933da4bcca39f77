theorem dL_law_0 : decode (mc mL_law) 0 = .ok (.new 7, 3) := by decide +kernel
theorem dL_law_3 : decode (mc mL_law) 3 = .ok (.dup, 1) := by decide +kernel
theorem dL_law_4 : decode (mc mL_law) 4 = .ok (.invokespecial 9, 3) := by decide +kernel
theorem dL_law_7 : decode (mc mL_law) 7 = .ok (.astore_n 1, 1) := by decide +kernel
theorem dL_law_8 : decode (mc mL_law) 8 = .ok (.new 10, 3) := by decide +kernel
theorem dL_law_11 : decode (mc mL_law) 11 = .ok (.dup, 1) := by decide +kernel
theorem dL_law_12 : decode (mc mL_law) 12 = .ok (.invokespecial 12, 3) := by decide +kernel
theorem dL_law_15 : decode (mc mL_law) 15 = .ok (.astore_n 2, 1) := by decide +kernel
theorem dL_law_16 : decode (mc mL_law) 16 = .ok (.iconst 0, 1) := by decide +kernel
theorem dL_law_17 : decode (mc mL_law) 17 = .ok (.istore_n 3, 1) := by decide +kernel
theorem dL_law_18 : decode (mc mL_law) 18 = .ok (.iload_n 3, 1) := by decide +kernel
theorem dL_law_19 : decode (mc mL_law) 19 = .ok (.aload_n 0, 1) := by decide +kernel
theorem dL_law_20 : decode (mc mL_law) 20 = .ok (.arraylength, 1) := by decide +kernel
theorem dL_law_21 : decode (mc mL_law) 21 = .ok (.iconst 5, 1) := by decide +kernel
theorem dL_law_22 : decode (mc mL_law) 22 = .ok (.isub, 1) := by decide +kernel
theorem dL_law_23 : decode (mc mL_law) 23 = .ok (.if_icmp .gt 1712, 3) := by decide +kernel
theorem dL_law_26 : decode (mc mL_law) 26 = .ok (.aload_n 0, 1) := by decide +kernel
theorem dL_law_27 : decode (mc mL_law) 27 = .ok (.iload_n 3, 1) := by decide +kernel
theorem dL_law_28 : decode (mc mL_law) 28 = .ok (.iaload, 1) := by decide +kernel
theorem dL_law_29 : decode (mc mL_law) 29 = .ok (.bipush 63, 2) := by decide +kernel
theorem dL_law_31 : decode (mc mL_law) 31 = .ok (.iand, 1) := by decide +kernel
theorem dL_law_32 : decode (mc mL_law) 32 = .ok (.tableswitch 1697 0 47 #[208, 231, 244, 267, 310, 343, 386, 439, 482, 515, 538, 571, 604, 637, 670, 703, 746, 759, 782, 805, 828, 851, 864, 898, 922, 955, 978, 1012, 1025, 1059, 1082, 1105, 1128, 1171, 1214, 1247, 1290, 1323, 1416, 1430, 1453, 1496, 1539, 1582, 1615, 1628, 1641, 1664], 208) := by decide +kernel
theorem dL_law_240 : decode (mc mL_law) 240 = .ok (.aload_n 1, 1) := by decide +kernel
theorem dL_law_241 : decode (mc mL_law) 241 = .ok (.aload_n 0, 1) := by decide +kernel
theorem dL_law_242 : decode (mc mL_law) 242 = .ok (.iload_n 3, 1) := by decide +kernel
theorem dL_law_243 : decode (mc mL_law) 243 = .ok (.iconst 1, 1) := by decide +kernel
theorem dL_law_244 : decode (mc mL_law) 244 = .ok (.iadd, 1) := by decide +kernel
theorem dL_law_245 : decode (mc mL_law) 245 = .ok (.iaload, 1) := by decide +kernel
theorem dL_law_246 : decode (mc mL_law) 246 = .ok (.invokevirtual 13, 3) := by decide +kernel
theorem dL_law_249 : decode (mc mL_law) 249 = .ok (.aload_n 2, 1) := by decide +kernel
theorem dL_law_250 : decode (mc mL_law) 250 = .ok (.aload_n 0, 1) := by decide +kernel
theorem dL_law_251 : decode (mc mL_law) 251 = .ok (.iload_n 3, 1) := by decide +kernel
theorem dL_law_252 : decode (mc mL_law) 252 = .ok (.iconst 1, 1) := by decide +kernel
theorem dL_law_253 : decode (mc mL_law) 253 = .ok (.iadd, 1) := by decide +kernel
theorem dL_law_254 : decode (mc mL_law) 254 = .ok (.iaload, 1) := by decide +kernel
theorem dL_law_255 : decode (mc mL_law) 255 = .ok (.invokevirtual 17, 3) := by decide +kernel
theorem dL_law_258 : decode (mc mL_law) 258 = .ok (.if_icmp .eq 1471, 3) := by decide +kernel
theorem dL_law_261 : decode (mc mL_law) 261 = .ok (.iconst 0, 1) := by decide +kernel
theorem dL_law_262 : decode (mc mL_law) 262 = .ok (.ireturn, 1) := by decide +kernel
theorem dL_law_263 : decode (mc mL_law) 263 = .ok (.aload_n 1, 1) := by decide +kernel
theorem dL_law_264 : decode (mc mL_law) 264 = .ok (.invokevirtual 18, 3) := by decide +kernel
theorem dL_law_267 : decode (mc mL_law) 267 = .ok (.aload_n 2, 1) := by decide +kernel
theorem dL_law_268 : decode (mc mL_law) 268 = .ok (.invokevirtual 22, 3) := by decide +kernel
theorem dL_law_271 : decode (mc mL_law) 271 = .ok (.if_icmp .eq 1458, 3) := by decide +kernel
theorem dL_law_274 : decode (mc mL_law) 274 = .ok (.iconst 0, 1) := by decide +kernel
theorem dL_law_275 : decode (mc mL_law) 275 = .ok (.ireturn, 1) := by decide +kernel
theorem dL_law_276 : decode (mc mL_law) 276 = .ok (.aload_n 1, 1) := by decide +kernel
theorem dL_law_277 : decode (mc mL_law) 277 = .ok (.aload_n 0, 1) := by decide +kernel
theorem dL_law_278 : decode (mc mL_law) 278 = .ok (.iload_n 3, 1) := by decide +kernel
theorem dL_law_279 : decode (mc mL_law) 279 = .ok (.iconst 1, 1) := by decide +kernel
theorem dL_law_280 : decode (mc mL_law) 280 = .ok (.iadd, 1) := by decide +kernel
theorem dL_law_281 : decode (mc mL_law) 281 = .ok (.iaload, 1) := by decide +kernel
theorem dL_law_282 : decode (mc mL_law) 282 = .ok (.invokevirtual 23, 3) := by decide +kernel
theorem dL_law_285 : decode (mc mL_law) 285 = .ok (.aload_n 2, 1) := by decide +kernel
theorem dL_law_286 : decode (mc mL_law) 286 = .ok (.aload_n 0, 1) := by decide +kernel
theorem dL_law_287 : decode (mc mL_law) 287 = .ok (.iload_n 3, 1) := by decide +kernel
theorem dL_law_288 : decode (mc mL_law) 288 = .ok (.iconst 1, 1) := by decide +kernel
theorem dL_law_289 : decode (mc mL_law) 289 = .ok (.iadd, 1) := by decide +kernel
theorem dL_law_290 : decode (mc mL_law) 290 = .ok (.iaload, 1) := by decide +kernel
theorem dL_law_291 : decode (mc mL_law) 291 = .ok (.invokevirtual 26, 3) := by decide +kernel
theorem dL_law_294 : decode (mc mL_law) 294 = .ok (.if_icmp .eq 1435, 3) := by decide +kernel
theorem dL_law_297 : decode (mc mL_law) 297 = .ok (.iconst 0, 1) := by decide +kernel
theorem dL_law_298 : decode (mc mL_law) 298 = .ok (.ireturn, 1) := by decide +kernel
theorem dL_law_299 : decode (mc mL_law) 299 = .ok (.aload_n 1, 1) := by decide +kernel
theorem dL_law_300 : decode (mc mL_law) 300 = .ok (.aload_n 0, 1) := by decide +kernel
theorem dL_law_301 : decode (mc mL_law) 301 = .ok (.iload_n 3, 1) := by decide +kernel
theorem dL_law_302 : decode (mc mL_law) 302 = .ok (.iconst 1, 1) := by decide +kernel
theorem dL_law_303 : decode (mc mL_law) 303 = .ok (.iadd, 1) := by decide +kernel
theorem dL_law_304 : decode (mc mL_law) 304 = .ok (.iaload, 1) := by decide +kernel
theorem dL_law_305 : decode (mc mL_law) 305 = .ok (.aload_n 0, 1) := by decide +kernel
theorem dL_law_306 : decode (mc mL_law) 306 = .ok (.iload_n 3, 1) := by decide +kernel
theorem dL_law_307 : decode (mc mL_law) 307 = .ok (.iconst 2, 1) := by decide +kernel
theorem dL_law_308 : decode (mc mL_law) 308 = .ok (.iadd, 1) := by decide +kernel
theorem dL_law_309 : decode (mc mL_law) 309 = .ok (.iaload, 1) := by decide +kernel
theorem dL_law_310 : decode (mc mL_law) 310 = .ok (.aload_n 0, 1) := by decide +kernel
theorem dL_law_311 : decode (mc mL_law) 311 = .ok (.iload_n 3, 1) := by decide +kernel
theorem dL_law_312 : decode (mc mL_law) 312 = .ok (.iconst 3, 1) := by decide +kernel
theorem dL_law_313 : decode (mc mL_law) 313 = .ok (.iadd, 1) := by decide +kernel
theorem dL_law_314 : decode (mc mL_law) 314 = .ok (.iaload, 1) := by decide +kernel
theorem dL_law_315 : decode (mc mL_law) 315 = .ok (.invokevirtual 27, 3) := by decide +kernel
theorem dL_law_318 : decode (mc mL_law) 318 = .ok (.aload_n 2, 1) := by decide +kernel
theorem dL_law_319 : decode (mc mL_law) 319 = .ok (.aload_n 0, 1) := by decide +kernel
theorem dL_law_320 : decode (mc mL_law) 320 = .ok (.iload_n 3, 1) := by decide +kernel
theorem dL_law_321 : decode (mc mL_law) 321 = .ok (.iconst 1, 1) := by decide +kernel
theorem dL_law_322 : decode (mc mL_law) 322 = .ok (.iadd, 1) := by decide +kernel
theorem dL_law_323 : decode (mc mL_law) 323 = .ok (.iaload, 1) := by decide +kernel
theorem dL_law_324 : decode (mc mL_law) 324 = .ok (.aload_n 0, 1) := by decide +kernel
theorem dL_law_325 : decode (mc mL_law) 325 = .ok (.iload_n 3, 1) := by decide +kernel
theorem dL_law_326 : decode (mc mL_law) 326 = .ok (.iconst 2, 1) := by decide +kernel
theorem dL_law_327 : decode (mc mL_law) 327 = .ok (.iadd, 1) := by decide +kernel
theorem dL_law_328 : decode (mc mL_law) 328 = .ok (.iaload, 1) := by decide +kernel
theorem dL_law_329 : decode (mc mL_law) 329 = .ok (.aload_n 0, 1) := by decide +kernel
theorem dL_law_330 : decode (mc mL_law) 330 = .ok (.iload_n 3, 1) := by decide +kernel
theorem dL_law_331 : decode (mc mL_law) 331 = .ok (.iconst 3, 1) := by decide +kernel
theorem dL_law_332 : decode (mc mL_law) 332 = .ok (.iadd, 1) := by decide +kernel
theorem dL_law_333 : decode (mc mL_law) 333 = .ok (.iaload, 1) := by decide +kernel
theorem dL_law_334 : decode (mc mL_law) 334 = .ok (.invokevirtual 31, 3) := by decide +kernel
theorem dL_law_337 : decode (mc mL_law) 337 = .ok (.if_icmp .eq 1392, 3) := by decide +kernel
theorem dL_law_340 : decode (mc mL_law) 340 = .ok (.iconst 0, 1) := by decide +kernel
theorem dL_law_341 : decode (mc mL_law) 341 = .ok (.ireturn, 1) := by decide +kernel
theorem dL_law_342 : decode (mc mL_law) 342 = .ok (.aload_n 1, 1) := by decide +kernel
theorem dL_law_343 : decode (mc mL_law) 343 = .ok (.aload_n 0, 1) := by decide +kernel
theorem dL_law_344 : decode (mc mL_law) 344 = .ok (.iload_n 3, 1) := by decide +kernel
theorem dL_law_345 : decode (mc mL_law) 345 = .ok (.iconst 1, 1) := by decide +kernel
theorem dL_law_346 : decode (mc mL_law) 346 = .ok (.iadd, 1) := by decide +kernel
theorem dL_law_347 : decode (mc mL_law) 347 = .ok (.iaload, 1) := by decide +kernel
theorem dL_law_348 : decode (mc mL_law) 348 = .ok (.aload_n 0, 1) := by decide +kernel
theorem dL_law_349 : decode (mc mL_law) 349 = .ok (.iload_n 3, 1) := by decide +kernel
theorem dL_law_350 : decode (mc mL_law) 350 = .ok (.iconst 2, 1) := by decide +kernel
theorem dL_law_351 : decode (mc mL_law) 351 = .ok (.iadd, 1) := by decide +kernel
theorem dL_law_352 : decode (mc mL_law) 352 = .ok (.iaload, 1) := by decide +kernel
theorem dL_law_353 : decode (mc mL_law) 353 = .ok (.invokevirtual 32, 3) := by decide +kernel
theorem dL_law_356 : decode (mc mL_law) 356 = .ok (.aload_n 2, 1) := by decide +kernel
theorem dL_law_357 : decode (mc mL_law) 357 = .ok (.aload_n 0, 1) := by decide +kernel
theorem dL_law_358 : decode (mc mL_law) 358 = .ok (.iload_n 3, 1) := by decide +kernel
theorem dL_law_359 : decode (mc mL_law) 359 = .ok (.iconst 1, 1) := by decide +kernel
theorem dL_law_360 : decode (mc mL_law) 360 = .ok (.iadd, 1) := by decide +kernel
theorem dL_law_361 : decode (mc mL_law) 361 = .ok (.iaload, 1) := by decide +kernel
theorem dL_law_362 : decode (mc mL_law) 362 = .ok (.aload_n 0, 1) := by decide +kernel
theorem dL_law_363 : decode (mc mL_law) 363 = .ok (.iload_n 3, 1) := by decide +kernel
theorem dL_law_364 : decode (mc mL_law) 364 = .ok (.iconst 2, 1) := by decide +kernel
theorem dL_law_365 : decode (mc mL_law) 365 = .ok (.iadd, 1) := by decide +kernel
theorem dL_law_366 : decode (mc mL_law) 366 = .ok (.iaload, 1) := by decide +kernel
theorem dL_law_367 : decode (mc mL_law) 367 = .ok (.invokevirtual 36, 3) := by decide +kernel
theorem dL_law_370 : decode (mc mL_law) 370 = .ok (.if_icmp .eq 1359, 3) := by decide +kernel
theorem dL_law_373 : decode (mc mL_law) 373 = .ok (.iconst 0, 1) := by decide +kernel
theorem dL_law_374 : decode (mc mL_law) 374 = .ok (.ireturn, 1) := by decide +kernel
theorem dL_law_375 : decode (mc mL_law) 375 = .ok (.aload_n 1, 1) := by decide +kernel
theorem dL_law_376 : decode (mc mL_law) 376 = .ok (.aload_n 0, 1) := by decide +kernel
theorem dL_law_377 : decode (mc mL_law) 377 = .ok (.iload_n 3, 1) := by decide +kernel
theorem dL_law_378 : decode (mc mL_law) 378 = .ok (.iconst 1, 1) := by decide +kernel
theorem dL_law_379 : decode (mc mL_law) 379 = .ok (.iadd, 1) := by decide +kernel
theorem dL_law_380 : decode (mc mL_law) 380 = .ok (.iaload, 1) := by decide +kernel
theorem dL_law_381 : decode (mc mL_law) 381 = .ok (.aload_n 0, 1) := by decide +kernel
theorem dL_law_382 : decode (mc mL_law) 382 = .ok (.iload_n 3, 1) := by decide +kernel
theorem dL_law_383 : decode (mc mL_law) 383 = .ok (.iconst 2, 1) := by decide +kernel
theorem dL_law_384 : decode (mc mL_law) 384 = .ok (.iadd, 1) := by decide +kernel
theorem dL_law_385 : decode (mc mL_law) 385 = .ok (.iaload, 1) := by decide +kernel
theorem dL_law_386 : decode (mc mL_law) 386 = .ok (.aload_n 0, 1) := by decide +kernel
theorem dL_law_387 : decode (mc mL_law) 387 = .ok (.iload_n 3, 1) := by decide +kernel
theorem dL_law_388 : decode (mc mL_law) 388 = .ok (.iconst 3, 1) := by decide +kernel
theorem dL_law_389 : decode (mc mL_law) 389 = .ok (.iadd, 1) := by decide +kernel
theorem dL_law_390 : decode (mc mL_law) 390 = .ok (.iaload, 1) := by decide +kernel
theorem dL_law_391 : decode (mc mL_law) 391 = .ok (.invokevirtual 37, 3) := by decide +kernel
theorem dL_law_394 : decode (mc mL_law) 394 = .ok (.aload_n 2, 1) := by decide +kernel
theorem dL_law_395 : decode (mc mL_law) 395 = .ok (.aload_n 0, 1) := by decide +kernel
theorem dL_law_396 : decode (mc mL_law) 396 = .ok (.iload_n 3, 1) := by decide +kernel
theorem dL_law_397 : decode (mc mL_law) 397 = .ok (.iconst 1, 1) := by decide +kernel
theorem dL_law_398 : decode (mc mL_law) 398 = .ok (.iadd, 1) := by decide +kernel
theorem dL_law_399 : decode (mc mL_law) 399 = .ok (.iaload, 1) := by decide +kernel
theorem dL_law_400 : decode (mc mL_law) 400 = .ok (.aload_n 0, 1) := by decide +kernel
theorem dL_law_401 : decode (mc mL_law) 401 = .ok (.iload_n 3, 1) := by decide +kernel
theorem dL_law_402 : decode (mc mL_law) 402 = .ok (.iconst 2, 1) := by decide +kernel
theorem dL_law_403 : decode (mc mL_law) 403 = .ok (.iadd, 1) := by decide +kernel
theorem dL_law_404 : decode (mc mL_law) 404 = .ok (.iaload, 1) := by decide +kernel
theorem dL_law_405 : decode (mc mL_law) 405 = .ok (.aload_n 0, 1) := by decide +kernel
theorem dL_law_406 : decode (mc mL_law) 406 = .ok (.iload_n 3, 1) := by decide +kernel
theorem dL_law_407 : decode (mc mL_law) 407 = .ok (.iconst 3, 1) := by decide +kernel
theorem dL_law_408 : decode (mc mL_law) 408 = .ok (.iadd, 1) := by decide +kernel
theorem dL_law_409 : decode (mc mL_law) 409 = .ok (.iaload, 1) := by decide +kernel
theorem dL_law_410 : decode (mc mL_law) 410 = .ok (.invokevirtual 40, 3) := by decide +kernel
theorem dL_law_413 : decode (mc mL_law) 413 = .ok (.if_icmp .eq 1316, 3) := by decide +kernel
theorem dL_law_416 : decode (mc mL_law) 416 = .ok (.iconst 0, 1) := by decide +kernel
theorem dL_law_417 : decode (mc mL_law) 417 = .ok (.ireturn, 1) := by decide +kernel
theorem dL_law_418 : decode (mc mL_law) 418 = .ok (.aload_n 1, 1) := by decide +kernel
theorem dL_law_419 : decode (mc mL_law) 419 = .ok (.aload_n 0, 1) := by decide +kernel
theorem dL_law_420 : decode (mc mL_law) 420 = .ok (.iload_n 3, 1) := by decide +kernel
theorem dL_law_421 : decode (mc mL_law) 421 = .ok (.iconst 1, 1) := by decide +kernel
theorem dL_law_422 : decode (mc mL_law) 422 = .ok (.iadd, 1) := by decide +kernel
theorem dL_law_423 : decode (mc mL_law) 423 = .ok (.iaload, 1) := by decide +kernel
theorem dL_law_424 : decode (mc mL_law) 424 = .ok (.aload_n 0, 1) := by decide +kernel
theorem dL_law_425 : decode (mc mL_law) 425 = .ok (.iload_n 3, 1) := by decide +kernel
theorem dL_law_426 : decode (mc mL_law) 426 = .ok (.iconst 2, 1) := by decide +kernel
theorem dL_law_427 : decode (mc mL_law) 427 = .ok (.iadd, 1) := by decide +kernel
theorem dL_law_428 : decode (mc mL_law) 428 = .ok (.iaload, 1) := by decide +kernel
theorem dL_law_429 : decode (mc mL_law) 429 = .ok (.aload_n 0, 1) := by decide +kernel
theorem dL_law_430 : decode (mc mL_law) 430 = .ok (.iload_n 3, 1) := by decide +kernel
theorem dL_law_431 : decode (mc mL_law) 431 = .ok (.iconst 3, 1) := by decide +kernel
theorem dL_law_432 : decode (mc mL_law) 432 = .ok (.iadd, 1) := by decide +kernel
theorem dL_law_433 : decode (mc mL_law) 433 = .ok (.iaload, 1) := by decide +kernel
theorem dL_law_434 : decode (mc mL_law) 434 = .ok (.aload_n 0, 1) := by decide +kernel
theorem dL_law_435 : decode (mc mL_law) 435 = .ok (.iload_n 3, 1) := by decide +kernel
theorem dL_law_436 : decode (mc mL_law) 436 = .ok (.iconst 4, 1) := by decide +kernel
theorem dL_law_437 : decode (mc mL_law) 437 = .ok (.iadd, 1) := by decide +kernel
theorem dL_law_438 : decode (mc mL_law) 438 = .ok (.iaload, 1) := by decide +kernel
theorem dL_law_439 : decode (mc mL_law) 439 = .ok (.invokevirtual 41, 3) := by decide +kernel
theorem dL_law_442 : decode (mc mL_law) 442 = .ok (.aload_n 2, 1) := by decide +kernel
theorem dL_law_443 : decode (mc mL_law) 443 = .ok (.aload_n 0, 1) := by decide +kernel
theorem dL_law_444 : decode (mc mL_law) 444 = .ok (.iload_n 3, 1) := by decide +kernel
theorem dL_law_445 : decode (mc mL_law) 445 = .ok (.iconst 1, 1) := by decide +kernel
theorem dL_law_446 : decode (mc mL_law) 446 = .ok (.iadd, 1) := by decide +kernel
theorem dL_law_447 : decode (mc mL_law) 447 = .ok (.iaload, 1) := by decide +kernel
theorem dL_law_448 : decode (mc mL_law) 448 = .ok (.aload_n 0, 1) := by decide +kernel
theorem dL_law_449 : decode (mc mL_law) 449 = .ok (.iload_n 3, 1) := by decide +kernel
theorem dL_law_450 : decode (mc mL_law) 450 = .ok (.iconst 2, 1) := by decide +kernel
theorem dL_law_451 : decode (mc mL_law) 451 = .ok (.iadd, 1) := by decide +kernel
theorem dL_law_452 : decode (mc mL_law) 452 = .ok (.iaload, 1) := by decide +kernel
theorem dL_law_453 : decode (mc mL_law) 453 = .ok (.aload_n 0, 1) := by decide +kernel
theorem dL_law_454 : decode (mc mL_law) 454 = .ok (.iload_n 3, 1) := by decide +kernel
theorem dL_law_455 : decode (mc mL_law) 455 = .ok (.iconst 3, 1) := by decide +kernel
theorem dL_law_456 : decode (mc mL_law) 456 = .ok (.iadd, 1) := by decide +kernel
theorem dL_law_457 : decode (mc mL_law) 457 = .ok (.iaload, 1) := by decide +kernel
theorem dL_law_458 : decode (mc mL_law) 458 = .ok (.aload_n 0, 1) := by decide +kernel
theorem dL_law_459 : decode (mc mL_law) 459 = .ok (.iload_n 3, 1) := by decide +kernel
theorem dL_law_460 : decode (mc mL_law) 460 = .ok (.iconst 4, 1) := by decide +kernel
theorem dL_law_461 : decode (mc mL_law) 461 = .ok (.iadd, 1) := by decide +kernel
theorem dL_law_462 : decode (mc mL_law) 462 = .ok (.iaload, 1) := by decide +kernel
theorem dL_law_463 : decode (mc mL_law) 463 = .ok (.invokevirtual 45, 3) := by decide +kernel
theorem dL_law_466 : decode (mc mL_law) 466 = .ok (.if_icmp .eq 1263, 3) := by decide +kernel
theorem dL_law_469 : decode (mc mL_law) 469 = .ok (.iconst 0, 1) := by decide +kernel
theorem dL_law_470 : decode (mc mL_law) 470 = .ok (.ireturn, 1) := by decide +kernel
theorem dL_law_471 : decode (mc mL_law) 471 = .ok (.aload_n 1, 1) := by decide +kernel
theorem dL_law_472 : decode (mc mL_law) 472 = .ok (.aload_n 0, 1) := by decide +kernel
theorem dL_law_473 : decode (mc mL_law) 473 = .ok (.iload_n 3, 1) := by decide +kernel
theorem dL_law_474 : decode (mc mL_law) 474 = .ok (.iconst 1, 1) := by decide +kernel
theorem dL_law_475 : decode (mc mL_law) 475 = .ok (.iadd, 1) := by decide +kernel
theorem dL_law_476 : decode (mc mL_law) 476 = .ok (.iaload, 1) := by decide +kernel
theorem dL_law_477 : decode (mc mL_law) 477 = .ok (.aload_n 0, 1) := by decide +kernel
theorem dL_law_478 : decode (mc mL_law) 478 = .ok (.iload_n 3, 1) := by decide +kernel
theorem dL_law_479 : decode (mc mL_law) 479 = .ok (.iconst 2, 1) := by decide +kernel
theorem dL_law_480 : decode (mc mL_law) 480 = .ok (.iadd, 1) := by decide +kernel
theorem dL_law_481 : decode (mc mL_law) 481 = .ok (.iaload, 1) := by decide +kernel
theorem dL_law_482 : decode (mc mL_law) 482 = .ok (.aload_n 0, 1) := by decide +kernel
theorem dL_law_483 : decode (mc mL_law) 483 = .ok (.iload_n 3, 1) := by decide +kernel
theorem dL_law_484 : decode (mc mL_law) 484 = .ok (.iconst 3, 1) := by decide +kernel
theorem dL_law_485 : decode (mc mL_law) 485 = .ok (.iadd, 1) := by decide +kernel
theorem dL_law_486 : decode (mc mL_law) 486 = .ok (.iaload, 1) := by decide +kernel
theorem dL_law_487 : decode (mc mL_law) 487 = .ok (.invokevirtual 46, 3) := by decide +kernel
theorem dL_law_490 : decode (mc mL_law) 490 = .ok (.aload_n 2, 1) := by decide +kernel
theorem dL_law_491 : decode (mc mL_law) 491 = .ok (.aload_n 0, 1) := by decide +kernel
theorem dL_law_492 : decode (mc mL_law) 492 = .ok (.iload_n 3, 1) := by decide +kernel
theorem dL_law_493 : decode (mc mL_law) 493 = .ok (.iconst 1, 1) := by decide +kernel
theorem dL_law_494 : decode (mc mL_law) 494 = .ok (.iadd, 1) := by decide +kernel
theorem dL_law_495 : decode (mc mL_law) 495 = .ok (.iaload, 1) := by decide +kernel
theorem dL_law_496 : decode (mc mL_law) 496 = .ok (.aload_n 0, 1) := by decide +kernel
theorem dL_law_497 : decode (mc mL_law) 497 = .ok (.iload_n 3, 1) := by decide +kernel
theorem dL_law_498 : decode (mc mL_law) 498 = .ok (.iconst 2, 1) := by decide +kernel
theorem dL_law_499 : decode (mc mL_law) 499 = .ok (.iadd, 1) := by decide +kernel
theorem dL_law_500 : decode (mc mL_law) 500 = .ok (.iaload, 1) := by decide +kernel
theorem dL_law_501 : decode (mc mL_law) 501 = .ok (.aload_n 0, 1) := by decide +kernel
theorem dL_law_502 : decode (mc mL_law) 502 = .ok (.iload_n 3, 1) := by decide +kernel
theorem dL_law_503 : decode (mc mL_law) 503 = .ok (.iconst 3, 1) := by decide +kernel
theorem dL_law_504 : decode (mc mL_law) 504 = .ok (.iadd, 1) := by decide +kernel
theorem dL_law_505 : decode (mc mL_law) 505 = .ok (.iaload, 1) := by decide +kernel
theorem dL_law_506 : decode (mc mL_law) 506 = .ok (.invokevirtual 49, 3) := by decide +kernel
theorem dL_law_509 : decode (mc mL_law) 509 = .ok (.if_icmp .eq 1220, 3) := by decide +kernel
theorem dL_law_512 : decode (mc mL_law) 512 = .ok (.iconst 0, 1) := by decide +kernel
theorem dL_law_513 : decode (mc mL_law) 513 = .ok (.ireturn, 1) := by decide +kernel
theorem dL_law_514 : decode (mc mL_law) 514 = .ok (.aload_n 1, 1) := by decide +kernel
theorem dL_law_515 : decode (mc mL_law) 515 = .ok (.aload_n 0, 1) := by decide +kernel
theorem dL_law_516 : decode (mc mL_law) 516 = .ok (.iload_n 3, 1) := by decide +kernel
theorem dL_law_517 : decode (mc mL_law) 517 = .ok (.iconst 1, 1) := by decide +kernel
theorem dL_law_518 : decode (mc mL_law) 518 = .ok (.iadd, 1) := by decide +kernel
theorem dL_law_519 : decode (mc mL_law) 519 = .ok (.iaload, 1) := by decide +kernel
theorem dL_law_520 : decode (mc mL_law) 520 = .ok (.aload_n 0, 1) := by decide +kernel
theorem dL_law_521 : decode (mc mL_law) 521 = .ok (.iload_n 3, 1) := by decide +kernel
theorem dL_law_522 : decode (mc mL_law) 522 = .ok (.iconst 2, 1) := by decide +kernel
theorem dL_law_523 : decode (mc mL_law) 523 = .ok (.iadd, 1) := by decide +kernel
theorem dL_law_524 : decode (mc mL_law) 524 = .ok (.iaload, 1) := by decide +kernel
theorem dL_law_525 : decode (mc mL_law) 525 = .ok (.invokevirtual 50, 3) := by decide +kernel
theorem dL_law_528 : decode (mc mL_law) 528 = .ok (.aload_n 2, 1) := by decide +kernel
theorem dL_law_529 : decode (mc mL_law) 529 = .ok (.aload_n 0, 1) := by decide +kernel
theorem dL_law_530 : decode (mc mL_law) 530 = .ok (.iload_n 3, 1) := by decide +kernel
theorem dL_law_531 : decode (mc mL_law) 531 = .ok (.iconst 1, 1) := by decide +kernel
theorem dL_law_532 : decode (mc mL_law) 532 = .ok (.iadd, 1) := by decide +kernel
theorem dL_law_533 : decode (mc mL_law) 533 = .ok (.iaload, 1) := by decide +kernel
theorem dL_law_534 : decode (mc mL_law) 534 = .ok (.aload_n 0, 1) := by decide +kernel
theorem dL_law_535 : decode (mc mL_law) 535 = .ok (.iload_n 3, 1) := by decide +kernel
theorem dL_law_536 : decode (mc mL_law) 536 = .ok (.iconst 2, 1) := by decide +kernel
theorem dL_law_537 : decode (mc mL_law) 537 = .ok (.iadd, 1) := by decide +kernel
theorem dL_law_538 : decode (mc mL_law) 538 = .ok (.iaload, 1) := by decide +kernel
theorem dL_law_539 : decode (mc mL_law) 539 = .ok (.invokevirtual 53, 3) := by decide +kernel
theorem dL_law_542 : decode (mc mL_law) 542 = .ok (.if_icmp .eq 1187, 3) := by decide +kernel
theorem dL_law_545 : decode (mc mL_law) 545 = .ok (.iconst 0, 1) := by decide +kernel
theorem dL_law_546 : decode (mc mL_law) 546 = .ok (.ireturn, 1) := by decide +kernel
theorem dL_law_547 : decode (mc mL_law) 547 = .ok (.aload_n 1, 1) := by decide +kernel
theorem dL_law_548 : decode (mc mL_law) 548 = .ok (.aload_n 0, 1) := by decide +kernel
theorem dL_law_549 : decode (mc mL_law) 549 = .ok (.iload_n 3, 1) := by decide +kernel
theorem dL_law_550 : decode (mc mL_law) 550 = .ok (.iconst 1, 1) := by decide +kernel
theorem dL_law_551 : decode (mc mL_law) 551 = .ok (.iadd, 1) := by decide +kernel
theorem dL_law_552 : decode (mc mL_law) 552 = .ok (.iaload, 1) := by decide +kernel
theorem dL_law_553 : decode (mc mL_law) 553 = .ok (.invokevirtual 54, 3) := by decide +kernel
theorem dL_law_556 : decode (mc mL_law) 556 = .ok (.aload_n 2, 1) := by decide +kernel
theorem dL_law_557 : decode (mc mL_law) 557 = .ok (.aload_n 0, 1) := by decide +kernel
theorem dL_law_558 : decode (mc mL_law) 558 = .ok (.iload_n 3, 1) := by decide +kernel
theorem dL_law_559 : decode (mc mL_law) 559 = .ok (.iconst 1, 1) := by decide +kernel
theorem dL_law_560 : decode (mc mL_law) 560 = .ok (.iadd, 1) := by decide +kernel
theorem dL_law_561 : decode (mc mL_law) 561 = .ok (.iaload, 1) := by decide +kernel
theorem dL_law_562 : decode (mc mL_law) 562 = .ok (.invokevirtual 57, 3) := by decide +kernel
theorem dL_law_565 : decode (mc mL_law) 565 = .ok (.if_icmp .eq 1164, 3) := by decide +kernel
theorem dL_law_568 : decode (mc mL_law) 568 = .ok (.iconst 0, 1) := by decide +kernel
theorem dL_law_569 : decode (mc mL_law) 569 = .ok (.ireturn, 1) := by decide +kernel
theorem dL_law_570 : decode (mc mL_law) 570 = .ok (.aload_n 1, 1) := by decide +kernel
theorem dL_law_571 : decode (mc mL_law) 571 = .ok (.aload_n 0, 1) := by decide +kernel
theorem dL_law_572 : decode (mc mL_law) 572 = .ok (.iload_n 3, 1) := by decide +kernel
theorem dL_law_573 : decode (mc mL_law) 573 = .ok (.iconst 1, 1) := by decide +kernel
theorem dL_law_574 : decode (mc mL_law) 574 = .ok (.iadd, 1) := by decide +kernel
theorem dL_law_575 : decode (mc mL_law) 575 = .ok (.iaload, 1) := by decide +kernel
theorem dL_law_576 : decode (mc mL_law) 576 = .ok (.aload_n 0, 1) := by decide +kernel
theorem dL_law_577 : decode (mc mL_law) 577 = .ok (.iload_n 3, 1) := by decide +kernel
theorem dL_law_578 : decode (mc mL_law) 578 = .ok (.iconst 2, 1) := by decide +kernel
theorem dL_law_579 : decode (mc mL_law) 579 = .ok (.iadd, 1) := by decide +kernel
theorem dL_law_580 : decode (mc mL_law) 580 = .ok (.iaload, 1) := by decide +kernel
theorem dL_law_581 : decode (mc mL_law) 581 = .ok (.invokevirtual 58, 3) := by decide +kernel
theorem dL_law_584 : decode (mc mL_law) 584 = .ok (.aload_n 2, 1) := by decide +kernel
theorem dL_law_585 : decode (mc mL_law) 585 = .ok (.aload_n 0, 1) := by decide +kernel
theorem dL_law_586 : decode (mc mL_law) 586 = .ok (.iload_n 3, 1) := by decide +kernel
theorem dL_law_587 : decode (mc mL_law) 587 = .ok (.iconst 1, 1) := by decide +kernel
theorem dL_law_588 : decode (mc mL_law) 588 = .ok (.iadd, 1) := by decide +kernel
theorem dL_law_589 : decode (mc mL_law) 589 = .ok (.iaload, 1) := by decide +kernel
theorem dL_law_590 : decode (mc mL_law) 590 = .ok (.aload_n 0, 1) := by decide +kernel
theorem dL_law_591 : decode (mc mL_law) 591 = .ok (.iload_n 3, 1) := by decide +kernel
theorem dL_law_592 : decode (mc mL_law) 592 = .ok (.iconst 2, 1) := by decide +kernel
theorem dL_law_593 : decode (mc mL_law) 593 = .ok (.iadd, 1) := by decide +kernel
theorem dL_law_594 : decode (mc mL_law) 594 = .ok (.iaload, 1) := by decide +kernel
theorem dL_law_595 : decode (mc mL_law) 595 = .ok (.invokevirtual 61, 3) := by decide +kernel
theorem dL_law_598 : decode (mc mL_law) 598 = .ok (.if_icmp .eq 1131, 3) := by decide +kernel
theorem dL_law_601 : decode (mc mL_law) 601 = .ok (.iconst 0, 1) := by decide +kernel
theorem dL_law_602 : decode (mc mL_law) 602 = .ok (.ireturn, 1) := by decide +kernel
theorem dL_law_603 : decode (mc mL_law) 603 = .ok (.aload_n 1, 1) := by decide +kernel
theorem dL_law_604 : decode (mc mL_law) 604 = .ok (.aload_n 0, 1) := by decide +kernel
theorem dL_law_605 : decode (mc mL_law) 605 = .ok (.iload_n 3, 1) := by decide +kernel
theorem dL_law_606 : decode (mc mL_law) 606 = .ok (.iconst 1, 1) := by decide +kernel
theorem dL_law_607 : decode (mc mL_law) 607 = .ok (.iadd, 1) := by decide +kernel
theorem dL_law_608 : decode (mc mL_law) 608 = .ok (.iaload, 1) := by decide +kernel
theorem dL_law_609 : decode (mc mL_law) 609 = .ok (.aload_n 0, 1) := by decide +kernel
theorem dL_law_610 : decode (mc mL_law) 610 = .ok (.iload_n 3, 1) := by decide +kernel
theorem dL_law_611 : decode (mc mL_law) 611 = .ok (.iconst 2, 1) := by decide +kernel
theorem dL_law_612 : decode (mc mL_law) 612 = .ok (.iadd, 1) := by decide +kernel
theorem dL_law_613 : decode (mc mL_law) 613 = .ok (.iaload, 1) := by decide +kernel
theorem dL_law_614 : decode (mc mL_law) 614 = .ok (.invokevirtual 62, 3) := by decide +kernel
theorem dL_law_617 : decode (mc mL_law) 617 = .ok (.aload_n 2, 1) := by decide +kernel
theorem dL_law_618 : decode (mc mL_law) 618 = .ok (.aload_n 0, 1) := by decide +kernel
theorem dL_law_619 : decode (mc mL_law) 619 = .ok (.iload_n 3, 1) := by decide +kernel
theorem dL_law_620 : decode (mc mL_law) 620 = .ok (.iconst 1, 1) := by decide +kernel
theorem dL_law_621 : decode (mc mL_law) 621 = .ok (.iadd, 1) := by decide +kernel
theorem dL_law_622 : decode (mc mL_law) 622 = .ok (.iaload, 1) := by decide +kernel
theorem dL_law_623 : decode (mc mL_law) 623 = .ok (.aload_n 0, 1) := by decide +kernel
theorem dL_law_624 : decode (mc mL_law) 624 = .ok (.iload_n 3, 1) := by decide +kernel
theorem dL_law_625 : decode (mc mL_law) 625 = .ok (.iconst 2, 1) := by decide +kernel
theorem dL_law_626 : decode (mc mL_law) 626 = .ok (.iadd, 1) := by decide +kernel
theorem dL_law_627 : decode (mc mL_law) 627 = .ok (.iaload, 1) := by decide +kernel
theorem dL_law_628 : decode (mc mL_law) 628 = .ok (.invokevirtual 65, 3) := by decide +kernel
theorem dL_law_631 : decode (mc mL_law) 631 = .ok (.if_icmp .eq 1098, 3) := by decide +kernel
theorem dL_law_634 : decode (mc mL_law) 634 = .ok (.iconst 0, 1) := by decide +kernel
theorem dL_law_635 : decode (mc mL_law) 635 = .ok (.ireturn, 1) := by decide +kernel
theorem dL_law_636 : decode (mc mL_law) 636 = .ok (.aload_n 1, 1) := by decide +kernel
theorem dL_law_637 : decode (mc mL_law) 637 = .ok (.aload_n 0, 1) := by decide +kernel
theorem dL_law_638 : decode (mc mL_law) 638 = .ok (.iload_n 3, 1) := by decide +kernel
theorem dL_law_639 : decode (mc mL_law) 639 = .ok (.iconst 1, 1) := by decide +kernel
theorem dL_law_640 : decode (mc mL_law) 640 = .ok (.iadd, 1) := by decide +kernel
theorem dL_law_641 : decode (mc mL_law) 641 = .ok (.iaload, 1) := by decide +kernel
theorem dL_law_642 : decode (mc mL_law) 642 = .ok (.aload_n 0, 1) := by decide +kernel
theorem dL_law_643 : decode (mc mL_law) 643 = .ok (.iload_n 3, 1) := by decide +kernel
theorem dL_law_644 : decode (mc mL_law) 644 = .ok (.iconst 2, 1) := by decide +kernel
theorem dL_law_645 : decode (mc mL_law) 645 = .ok (.iadd, 1) := by decide +kernel
theorem dL_law_646 : decode (mc mL_law) 646 = .ok (.iaload, 1) := by decide +kernel
theorem dL_law_647 : decode (mc mL_law) 647 = .ok (.invokevirtual 66, 3) := by decide +kernel
theorem dL_law_650 : decode (mc mL_law) 650 = .ok (.aload_n 2, 1) := by decide +kernel
theorem dL_law_651 : decode (mc mL_law) 651 = .ok (.aload_n 0, 1) := by decide +kernel
theorem dL_law_652 : decode (mc mL_law) 652 = .ok (.iload_n 3, 1) := by decide +kernel
theorem dL_law_653 : decode (mc mL_law) 653 = .ok (.iconst 1, 1) := by decide +kernel
theorem dL_law_654 : decode (mc mL_law) 654 = .ok (.iadd, 1) := by decide +kernel
theorem dL_law_655 : decode (mc mL_law) 655 = .ok (.iaload, 1) := by decide +kernel
theorem dL_law_656 : decode (mc mL_law) 656 = .ok (.aload_n 0, 1) := by decide +kernel
theorem dL_law_657 : decode (mc mL_law) 657 = .ok (.iload_n 3, 1) := by decide +kernel
theorem dL_law_658 : decode (mc mL_law) 658 = .ok (.iconst 2, 1) := by decide +kernel
theorem dL_law_659 : decode (mc mL_law) 659 = .ok (.iadd, 1) := by decide +kernel
theorem dL_law_660 : decode (mc mL_law) 660 = .ok (.iaload, 1) := by decide +kernel
theorem dL_law_661 : decode (mc mL_law) 661 = .ok (.invokevirtual 69, 3) := by decide +kernel
theorem dL_law_664 : decode (mc mL_law) 664 = .ok (.if_icmp .eq 1065, 3) := by decide +kernel
theorem dL_law_667 : decode (mc mL_law) 667 = .ok (.iconst 0, 1) := by decide +kernel
theorem dL_law_668 : decode (mc mL_law) 668 = .ok (.ireturn, 1) := by decide +kernel
theorem dL_law_669 : decode (mc mL_law) 669 = .ok (.aload_n 1, 1) := by decide +kernel
theorem dL_law_670 : decode (mc mL_law) 670 = .ok (.aload_n 0, 1) := by decide +kernel
theorem dL_law_671 : decode (mc mL_law) 671 = .ok (.iload_n 3, 1) := by decide +kernel
theorem dL_law_672 : decode (mc mL_law) 672 = .ok (.iconst 1, 1) := by decide +kernel
theorem dL_law_673 : decode (mc mL_law) 673 = .ok (.iadd, 1) := by decide +kernel
theorem dL_law_674 : decode (mc mL_law) 674 = .ok (.iaload, 1) := by decide +kernel
theorem dL_law_675 : decode (mc mL_law) 675 = .ok (.aload_n 0, 1) := by decide +kernel
theorem dL_law_676 : decode (mc mL_law) 676 = .ok (.iload_n 3, 1) := by decide +kernel
theorem dL_law_677 : decode (mc mL_law) 677 = .ok (.iconst 2, 1) := by decide +kernel
theorem dL_law_678 : decode (mc mL_law) 678 = .ok (.iadd, 1) := by decide +kernel
theorem dL_law_679 : decode (mc mL_law) 679 = .ok (.iaload, 1) := by decide +kernel
theorem dL_law_680 : decode (mc mL_law) 680 = .ok (.invokevirtual 70, 3) := by decide +kernel
theorem dL_law_683 : decode (mc mL_law) 683 = .ok (.aload_n 2, 1) := by decide +kernel
theorem dL_law_684 : decode (mc mL_law) 684 = .ok (.aload_n 0, 1) := by decide +kernel
theorem dL_law_685 : decode (mc mL_law) 685 = .ok (.iload_n 3, 1) := by decide +kernel
theorem dL_law_686 : decode (mc mL_law) 686 = .ok (.iconst 1, 1) := by decide +kernel
theorem dL_law_687 : decode (mc mL_law) 687 = .ok (.iadd, 1) := by decide +kernel
theorem dL_law_688 : decode (mc mL_law) 688 = .ok (.iaload, 1) := by decide +kernel
theorem dL_law_689 : decode (mc mL_law) 689 = .ok (.aload_n 0, 1) := by decide +kernel
theorem dL_law_690 : decode (mc mL_law) 690 = .ok (.iload_n 3, 1) := by decide +kernel
theorem dL_law_691 : decode (mc mL_law) 691 = .ok (.iconst 2, 1) := by decide +kernel
theorem dL_law_692 : decode (mc mL_law) 692 = .ok (.iadd, 1) := by decide +kernel
theorem dL_law_693 : decode (mc mL_law) 693 = .ok (.iaload, 1) := by decide +kernel
theorem dL_law_694 : decode (mc mL_law) 694 = .ok (.invokevirtual 73, 3) := by decide +kernel
theorem dL_law_697 : decode (mc mL_law) 697 = .ok (.if_icmp .eq 1032, 3) := by decide +kernel
theorem dL_law_700 : decode (mc mL_law) 700 = .ok (.iconst 0, 1) := by decide +kernel
theorem dL_law_701 : decode (mc mL_law) 701 = .ok (.ireturn, 1) := by decide +kernel
theorem dL_law_702 : decode (mc mL_law) 702 = .ok (.aload_n 1, 1) := by decide +kernel
theorem dL_law_703 : decode (mc mL_law) 703 = .ok (.aload_n 0, 1) := by decide +kernel
theorem dL_law_704 : decode (mc mL_law) 704 = .ok (.iload_n 3, 1) := by decide +kernel
theorem dL_law_705 : decode (mc mL_law) 705 = .ok (.iconst 1, 1) := by decide +kernel
theorem dL_law_706 : decode (mc mL_law) 706 = .ok (.iadd, 1) := by decide +kernel
theorem dL_law_707 : decode (mc mL_law) 707 = .ok (.iaload, 1) := by decide +kernel
theorem dL_law_708 : decode (mc mL_law) 708 = .ok (.aload_n 0, 1) := by decide +kernel
theorem dL_law_709 : decode (mc mL_law) 709 = .ok (.iload_n 3, 1) := by decide +kernel
theorem dL_law_710 : decode (mc mL_law) 710 = .ok (.iconst 2, 1) := by decide +kernel
theorem dL_law_711 : decode (mc mL_law) 711 = .ok (.iadd, 1) := by decide +kernel
theorem dL_law_712 : decode (mc mL_law) 712 = .ok (.iaload, 1) := by decide +kernel
theorem dL_law_713 : decode (mc mL_law) 713 = .ok (.invokevirtual 74, 3) := by decide +kernel
theorem dL_law_716 : decode (mc mL_law) 716 = .ok (.aload_n 2, 1) := by decide +kernel
theorem dL_law_717 : decode (mc mL_law) 717 = .ok (.aload_n 0, 1) := by decide +kernel
theorem dL_law_718 : decode (mc mL_law) 718 = .ok (.iload_n 3, 1) := by decide +kernel
theorem dL_law_719 : decode (mc mL_law) 719 = .ok (.iconst 1, 1) := by decide +kernel
theorem dL_law_720 : decode (mc mL_law) 720 = .ok (.iadd, 1) := by decide +kernel
theorem dL_law_721 : decode (mc mL_law) 721 = .ok (.iaload, 1) := by decide +kernel
theorem dL_law_722 : decode (mc mL_law) 722 = .ok (.aload_n 0, 1) := by decide +kernel
theorem dL_law_723 : decode (mc mL_law) 723 = .ok (.iload_n 3, 1) := by decide +kernel
theorem dL_law_724 : decode (mc mL_law) 724 = .ok (.iconst 2, 1) := by decide +kernel
theorem dL_law_725 : decode (mc mL_law) 725 = .ok (.iadd, 1) := by decide +kernel
theorem dL_law_726 : decode (mc mL_law) 726 = .ok (.iaload, 1) := by decide +kernel
theorem dL_law_727 : decode (mc mL_law) 727 = .ok (.invokevirtual 77, 3) := by decide +kernel
theorem dL_law_730 : decode (mc mL_law) 730 = .ok (.if_icmp .eq 999, 3) := by decide +kernel
theorem dL_law_733 : decode (mc mL_law) 733 = .ok (.iconst 0, 1) := by decide +kernel
theorem dL_law_734 : decode (mc mL_law) 734 = .ok (.ireturn, 1) := by decide +kernel
theorem dL_law_735 : decode (mc mL_law) 735 = .ok (.aload_n 1, 1) := by decide +kernel
theorem dL_law_736 : decode (mc mL_law) 736 = .ok (.aload_n 0, 1) := by decide +kernel
theorem dL_law_737 : decode (mc mL_law) 737 = .ok (.iload_n 3, 1) := by decide +kernel
theorem dL_law_738 : decode (mc mL_law) 738 = .ok (.iconst 1, 1) := by decide +kernel
theorem dL_law_739 : decode (mc mL_law) 739 = .ok (.iadd, 1) := by decide +kernel
theorem dL_law_740 : decode (mc mL_law) 740 = .ok (.iaload, 1) := by decide +kernel
theorem dL_law_741 : decode (mc mL_law) 741 = .ok (.aload_n 0, 1) := by decide +kernel
theorem dL_law_742 : decode (mc mL_law) 742 = .ok (.iload_n 3, 1) := by decide +kernel
theorem dL_law_743 : decode (mc mL_law) 743 = .ok (.iconst 2, 1) := by decide +kernel
theorem dL_law_744 : decode (mc mL_law) 744 = .ok (.iadd, 1) := by decide +kernel
theorem dL_law_745 : decode (mc mL_law) 745 = .ok (.iaload, 1) := by decide +kernel
theorem dL_law_746 : decode (mc mL_law) 746 = .ok (.aload_n 0, 1) := by decide +kernel
theorem dL_law_747 : decode (mc mL_law) 747 = .ok (.iload_n 3, 1) := by decide +kernel
theorem dL_law_748 : decode (mc mL_law) 748 = .ok (.iconst 3, 1) := by decide +kernel
theorem dL_law_749 : decode (mc mL_law) 749 = .ok (.iadd, 1) := by decide +kernel
theorem dL_law_750 : decode (mc mL_law) 750 = .ok (.iaload, 1) := by decide +kernel
theorem dL_law_751 : decode (mc mL_law) 751 = .ok (.invokevirtual 78, 3) := by decide +kernel
theorem dL_law_754 : decode (mc mL_law) 754 = .ok (.aload_n 2, 1) := by decide +kernel
theorem dL_law_755 : decode (mc mL_law) 755 = .ok (.aload_n 0, 1) := by decide +kernel
theorem dL_law_756 : decode (mc mL_law) 756 = .ok (.iload_n 3, 1) := by decide +kernel
theorem dL_law_757 : decode (mc mL_law) 757 = .ok (.iconst 1, 1) := by decide +kernel
theorem dL_law_758 : decode (mc mL_law) 758 = .ok (.iadd, 1) := by decide +kernel
theorem dL_law_759 : decode (mc mL_law) 759 = .ok (.iaload, 1) := by decide +kernel
theorem dL_law_760 : decode (mc mL_law) 760 = .ok (.aload_n 0, 1) := by decide +kernel
theorem dL_law_761 : decode (mc mL_law) 761 = .ok (.iload_n 3, 1) := by decide +kernel
theorem dL_law_762 : decode (mc mL_law) 762 = .ok (.iconst 2, 1) := by decide +kernel
theorem dL_law_763 : decode (mc mL_law) 763 = .ok (.iadd, 1) := by decide +kernel
theorem dL_law_764 : decode (mc mL_law) 764 = .ok (.iaload, 1) := by decide +kernel
theorem dL_law_765 : decode (mc mL_law) 765 = .ok (.aload_n 0, 1) := by decide +kernel
theorem dL_law_766 : decode (mc mL_law) 766 = .ok (.iload_n 3, 1) := by decide +kernel
theorem dL_law_767 : decode (mc mL_law) 767 = .ok (.iconst 3, 1) := by decide +kernel
theorem dL_law_768 : decode (mc mL_law) 768 = .ok (.iadd, 1) := by decide +kernel
theorem dL_law_769 : decode (mc mL_law) 769 = .ok (.iaload, 1) := by decide +kernel
theorem dL_law_770 : decode (mc mL_law) 770 = .ok (.invokevirtual 81, 3) := by decide +kernel
theorem dL_law_773 : decode (mc mL_law) 773 = .ok (.if_icmp .eq 956, 3) := by decide +kernel
theorem dL_law_776 : decode (mc mL_law) 776 = .ok (.iconst 0, 1) := by decide +kernel
theorem dL_law_777 : decode (mc mL_law) 777 = .ok (.ireturn, 1) := by decide +kernel
theorem dL_law_778 : decode (mc mL_law) 778 = .ok (.aload_n 1, 1) := by decide +kernel
theorem dL_law_779 : decode (mc mL_law) 779 = .ok (.invokevirtual 82, 3) := by decide +kernel
theorem dL_law_782 : decode (mc mL_law) 782 = .ok (.aload_n 2, 1) := by decide +kernel
theorem dL_law_783 : decode (mc mL_law) 783 = .ok (.invokevirtual 85, 3) := by decide +kernel
theorem dL_law_786 : decode (mc mL_law) 786 = .ok (.if_icmp .eq 943, 3) := by decide +kernel
theorem dL_law_789 : decode (mc mL_law) 789 = .ok (.iconst 0, 1) := by decide +kernel
theorem dL_law_790 : decode (mc mL_law) 790 = .ok (.ireturn, 1) := by decide +kernel
theorem dL_law_791 : decode (mc mL_law) 791 = .ok (.aload_n 1, 1) := by decide +kernel
theorem dL_law_792 : decode (mc mL_law) 792 = .ok (.aload_n 0, 1) := by decide +kernel
theorem dL_law_793 : decode (mc mL_law) 793 = .ok (.iload_n 3, 1) := by decide +kernel
theorem dL_law_794 : decode (mc mL_law) 794 = .ok (.iconst 1, 1) := by decide +kernel
theorem dL_law_795 : decode (mc mL_law) 795 = .ok (.iadd, 1) := by decide +kernel
theorem dL_law_796 : decode (mc mL_law) 796 = .ok (.iaload, 1) := by decide +kernel
theorem dL_law_797 : decode (mc mL_law) 797 = .ok (.invokevirtual 86, 3) := by decide +kernel
theorem dL_law_800 : decode (mc mL_law) 800 = .ok (.aload_n 2, 1) := by decide +kernel
theorem dL_law_801 : decode (mc mL_law) 801 = .ok (.aload_n 0, 1) := by decide +kernel
theorem dL_law_802 : decode (mc mL_law) 802 = .ok (.iload_n 3, 1) := by decide +kernel
theorem dL_law_803 : decode (mc mL_law) 803 = .ok (.iconst 1, 1) := by decide +kernel
theorem dL_law_804 : decode (mc mL_law) 804 = .ok (.iadd, 1) := by decide +kernel
theorem dL_law_805 : decode (mc mL_law) 805 = .ok (.iaload, 1) := by decide +kernel
theorem dL_law_806 : decode (mc mL_law) 806 = .ok (.invokevirtual 89, 3) := by decide +kernel
theorem dL_law_809 : decode (mc mL_law) 809 = .ok (.if_icmp .eq 920, 3) := by decide +kernel
theorem dL_law_812 : decode (mc mL_law) 812 = .ok (.iconst 0, 1) := by decide +kernel
theorem dL_law_813 : decode (mc mL_law) 813 = .ok (.ireturn, 1) := by decide +kernel
theorem dL_law_814 : decode (mc mL_law) 814 = .ok (.aload_n 1, 1) := by decide +kernel
theorem dL_law_815 : decode (mc mL_law) 815 = .ok (.aload_n 0, 1) := by decide +kernel
theorem dL_law_816 : decode (mc mL_law) 816 = .ok (.iload_n 3, 1) := by decide +kernel
theorem dL_law_817 : decode (mc mL_law) 817 = .ok (.iconst 1, 1) := by decide +kernel
theorem dL_law_818 : decode (mc mL_law) 818 = .ok (.iadd, 1) := by decide +kernel
theorem dL_law_819 : decode (mc mL_law) 819 = .ok (.iaload, 1) := by decide +kernel
theorem dL_law_820 : decode (mc mL_law) 820 = .ok (.invokevirtual 90, 3) := by decide +kernel
theorem dL_law_823 : decode (mc mL_law) 823 = .ok (.aload_n 2, 1) := by decide +kernel
theorem dL_law_824 : decode (mc mL_law) 824 = .ok (.aload_n 0, 1) := by decide +kernel
theorem dL_law_825 : decode (mc mL_law) 825 = .ok (.iload_n 3, 1) := by decide +kernel
theorem dL_law_826 : decode (mc mL_law) 826 = .ok (.iconst 1, 1) := by decide +kernel
theorem dL_law_827 : decode (mc mL_law) 827 = .ok (.iadd, 1) := by decide +kernel
theorem dL_law_828 : decode (mc mL_law) 828 = .ok (.iaload, 1) := by decide +kernel
theorem dL_law_829 : decode (mc mL_law) 829 = .ok (.invokevirtual 93, 3) := by decide +kernel
theorem dL_law_832 : decode (mc mL_law) 832 = .ok (.if_icmp .eq 897, 3) := by decide +kernel
theorem dL_law_835 : decode (mc mL_law) 835 = .ok (.iconst 0, 1) := by decide +kernel
theorem dL_law_836 : decode (mc mL_law) 836 = .ok (.ireturn, 1) := by decide +kernel
theorem dL_law_837 : decode (mc mL_law) 837 = .ok (.aload_n 1, 1) := by decide +kernel
theorem dL_law_838 : decode (mc mL_law) 838 = .ok (.aload_n 0, 1) := by decide +kernel
theorem dL_law_839 : decode (mc mL_law) 839 = .ok (.iload_n 3, 1) := by decide +kernel
theorem dL_law_840 : decode (mc mL_law) 840 = .ok (.iconst 1, 1) := by decide +kernel
theorem dL_law_841 : decode (mc mL_law) 841 = .ok (.iadd, 1) := by decide +kernel
theorem dL_law_842 : decode (mc mL_law) 842 = .ok (.iaload, 1) := by decide +kernel
theorem dL_law_843 : decode (mc mL_law) 843 = .ok (.invokevirtual 94, 3) := by decide +kernel
theorem dL_law_846 : decode (mc mL_law) 846 = .ok (.aload_n 2, 1) := by decide +kernel
theorem dL_law_847 : decode (mc mL_law) 847 = .ok (.aload_n 0, 1) := by decide +kernel
theorem dL_law_848 : decode (mc mL_law) 848 = .ok (.iload_n 3, 1) := by decide +kernel
theorem dL_law_849 : decode (mc mL_law) 849 = .ok (.iconst 1, 1) := by decide +kernel
theorem dL_law_850 : decode (mc mL_law) 850 = .ok (.iadd, 1) := by decide +kernel
theorem dL_law_851 : decode (mc mL_law) 851 = .ok (.iaload, 1) := by decide +kernel
theorem dL_law_852 : decode (mc mL_law) 852 = .ok (.invokevirtual 97, 3) := by decide +kernel
theorem dL_law_855 : decode (mc mL_law) 855 = .ok (.if_icmp .eq 874, 3) := by decide +kernel
theorem dL_law_858 : decode (mc mL_law) 858 = .ok (.iconst 0, 1) := by decide +kernel
theorem dL_law_859 : decode (mc mL_law) 859 = .ok (.ireturn, 1) := by decide +kernel
theorem dL_law_860 : decode (mc mL_law) 860 = .ok (.aload_n 1, 1) := by decide +kernel
theorem dL_law_861 : decode (mc mL_law) 861 = .ok (.aload_n 0, 1) := by decide +kernel
theorem dL_law_862 : decode (mc mL_law) 862 = .ok (.iload_n 3, 1) := by decide +kernel
theorem dL_law_863 : decode (mc mL_law) 863 = .ok (.iconst 1, 1) := by decide +kernel
theorem dL_law_864 : decode (mc mL_law) 864 = .ok (.iadd, 1) := by decide +kernel
theorem dL_law_865 : decode (mc mL_law) 865 = .ok (.iaload, 1) := by decide +kernel
theorem dL_law_866 : decode (mc mL_law) 866 = .ok (.invokevirtual 98, 3) := by decide +kernel
theorem dL_law_869 : decode (mc mL_law) 869 = .ok (.aload_n 2, 1) := by decide +kernel
theorem dL_law_870 : decode (mc mL_law) 870 = .ok (.aload_n 0, 1) := by decide +kernel
theorem dL_law_871 : decode (mc mL_law) 871 = .ok (.iload_n 3, 1) := by decide +kernel
theorem dL_law_872 : decode (mc mL_law) 872 = .ok (.iconst 1, 1) := by decide +kernel
theorem dL_law_873 : decode (mc mL_law) 873 = .ok (.iadd, 1) := by decide +kernel
theorem dL_law_874 : decode (mc mL_law) 874 = .ok (.iaload, 1) := by decide +kernel
theorem dL_law_875 : decode (mc mL_law) 875 = .ok (.invokevirtual 101, 3) := by decide +kernel
theorem dL_law_878 : decode (mc mL_law) 878 = .ok (.if_icmp .eq 851, 3) := by decide +kernel
theorem dL_law_881 : decode (mc mL_law) 881 = .ok (.iconst 0, 1) := by decide +kernel
theorem dL_law_882 : decode (mc mL_law) 882 = .ok (.ireturn, 1) := by decide +kernel
theorem dL_law_883 : decode (mc mL_law) 883 = .ok (.aload_n 1, 1) := by decide +kernel
theorem dL_law_884 : decode (mc mL_law) 884 = .ok (.invokevirtual 102, 3) := by decide +kernel
theorem dL_law_887 : decode (mc mL_law) 887 = .ok (.aload_n 2, 1) := by decide +kernel
theorem dL_law_888 : decode (mc mL_law) 888 = .ok (.invokevirtual 105, 3) := by decide +kernel
theorem dL_law_891 : decode (mc mL_law) 891 = .ok (.if_icmp .eq 838, 3) := by decide +kernel
theorem dL_law_894 : decode (mc mL_law) 894 = .ok (.iconst 0, 1) := by decide +kernel
theorem dL_law_895 : decode (mc mL_law) 895 = .ok (.ireturn, 1) := by decide +kernel
theorem dL_law_896 : decode (mc mL_law) 896 = .ok (.aload_n 1, 1) := by decide +kernel
theorem dL_law_897 : decode (mc mL_law) 897 = .ok (.aload_n 0, 1) := by decide +kernel
theorem dL_law_898 : decode (mc mL_law) 898 = .ok (.iload_n 3, 1) := by decide +kernel
theorem dL_law_899 : decode (mc mL_law) 899 = .ok (.iconst 1, 1) := by decide +kernel
theorem dL_law_900 : decode (mc mL_law) 900 = .ok (.iadd, 1) := by decide +kernel
theorem dL_law_901 : decode (mc mL_law) 901 = .ok (.iaload, 1) := by decide +kernel
theorem dL_law_902 : decode (mc mL_law) 902 = .ok (.aload_n 0, 1) := by decide +kernel
theorem dL_law_903 : decode (mc mL_law) 903 = .ok (.iload_n 3, 1) := by decide +kernel
theorem dL_law_904 : decode (mc mL_law) 904 = .ok (.iconst 2, 1) := by decide +kernel
theorem dL_law_905 : decode (mc mL_law) 905 = .ok (.iadd, 1) := by decide +kernel
theorem dL_law_906 : decode (mc mL_law) 906 = .ok (.iaload, 1) := by decide +kernel
theorem dL_law_907 : decode (mc mL_law) 907 = .ok (.invokevirtual 106, 3) := by decide +kernel
theorem dL_law_910 : decode (mc mL_law) 910 = .ok (.aload_n 2, 1) := by decide +kernel
theorem dL_law_911 : decode (mc mL_law) 911 = .ok (.aload_n 0, 1) := by decide +kernel
theorem dL_law_912 : decode (mc mL_law) 912 = .ok (.iload_n 3, 1) := by decide +kernel
theorem dL_law_913 : decode (mc mL_law) 913 = .ok (.iconst 1, 1) := by decide +kernel
theorem dL_law_914 : decode (mc mL_law) 914 = .ok (.iadd, 1) := by decide +kernel
theorem dL_law_915 : decode (mc mL_law) 915 = .ok (.iaload, 1) := by decide +kernel
theorem dL_law_916 : decode (mc mL_law) 916 = .ok (.aload_n 0, 1) := by decide +kernel
theorem dL_law_917 : decode (mc mL_law) 917 = .ok (.iload_n 3, 1) := by decide +kernel
theorem dL_law_918 : decode (mc mL_law) 918 = .ok (.iconst 2, 1) := by decide +kernel
theorem dL_law_919 : decode (mc mL_law) 919 = .ok (.iadd, 1) := by decide +kernel
theorem dL_law_920 : decode (mc mL_law) 920 = .ok (.iaload, 1) := by decide +kernel
theorem dL_law_921 : decode (mc mL_law) 921 = .ok (.invokevirtual 110, 3) := by decide +kernel
theorem dL_law_924 : decode (mc mL_law) 924 = .ok (.lcmp, 1) := by decide +kernel
theorem dL_law_925 : decode (mc mL_law) 925 = .ok (.ifCond .eq 804, 3) := by decide +kernel
theorem dL_law_928 : decode (mc mL_law) 928 = .ok (.iconst 0, 1) := by decide +kernel
theorem dL_law_929 : decode (mc mL_law) 929 = .ok (.ireturn, 1) := by decide +kernel
theorem dL_law_930 : decode (mc mL_law) 930 = .ok (.aload_n 1, 1) := by decide +kernel
theorem dL_law_931 : decode (mc mL_law) 931 = .ok (.aload_n 0, 1) := by decide +kernel
theorem dL_law_932 : decode (mc mL_law) 932 = .ok (.iload_n 3, 1) := by decide +kernel
theorem dL_law_933 : decode (mc mL_law) 933 = .ok (.iconst 1, 1) := by decide +kernel
theorem dL_law_934 : decode (mc mL_law) 934 = .ok (.iadd, 1) := by decide +kernel
theorem dL_law_935 : decode (mc mL_law) 935 = .ok (.iaload, 1) := by decide +kernel
theorem dL_law_936 : decode (mc mL_law) 936 = .ok (.invokevirtual 111, 3) := by decide +kernel
theorem dL_law_939 : decode (mc mL_law) 939 = .ok (.aload_n 2, 1) := by decide +kernel
theorem dL_law_940 : decode (mc mL_law) 940 = .ok (.aload_n 0, 1) := by decide +kernel
theorem dL_law_941 : decode (mc mL_law) 941 = .ok (.iload_n 3, 1) := by decide +kernel
theorem dL_law_942 : decode (mc mL_law) 942 = .ok (.iconst 1, 1) := by decide +kernel
theorem dL_law_943 : decode (mc mL_law) 943 = .ok (.iadd, 1) := by decide +kernel
theorem dL_law_944 : decode (mc mL_law) 944 = .ok (.iaload, 1) := by decide +kernel
theorem dL_law_945 : decode (mc mL_law) 945 = .ok (.invokevirtual 115, 3) := by decide +kernel
theorem dL_law_948 : decode (mc mL_law) 948 = .ok (.lcmp, 1) := by decide +kernel
theorem dL_law_949 : decode (mc mL_law) 949 = .ok (.ifCond .eq 780, 3) := by decide +kernel
theorem dL_law_952 : decode (mc mL_law) 952 = .ok (.iconst 0, 1) := by decide +kernel
theorem dL_law_953 : decode (mc mL_law) 953 = .ok (.ireturn, 1) := by decide +kernel
theorem dL_law_954 : decode (mc mL_law) 954 = .ok (.aload_n 1, 1) := by decide +kernel
theorem dL_law_955 : decode (mc mL_law) 955 = .ok (.aload_n 0, 1) := by decide +kernel
theorem dL_law_956 : decode (mc mL_law) 956 = .ok (.iload_n 3, 1) := by decide +kernel
theorem dL_law_957 : decode (mc mL_law) 957 = .ok (.iconst 1, 1) := by decide +kernel
theorem dL_law_958 : decode (mc mL_law) 958 = .ok (.iadd, 1) := by decide +kernel
theorem dL_law_959 : decode (mc mL_law) 959 = .ok (.iaload, 1) := by decide +kernel
theorem dL_law_960 : decode (mc mL_law) 960 = .ok (.aload_n 0, 1) := by decide +kernel
theorem dL_law_961 : decode (mc mL_law) 961 = .ok (.iload_n 3, 1) := by decide +kernel
theorem dL_law_962 : decode (mc mL_law) 962 = .ok (.iconst 2, 1) := by decide +kernel
theorem dL_law_963 : decode (mc mL_law) 963 = .ok (.iadd, 1) := by decide +kernel
theorem dL_law_964 : decode (mc mL_law) 964 = .ok (.iaload, 1) := by decide +kernel
theorem dL_law_965 : decode (mc mL_law) 965 = .ok (.invokevirtual 116, 3) := by decide +kernel
theorem dL_law_968 : decode (mc mL_law) 968 = .ok (.aload_n 2, 1) := by decide +kernel
theorem dL_law_969 : decode (mc mL_law) 969 = .ok (.aload_n 0, 1) := by decide +kernel
theorem dL_law_970 : decode (mc mL_law) 970 = .ok (.iload_n 3, 1) := by decide +kernel
theorem dL_law_971 : decode (mc mL_law) 971 = .ok (.iconst 1, 1) := by decide +kernel
theorem dL_law_972 : decode (mc mL_law) 972 = .ok (.iadd, 1) := by decide +kernel
theorem dL_law_973 : decode (mc mL_law) 973 = .ok (.iaload, 1) := by decide +kernel
theorem dL_law_974 : decode (mc mL_law) 974 = .ok (.aload_n 0, 1) := by decide +kernel
theorem dL_law_975 : decode (mc mL_law) 975 = .ok (.iload_n 3, 1) := by decide +kernel
theorem dL_law_976 : decode (mc mL_law) 976 = .ok (.iconst 2, 1) := by decide +kernel
theorem dL_law_977 : decode (mc mL_law) 977 = .ok (.iadd, 1) := by decide +kernel
theorem dL_law_978 : decode (mc mL_law) 978 = .ok (.iaload, 1) := by decide +kernel
theorem dL_law_979 : decode (mc mL_law) 979 = .ok (.invokevirtual 119, 3) := by decide +kernel
theorem dL_law_982 : decode (mc mL_law) 982 = .ok (.if_icmp .eq 747, 3) := by decide +kernel
theorem dL_law_985 : decode (mc mL_law) 985 = .ok (.iconst 0, 1) := by decide +kernel
theorem dL_law_986 : decode (mc mL_law) 986 = .ok (.ireturn, 1) := by decide +kernel
theorem dL_law_987 : decode (mc mL_law) 987 = .ok (.aload_n 1, 1) := by decide +kernel
theorem dL_law_988 : decode (mc mL_law) 988 = .ok (.aload_n 0, 1) := by decide +kernel
theorem dL_law_989 : decode (mc mL_law) 989 = .ok (.iload_n 3, 1) := by decide +kernel
theorem dL_law_990 : decode (mc mL_law) 990 = .ok (.iconst 1, 1) := by decide +kernel
theorem dL_law_991 : decode (mc mL_law) 991 = .ok (.iadd, 1) := by decide +kernel
theorem dL_law_992 : decode (mc mL_law) 992 = .ok (.iaload, 1) := by decide +kernel
theorem dL_law_993 : decode (mc mL_law) 993 = .ok (.invokevirtual 120, 3) := by decide +kernel
theorem dL_law_996 : decode (mc mL_law) 996 = .ok (.aload_n 2, 1) := by decide +kernel
theorem dL_law_997 : decode (mc mL_law) 997 = .ok (.aload_n 0, 1) := by decide +kernel
theorem dL_law_998 : decode (mc mL_law) 998 = .ok (.iload_n 3, 1) := by decide +kernel
theorem dL_law_999 : decode (mc mL_law) 999 = .ok (.iconst 1, 1) := by decide +kernel
theorem dL_law_1000 : decode (mc mL_law) 1000 = .ok (.iadd, 1) := by decide +kernel
theorem dL_law_1001 : decode (mc mL_law) 1001 = .ok (.iaload, 1) := by decide +kernel
theorem dL_law_1002 : decode (mc mL_law) 1002 = .ok (.invokevirtual 123, 3) := by decide +kernel
theorem dL_law_1005 : decode (mc mL_law) 1005 = .ok (.if_icmp .eq 724, 3) := by decide +kernel
theorem dL_law_1008 : decode (mc mL_law) 1008 = .ok (.iconst 0, 1) := by decide +kernel
theorem dL_law_1009 : decode (mc mL_law) 1009 = .ok (.ireturn, 1) := by decide +kernel
theorem dL_law_1010 : decode (mc mL_law) 1010 = .ok (.aload_n 1, 1) := by decide +kernel
theorem dL_law_1011 : decode (mc mL_law) 1011 = .ok (.aload_n 0, 1) := by decide +kernel
theorem dL_law_1012 : decode (mc mL_law) 1012 = .ok (.iload_n 3, 1) := by decide +kernel
theorem dL_law_1013 : decode (mc mL_law) 1013 = .ok (.iconst 1, 1) := by decide +kernel
theorem dL_law_1014 : decode (mc mL_law) 1014 = .ok (.iadd, 1) := by decide +kernel
theorem dL_law_1015 : decode (mc mL_law) 1015 = .ok (.iaload, 1) := by decide +kernel
theorem dL_law_1016 : decode (mc mL_law) 1016 = .ok (.aload_n 0, 1) := by decide +kernel
theorem dL_law_1017 : decode (mc mL_law) 1017 = .ok (.iload_n 3, 1) := by decide +kernel
theorem dL_law_1018 : decode (mc mL_law) 1018 = .ok (.iconst 2, 1) := by decide +kernel
theorem dL_law_1019 : decode (mc mL_law) 1019 = .ok (.iadd, 1) := by decide +kernel
theorem dL_law_1020 : decode (mc mL_law) 1020 = .ok (.iaload, 1) := by decide +kernel
theorem dL_law_1021 : decode (mc mL_law) 1021 = .ok (.invokevirtual 124, 3) := by decide +kernel
theorem dL_law_1024 : decode (mc mL_law) 1024 = .ok (.aload_n 2, 1) := by decide +kernel
theorem dL_law_1025 : decode (mc mL_law) 1025 = .ok (.aload_n 0, 1) := by decide +kernel
theorem dL_law_1026 : decode (mc mL_law) 1026 = .ok (.iload_n 3, 1) := by decide +kernel
theorem dL_law_1027 : decode (mc mL_law) 1027 = .ok (.iconst 1, 1) := by decide +kernel
theorem dL_law_1028 : decode (mc mL_law) 1028 = .ok (.iadd, 1) := by decide +kernel
theorem dL_law_1029 : decode (mc mL_law) 1029 = .ok (.iaload, 1) := by decide +kernel
theorem dL_law_1030 : decode (mc mL_law) 1030 = .ok (.aload_n 0, 1) := by decide +kernel
theorem dL_law_1031 : decode (mc mL_law) 1031 = .ok (.iload_n 3, 1) := by decide +kernel
theorem dL_law_1032 : decode (mc mL_law) 1032 = .ok (.iconst 2, 1) := by decide +kernel
theorem dL_law_1033 : decode (mc mL_law) 1033 = .ok (.iadd, 1) := by decide +kernel
theorem dL_law_1034 : decode (mc mL_law) 1034 = .ok (.iaload, 1) := by decide +kernel
theorem dL_law_1035 : decode (mc mL_law) 1035 = .ok (.invokevirtual 127, 3) := by decide +kernel
theorem dL_law_1038 : decode (mc mL_law) 1038 = .ok (.lcmp, 1) := by decide +kernel
theorem dL_law_1039 : decode (mc mL_law) 1039 = .ok (.ifCond .eq 690, 3) := by decide +kernel
theorem dL_law_1042 : decode (mc mL_law) 1042 = .ok (.iconst 0, 1) := by decide +kernel
theorem dL_law_1043 : decode (mc mL_law) 1043 = .ok (.ireturn, 1) := by decide +kernel
theorem dL_law_1044 : decode (mc mL_law) 1044 = .ok (.aload_n 1, 1) := by decide +kernel
theorem dL_law_1045 : decode (mc mL_law) 1045 = .ok (.invokevirtual 128, 3) := by decide +kernel
theorem dL_law_1048 : decode (mc mL_law) 1048 = .ok (.aload_n 2, 1) := by decide +kernel
theorem dL_law_1049 : decode (mc mL_law) 1049 = .ok (.invokevirtual 131, 3) := by decide +kernel
theorem dL_law_1052 : decode (mc mL_law) 1052 = .ok (.if_icmp .eq 677, 3) := by decide +kernel
theorem dL_law_1055 : decode (mc mL_law) 1055 = .ok (.iconst 0, 1) := by decide +kernel
theorem dL_law_1056 : decode (mc mL_law) 1056 = .ok (.ireturn, 1) := by decide +kernel
theorem dL_law_1057 : decode (mc mL_law) 1057 = .ok (.aload_n 1, 1) := by decide +kernel
theorem dL_law_1058 : decode (mc mL_law) 1058 = .ok (.aload_n 0, 1) := by decide +kernel
theorem dL_law_1059 : decode (mc mL_law) 1059 = .ok (.iload_n 3, 1) := by decide +kernel
theorem dL_law_1060 : decode (mc mL_law) 1060 = .ok (.iconst 1, 1) := by decide +kernel
theorem dL_law_1061 : decode (mc mL_law) 1061 = .ok (.iadd, 1) := by decide +kernel
theorem dL_law_1062 : decode (mc mL_law) 1062 = .ok (.iaload, 1) := by decide +kernel
theorem dL_law_1063 : decode (mc mL_law) 1063 = .ok (.aload_n 0, 1) := by decide +kernel
theorem dL_law_1064 : decode (mc mL_law) 1064 = .ok (.iload_n 3, 1) := by decide +kernel
theorem dL_law_1065 : decode (mc mL_law) 1065 = .ok (.iconst 2, 1) := by decide +kernel
theorem dL_law_1066 : decode (mc mL_law) 1066 = .ok (.iadd, 1) := by decide +kernel
theorem dL_law_1067 : decode (mc mL_law) 1067 = .ok (.iaload, 1) := by decide +kernel
theorem dL_law_1068 : decode (mc mL_law) 1068 = .ok (.invokevirtual 132, 3) := by decide +kernel
theorem dL_law_1071 : decode (mc mL_law) 1071 = .ok (.aload_n 2, 1) := by decide +kernel
theorem dL_law_1072 : decode (mc mL_law) 1072 = .ok (.aload_n 0, 1) := by decide +kernel
theorem dL_law_1073 : decode (mc mL_law) 1073 = .ok (.iload_n 3, 1) := by decide +kernel
theorem dL_law_1074 : decode (mc mL_law) 1074 = .ok (.iconst 1, 1) := by decide +kernel
theorem dL_law_1075 : decode (mc mL_law) 1075 = .ok (.iadd, 1) := by decide +kernel
theorem dL_law_1076 : decode (mc mL_law) 1076 = .ok (.iaload, 1) := by decide +kernel
theorem dL_law_1077 : decode (mc mL_law) 1077 = .ok (.aload_n 0, 1) := by decide +kernel
theorem dL_law_1078 : decode (mc mL_law) 1078 = .ok (.iload_n 3, 1) := by decide +kernel
theorem dL_law_1079 : decode (mc mL_law) 1079 = .ok (.iconst 2, 1) := by decide +kernel
theorem dL_law_1080 : decode (mc mL_law) 1080 = .ok (.iadd, 1) := by decide +kernel
theorem dL_law_1081 : decode (mc mL_law) 1081 = .ok (.iaload, 1) := by decide +kernel
theorem dL_law_1082 : decode (mc mL_law) 1082 = .ok (.invokevirtual 135, 3) := by decide +kernel
theorem dL_law_1085 : decode (mc mL_law) 1085 = .ok (.lcmp, 1) := by decide +kernel
theorem dL_law_1086 : decode (mc mL_law) 1086 = .ok (.ifCond .eq 643, 3) := by decide +kernel
theorem dL_law_1089 : decode (mc mL_law) 1089 = .ok (.iconst 0, 1) := by decide +kernel
theorem dL_law_1090 : decode (mc mL_law) 1090 = .ok (.ireturn, 1) := by decide +kernel
theorem dL_law_1091 : decode (mc mL_law) 1091 = .ok (.aload_n 1, 1) := by decide +kernel
theorem dL_law_1092 : decode (mc mL_law) 1092 = .ok (.aload_n 0, 1) := by decide +kernel
theorem dL_law_1093 : decode (mc mL_law) 1093 = .ok (.iload_n 3, 1) := by decide +kernel
theorem dL_law_1094 : decode (mc mL_law) 1094 = .ok (.iconst 1, 1) := by decide +kernel
theorem dL_law_1095 : decode (mc mL_law) 1095 = .ok (.iadd, 1) := by decide +kernel
theorem dL_law_1096 : decode (mc mL_law) 1096 = .ok (.iaload, 1) := by decide +kernel
theorem dL_law_1097 : decode (mc mL_law) 1097 = .ok (.invokevirtual 136, 3) := by decide +kernel
theorem dL_law_1100 : decode (mc mL_law) 1100 = .ok (.aload_n 2, 1) := by decide +kernel
theorem dL_law_1101 : decode (mc mL_law) 1101 = .ok (.aload_n 0, 1) := by decide +kernel
theorem dL_law_1102 : decode (mc mL_law) 1102 = .ok (.iload_n 3, 1) := by decide +kernel
theorem dL_law_1103 : decode (mc mL_law) 1103 = .ok (.iconst 1, 1) := by decide +kernel
theorem dL_law_1104 : decode (mc mL_law) 1104 = .ok (.iadd, 1) := by decide +kernel
theorem dL_law_1105 : decode (mc mL_law) 1105 = .ok (.iaload, 1) := by decide +kernel
theorem dL_law_1106 : decode (mc mL_law) 1106 = .ok (.invokevirtual 139, 3) := by decide +kernel
theorem dL_law_1109 : decode (mc mL_law) 1109 = .ok (.if_icmp .eq 620, 3) := by decide +kernel
theorem dL_law_1112 : decode (mc mL_law) 1112 = .ok (.iconst 0, 1) := by decide +kernel
theorem dL_law_1113 : decode (mc mL_law) 1113 = .ok (.ireturn, 1) := by decide +kernel
theorem dL_law_1114 : decode (mc mL_law) 1114 = .ok (.aload_n 1, 1) := by decide +kernel
theorem dL_law_1115 : decode (mc mL_law) 1115 = .ok (.aload_n 0, 1) := by decide +kernel
theorem dL_law_1116 : decode (mc mL_law) 1116 = .ok (.iload_n 3, 1) := by decide +kernel
theorem dL_law_1117 : decode (mc mL_law) 1117 = .ok (.iconst 1, 1) := by decide +kernel
theorem dL_law_1118 : decode (mc mL_law) 1118 = .ok (.iadd, 1) := by decide +kernel
theorem dL_law_1119 : decode (mc mL_law) 1119 = .ok (.iaload, 1) := by decide +kernel
theorem dL_law_1120 : decode (mc mL_law) 1120 = .ok (.invokevirtual 140, 3) := by decide +kernel
theorem dL_law_1123 : decode (mc mL_law) 1123 = .ok (.aload_n 2, 1) := by decide +kernel
theorem dL_law_1124 : decode (mc mL_law) 1124 = .ok (.aload_n 0, 1) := by decide +kernel
theorem dL_law_1125 : decode (mc mL_law) 1125 = .ok (.iload_n 3, 1) := by decide +kernel
theorem dL_law_1126 : decode (mc mL_law) 1126 = .ok (.iconst 1, 1) := by decide +kernel
theorem dL_law_1127 : decode (mc mL_law) 1127 = .ok (.iadd, 1) := by decide +kernel
theorem dL_law_1128 : decode (mc mL_law) 1128 = .ok (.iaload, 1) := by decide +kernel
theorem dL_law_1129 : decode (mc mL_law) 1129 = .ok (.invokevirtual 143, 3) := by decide +kernel
theorem dL_law_1132 : decode (mc mL_law) 1132 = .ok (.if_icmp .eq 597, 3) := by decide +kernel
theorem dL_law_1135 : decode (mc mL_law) 1135 = .ok (.iconst 0, 1) := by decide +kernel
theorem dL_law_1136 : decode (mc mL_law) 1136 = .ok (.ireturn, 1) := by decide +kernel
theorem dL_law_1137 : decode (mc mL_law) 1137 = .ok (.aload_n 1, 1) := by decide +kernel
theorem dL_law_1138 : decode (mc mL_law) 1138 = .ok (.aload_n 0, 1) := by decide +kernel
theorem dL_law_1139 : decode (mc mL_law) 1139 = .ok (.iload_n 3, 1) := by decide +kernel
theorem dL_law_1140 : decode (mc mL_law) 1140 = .ok (.iconst 1, 1) := by decide +kernel
theorem dL_law_1141 : decode (mc mL_law) 1141 = .ok (.iadd, 1) := by decide +kernel
theorem dL_law_1142 : decode (mc mL_law) 1142 = .ok (.iaload, 1) := by decide +kernel
theorem dL_law_1143 : decode (mc mL_law) 1143 = .ok (.invokevirtual 144, 3) := by decide +kernel
theorem dL_law_1146 : decode (mc mL_law) 1146 = .ok (.aload_n 2, 1) := by decide +kernel
theorem dL_law_1147 : decode (mc mL_law) 1147 = .ok (.aload_n 0, 1) := by decide +kernel
theorem dL_law_1148 : decode (mc mL_law) 1148 = .ok (.iload_n 3, 1) := by decide +kernel
theorem dL_law_1149 : decode (mc mL_law) 1149 = .ok (.iconst 1, 1) := by decide +kernel
theorem dL_law_1150 : decode (mc mL_law) 1150 = .ok (.iadd, 1) := by decide +kernel
theorem dL_law_1151 : decode (mc mL_law) 1151 = .ok (.iaload, 1) := by decide +kernel
theorem dL_law_1152 : decode (mc mL_law) 1152 = .ok (.invokevirtual 147, 3) := by decide +kernel
theorem dL_law_1155 : decode (mc mL_law) 1155 = .ok (.if_icmp .eq 574, 3) := by decide +kernel
theorem dL_law_1158 : decode (mc mL_law) 1158 = .ok (.iconst 0, 1) := by decide +kernel
theorem dL_law_1159 : decode (mc mL_law) 1159 = .ok (.ireturn, 1) := by decide +kernel
theorem dL_law_1160 : decode (mc mL_law) 1160 = .ok (.aload_n 1, 1) := by decide +kernel
theorem dL_law_1161 : decode (mc mL_law) 1161 = .ok (.aload_n 0, 1) := by decide +kernel
theorem dL_law_1162 : decode (mc mL_law) 1162 = .ok (.iload_n 3, 1) := by decide +kernel
theorem dL_law_1163 : decode (mc mL_law) 1163 = .ok (.iconst 1, 1) := by decide +kernel
theorem dL_law_1164 : decode (mc mL_law) 1164 = .ok (.iadd, 1) := by decide +kernel
theorem dL_law_1165 : decode (mc mL_law) 1165 = .ok (.iaload, 1) := by decide +kernel
theorem dL_law_1166 : decode (mc mL_law) 1166 = .ok (.aload_n 0, 1) := by decide +kernel
theorem dL_law_1167 : decode (mc mL_law) 1167 = .ok (.iload_n 3, 1) := by decide +kernel
theorem dL_law_1168 : decode (mc mL_law) 1168 = .ok (.iconst 2, 1) := by decide +kernel
theorem dL_law_1169 : decode (mc mL_law) 1169 = .ok (.iadd, 1) := by decide +kernel
theorem dL_law_1170 : decode (mc mL_law) 1170 = .ok (.iaload, 1) := by decide +kernel
theorem dL_law_1171 : decode (mc mL_law) 1171 = .ok (.aload_n 0, 1) := by decide +kernel
theorem dL_law_1172 : decode (mc mL_law) 1172 = .ok (.iload_n 3, 1) := by decide +kernel
theorem dL_law_1173 : decode (mc mL_law) 1173 = .ok (.iconst 3, 1) := by decide +kernel
theorem dL_law_1174 : decode (mc mL_law) 1174 = .ok (.iadd, 1) := by decide +kernel
theorem dL_law_1175 : decode (mc mL_law) 1175 = .ok (.iaload, 1) := by decide +kernel
theorem dL_law_1176 : decode (mc mL_law) 1176 = .ok (.invokevirtual 148, 3) := by decide +kernel
theorem dL_law_1179 : decode (mc mL_law) 1179 = .ok (.aload_n 2, 1) := by decide +kernel
theorem dL_law_1180 : decode (mc mL_law) 1180 = .ok (.aload_n 0, 1) := by decide +kernel
theorem dL_law_1181 : decode (mc mL_law) 1181 = .ok (.iload_n 3, 1) := by decide +kernel
theorem dL_law_1182 : decode (mc mL_law) 1182 = .ok (.iconst 1, 1) := by decide +kernel
theorem dL_law_1183 : decode (mc mL_law) 1183 = .ok (.iadd, 1) := by decide +kernel
theorem dL_law_1184 : decode (mc mL_law) 1184 = .ok (.iaload, 1) := by decide +kernel
theorem dL_law_1185 : decode (mc mL_law) 1185 = .ok (.aload_n 0, 1) := by decide +kernel
theorem dL_law_1186 : decode (mc mL_law) 1186 = .ok (.iload_n 3, 1) := by decide +kernel
theorem dL_law_1187 : decode (mc mL_law) 1187 = .ok (.iconst 2, 1) := by decide +kernel
theorem dL_law_1188 : decode (mc mL_law) 1188 = .ok (.iadd, 1) := by decide +kernel
theorem dL_law_1189 : decode (mc mL_law) 1189 = .ok (.iaload, 1) := by decide +kernel
theorem dL_law_1190 : decode (mc mL_law) 1190 = .ok (.aload_n 0, 1) := by decide +kernel
theorem dL_law_1191 : decode (mc mL_law) 1191 = .ok (.iload_n 3, 1) := by decide +kernel
theorem dL_law_1192 : decode (mc mL_law) 1192 = .ok (.iconst 3, 1) := by decide +kernel
theorem dL_law_1193 : decode (mc mL_law) 1193 = .ok (.iadd, 1) := by decide +kernel
theorem dL_law_1194 : decode (mc mL_law) 1194 = .ok (.iaload, 1) := by decide +kernel
theorem dL_law_1195 : decode (mc mL_law) 1195 = .ok (.invokevirtual 151, 3) := by decide +kernel
theorem dL_law_1198 : decode (mc mL_law) 1198 = .ok (.if_icmp .eq 531, 3) := by decide +kernel
theorem dL_law_1201 : decode (mc mL_law) 1201 = .ok (.iconst 0, 1) := by decide +kernel
theorem dL_law_1202 : decode (mc mL_law) 1202 = .ok (.ireturn, 1) := by decide +kernel
theorem dL_law_1203 : decode (mc mL_law) 1203 = .ok (.aload_n 1, 1) := by decide +kernel
theorem dL_law_1204 : decode (mc mL_law) 1204 = .ok (.aload_n 0, 1) := by decide +kernel
theorem dL_law_1205 : decode (mc mL_law) 1205 = .ok (.iload_n 3, 1) := by decide +kernel
theorem dL_law_1206 : decode (mc mL_law) 1206 = .ok (.iconst 1, 1) := by decide +kernel
theorem dL_law_1207 : decode (mc mL_law) 1207 = .ok (.iadd, 1) := by decide +kernel
theorem dL_law_1208 : decode (mc mL_law) 1208 = .ok (.iaload, 1) := by decide +kernel
theorem dL_law_1209 : decode (mc mL_law) 1209 = .ok (.aload_n 0, 1) := by decide +kernel
theorem dL_law_1210 : decode (mc mL_law) 1210 = .ok (.iload_n 3, 1) := by decide +kernel
theorem dL_law_1211 : decode (mc mL_law) 1211 = .ok (.iconst 2, 1) := by decide +kernel
theorem dL_law_1212 : decode (mc mL_law) 1212 = .ok (.iadd, 1) := by decide +kernel
theorem dL_law_1213 : decode (mc mL_law) 1213 = .ok (.iaload, 1) := by decide +kernel
theorem dL_law_1214 : decode (mc mL_law) 1214 = .ok (.aload_n 0, 1) := by decide +kernel
theorem dL_law_1215 : decode (mc mL_law) 1215 = .ok (.iload_n 3, 1) := by decide +kernel
theorem dL_law_1216 : decode (mc mL_law) 1216 = .ok (.iconst 3, 1) := by decide +kernel
theorem dL_law_1217 : decode (mc mL_law) 1217 = .ok (.iadd, 1) := by decide +kernel
theorem dL_law_1218 : decode (mc mL_law) 1218 = .ok (.iaload, 1) := by decide +kernel
theorem dL_law_1219 : decode (mc mL_law) 1219 = .ok (.invokevirtual 152, 3) := by decide +kernel
theorem dL_law_1222 : decode (mc mL_law) 1222 = .ok (.aload_n 2, 1) := by decide +kernel
theorem dL_law_1223 : decode (mc mL_law) 1223 = .ok (.aload_n 0, 1) := by decide +kernel
theorem dL_law_1224 : decode (mc mL_law) 1224 = .ok (.iload_n 3, 1) := by decide +kernel
theorem dL_law_1225 : decode (mc mL_law) 1225 = .ok (.iconst 1, 1) := by decide +kernel
theorem dL_law_1226 : decode (mc mL_law) 1226 = .ok (.iadd, 1) := by decide +kernel
theorem dL_law_1227 : decode (mc mL_law) 1227 = .ok (.iaload, 1) := by decide +kernel
theorem dL_law_1228 : decode (mc mL_law) 1228 = .ok (.aload_n 0, 1) := by decide +kernel
theorem dL_law_1229 : decode (mc mL_law) 1229 = .ok (.iload_n 3, 1) := by decide +kernel
theorem dL_law_1230 : decode (mc mL_law) 1230 = .ok (.iconst 2, 1) := by decide +kernel
theorem dL_law_1231 : decode (mc mL_law) 1231 = .ok (.iadd, 1) := by decide +kernel
theorem dL_law_1232 : decode (mc mL_law) 1232 = .ok (.iaload, 1) := by decide +kernel
theorem dL_law_1233 : decode (mc mL_law) 1233 = .ok (.aload_n 0, 1) := by decide +kernel
theorem dL_law_1234 : decode (mc mL_law) 1234 = .ok (.iload_n 3, 1) := by decide +kernel
theorem dL_law_1235 : decode (mc mL_law) 1235 = .ok (.iconst 3, 1) := by decide +kernel
theorem dL_law_1236 : decode (mc mL_law) 1236 = .ok (.iadd, 1) := by decide +kernel
theorem dL_law_1237 : decode (mc mL_law) 1237 = .ok (.iaload, 1) := by decide +kernel
theorem dL_law_1238 : decode (mc mL_law) 1238 = .ok (.invokevirtual 155, 3) := by decide +kernel
theorem dL_law_1241 : decode (mc mL_law) 1241 = .ok (.if_icmp .eq 488, 3) := by decide +kernel
theorem dL_law_1244 : decode (mc mL_law) 1244 = .ok (.iconst 0, 1) := by decide +kernel
theorem dL_law_1245 : decode (mc mL_law) 1245 = .ok (.ireturn, 1) := by decide +kernel
theorem dL_law_1246 : decode (mc mL_law) 1246 = .ok (.aload_n 1, 1) := by decide +kernel
theorem dL_law_1247 : decode (mc mL_law) 1247 = .ok (.aload_n 0, 1) := by decide +kernel
theorem dL_law_1248 : decode (mc mL_law) 1248 = .ok (.iload_n 3, 1) := by decide +kernel
theorem dL_law_1249 : decode (mc mL_law) 1249 = .ok (.iconst 1, 1) := by decide +kernel
theorem dL_law_1250 : decode (mc mL_law) 1250 = .ok (.iadd, 1) := by decide +kernel
theorem dL_law_1251 : decode (mc mL_law) 1251 = .ok (.iaload, 1) := by decide +kernel
theorem dL_law_1252 : decode (mc mL_law) 1252 = .ok (.aload_n 0, 1) := by decide +kernel
theorem dL_law_1253 : decode (mc mL_law) 1253 = .ok (.iload_n 3, 1) := by decide +kernel
theorem dL_law_1254 : decode (mc mL_law) 1254 = .ok (.iconst 2, 1) := by decide +kernel
theorem dL_law_1255 : decode (mc mL_law) 1255 = .ok (.iadd, 1) := by decide +kernel
theorem dL_law_1256 : decode (mc mL_law) 1256 = .ok (.iaload, 1) := by decide +kernel
theorem dL_law_1257 : decode (mc mL_law) 1257 = .ok (.invokevirtual 156, 3) := by decide +kernel
theorem dL_law_1260 : decode (mc mL_law) 1260 = .ok (.aload_n 2, 1) := by decide +kernel
theorem dL_law_1261 : decode (mc mL_law) 1261 = .ok (.aload_n 0, 1) := by decide +kernel
theorem dL_law_1262 : decode (mc mL_law) 1262 = .ok (.iload_n 3, 1) := by decide +kernel
theorem dL_law_1263 : decode (mc mL_law) 1263 = .ok (.iconst 1, 1) := by decide +kernel
theorem dL_law_1264 : decode (mc mL_law) 1264 = .ok (.iadd, 1) := by decide +kernel
theorem dL_law_1265 : decode (mc mL_law) 1265 = .ok (.iaload, 1) := by decide +kernel
theorem dL_law_1266 : decode (mc mL_law) 1266 = .ok (.aload_n 0, 1) := by decide +kernel
theorem dL_law_1267 : decode (mc mL_law) 1267 = .ok (.iload_n 3, 1) := by decide +kernel
theorem dL_law_1268 : decode (mc mL_law) 1268 = .ok (.iconst 2, 1) := by decide +kernel
theorem dL_law_1269 : decode (mc mL_law) 1269 = .ok (.iadd, 1) := by decide +kernel
theorem dL_law_1270 : decode (mc mL_law) 1270 = .ok (.iaload, 1) := by decide +kernel
theorem dL_law_1271 : decode (mc mL_law) 1271 = .ok (.invokevirtual 159, 3) := by decide +kernel
theorem dL_law_1274 : decode (mc mL_law) 1274 = .ok (.if_icmp .eq 455, 3) := by decide +kernel
theorem dL_law_1277 : decode (mc mL_law) 1277 = .ok (.iconst 0, 1) := by decide +kernel
theorem dL_law_1278 : decode (mc mL_law) 1278 = .ok (.ireturn, 1) := by decide +kernel
theorem dL_law_1279 : decode (mc mL_law) 1279 = .ok (.aload_n 1, 1) := by decide +kernel
theorem dL_law_1280 : decode (mc mL_law) 1280 = .ok (.aload_n 0, 1) := by decide +kernel
theorem dL_law_1281 : decode (mc mL_law) 1281 = .ok (.iload_n 3, 1) := by decide +kernel
theorem dL_law_1282 : decode (mc mL_law) 1282 = .ok (.iconst 1, 1) := by decide +kernel
theorem dL_law_1283 : decode (mc mL_law) 1283 = .ok (.iadd, 1) := by decide +kernel
theorem dL_law_1284 : decode (mc mL_law) 1284 = .ok (.iaload, 1) := by decide +kernel
theorem dL_law_1285 : decode (mc mL_law) 1285 = .ok (.aload_n 0, 1) := by decide +kernel
theorem dL_law_1286 : decode (mc mL_law) 1286 = .ok (.iload_n 3, 1) := by decide +kernel
theorem dL_law_1287 : decode (mc mL_law) 1287 = .ok (.iconst 2, 1) := by decide +kernel
theorem dL_law_1288 : decode (mc mL_law) 1288 = .ok (.iadd, 1) := by decide +kernel
theorem dL_law_1289 : decode (mc mL_law) 1289 = .ok (.iaload, 1) := by decide +kernel
theorem dL_law_1290 : decode (mc mL_law) 1290 = .ok (.aload_n 0, 1) := by decide +kernel
theorem dL_law_1291 : decode (mc mL_law) 1291 = .ok (.iload_n 3, 1) := by decide +kernel
theorem dL_law_1292 : decode (mc mL_law) 1292 = .ok (.iconst 3, 1) := by decide +kernel
theorem dL_law_1293 : decode (mc mL_law) 1293 = .ok (.iadd, 1) := by decide +kernel
theorem dL_law_1294 : decode (mc mL_law) 1294 = .ok (.iaload, 1) := by decide +kernel
theorem dL_law_1295 : decode (mc mL_law) 1295 = .ok (.invokevirtual 160, 3) := by decide +kernel
theorem dL_law_1298 : decode (mc mL_law) 1298 = .ok (.aload_n 2, 1) := by decide +kernel
theorem dL_law_1299 : decode (mc mL_law) 1299 = .ok (.aload_n 0, 1) := by decide +kernel
theorem dL_law_1300 : decode (mc mL_law) 1300 = .ok (.iload_n 3, 1) := by decide +kernel
theorem dL_law_1301 : decode (mc mL_law) 1301 = .ok (.iconst 1, 1) := by decide +kernel
theorem dL_law_1302 : decode (mc mL_law) 1302 = .ok (.iadd, 1) := by decide +kernel
theorem dL_law_1303 : decode (mc mL_law) 1303 = .ok (.iaload, 1) := by decide +kernel
theorem dL_law_1304 : decode (mc mL_law) 1304 = .ok (.aload_n 0, 1) := by decide +kernel
theorem dL_law_1305 : decode (mc mL_law) 1305 = .ok (.iload_n 3, 1) := by decide +kernel
theorem dL_law_1306 : decode (mc mL_law) 1306 = .ok (.iconst 2, 1) := by decide +kernel
theorem dL_law_1307 : decode (mc mL_law) 1307 = .ok (.iadd, 1) := by decide +kernel
theorem dL_law_1308 : decode (mc mL_law) 1308 = .ok (.iaload, 1) := by decide +kernel
theorem dL_law_1309 : decode (mc mL_law) 1309 = .ok (.aload_n 0, 1) := by decide +kernel
theorem dL_law_1310 : decode (mc mL_law) 1310 = .ok (.iload_n 3, 1) := by decide +kernel
theorem dL_law_1311 : decode (mc mL_law) 1311 = .ok (.iconst 3, 1) := by decide +kernel
theorem dL_law_1312 : decode (mc mL_law) 1312 = .ok (.iadd, 1) := by decide +kernel
theorem dL_law_1313 : decode (mc mL_law) 1313 = .ok (.iaload, 1) := by decide +kernel
theorem dL_law_1314 : decode (mc mL_law) 1314 = .ok (.invokevirtual 163, 3) := by decide +kernel
theorem dL_law_1317 : decode (mc mL_law) 1317 = .ok (.if_icmp .eq 412, 3) := by decide +kernel
theorem dL_law_1320 : decode (mc mL_law) 1320 = .ok (.iconst 0, 1) := by decide +kernel
theorem dL_law_1321 : decode (mc mL_law) 1321 = .ok (.ireturn, 1) := by decide +kernel
theorem dL_law_1322 : decode (mc mL_law) 1322 = .ok (.aload_n 1, 1) := by decide +kernel
theorem dL_law_1323 : decode (mc mL_law) 1323 = .ok (.aload_n 0, 1) := by decide +kernel
theorem dL_law_1324 : decode (mc mL_law) 1324 = .ok (.iload_n 3, 1) := by decide +kernel
theorem dL_law_1325 : decode (mc mL_law) 1325 = .ok (.iconst 1, 1) := by decide +kernel
theorem dL_law_1326 : decode (mc mL_law) 1326 = .ok (.iadd, 1) := by decide +kernel
theorem dL_law_1327 : decode (mc mL_law) 1327 = .ok (.iaload, 1) := by decide +kernel
theorem dL_law_1328 : decode (mc mL_law) 1328 = .ok (.aload_n 0, 1) := by decide +kernel
theorem dL_law_1329 : decode (mc mL_law) 1329 = .ok (.iload_n 3, 1) := by decide +kernel
theorem dL_law_1330 : decode (mc mL_law) 1330 = .ok (.iconst 2, 1) := by decide +kernel
theorem dL_law_1331 : decode (mc mL_law) 1331 = .ok (.iadd, 1) := by decide +kernel
theorem dL_law_1332 : decode (mc mL_law) 1332 = .ok (.iaload, 1) := by decide +kernel
theorem dL_law_1333 : decode (mc mL_law) 1333 = .ok (.invokevirtual 164, 3) := by decide +kernel
theorem dL_law_1336 : decode (mc mL_law) 1336 = .ok (.aload_n 2, 1) := by decide +kernel
theorem dL_law_1337 : decode (mc mL_law) 1337 = .ok (.aload_n 0, 1) := by decide +kernel
theorem dL_law_1338 : decode (mc mL_law) 1338 = .ok (.iload_n 3, 1) := by decide +kernel
theorem dL_law_1339 : decode (mc mL_law) 1339 = .ok (.iconst 1, 1) := by decide +kernel
theorem dL_law_1340 : decode (mc mL_law) 1340 = .ok (.iadd, 1) := by decide +kernel
theorem dL_law_1341 : decode (mc mL_law) 1341 = .ok (.iaload, 1) := by decide +kernel
theorem dL_law_1342 : decode (mc mL_law) 1342 = .ok (.aload_n 0, 1) := by decide +kernel
theorem dL_law_1343 : decode (mc mL_law) 1343 = .ok (.iload_n 3, 1) := by decide +kernel
theorem dL_law_1344 : decode (mc mL_law) 1344 = .ok (.iconst 2, 1) := by decide +kernel
theorem dL_law_1345 : decode (mc mL_law) 1345 = .ok (.iadd, 1) := by decide +kernel
theorem dL_law_1346 : decode (mc mL_law) 1346 = .ok (.iaload, 1) := by decide +kernel
theorem dL_law_1347 : decode (mc mL_law) 1347 = .ok (.invokevirtual 167, 3) := by decide +kernel
theorem dL_law_1350 : decode (mc mL_law) 1350 = .ok (.if_icmp .eq 379, 3) := by decide +kernel
theorem dL_law_1353 : decode (mc mL_law) 1353 = .ok (.iconst 0, 1) := by decide +kernel
theorem dL_law_1354 : decode (mc mL_law) 1354 = .ok (.ireturn, 1) := by decide +kernel
theorem dL_law_1355 : decode (mc mL_law) 1355 = .ok (.aload_n 1, 1) := by decide +kernel
theorem dL_law_1356 : decode (mc mL_law) 1356 = .ok (.aload_n 0, 1) := by decide +kernel
theorem dL_law_1357 : decode (mc mL_law) 1357 = .ok (.iload_n 3, 1) := by decide +kernel
theorem dL_law_1358 : decode (mc mL_law) 1358 = .ok (.iconst 1, 1) := by decide +kernel
theorem dL_law_1359 : decode (mc mL_law) 1359 = .ok (.iadd, 1) := by decide +kernel
theorem dL_law_1360 : decode (mc mL_law) 1360 = .ok (.iaload, 1) := by decide +kernel
theorem dL_law_1361 : decode (mc mL_law) 1361 = .ok (.i2l, 1) := by decide +kernel
theorem dL_law_1362 : decode (mc mL_law) 1362 = .ok (.bipush 32, 2) := by decide +kernel
theorem dL_law_1364 : decode (mc mL_law) 1364 = .ok (.lshl, 1) := by decide +kernel
theorem dL_law_1365 : decode (mc mL_law) 1365 = .ok (.aload_n 0, 1) := by decide +kernel
theorem dL_law_1366 : decode (mc mL_law) 1366 = .ok (.iload_n 3, 1) := by decide +kernel
theorem dL_law_1367 : decode (mc mL_law) 1367 = .ok (.iconst 2, 1) := by decide +kernel
theorem dL_law_1368 : decode (mc mL_law) 1368 = .ok (.iadd, 1) := by decide +kernel
theorem dL_law_1369 : decode (mc mL_law) 1369 = .ok (.iaload, 1) := by decide +kernel
theorem dL_law_1370 : decode (mc mL_law) 1370 = .ok (.i2l, 1) := by decide +kernel
theorem dL_law_1371 : decode (mc mL_law) 1371 = .ok (.ldc2_w 168, 3) := by decide +kernel
theorem dL_law_1374 : decode (mc mL_law) 1374 = .ok (.land, 1) := by decide +kernel
theorem dL_law_1375 : decode (mc mL_law) 1375 = .ok (.lor, 1) := by decide +kernel
theorem dL_law_1376 : decode (mc mL_law) 1376 = .ok (.aload_n 0, 1) := by decide +kernel
theorem dL_law_1377 : decode (mc mL_law) 1377 = .ok (.iload_n 3, 1) := by decide +kernel
theorem dL_law_1378 : decode (mc mL_law) 1378 = .ok (.iconst 3, 1) := by decide +kernel
theorem dL_law_1379 : decode (mc mL_law) 1379 = .ok (.iadd, 1) := by decide +kernel
theorem dL_law_1380 : decode (mc mL_law) 1380 = .ok (.iaload, 1) := by decide +kernel
theorem dL_law_1381 : decode (mc mL_law) 1381 = .ok (.i2l, 1) := by decide +kernel
theorem dL_law_1382 : decode (mc mL_law) 1382 = .ok (.bipush 32, 2) := by decide +kernel
theorem dL_law_1384 : decode (mc mL_law) 1384 = .ok (.lshl, 1) := by decide +kernel
theorem dL_law_1385 : decode (mc mL_law) 1385 = .ok (.aload_n 0, 1) := by decide +kernel
theorem dL_law_1386 : decode (mc mL_law) 1386 = .ok (.iload_n 3, 1) := by decide +kernel
theorem dL_law_1387 : decode (mc mL_law) 1387 = .ok (.iconst 4, 1) := by decide +kernel
theorem dL_law_1388 : decode (mc mL_law) 1388 = .ok (.iadd, 1) := by decide +kernel
theorem dL_law_1389 : decode (mc mL_law) 1389 = .ok (.iaload, 1) := by decide +kernel
theorem dL_law_1390 : decode (mc mL_law) 1390 = .ok (.i2l, 1) := by decide +kernel
theorem dL_law_1391 : decode (mc mL_law) 1391 = .ok (.ldc2_w 168, 3) := by decide +kernel
theorem dL_law_1394 : decode (mc mL_law) 1394 = .ok (.land, 1) := by decide +kernel
theorem dL_law_1395 : decode (mc mL_law) 1395 = .ok (.lor, 1) := by decide +kernel
theorem dL_law_1396 : decode (mc mL_law) 1396 = .ok (.invokevirtual 170, 3) := by decide +kernel
theorem dL_law_1399 : decode (mc mL_law) 1399 = .ok (.aload_n 2, 1) := by decide +kernel
theorem dL_law_1400 : decode (mc mL_law) 1400 = .ok (.aload_n 0, 1) := by decide +kernel
theorem dL_law_1401 : decode (mc mL_law) 1401 = .ok (.iload_n 3, 1) := by decide +kernel
theorem dL_law_1402 : decode (mc mL_law) 1402 = .ok (.iconst 1, 1) := by decide +kernel
theorem dL_law_1403 : decode (mc mL_law) 1403 = .ok (.iadd, 1) := by decide +kernel
theorem dL_law_1404 : decode (mc mL_law) 1404 = .ok (.iaload, 1) := by decide +kernel
theorem dL_law_1405 : decode (mc mL_law) 1405 = .ok (.i2l, 1) := by decide +kernel
theorem dL_law_1406 : decode (mc mL_law) 1406 = .ok (.bipush 32, 2) := by decide +kernel
theorem dL_law_1408 : decode (mc mL_law) 1408 = .ok (.lshl, 1) := by decide +kernel
theorem dL_law_1409 : decode (mc mL_law) 1409 = .ok (.aload_n 0, 1) := by decide +kernel
theorem dL_law_1410 : decode (mc mL_law) 1410 = .ok (.iload_n 3, 1) := by decide +kernel
theorem dL_law_1411 : decode (mc mL_law) 1411 = .ok (.iconst 2, 1) := by decide +kernel
theorem dL_law_1412 : decode (mc mL_law) 1412 = .ok (.iadd, 1) := by decide +kernel
theorem dL_law_1413 : decode (mc mL_law) 1413 = .ok (.iaload, 1) := by decide +kernel
theorem dL_law_1414 : decode (mc mL_law) 1414 = .ok (.i2l, 1) := by decide +kernel
theorem dL_law_1415 : decode (mc mL_law) 1415 = .ok (.ldc2_w 168, 3) := by decide +kernel
theorem dL_law_1418 : decode (mc mL_law) 1418 = .ok (.land, 1) := by decide +kernel
theorem dL_law_1419 : decode (mc mL_law) 1419 = .ok (.lor, 1) := by decide +kernel
theorem dL_law_1420 : decode (mc mL_law) 1420 = .ok (.aload_n 0, 1) := by decide +kernel
theorem dL_law_1421 : decode (mc mL_law) 1421 = .ok (.iload_n 3, 1) := by decide +kernel
theorem dL_law_1422 : decode (mc mL_law) 1422 = .ok (.iconst 3, 1) := by decide +kernel
theorem dL_law_1423 : decode (mc mL_law) 1423 = .ok (.iadd, 1) := by decide +kernel
theorem dL_law_1424 : decode (mc mL_law) 1424 = .ok (.iaload, 1) := by decide +kernel
theorem dL_law_1425 : decode (mc mL_law) 1425 = .ok (.i2l, 1) := by decide +kernel
theorem dL_law_1426 : decode (mc mL_law) 1426 = .ok (.bipush 32, 2) := by decide +kernel
theorem dL_law_1428 : decode (mc mL_law) 1428 = .ok (.lshl, 1) := by decide +kernel
theorem dL_law_1429 : decode (mc mL_law) 1429 = .ok (.aload_n 0, 1) := by decide +kernel
theorem dL_law_1430 : decode (mc mL_law) 1430 = .ok (.iload_n 3, 1) := by decide +kernel
theorem dL_law_1431 : decode (mc mL_law) 1431 = .ok (.iconst 4, 1) := by decide +kernel
theorem dL_law_1432 : decode (mc mL_law) 1432 = .ok (.iadd, 1) := by decide +kernel
theorem dL_law_1433 : decode (mc mL_law) 1433 = .ok (.iaload, 1) := by decide +kernel
theorem dL_law_1434 : decode (mc mL_law) 1434 = .ok (.i2l, 1) := by decide +kernel
theorem dL_law_1435 : decode (mc mL_law) 1435 = .ok (.ldc2_w 168, 3) := by decide +kernel
theorem dL_law_1438 : decode (mc mL_law) 1438 = .ok (.land, 1) := by decide +kernel
theorem dL_law_1439 : decode (mc mL_law) 1439 = .ok (.lor, 1) := by decide +kernel
theorem dL_law_1440 : decode (mc mL_law) 1440 = .ok (.invokevirtual 174, 3) := by decide +kernel
theorem dL_law_1443 : decode (mc mL_law) 1443 = .ok (.if_icmp .eq 286, 3) := by decide +kernel
theorem dL_law_1446 : decode (mc mL_law) 1446 = .ok (.iconst 0, 1) := by decide +kernel
theorem dL_law_1447 : decode (mc mL_law) 1447 = .ok (.ireturn, 1) := by decide +kernel
theorem dL_law_1448 : decode (mc mL_law) 1448 = .ok (.aload_n 1, 1) := by decide +kernel
theorem dL_law_1449 : decode (mc mL_law) 1449 = .ok (.invokevirtual 175, 3) := by decide +kernel
theorem dL_law_1452 : decode (mc mL_law) 1452 = .ok (.aload_n 2, 1) := by decide +kernel
theorem dL_law_1453 : decode (mc mL_law) 1453 = .ok (.invokevirtual 179, 3) := by decide +kernel
theorem dL_law_1456 : decode (mc mL_law) 1456 = .ok (.lcmp, 1) := by decide +kernel
theorem dL_law_1457 : decode (mc mL_law) 1457 = .ok (.ifCond .eq 272, 3) := by decide +kernel
theorem dL_law_1460 : decode (mc mL_law) 1460 = .ok (.iconst 0, 1) := by decide +kernel
theorem dL_law_1461 : decode (mc mL_law) 1461 = .ok (.ireturn, 1) := by decide +kernel
theorem dL_law_1462 : decode (mc mL_law) 1462 = .ok (.aload_n 1, 1) := by decide +kernel
theorem dL_law_1463 : decode (mc mL_law) 1463 = .ok (.aload_n 0, 1) := by decide +kernel
theorem dL_law_1464 : decode (mc mL_law) 1464 = .ok (.iload_n 3, 1) := by decide +kernel
theorem dL_law_1465 : decode (mc mL_law) 1465 = .ok (.iconst 1, 1) := by decide +kernel
theorem dL_law_1466 : decode (mc mL_law) 1466 = .ok (.iadd, 1) := by decide +kernel
theorem dL_law_1467 : decode (mc mL_law) 1467 = .ok (.iaload, 1) := by decide +kernel
theorem dL_law_1468 : decode (mc mL_law) 1468 = .ok (.invokevirtual 180, 3) := by decide +kernel
theorem dL_law_1471 : decode (mc mL_law) 1471 = .ok (.aload_n 2, 1) := by decide +kernel
theorem dL_law_1472 : decode (mc mL_law) 1472 = .ok (.aload_n 0, 1) := by decide +kernel
theorem dL_law_1473 : decode (mc mL_law) 1473 = .ok (.iload_n 3, 1) := by decide +kernel
theorem dL_law_1474 : decode (mc mL_law) 1474 = .ok (.iconst 1, 1) := by decide +kernel
theorem dL_law_1475 : decode (mc mL_law) 1475 = .ok (.iadd, 1) := by decide +kernel
theorem dL_law_1476 : decode (mc mL_law) 1476 = .ok (.iaload, 1) := by decide +kernel
theorem dL_law_1477 : decode (mc mL_law) 1477 = .ok (.invokevirtual 183, 3) := by decide +kernel
theorem dL_law_1480 : decode (mc mL_law) 1480 = .ok (.if_icmp .eq 249, 3) := by decide +kernel
theorem dL_law_1483 : decode (mc mL_law) 1483 = .ok (.iconst 0, 1) := by decide +kernel
theorem dL_law_1484 : decode (mc mL_law) 1484 = .ok (.ireturn, 1) := by decide +kernel
theorem dL_law_1485 : decode (mc mL_law) 1485 = .ok (.aload_n 1, 1) := by decide +kernel
theorem dL_law_1486 : decode (mc mL_law) 1486 = .ok (.aload_n 0, 1) := by decide +kernel
theorem dL_law_1487 : decode (mc mL_law) 1487 = .ok (.iload_n 3, 1) := by decide +kernel
theorem dL_law_1488 : decode (mc mL_law) 1488 = .ok (.iconst 1, 1) := by decide +kernel
theorem dL_law_1489 : decode (mc mL_law) 1489 = .ok (.iadd, 1) := by decide +kernel
theorem dL_law_1490 : decode (mc mL_law) 1490 = .ok (.iaload, 1) := by decide +kernel
theorem dL_law_1491 : decode (mc mL_law) 1491 = .ok (.aload_n 0, 1) := by decide +kernel
theorem dL_law_1492 : decode (mc mL_law) 1492 = .ok (.iload_n 3, 1) := by decide +kernel
theorem dL_law_1493 : decode (mc mL_law) 1493 = .ok (.iconst 2, 1) := by decide +kernel
theorem dL_law_1494 : decode (mc mL_law) 1494 = .ok (.iadd, 1) := by decide +kernel
theorem dL_law_1495 : decode (mc mL_law) 1495 = .ok (.iaload, 1) := by decide +kernel
theorem dL_law_1496 : decode (mc mL_law) 1496 = .ok (.aload_n 0, 1) := by decide +kernel
theorem dL_law_1497 : decode (mc mL_law) 1497 = .ok (.iload_n 3, 1) := by decide +kernel
theorem dL_law_1498 : decode (mc mL_law) 1498 = .ok (.iconst 3, 1) := by decide +kernel
theorem dL_law_1499 : decode (mc mL_law) 1499 = .ok (.iadd, 1) := by decide +kernel
theorem dL_law_1500 : decode (mc mL_law) 1500 = .ok (.iaload, 1) := by decide +kernel
theorem dL_law_1501 : decode (mc mL_law) 1501 = .ok (.invokevirtual 184, 3) := by decide +kernel
theorem dL_law_1504 : decode (mc mL_law) 1504 = .ok (.aload_n 2, 1) := by decide +kernel
theorem dL_law_1505 : decode (mc mL_law) 1505 = .ok (.aload_n 0, 1) := by decide +kernel
theorem dL_law_1506 : decode (mc mL_law) 1506 = .ok (.iload_n 3, 1) := by decide +kernel
theorem dL_law_1507 : decode (mc mL_law) 1507 = .ok (.iconst 1, 1) := by decide +kernel
theorem dL_law_1508 : decode (mc mL_law) 1508 = .ok (.iadd, 1) := by decide +kernel
theorem dL_law_1509 : decode (mc mL_law) 1509 = .ok (.iaload, 1) := by decide +kernel
theorem dL_law_1510 : decode (mc mL_law) 1510 = .ok (.aload_n 0, 1) := by decide +kernel
theorem dL_law_1511 : decode (mc mL_law) 1511 = .ok (.iload_n 3, 1) := by decide +kernel
theorem dL_law_1512 : decode (mc mL_law) 1512 = .ok (.iconst 2, 1) := by decide +kernel
theorem dL_law_1513 : decode (mc mL_law) 1513 = .ok (.iadd, 1) := by decide +kernel
theorem dL_law_1514 : decode (mc mL_law) 1514 = .ok (.iaload, 1) := by decide +kernel
theorem dL_law_1515 : decode (mc mL_law) 1515 = .ok (.aload_n 0, 1) := by decide +kernel
theorem dL_law_1516 : decode (mc mL_law) 1516 = .ok (.iload_n 3, 1) := by decide +kernel
theorem dL_law_1517 : decode (mc mL_law) 1517 = .ok (.iconst 3, 1) := by decide +kernel
theorem dL_law_1518 : decode (mc mL_law) 1518 = .ok (.iadd, 1) := by decide +kernel
theorem dL_law_1519 : decode (mc mL_law) 1519 = .ok (.iaload, 1) := by decide +kernel
theorem dL_law_1520 : decode (mc mL_law) 1520 = .ok (.invokevirtual 187, 3) := by decide +kernel
theorem dL_law_1523 : decode (mc mL_law) 1523 = .ok (.if_icmp .eq 206, 3) := by decide +kernel
theorem dL_law_1526 : decode (mc mL_law) 1526 = .ok (.iconst 0, 1) := by decide +kernel
theorem dL_law_1527 : decode (mc mL_law) 1527 = .ok (.ireturn, 1) := by decide +kernel
theorem dL_law_1528 : decode (mc mL_law) 1528 = .ok (.aload_n 1, 1) := by decide +kernel
theorem dL_law_1529 : decode (mc mL_law) 1529 = .ok (.aload_n 0, 1) := by decide +kernel
theorem dL_law_1530 : decode (mc mL_law) 1530 = .ok (.iload_n 3, 1) := by decide +kernel
theorem dL_law_1531 : decode (mc mL_law) 1531 = .ok (.iconst 1, 1) := by decide +kernel
theorem dL_law_1532 : decode (mc mL_law) 1532 = .ok (.iadd, 1) := by decide +kernel
theorem dL_law_1533 : decode (mc mL_law) 1533 = .ok (.iaload, 1) := by decide +kernel
theorem dL_law_1534 : decode (mc mL_law) 1534 = .ok (.aload_n 0, 1) := by decide +kernel
theorem dL_law_1535 : decode (mc mL_law) 1535 = .ok (.iload_n 3, 1) := by decide +kernel
theorem dL_law_1536 : decode (mc mL_law) 1536 = .ok (.iconst 2, 1) := by decide +kernel
theorem dL_law_1537 : decode (mc mL_law) 1537 = .ok (.iadd, 1) := by decide +kernel
theorem dL_law_1538 : decode (mc mL_law) 1538 = .ok (.iaload, 1) := by decide +kernel
theorem dL_law_1539 : decode (mc mL_law) 1539 = .ok (.aload_n 0, 1) := by decide +kernel
theorem dL_law_1540 : decode (mc mL_law) 1540 = .ok (.iload_n 3, 1) := by decide +kernel
theorem dL_law_1541 : decode (mc mL_law) 1541 = .ok (.iconst 3, 1) := by decide +kernel
theorem dL_law_1542 : decode (mc mL_law) 1542 = .ok (.iadd, 1) := by decide +kernel
theorem dL_law_1543 : decode (mc mL_law) 1543 = .ok (.iaload, 1) := by decide +kernel
theorem dL_law_1544 : decode (mc mL_law) 1544 = .ok (.invokevirtual 188, 3) := by decide +kernel
theorem dL_law_1547 : decode (mc mL_law) 1547 = .ok (.aload_n 2, 1) := by decide +kernel
theorem dL_law_1548 : decode (mc mL_law) 1548 = .ok (.aload_n 0, 1) := by decide +kernel
theorem dL_law_1549 : decode (mc mL_law) 1549 = .ok (.iload_n 3, 1) := by decide +kernel
theorem dL_law_1550 : decode (mc mL_law) 1550 = .ok (.iconst 1, 1) := by decide +kernel
theorem dL_law_1551 : decode (mc mL_law) 1551 = .ok (.iadd, 1) := by decide +kernel
theorem dL_law_1552 : decode (mc mL_law) 1552 = .ok (.iaload, 1) := by decide +kernel
theorem dL_law_1553 : decode (mc mL_law) 1553 = .ok (.aload_n 0, 1) := by decide +kernel
theorem dL_law_1554 : decode (mc mL_law) 1554 = .ok (.iload_n 3, 1) := by decide +kernel
theorem dL_law_1555 : decode (mc mL_law) 1555 = .ok (.iconst 2, 1) := by decide +kernel
theorem dL_law_1556 : decode (mc mL_law) 1556 = .ok (.iadd, 1) := by decide +kernel
theorem dL_law_1557 : decode (mc mL_law) 1557 = .ok (.iaload, 1) := by decide +kernel
theorem dL_law_1558 : decode (mc mL_law) 1558 = .ok (.aload_n 0, 1) := by decide +kernel
theorem dL_law_1559 : decode (mc mL_law) 1559 = .ok (.iload_n 3, 1) := by decide +kernel
theorem dL_law_1560 : decode (mc mL_law) 1560 = .ok (.iconst 3, 1) := by decide +kernel
theorem dL_law_1561 : decode (mc mL_law) 1561 = .ok (.iadd, 1) := by decide +kernel
theorem dL_law_1562 : decode (mc mL_law) 1562 = .ok (.iaload, 1) := by decide +kernel
theorem dL_law_1563 : decode (mc mL_law) 1563 = .ok (.invokevirtual 191, 3) := by decide +kernel
theorem dL_law_1566 : decode (mc mL_law) 1566 = .ok (.if_icmp .eq 163, 3) := by decide +kernel
theorem dL_law_1569 : decode (mc mL_law) 1569 = .ok (.iconst 0, 1) := by decide +kernel
theorem dL_law_1570 : decode (mc mL_law) 1570 = .ok (.ireturn, 1) := by decide +kernel
theorem dL_law_1571 : decode (mc mL_law) 1571 = .ok (.aload_n 1, 1) := by decide +kernel
theorem dL_law_1572 : decode (mc mL_law) 1572 = .ok (.aload_n 0, 1) := by decide +kernel
theorem dL_law_1573 : decode (mc mL_law) 1573 = .ok (.iload_n 3, 1) := by decide +kernel
theorem dL_law_1574 : decode (mc mL_law) 1574 = .ok (.iconst 1, 1) := by decide +kernel
theorem dL_law_1575 : decode (mc mL_law) 1575 = .ok (.iadd, 1) := by decide +kernel
theorem dL_law_1576 : decode (mc mL_law) 1576 = .ok (.iaload, 1) := by decide +kernel
theorem dL_law_1577 : decode (mc mL_law) 1577 = .ok (.aload_n 0, 1) := by decide +kernel
theorem dL_law_1578 : decode (mc mL_law) 1578 = .ok (.iload_n 3, 1) := by decide +kernel
theorem dL_law_1579 : decode (mc mL_law) 1579 = .ok (.iconst 2, 1) := by decide +kernel
theorem dL_law_1580 : decode (mc mL_law) 1580 = .ok (.iadd, 1) := by decide +kernel
theorem dL_law_1581 : decode (mc mL_law) 1581 = .ok (.iaload, 1) := by decide +kernel
theorem dL_law_1582 : decode (mc mL_law) 1582 = .ok (.aload_n 0, 1) := by decide +kernel
theorem dL_law_1583 : decode (mc mL_law) 1583 = .ok (.iload_n 3, 1) := by decide +kernel
theorem dL_law_1584 : decode (mc mL_law) 1584 = .ok (.iconst 3, 1) := by decide +kernel
theorem dL_law_1585 : decode (mc mL_law) 1585 = .ok (.iadd, 1) := by decide +kernel
theorem dL_law_1586 : decode (mc mL_law) 1586 = .ok (.iaload, 1) := by decide +kernel
theorem dL_law_1587 : decode (mc mL_law) 1587 = .ok (.invokevirtual 192, 3) := by decide +kernel
theorem dL_law_1590 : decode (mc mL_law) 1590 = .ok (.aload_n 2, 1) := by decide +kernel
theorem dL_law_1591 : decode (mc mL_law) 1591 = .ok (.aload_n 0, 1) := by decide +kernel
theorem dL_law_1592 : decode (mc mL_law) 1592 = .ok (.iload_n 3, 1) := by decide +kernel
theorem dL_law_1593 : decode (mc mL_law) 1593 = .ok (.iconst 1, 1) := by decide +kernel
theorem dL_law_1594 : decode (mc mL_law) 1594 = .ok (.iadd, 1) := by decide +kernel
theorem dL_law_1595 : decode (mc mL_law) 1595 = .ok (.iaload, 1) := by decide +kernel
theorem dL_law_1596 : decode (mc mL_law) 1596 = .ok (.aload_n 0, 1) := by decide +kernel
theorem dL_law_1597 : decode (mc mL_law) 1597 = .ok (.iload_n 3, 1) := by decide +kernel
theorem dL_law_1598 : decode (mc mL_law) 1598 = .ok (.iconst 2, 1) := by decide +kernel
theorem dL_law_1599 : decode (mc mL_law) 1599 = .ok (.iadd, 1) := by decide +kernel
theorem dL_law_1600 : decode (mc mL_law) 1600 = .ok (.iaload, 1) := by decide +kernel
theorem dL_law_1601 : decode (mc mL_law) 1601 = .ok (.aload_n 0, 1) := by decide +kernel
theorem dL_law_1602 : decode (mc mL_law) 1602 = .ok (.iload_n 3, 1) := by decide +kernel
theorem dL_law_1603 : decode (mc mL_law) 1603 = .ok (.iconst 3, 1) := by decide +kernel
theorem dL_law_1604 : decode (mc mL_law) 1604 = .ok (.iadd, 1) := by decide +kernel
theorem dL_law_1605 : decode (mc mL_law) 1605 = .ok (.iaload, 1) := by decide +kernel
theorem dL_law_1606 : decode (mc mL_law) 1606 = .ok (.invokevirtual 195, 3) := by decide +kernel
theorem dL_law_1609 : decode (mc mL_law) 1609 = .ok (.if_icmp .eq 120, 3) := by decide +kernel
theorem dL_law_1612 : decode (mc mL_law) 1612 = .ok (.iconst 0, 1) := by decide +kernel
theorem dL_law_1613 : decode (mc mL_law) 1613 = .ok (.ireturn, 1) := by decide +kernel
theorem dL_law_1614 : decode (mc mL_law) 1614 = .ok (.aload_n 1, 1) := by decide +kernel
theorem dL_law_1615 : decode (mc mL_law) 1615 = .ok (.aload_n 0, 1) := by decide +kernel
theorem dL_law_1616 : decode (mc mL_law) 1616 = .ok (.iload_n 3, 1) := by decide +kernel
theorem dL_law_1617 : decode (mc mL_law) 1617 = .ok (.iconst 1, 1) := by decide +kernel
theorem dL_law_1618 : decode (mc mL_law) 1618 = .ok (.iadd, 1) := by decide +kernel
theorem dL_law_1619 : decode (mc mL_law) 1619 = .ok (.iaload, 1) := by decide +kernel
theorem dL_law_1620 : decode (mc mL_law) 1620 = .ok (.aload_n 0, 1) := by decide +kernel
theorem dL_law_1621 : decode (mc mL_law) 1621 = .ok (.iload_n 3, 1) := by decide +kernel
theorem dL_law_1622 : decode (mc mL_law) 1622 = .ok (.iconst 2, 1) := by decide +kernel
theorem dL_law_1623 : decode (mc mL_law) 1623 = .ok (.iadd, 1) := by decide +kernel
theorem dL_law_1624 : decode (mc mL_law) 1624 = .ok (.iaload, 1) := by decide +kernel
theorem dL_law_1625 : decode (mc mL_law) 1625 = .ok (.invokevirtual 196, 3) := by decide +kernel
theorem dL_law_1628 : decode (mc mL_law) 1628 = .ok (.aload_n 2, 1) := by decide +kernel
theorem dL_law_1629 : decode (mc mL_law) 1629 = .ok (.aload_n 0, 1) := by decide +kernel
theorem dL_law_1630 : decode (mc mL_law) 1630 = .ok (.iload_n 3, 1) := by decide +kernel
theorem dL_law_1631 : decode (mc mL_law) 1631 = .ok (.iconst 1, 1) := by decide +kernel
theorem dL_law_1632 : decode (mc mL_law) 1632 = .ok (.iadd, 1) := by decide +kernel
theorem dL_law_1633 : decode (mc mL_law) 1633 = .ok (.iaload, 1) := by decide +kernel
theorem dL_law_1634 : decode (mc mL_law) 1634 = .ok (.aload_n 0, 1) := by decide +kernel
theorem dL_law_1635 : decode (mc mL_law) 1635 = .ok (.iload_n 3, 1) := by decide +kernel
theorem dL_law_1636 : decode (mc mL_law) 1636 = .ok (.iconst 2, 1) := by decide +kernel
theorem dL_law_1637 : decode (mc mL_law) 1637 = .ok (.iadd, 1) := by decide +kernel
theorem dL_law_1638 : decode (mc mL_law) 1638 = .ok (.iaload, 1) := by decide +kernel
theorem dL_law_1639 : decode (mc mL_law) 1639 = .ok (.invokevirtual 199, 3) := by decide +kernel
theorem dL_law_1642 : decode (mc mL_law) 1642 = .ok (.if_icmp .eq 87, 3) := by decide +kernel
theorem dL_law_1645 : decode (mc mL_law) 1645 = .ok (.iconst 0, 1) := by decide +kernel
theorem dL_law_1646 : decode (mc mL_law) 1646 = .ok (.ireturn, 1) := by decide +kernel
theorem dL_law_1647 : decode (mc mL_law) 1647 = .ok (.aload_n 1, 1) := by decide +kernel
theorem dL_law_1648 : decode (mc mL_law) 1648 = .ok (.invokevirtual 200, 3) := by decide +kernel
theorem dL_law_1651 : decode (mc mL_law) 1651 = .ok (.aload_n 2, 1) := by decide +kernel
theorem dL_law_1652 : decode (mc mL_law) 1652 = .ok (.invokevirtual 203, 3) := by decide +kernel
theorem dL_law_1655 : decode (mc mL_law) 1655 = .ok (.if_icmp .eq 74, 3) := by decide +kernel
theorem dL_law_1658 : decode (mc mL_law) 1658 = .ok (.iconst 0, 1) := by decide +kernel
theorem dL_law_1659 : decode (mc mL_law) 1659 = .ok (.ireturn, 1) := by decide +kernel
theorem dL_law_1660 : decode (mc mL_law) 1660 = .ok (.aload_n 1, 1) := by decide +kernel
theorem dL_law_1661 : decode (mc mL_law) 1661 = .ok (.invokevirtual 204, 3) := by decide +kernel
theorem dL_law_1664 : decode (mc mL_law) 1664 = .ok (.aload_n 2, 1) := by decide +kernel
theorem dL_law_1665 : decode (mc mL_law) 1665 = .ok (.invokevirtual 207, 3) := by decide +kernel
theorem dL_law_1668 : decode (mc mL_law) 1668 = .ok (.if_icmp .eq 61, 3) := by decide +kernel
theorem dL_law_1671 : decode (mc mL_law) 1671 = .ok (.iconst 0, 1) := by decide +kernel
theorem dL_law_1672 : decode (mc mL_law) 1672 = .ok (.ireturn, 1) := by decide +kernel
theorem dL_law_1673 : decode (mc mL_law) 1673 = .ok (.aload_n 1, 1) := by decide +kernel
theorem dL_law_1674 : decode (mc mL_law) 1674 = .ok (.aload_n 0, 1) := by decide +kernel
theorem dL_law_1675 : decode (mc mL_law) 1675 = .ok (.iload_n 3, 1) := by decide +kernel
theorem dL_law_1676 : decode (mc mL_law) 1676 = .ok (.iconst 1, 1) := by decide +kernel
theorem dL_law_1677 : decode (mc mL_law) 1677 = .ok (.iadd, 1) := by decide +kernel
theorem dL_law_1678 : decode (mc mL_law) 1678 = .ok (.iaload, 1) := by decide +kernel
theorem dL_law_1679 : decode (mc mL_law) 1679 = .ok (.invokevirtual 208, 3) := by decide +kernel
theorem dL_law_1682 : decode (mc mL_law) 1682 = .ok (.aload_n 2, 1) := by decide +kernel
theorem dL_law_1683 : decode (mc mL_law) 1683 = .ok (.aload_n 0, 1) := by decide +kernel
theorem dL_law_1684 : decode (mc mL_law) 1684 = .ok (.iload_n 3, 1) := by decide +kernel
theorem dL_law_1685 : decode (mc mL_law) 1685 = .ok (.iconst 1, 1) := by decide +kernel
theorem dL_law_1686 : decode (mc mL_law) 1686 = .ok (.iadd, 1) := by decide +kernel
theorem dL_law_1687 : decode (mc mL_law) 1687 = .ok (.iaload, 1) := by decide +kernel
theorem dL_law_1688 : decode (mc mL_law) 1688 = .ok (.invokevirtual 211, 3) := by decide +kernel
theorem dL_law_1691 : decode (mc mL_law) 1691 = .ok (.if_icmp .eq 38, 3) := by decide +kernel
theorem dL_law_1694 : decode (mc mL_law) 1694 = .ok (.iconst 0, 1) := by decide +kernel
theorem dL_law_1695 : decode (mc mL_law) 1695 = .ok (.ireturn, 1) := by decide +kernel
theorem dL_law_1696 : decode (mc mL_law) 1696 = .ok (.aload_n 1, 1) := by decide +kernel
theorem dL_law_1697 : decode (mc mL_law) 1697 = .ok (.aload_n 0, 1) := by decide +kernel
theorem dL_law_1698 : decode (mc mL_law) 1698 = .ok (.iload_n 3, 1) := by decide +kernel
theorem dL_law_1699 : decode (mc mL_law) 1699 = .ok (.iconst 1, 1) := by decide +kernel
theorem dL_law_1700 : decode (mc mL_law) 1700 = .ok (.iadd, 1) := by decide +kernel
theorem dL_law_1701 : decode (mc mL_law) 1701 = .ok (.iaload, 1) := by decide +kernel
theorem dL_law_1702 : decode (mc mL_law) 1702 = .ok (.aload_n 0, 1) := by decide +kernel
theorem dL_law_1703 : decode (mc mL_law) 1703 = .ok (.iload_n 3, 1) := by decide +kernel
theorem dL_law_1704 : decode (mc mL_law) 1704 = .ok (.iconst 2, 1) := by decide +kernel
theorem dL_law_1705 : decode (mc mL_law) 1705 = .ok (.iadd, 1) := by decide +kernel
theorem dL_law_1706 : decode (mc mL_law) 1706 = .ok (.iaload, 1) := by decide +kernel
theorem dL_law_1707 : decode (mc mL_law) 1707 = .ok (.invokevirtual 212, 3) := by decide +kernel
theorem dL_law_1710 : decode (mc mL_law) 1710 = .ok (.aload_n 2, 1) := by decide +kernel
theorem dL_law_1711 : decode (mc mL_law) 1711 = .ok (.aload_n 0, 1) := by decide +kernel
theorem dL_law_1712 : decode (mc mL_law) 1712 = .ok (.iload_n 3, 1) := by decide +kernel
theorem dL_law_1713 : decode (mc mL_law) 1713 = .ok (.iconst 1, 1) := by decide +kernel
theorem dL_law_1714 : decode (mc mL_law) 1714 = .ok (.iadd, 1) := by decide +kernel
theorem dL_law_1715 : decode (mc mL_law) 1715 = .ok (.iaload, 1) := by decide +kernel
theorem dL_law_1716 : decode (mc mL_law) 1716 = .ok (.aload_n 0, 1) := by decide +kernel
theorem dL_law_1717 : decode (mc mL_law) 1717 = .ok (.iload_n 3, 1) := by decide +kernel
theorem dL_law_1718 : decode (mc mL_law) 1718 = .ok (.iconst 2, 1) := by decide +kernel
theorem dL_law_1719 : decode (mc mL_law) 1719 = .ok (.iadd, 1) := by decide +kernel
theorem dL_law_1720 : decode (mc mL_law) 1720 = .ok (.iaload, 1) := by decide +kernel
theorem dL_law_1721 : decode (mc mL_law) 1721 = .ok (.invokevirtual 215, 3) := by decide +kernel
theorem dL_law_1724 : decode (mc mL_law) 1724 = .ok (.if_icmp .eq 5, 3) := by decide +kernel
theorem dL_law_1727 : decode (mc mL_law) 1727 = .ok (.iconst 0, 1) := by decide +kernel
theorem dL_law_1728 : decode (mc mL_law) 1728 = .ok (.ireturn, 1) := by decide +kernel
theorem dL_law_1729 : decode (mc mL_law) 1729 = .ok (.iinc 3 5, 3) := by decide +kernel
theorem dL_law_1732 : decode (mc mL_law) 1732 = .ok (.goto (-1714), 3) := by decide +kernel
theorem dL_law_1735 : decode (mc mL_law) 1735 = .ok (.iconst 1, 1) := by decide +kernel
theorem dL_law_1736 : decode (mc mL_law) 1736 = .ok (.ireturn, 1) := by decide +kernel
