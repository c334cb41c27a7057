theorem d_law_0 : decode code 0 = .ok (.new 7, 3) := by decide +kernel
theorem d_law_3 : decode code 3 = .ok (.dup, 1) := by decide +kernel
theorem d_law_4 : decode code 4 = .ok (.invokespecial 9, 3) := by decide +kernel
theorem d_law_7 : decode code 7 = .ok (.astore_n 1, 1) := by decide +kernel
theorem d_law_8 : decode code 8 = .ok (.new 10, 3) := by decide +kernel
theorem d_law_11 : decode code 11 = .ok (.dup, 1) := by decide +kernel
theorem d_law_12 : decode code 12 = .ok (.invokespecial 12, 3) := by decide +kernel
theorem d_law_15 : decode code 15 = .ok (.astore_n 2, 1) := by decide +kernel
theorem d_law_16 : decode code 16 = .ok (.iconst 0, 1) := by decide +kernel
theorem d_law_17 : decode code 17 = .ok (.istore_n 3, 1) := by decide +kernel
theorem d_law_18 : decode code 18 = .ok (.iload_n 3, 1) := by decide +kernel
theorem d_law_19 : decode code 19 = .ok (.aload_n 0, 1) := by decide +kernel
theorem d_law_20 : decode code 20 = .ok (.arraylength, 1) := by decide +kernel
theorem d_law_21 : decode code 21 = .ok (.bipush 7, 2) := by decide +kernel
theorem d_law_23 : decode code 23 = .ok (.isub, 1) := by decide +kernel
theorem d_law_24 : decode code 24 = .ok (.if_icmp .gt 1465, 3) := by decide +kernel
theorem d_law_27 : decode code 27 = .ok (.aload_n 0, 1) := by decide +kernel
theorem d_law_28 : decode code 28 = .ok (.iload_n 3, 1) := by decide +kernel
theorem d_law_29 : decode code 29 = .ok (.iaload, 1) := by decide +kernel
theorem d_law_30 : decode code 30 = .ok (.bipush 63, 2) := by decide +kernel
theorem d_law_32 : decode code 32 = .ok (.iand, 1) := by decide +kernel
theorem d_law_33 : decode code 33 = .ok (.tableswitch 1450 0 42 #[187, 200, 233, 286, 309, 342, 365, 378, 391, 414, 447, 470, 503, 516, 549, 582, 615, 648, 691, 734, 777, 820, 853, 886, 899, 932, 945, 958, 1021, 1096, 1119, 1142, 1165, 1188, 1211, 1244, 1287, 1320, 1344, 1367, 1390, 1413, 1436], 187) := by decide +kernel
theorem d_law_220 : decode code 220 = .ok (.aload_n 1, 1) := by decide +kernel
theorem d_law_221 : decode code 221 = .ok (.invokevirtual 13, 3) := by decide +kernel
theorem d_law_224 : decode code 224 = .ok (.aload_n 2, 1) := by decide +kernel
theorem d_law_225 : decode code 225 = .ok (.invokevirtual 17, 3) := by decide +kernel
theorem d_law_228 : decode code 228 = .ok (.if_icmp .eq 1255, 3) := by decide +kernel
theorem d_law_231 : decode code 231 = .ok (.iconst 0, 1) := by decide +kernel
theorem d_law_232 : decode code 232 = .ok (.ireturn, 1) := by decide +kernel
theorem d_law_233 : decode code 233 = .ok (.aload_n 1, 1) := by decide +kernel
theorem d_law_234 : decode code 234 = .ok (.aload_n 0, 1) := by decide +kernel
theorem d_law_235 : decode code 235 = .ok (.iload_n 3, 1) := by decide +kernel
theorem d_law_236 : decode code 236 = .ok (.iconst 1, 1) := by decide +kernel
theorem d_law_237 : decode code 237 = .ok (.iadd, 1) := by decide +kernel
theorem d_law_238 : decode code 238 = .ok (.iaload, 1) := by decide +kernel
theorem d_law_239 : decode code 239 = .ok (.aload_n 0, 1) := by decide +kernel
theorem d_law_240 : decode code 240 = .ok (.iload_n 3, 1) := by decide +kernel
theorem d_law_241 : decode code 241 = .ok (.iconst 2, 1) := by decide +kernel
theorem d_law_242 : decode code 242 = .ok (.iadd, 1) := by decide +kernel
theorem d_law_243 : decode code 243 = .ok (.iaload, 1) := by decide +kernel
theorem d_law_244 : decode code 244 = .ok (.invokevirtual 18, 3) := by decide +kernel
theorem d_law_247 : decode code 247 = .ok (.aload_n 2, 1) := by decide +kernel
theorem d_law_248 : decode code 248 = .ok (.aload_n 0, 1) := by decide +kernel
theorem d_law_249 : decode code 249 = .ok (.iload_n 3, 1) := by decide +kernel
theorem d_law_250 : decode code 250 = .ok (.iconst 1, 1) := by decide +kernel
theorem d_law_251 : decode code 251 = .ok (.iadd, 1) := by decide +kernel
theorem d_law_252 : decode code 252 = .ok (.iaload, 1) := by decide +kernel
theorem d_law_253 : decode code 253 = .ok (.aload_n 0, 1) := by decide +kernel
theorem d_law_254 : decode code 254 = .ok (.iload_n 3, 1) := by decide +kernel
theorem d_law_255 : decode code 255 = .ok (.iconst 2, 1) := by decide +kernel
theorem d_law_256 : decode code 256 = .ok (.iadd, 1) := by decide +kernel
theorem d_law_257 : decode code 257 = .ok (.iaload, 1) := by decide +kernel
theorem d_law_258 : decode code 258 = .ok (.invokevirtual 22, 3) := by decide +kernel
theorem d_law_261 : decode code 261 = .ok (.if_icmp .eq 1222, 3) := by decide +kernel
theorem d_law_264 : decode code 264 = .ok (.iconst 0, 1) := by decide +kernel
theorem d_law_265 : decode code 265 = .ok (.ireturn, 1) := by decide +kernel
theorem d_law_266 : decode code 266 = .ok (.aload_n 1, 1) := by decide +kernel
theorem d_law_267 : decode code 267 = .ok (.aload_n 0, 1) := by decide +kernel
theorem d_law_268 : decode code 268 = .ok (.iload_n 3, 1) := by decide +kernel
theorem d_law_269 : decode code 269 = .ok (.iconst 1, 1) := by decide +kernel
theorem d_law_270 : decode code 270 = .ok (.iadd, 1) := by decide +kernel
theorem d_law_271 : decode code 271 = .ok (.iaload, 1) := by decide +kernel
theorem d_law_272 : decode code 272 = .ok (.aload_n 0, 1) := by decide +kernel
theorem d_law_273 : decode code 273 = .ok (.iload_n 3, 1) := by decide +kernel
theorem d_law_274 : decode code 274 = .ok (.iconst 2, 1) := by decide +kernel
theorem d_law_275 : decode code 275 = .ok (.iadd, 1) := by decide +kernel
theorem d_law_276 : decode code 276 = .ok (.iaload, 1) := by decide +kernel
theorem d_law_277 : decode code 277 = .ok (.aload_n 0, 1) := by decide +kernel
theorem d_law_278 : decode code 278 = .ok (.iload_n 3, 1) := by decide +kernel
theorem d_law_279 : decode code 279 = .ok (.iconst 3, 1) := by decide +kernel
theorem d_law_280 : decode code 280 = .ok (.iadd, 1) := by decide +kernel
theorem d_law_281 : decode code 281 = .ok (.iaload, 1) := by decide +kernel
theorem d_law_282 : decode code 282 = .ok (.aload_n 0, 1) := by decide +kernel
theorem d_law_283 : decode code 283 = .ok (.iload_n 3, 1) := by decide +kernel
theorem d_law_284 : decode code 284 = .ok (.iconst 4, 1) := by decide +kernel
theorem d_law_285 : decode code 285 = .ok (.iadd, 1) := by decide +kernel
theorem d_law_286 : decode code 286 = .ok (.iaload, 1) := by decide +kernel
theorem d_law_287 : decode code 287 = .ok (.invokevirtual 23, 3) := by decide +kernel
theorem d_law_290 : decode code 290 = .ok (.aload_n 2, 1) := by decide +kernel
theorem d_law_291 : decode code 291 = .ok (.aload_n 0, 1) := by decide +kernel
theorem d_law_292 : decode code 292 = .ok (.iload_n 3, 1) := by decide +kernel
theorem d_law_293 : decode code 293 = .ok (.iconst 1, 1) := by decide +kernel
theorem d_law_294 : decode code 294 = .ok (.iadd, 1) := by decide +kernel
theorem d_law_295 : decode code 295 = .ok (.iaload, 1) := by decide +kernel
theorem d_law_296 : decode code 296 = .ok (.aload_n 0, 1) := by decide +kernel
theorem d_law_297 : decode code 297 = .ok (.iload_n 3, 1) := by decide +kernel
theorem d_law_298 : decode code 298 = .ok (.iconst 2, 1) := by decide +kernel
theorem d_law_299 : decode code 299 = .ok (.iadd, 1) := by decide +kernel
theorem d_law_300 : decode code 300 = .ok (.iaload, 1) := by decide +kernel
theorem d_law_301 : decode code 301 = .ok (.aload_n 0, 1) := by decide +kernel
theorem d_law_302 : decode code 302 = .ok (.iload_n 3, 1) := by decide +kernel
theorem d_law_303 : decode code 303 = .ok (.iconst 3, 1) := by decide +kernel
theorem d_law_304 : decode code 304 = .ok (.iadd, 1) := by decide +kernel
theorem d_law_305 : decode code 305 = .ok (.iaload, 1) := by decide +kernel
theorem d_law_306 : decode code 306 = .ok (.aload_n 0, 1) := by decide +kernel
theorem d_law_307 : decode code 307 = .ok (.iload_n 3, 1) := by decide +kernel
theorem d_law_308 : decode code 308 = .ok (.iconst 4, 1) := by decide +kernel
theorem d_law_309 : decode code 309 = .ok (.iadd, 1) := by decide +kernel
theorem d_law_310 : decode code 310 = .ok (.iaload, 1) := by decide +kernel
theorem d_law_311 : decode code 311 = .ok (.invokevirtual 27, 3) := by decide +kernel
theorem d_law_314 : decode code 314 = .ok (.if_icmp .eq 1169, 3) := by decide +kernel
theorem d_law_317 : decode code 317 = .ok (.iconst 0, 1) := by decide +kernel
theorem d_law_318 : decode code 318 = .ok (.ireturn, 1) := by decide +kernel
theorem d_law_319 : decode code 319 = .ok (.aload_n 1, 1) := by decide +kernel
theorem d_law_320 : decode code 320 = .ok (.aload_n 0, 1) := by decide +kernel
theorem d_law_321 : decode code 321 = .ok (.iload_n 3, 1) := by decide +kernel
theorem d_law_322 : decode code 322 = .ok (.iconst 1, 1) := by decide +kernel
theorem d_law_323 : decode code 323 = .ok (.iadd, 1) := by decide +kernel
theorem d_law_324 : decode code 324 = .ok (.iaload, 1) := by decide +kernel
theorem d_law_325 : decode code 325 = .ok (.invokevirtual 28, 3) := by decide +kernel
theorem d_law_328 : decode code 328 = .ok (.aload_n 2, 1) := by decide +kernel
theorem d_law_329 : decode code 329 = .ok (.aload_n 0, 1) := by decide +kernel
theorem d_law_330 : decode code 330 = .ok (.iload_n 3, 1) := by decide +kernel
theorem d_law_331 : decode code 331 = .ok (.iconst 1, 1) := by decide +kernel
theorem d_law_332 : decode code 332 = .ok (.iadd, 1) := by decide +kernel
theorem d_law_333 : decode code 333 = .ok (.iaload, 1) := by decide +kernel
theorem d_law_334 : decode code 334 = .ok (.invokevirtual 32, 3) := by decide +kernel
theorem d_law_337 : decode code 337 = .ok (.if_icmp .eq 1146, 3) := by decide +kernel
theorem d_law_340 : decode code 340 = .ok (.iconst 0, 1) := by decide +kernel
theorem d_law_341 : decode code 341 = .ok (.ireturn, 1) := by decide +kernel
theorem d_law_342 : decode code 342 = .ok (.aload_n 1, 1) := by decide +kernel
theorem d_law_343 : decode code 343 = .ok (.aload_n 0, 1) := by decide +kernel
theorem d_law_344 : decode code 344 = .ok (.iload_n 3, 1) := by decide +kernel
theorem d_law_345 : decode code 345 = .ok (.iconst 1, 1) := by decide +kernel
theorem d_law_346 : decode code 346 = .ok (.iadd, 1) := by decide +kernel
theorem d_law_347 : decode code 347 = .ok (.iaload, 1) := by decide +kernel
theorem d_law_348 : decode code 348 = .ok (.aload_n 0, 1) := by decide +kernel
theorem d_law_349 : decode code 349 = .ok (.iload_n 3, 1) := by decide +kernel
theorem d_law_350 : decode code 350 = .ok (.iconst 2, 1) := by decide +kernel
theorem d_law_351 : decode code 351 = .ok (.iadd, 1) := by decide +kernel
theorem d_law_352 : decode code 352 = .ok (.iaload, 1) := by decide +kernel
theorem d_law_353 : decode code 353 = .ok (.invokevirtual 33, 3) := by decide +kernel
theorem d_law_356 : decode code 356 = .ok (.aload_n 2, 1) := by decide +kernel
theorem d_law_357 : decode code 357 = .ok (.aload_n 0, 1) := by decide +kernel
theorem d_law_358 : decode code 358 = .ok (.iload_n 3, 1) := by decide +kernel
theorem d_law_359 : decode code 359 = .ok (.iconst 1, 1) := by decide +kernel
theorem d_law_360 : decode code 360 = .ok (.iadd, 1) := by decide +kernel
theorem d_law_361 : decode code 361 = .ok (.iaload, 1) := by decide +kernel
theorem d_law_362 : decode code 362 = .ok (.aload_n 0, 1) := by decide +kernel
theorem d_law_363 : decode code 363 = .ok (.iload_n 3, 1) := by decide +kernel
theorem d_law_364 : decode code 364 = .ok (.iconst 2, 1) := by decide +kernel
theorem d_law_365 : decode code 365 = .ok (.iadd, 1) := by decide +kernel
theorem d_law_366 : decode code 366 = .ok (.iaload, 1) := by decide +kernel
theorem d_law_367 : decode code 367 = .ok (.invokevirtual 36, 3) := by decide +kernel
theorem d_law_370 : decode code 370 = .ok (.if_icmp .eq 1113, 3) := by decide +kernel
theorem d_law_373 : decode code 373 = .ok (.iconst 0, 1) := by decide +kernel
theorem d_law_374 : decode code 374 = .ok (.ireturn, 1) := by decide +kernel
theorem d_law_375 : decode code 375 = .ok (.aload_n 1, 1) := by decide +kernel
theorem d_law_376 : decode code 376 = .ok (.aload_n 0, 1) := by decide +kernel
theorem d_law_377 : decode code 377 = .ok (.iload_n 3, 1) := by decide +kernel
theorem d_law_378 : decode code 378 = .ok (.iconst 1, 1) := by decide +kernel
theorem d_law_379 : decode code 379 = .ok (.iadd, 1) := by decide +kernel
theorem d_law_380 : decode code 380 = .ok (.iaload, 1) := by decide +kernel
theorem d_law_381 : decode code 381 = .ok (.invokevirtual 37, 3) := by decide +kernel
theorem d_law_384 : decode code 384 = .ok (.aload_n 2, 1) := by decide +kernel
theorem d_law_385 : decode code 385 = .ok (.aload_n 0, 1) := by decide +kernel
theorem d_law_386 : decode code 386 = .ok (.iload_n 3, 1) := by decide +kernel
theorem d_law_387 : decode code 387 = .ok (.iconst 1, 1) := by decide +kernel
theorem d_law_388 : decode code 388 = .ok (.iadd, 1) := by decide +kernel
theorem d_law_389 : decode code 389 = .ok (.iaload, 1) := by decide +kernel
theorem d_law_390 : decode code 390 = .ok (.invokevirtual 40, 3) := by decide +kernel
theorem d_law_393 : decode code 393 = .ok (.if_icmp .eq 1090, 3) := by decide +kernel
theorem d_law_396 : decode code 396 = .ok (.iconst 0, 1) := by decide +kernel
theorem d_law_397 : decode code 397 = .ok (.ireturn, 1) := by decide +kernel
theorem d_law_398 : decode code 398 = .ok (.aload_n 1, 1) := by decide +kernel
theorem d_law_399 : decode code 399 = .ok (.invokevirtual 41, 3) := by decide +kernel
theorem d_law_402 : decode code 402 = .ok (.aload_n 2, 1) := by decide +kernel
theorem d_law_403 : decode code 403 = .ok (.invokevirtual 44, 3) := by decide +kernel
theorem d_law_406 : decode code 406 = .ok (.if_icmp .eq 1077, 3) := by decide +kernel
theorem d_law_409 : decode code 409 = .ok (.iconst 0, 1) := by decide +kernel
theorem d_law_410 : decode code 410 = .ok (.ireturn, 1) := by decide +kernel
theorem d_law_411 : decode code 411 = .ok (.aload_n 1, 1) := by decide +kernel
theorem d_law_412 : decode code 412 = .ok (.invokevirtual 45, 3) := by decide +kernel
theorem d_law_415 : decode code 415 = .ok (.aload_n 2, 1) := by decide +kernel
theorem d_law_416 : decode code 416 = .ok (.invokevirtual 48, 3) := by decide +kernel
theorem d_law_419 : decode code 419 = .ok (.if_icmp .eq 1064, 3) := by decide +kernel
theorem d_law_422 : decode code 422 = .ok (.iconst 0, 1) := by decide +kernel
theorem d_law_423 : decode code 423 = .ok (.ireturn, 1) := by decide +kernel
theorem d_law_424 : decode code 424 = .ok (.aload_n 1, 1) := by decide +kernel
theorem d_law_425 : decode code 425 = .ok (.aload_n 0, 1) := by decide +kernel
theorem d_law_426 : decode code 426 = .ok (.iload_n 3, 1) := by decide +kernel
theorem d_law_427 : decode code 427 = .ok (.iconst 1, 1) := by decide +kernel
theorem d_law_428 : decode code 428 = .ok (.iadd, 1) := by decide +kernel
theorem d_law_429 : decode code 429 = .ok (.iaload, 1) := by decide +kernel
theorem d_law_430 : decode code 430 = .ok (.invokevirtual 49, 3) := by decide +kernel
theorem d_law_433 : decode code 433 = .ok (.aload_n 2, 1) := by decide +kernel
theorem d_law_434 : decode code 434 = .ok (.aload_n 0, 1) := by decide +kernel
theorem d_law_435 : decode code 435 = .ok (.iload_n 3, 1) := by decide +kernel
theorem d_law_436 : decode code 436 = .ok (.iconst 1, 1) := by decide +kernel
theorem d_law_437 : decode code 437 = .ok (.iadd, 1) := by decide +kernel
theorem d_law_438 : decode code 438 = .ok (.iaload, 1) := by decide +kernel
theorem d_law_439 : decode code 439 = .ok (.invokevirtual 52, 3) := by decide +kernel
theorem d_law_442 : decode code 442 = .ok (.if_icmp .eq 1041, 3) := by decide +kernel
theorem d_law_445 : decode code 445 = .ok (.iconst 0, 1) := by decide +kernel
theorem d_law_446 : decode code 446 = .ok (.ireturn, 1) := by decide +kernel
theorem d_law_447 : decode code 447 = .ok (.aload_n 1, 1) := by decide +kernel
theorem d_law_448 : decode code 448 = .ok (.aload_n 0, 1) := by decide +kernel
theorem d_law_449 : decode code 449 = .ok (.iload_n 3, 1) := by decide +kernel
theorem d_law_450 : decode code 450 = .ok (.iconst 1, 1) := by decide +kernel
theorem d_law_451 : decode code 451 = .ok (.iadd, 1) := by decide +kernel
theorem d_law_452 : decode code 452 = .ok (.iaload, 1) := by decide +kernel
theorem d_law_453 : decode code 453 = .ok (.aload_n 0, 1) := by decide +kernel
theorem d_law_454 : decode code 454 = .ok (.iload_n 3, 1) := by decide +kernel
theorem d_law_455 : decode code 455 = .ok (.iconst 2, 1) := by decide +kernel
theorem d_law_456 : decode code 456 = .ok (.iadd, 1) := by decide +kernel
theorem d_law_457 : decode code 457 = .ok (.iaload, 1) := by decide +kernel
theorem d_law_458 : decode code 458 = .ok (.invokevirtual 53, 3) := by decide +kernel
theorem d_law_461 : decode code 461 = .ok (.aload_n 2, 1) := by decide +kernel
theorem d_law_462 : decode code 462 = .ok (.aload_n 0, 1) := by decide +kernel
theorem d_law_463 : decode code 463 = .ok (.iload_n 3, 1) := by decide +kernel
theorem d_law_464 : decode code 464 = .ok (.iconst 1, 1) := by decide +kernel
theorem d_law_465 : decode code 465 = .ok (.iadd, 1) := by decide +kernel
theorem d_law_466 : decode code 466 = .ok (.iaload, 1) := by decide +kernel
theorem d_law_467 : decode code 467 = .ok (.aload_n 0, 1) := by decide +kernel
theorem d_law_468 : decode code 468 = .ok (.iload_n 3, 1) := by decide +kernel
theorem d_law_469 : decode code 469 = .ok (.iconst 2, 1) := by decide +kernel
theorem d_law_470 : decode code 470 = .ok (.iadd, 1) := by decide +kernel
theorem d_law_471 : decode code 471 = .ok (.iaload, 1) := by decide +kernel
theorem d_law_472 : decode code 472 = .ok (.invokevirtual 56, 3) := by decide +kernel
theorem d_law_475 : decode code 475 = .ok (.if_icmp .eq 1008, 3) := by decide +kernel
theorem d_law_478 : decode code 478 = .ok (.iconst 0, 1) := by decide +kernel
theorem d_law_479 : decode code 479 = .ok (.ireturn, 1) := by decide +kernel
theorem d_law_480 : decode code 480 = .ok (.aload_n 1, 1) := by decide +kernel
theorem d_law_481 : decode code 481 = .ok (.aload_n 0, 1) := by decide +kernel
theorem d_law_482 : decode code 482 = .ok (.iload_n 3, 1) := by decide +kernel
theorem d_law_483 : decode code 483 = .ok (.iconst 1, 1) := by decide +kernel
theorem d_law_484 : decode code 484 = .ok (.iadd, 1) := by decide +kernel
theorem d_law_485 : decode code 485 = .ok (.iaload, 1) := by decide +kernel
theorem d_law_486 : decode code 486 = .ok (.invokevirtual 57, 3) := by decide +kernel
theorem d_law_489 : decode code 489 = .ok (.aload_n 2, 1) := by decide +kernel
theorem d_law_490 : decode code 490 = .ok (.aload_n 0, 1) := by decide +kernel
theorem d_law_491 : decode code 491 = .ok (.iload_n 3, 1) := by decide +kernel
theorem d_law_492 : decode code 492 = .ok (.iconst 1, 1) := by decide +kernel
theorem d_law_493 : decode code 493 = .ok (.iadd, 1) := by decide +kernel
theorem d_law_494 : decode code 494 = .ok (.iaload, 1) := by decide +kernel
theorem d_law_495 : decode code 495 = .ok (.invokevirtual 60, 3) := by decide +kernel
theorem d_law_498 : decode code 498 = .ok (.if_icmp .eq 985, 3) := by decide +kernel
theorem d_law_501 : decode code 501 = .ok (.iconst 0, 1) := by decide +kernel
theorem d_law_502 : decode code 502 = .ok (.ireturn, 1) := by decide +kernel
theorem d_law_503 : decode code 503 = .ok (.aload_n 1, 1) := by decide +kernel
theorem d_law_504 : decode code 504 = .ok (.aload_n 0, 1) := by decide +kernel
theorem d_law_505 : decode code 505 = .ok (.iload_n 3, 1) := by decide +kernel
theorem d_law_506 : decode code 506 = .ok (.iconst 1, 1) := by decide +kernel
theorem d_law_507 : decode code 507 = .ok (.iadd, 1) := by decide +kernel
theorem d_law_508 : decode code 508 = .ok (.iaload, 1) := by decide +kernel
theorem d_law_509 : decode code 509 = .ok (.aload_n 0, 1) := by decide +kernel
theorem d_law_510 : decode code 510 = .ok (.iload_n 3, 1) := by decide +kernel
theorem d_law_511 : decode code 511 = .ok (.iconst 2, 1) := by decide +kernel
theorem d_law_512 : decode code 512 = .ok (.iadd, 1) := by decide +kernel
theorem d_law_513 : decode code 513 = .ok (.iaload, 1) := by decide +kernel
theorem d_law_514 : decode code 514 = .ok (.invokevirtual 61, 3) := by decide +kernel
theorem d_law_517 : decode code 517 = .ok (.aload_n 2, 1) := by decide +kernel
theorem d_law_518 : decode code 518 = .ok (.aload_n 0, 1) := by decide +kernel
theorem d_law_519 : decode code 519 = .ok (.iload_n 3, 1) := by decide +kernel
theorem d_law_520 : decode code 520 = .ok (.iconst 1, 1) := by decide +kernel
theorem d_law_521 : decode code 521 = .ok (.iadd, 1) := by decide +kernel
theorem d_law_522 : decode code 522 = .ok (.iaload, 1) := by decide +kernel
theorem d_law_523 : decode code 523 = .ok (.aload_n 0, 1) := by decide +kernel
theorem d_law_524 : decode code 524 = .ok (.iload_n 3, 1) := by decide +kernel
theorem d_law_525 : decode code 525 = .ok (.iconst 2, 1) := by decide +kernel
theorem d_law_526 : decode code 526 = .ok (.iadd, 1) := by decide +kernel
theorem d_law_527 : decode code 527 = .ok (.iaload, 1) := by decide +kernel
theorem d_law_528 : decode code 528 = .ok (.invokevirtual 64, 3) := by decide +kernel
theorem d_law_531 : decode code 531 = .ok (.if_icmp .eq 952, 3) := by decide +kernel
theorem d_law_534 : decode code 534 = .ok (.iconst 0, 1) := by decide +kernel
theorem d_law_535 : decode code 535 = .ok (.ireturn, 1) := by decide +kernel
theorem d_law_536 : decode code 536 = .ok (.aload_n 1, 1) := by decide +kernel
theorem d_law_537 : decode code 537 = .ok (.invokevirtual 65, 3) := by decide +kernel
theorem d_law_540 : decode code 540 = .ok (.aload_n 2, 1) := by decide +kernel
theorem d_law_541 : decode code 541 = .ok (.invokevirtual 68, 3) := by decide +kernel
theorem d_law_544 : decode code 544 = .ok (.if_icmp .eq 939, 3) := by decide +kernel
theorem d_law_547 : decode code 547 = .ok (.iconst 0, 1) := by decide +kernel
theorem d_law_548 : decode code 548 = .ok (.ireturn, 1) := by decide +kernel
theorem d_law_549 : decode code 549 = .ok (.aload_n 1, 1) := by decide +kernel
theorem d_law_550 : decode code 550 = .ok (.aload_n 0, 1) := by decide +kernel
theorem d_law_551 : decode code 551 = .ok (.iload_n 3, 1) := by decide +kernel
theorem d_law_552 : decode code 552 = .ok (.iconst 1, 1) := by decide +kernel
theorem d_law_553 : decode code 553 = .ok (.iadd, 1) := by decide +kernel
theorem d_law_554 : decode code 554 = .ok (.iaload, 1) := by decide +kernel
theorem d_law_555 : decode code 555 = .ok (.aload_n 0, 1) := by decide +kernel
theorem d_law_556 : decode code 556 = .ok (.iload_n 3, 1) := by decide +kernel
theorem d_law_557 : decode code 557 = .ok (.iconst 2, 1) := by decide +kernel
theorem d_law_558 : decode code 558 = .ok (.iadd, 1) := by decide +kernel
theorem d_law_559 : decode code 559 = .ok (.iaload, 1) := by decide +kernel
theorem d_law_560 : decode code 560 = .ok (.invokevirtual 69, 3) := by decide +kernel
theorem d_law_563 : decode code 563 = .ok (.aload_n 2, 1) := by decide +kernel
theorem d_law_564 : decode code 564 = .ok (.aload_n 0, 1) := by decide +kernel
theorem d_law_565 : decode code 565 = .ok (.iload_n 3, 1) := by decide +kernel
theorem d_law_566 : decode code 566 = .ok (.iconst 1, 1) := by decide +kernel
theorem d_law_567 : decode code 567 = .ok (.iadd, 1) := by decide +kernel
theorem d_law_568 : decode code 568 = .ok (.iaload, 1) := by decide +kernel
theorem d_law_569 : decode code 569 = .ok (.aload_n 0, 1) := by decide +kernel
theorem d_law_570 : decode code 570 = .ok (.iload_n 3, 1) := by decide +kernel
theorem d_law_571 : decode code 571 = .ok (.iconst 2, 1) := by decide +kernel
theorem d_law_572 : decode code 572 = .ok (.iadd, 1) := by decide +kernel
theorem d_law_573 : decode code 573 = .ok (.iaload, 1) := by decide +kernel
theorem d_law_574 : decode code 574 = .ok (.invokevirtual 72, 3) := by decide +kernel
theorem d_law_577 : decode code 577 = .ok (.if_icmp .eq 906, 3) := by decide +kernel
theorem d_law_580 : decode code 580 = .ok (.iconst 0, 1) := by decide +kernel
theorem d_law_581 : decode code 581 = .ok (.ireturn, 1) := by decide +kernel
theorem d_law_582 : decode code 582 = .ok (.aload_n 1, 1) := by decide +kernel
theorem d_law_583 : decode code 583 = .ok (.aload_n 0, 1) := by decide +kernel
theorem d_law_584 : decode code 584 = .ok (.iload_n 3, 1) := by decide +kernel
theorem d_law_585 : decode code 585 = .ok (.iconst 1, 1) := by decide +kernel
theorem d_law_586 : decode code 586 = .ok (.iadd, 1) := by decide +kernel
theorem d_law_587 : decode code 587 = .ok (.iaload, 1) := by decide +kernel
theorem d_law_588 : decode code 588 = .ok (.aload_n 0, 1) := by decide +kernel
theorem d_law_589 : decode code 589 = .ok (.iload_n 3, 1) := by decide +kernel
theorem d_law_590 : decode code 590 = .ok (.iconst 2, 1) := by decide +kernel
theorem d_law_591 : decode code 591 = .ok (.iadd, 1) := by decide +kernel
theorem d_law_592 : decode code 592 = .ok (.iaload, 1) := by decide +kernel
theorem d_law_593 : decode code 593 = .ok (.invokevirtual 73, 3) := by decide +kernel
theorem d_law_596 : decode code 596 = .ok (.aload_n 2, 1) := by decide +kernel
theorem d_law_597 : decode code 597 = .ok (.aload_n 0, 1) := by decide +kernel
theorem d_law_598 : decode code 598 = .ok (.iload_n 3, 1) := by decide +kernel
theorem d_law_599 : decode code 599 = .ok (.iconst 1, 1) := by decide +kernel
theorem d_law_600 : decode code 600 = .ok (.iadd, 1) := by decide +kernel
theorem d_law_601 : decode code 601 = .ok (.iaload, 1) := by decide +kernel
theorem d_law_602 : decode code 602 = .ok (.aload_n 0, 1) := by decide +kernel
theorem d_law_603 : decode code 603 = .ok (.iload_n 3, 1) := by decide +kernel
theorem d_law_604 : decode code 604 = .ok (.iconst 2, 1) := by decide +kernel
theorem d_law_605 : decode code 605 = .ok (.iadd, 1) := by decide +kernel
theorem d_law_606 : decode code 606 = .ok (.iaload, 1) := by decide +kernel
theorem d_law_607 : decode code 607 = .ok (.invokevirtual 76, 3) := by decide +kernel
theorem d_law_610 : decode code 610 = .ok (.if_icmp .eq 873, 3) := by decide +kernel
theorem d_law_613 : decode code 613 = .ok (.iconst 0, 1) := by decide +kernel
theorem d_law_614 : decode code 614 = .ok (.ireturn, 1) := by decide +kernel
theorem d_law_615 : decode code 615 = .ok (.aload_n 1, 1) := by decide +kernel
theorem d_law_616 : decode code 616 = .ok (.aload_n 0, 1) := by decide +kernel
theorem d_law_617 : decode code 617 = .ok (.iload_n 3, 1) := by decide +kernel
theorem d_law_618 : decode code 618 = .ok (.iconst 1, 1) := by decide +kernel
theorem d_law_619 : decode code 619 = .ok (.iadd, 1) := by decide +kernel
theorem d_law_620 : decode code 620 = .ok (.iaload, 1) := by decide +kernel
theorem d_law_621 : decode code 621 = .ok (.aload_n 0, 1) := by decide +kernel
theorem d_law_622 : decode code 622 = .ok (.iload_n 3, 1) := by decide +kernel
theorem d_law_623 : decode code 623 = .ok (.iconst 2, 1) := by decide +kernel
theorem d_law_624 : decode code 624 = .ok (.iadd, 1) := by decide +kernel
theorem d_law_625 : decode code 625 = .ok (.iaload, 1) := by decide +kernel
theorem d_law_626 : decode code 626 = .ok (.invokevirtual 77, 3) := by decide +kernel
theorem d_law_629 : decode code 629 = .ok (.aload_n 2, 1) := by decide +kernel
theorem d_law_630 : decode code 630 = .ok (.aload_n 0, 1) := by decide +kernel
theorem d_law_631 : decode code 631 = .ok (.iload_n 3, 1) := by decide +kernel
theorem d_law_632 : decode code 632 = .ok (.iconst 1, 1) := by decide +kernel
theorem d_law_633 : decode code 633 = .ok (.iadd, 1) := by decide +kernel
theorem d_law_634 : decode code 634 = .ok (.iaload, 1) := by decide +kernel
theorem d_law_635 : decode code 635 = .ok (.aload_n 0, 1) := by decide +kernel
theorem d_law_636 : decode code 636 = .ok (.iload_n 3, 1) := by decide +kernel
theorem d_law_637 : decode code 637 = .ok (.iconst 2, 1) := by decide +kernel
theorem d_law_638 : decode code 638 = .ok (.iadd, 1) := by decide +kernel
theorem d_law_639 : decode code 639 = .ok (.iaload, 1) := by decide +kernel
theorem d_law_640 : decode code 640 = .ok (.invokevirtual 80, 3) := by decide +kernel
theorem d_law_643 : decode code 643 = .ok (.if_icmp .eq 840, 3) := by decide +kernel
theorem d_law_646 : decode code 646 = .ok (.iconst 0, 1) := by decide +kernel
theorem d_law_647 : decode code 647 = .ok (.ireturn, 1) := by decide +kernel
theorem d_law_648 : decode code 648 = .ok (.aload_n 1, 1) := by decide +kernel
theorem d_law_649 : decode code 649 = .ok (.aload_n 0, 1) := by decide +kernel
theorem d_law_650 : decode code 650 = .ok (.iload_n 3, 1) := by decide +kernel
theorem d_law_651 : decode code 651 = .ok (.iconst 1, 1) := by decide +kernel
theorem d_law_652 : decode code 652 = .ok (.iadd, 1) := by decide +kernel
theorem d_law_653 : decode code 653 = .ok (.iaload, 1) := by decide +kernel
theorem d_law_654 : decode code 654 = .ok (.aload_n 0, 1) := by decide +kernel
theorem d_law_655 : decode code 655 = .ok (.iload_n 3, 1) := by decide +kernel
theorem d_law_656 : decode code 656 = .ok (.iconst 2, 1) := by decide +kernel
theorem d_law_657 : decode code 657 = .ok (.iadd, 1) := by decide +kernel
theorem d_law_658 : decode code 658 = .ok (.iaload, 1) := by decide +kernel
theorem d_law_659 : decode code 659 = .ok (.invokevirtual 81, 3) := by decide +kernel
theorem d_law_662 : decode code 662 = .ok (.aload_n 2, 1) := by decide +kernel
theorem d_law_663 : decode code 663 = .ok (.aload_n 0, 1) := by decide +kernel
theorem d_law_664 : decode code 664 = .ok (.iload_n 3, 1) := by decide +kernel
theorem d_law_665 : decode code 665 = .ok (.iconst 1, 1) := by decide +kernel
theorem d_law_666 : decode code 666 = .ok (.iadd, 1) := by decide +kernel
theorem d_law_667 : decode code 667 = .ok (.iaload, 1) := by decide +kernel
theorem d_law_668 : decode code 668 = .ok (.aload_n 0, 1) := by decide +kernel
theorem d_law_669 : decode code 669 = .ok (.iload_n 3, 1) := by decide +kernel
theorem d_law_670 : decode code 670 = .ok (.iconst 2, 1) := by decide +kernel
theorem d_law_671 : decode code 671 = .ok (.iadd, 1) := by decide +kernel
theorem d_law_672 : decode code 672 = .ok (.iaload, 1) := by decide +kernel
theorem d_law_673 : decode code 673 = .ok (.invokevirtual 84, 3) := by decide +kernel
theorem d_law_676 : decode code 676 = .ok (.if_icmp .eq 807, 3) := by decide +kernel
theorem d_law_679 : decode code 679 = .ok (.iconst 0, 1) := by decide +kernel
theorem d_law_680 : decode code 680 = .ok (.ireturn, 1) := by decide +kernel
theorem d_law_681 : decode code 681 = .ok (.aload_n 1, 1) := by decide +kernel
theorem d_law_682 : decode code 682 = .ok (.aload_n 0, 1) := by decide +kernel
theorem d_law_683 : decode code 683 = .ok (.iload_n 3, 1) := by decide +kernel
theorem d_law_684 : decode code 684 = .ok (.iconst 1, 1) := by decide +kernel
theorem d_law_685 : decode code 685 = .ok (.iadd, 1) := by decide +kernel
theorem d_law_686 : decode code 686 = .ok (.iaload, 1) := by decide +kernel
theorem d_law_687 : decode code 687 = .ok (.aload_n 0, 1) := by decide +kernel
theorem d_law_688 : decode code 688 = .ok (.iload_n 3, 1) := by decide +kernel
theorem d_law_689 : decode code 689 = .ok (.iconst 2, 1) := by decide +kernel
theorem d_law_690 : decode code 690 = .ok (.iadd, 1) := by decide +kernel
theorem d_law_691 : decode code 691 = .ok (.iaload, 1) := by decide +kernel
theorem d_law_692 : decode code 692 = .ok (.aload_n 0, 1) := by decide +kernel
theorem d_law_693 : decode code 693 = .ok (.iload_n 3, 1) := by decide +kernel
theorem d_law_694 : decode code 694 = .ok (.iconst 3, 1) := by decide +kernel
theorem d_law_695 : decode code 695 = .ok (.iadd, 1) := by decide +kernel
theorem d_law_696 : decode code 696 = .ok (.iaload, 1) := by decide +kernel
theorem d_law_697 : decode code 697 = .ok (.invokevirtual 85, 3) := by decide +kernel
theorem d_law_700 : decode code 700 = .ok (.aload_n 2, 1) := by decide +kernel
theorem d_law_701 : decode code 701 = .ok (.aload_n 0, 1) := by decide +kernel
theorem d_law_702 : decode code 702 = .ok (.iload_n 3, 1) := by decide +kernel
theorem d_law_703 : decode code 703 = .ok (.iconst 1, 1) := by decide +kernel
theorem d_law_704 : decode code 704 = .ok (.iadd, 1) := by decide +kernel
theorem d_law_705 : decode code 705 = .ok (.iaload, 1) := by decide +kernel
theorem d_law_706 : decode code 706 = .ok (.aload_n 0, 1) := by decide +kernel
theorem d_law_707 : decode code 707 = .ok (.iload_n 3, 1) := by decide +kernel
theorem d_law_708 : decode code 708 = .ok (.iconst 2, 1) := by decide +kernel
theorem d_law_709 : decode code 709 = .ok (.iadd, 1) := by decide +kernel
theorem d_law_710 : decode code 710 = .ok (.iaload, 1) := by decide +kernel
theorem d_law_711 : decode code 711 = .ok (.aload_n 0, 1) := by decide +kernel
theorem d_law_712 : decode code 712 = .ok (.iload_n 3, 1) := by decide +kernel
theorem d_law_713 : decode code 713 = .ok (.iconst 3, 1) := by decide +kernel
theorem d_law_714 : decode code 714 = .ok (.iadd, 1) := by decide +kernel
theorem d_law_715 : decode code 715 = .ok (.iaload, 1) := by decide +kernel
theorem d_law_716 : decode code 716 = .ok (.invokevirtual 89, 3) := by decide +kernel
theorem d_law_719 : decode code 719 = .ok (.if_icmp .eq 764, 3) := by decide +kernel
theorem d_law_722 : decode code 722 = .ok (.iconst 0, 1) := by decide +kernel
theorem d_law_723 : decode code 723 = .ok (.ireturn, 1) := by decide +kernel
theorem d_law_724 : decode code 724 = .ok (.aload_n 1, 1) := by decide +kernel
theorem d_law_725 : decode code 725 = .ok (.aload_n 0, 1) := by decide +kernel
theorem d_law_726 : decode code 726 = .ok (.iload_n 3, 1) := by decide +kernel
theorem d_law_727 : decode code 727 = .ok (.iconst 1, 1) := by decide +kernel
theorem d_law_728 : decode code 728 = .ok (.iadd, 1) := by decide +kernel
theorem d_law_729 : decode code 729 = .ok (.iaload, 1) := by decide +kernel
theorem d_law_730 : decode code 730 = .ok (.aload_n 0, 1) := by decide +kernel
theorem d_law_731 : decode code 731 = .ok (.iload_n 3, 1) := by decide +kernel
theorem d_law_732 : decode code 732 = .ok (.iconst 2, 1) := by decide +kernel
theorem d_law_733 : decode code 733 = .ok (.iadd, 1) := by decide +kernel
theorem d_law_734 : decode code 734 = .ok (.iaload, 1) := by decide +kernel
theorem d_law_735 : decode code 735 = .ok (.aload_n 0, 1) := by decide +kernel
theorem d_law_736 : decode code 736 = .ok (.iload_n 3, 1) := by decide +kernel
theorem d_law_737 : decode code 737 = .ok (.iconst 3, 1) := by decide +kernel
theorem d_law_738 : decode code 738 = .ok (.iadd, 1) := by decide +kernel
theorem d_law_739 : decode code 739 = .ok (.iaload, 1) := by decide +kernel
theorem d_law_740 : decode code 740 = .ok (.invokevirtual 90, 3) := by decide +kernel
theorem d_law_743 : decode code 743 = .ok (.aload_n 2, 1) := by decide +kernel
theorem d_law_744 : decode code 744 = .ok (.aload_n 0, 1) := by decide +kernel
theorem d_law_745 : decode code 745 = .ok (.iload_n 3, 1) := by decide +kernel
theorem d_law_746 : decode code 746 = .ok (.iconst 1, 1) := by decide +kernel
theorem d_law_747 : decode code 747 = .ok (.iadd, 1) := by decide +kernel
theorem d_law_748 : decode code 748 = .ok (.iaload, 1) := by decide +kernel
theorem d_law_749 : decode code 749 = .ok (.aload_n 0, 1) := by decide +kernel
theorem d_law_750 : decode code 750 = .ok (.iload_n 3, 1) := by decide +kernel
theorem d_law_751 : decode code 751 = .ok (.iconst 2, 1) := by decide +kernel
theorem d_law_752 : decode code 752 = .ok (.iadd, 1) := by decide +kernel
theorem d_law_753 : decode code 753 = .ok (.iaload, 1) := by decide +kernel
theorem d_law_754 : decode code 754 = .ok (.aload_n 0, 1) := by decide +kernel
theorem d_law_755 : decode code 755 = .ok (.iload_n 3, 1) := by decide +kernel
theorem d_law_756 : decode code 756 = .ok (.iconst 3, 1) := by decide +kernel
theorem d_law_757 : decode code 757 = .ok (.iadd, 1) := by decide +kernel
theorem d_law_758 : decode code 758 = .ok (.iaload, 1) := by decide +kernel
theorem d_law_759 : decode code 759 = .ok (.invokevirtual 93, 3) := by decide +kernel
theorem d_law_762 : decode code 762 = .ok (.if_icmp .eq 721, 3) := by decide +kernel
theorem d_law_765 : decode code 765 = .ok (.iconst 0, 1) := by decide +kernel
theorem d_law_766 : decode code 766 = .ok (.ireturn, 1) := by decide +kernel
theorem d_law_767 : decode code 767 = .ok (.aload_n 1, 1) := by decide +kernel
theorem d_law_768 : decode code 768 = .ok (.aload_n 0, 1) := by decide +kernel
theorem d_law_769 : decode code 769 = .ok (.iload_n 3, 1) := by decide +kernel
theorem d_law_770 : decode code 770 = .ok (.iconst 1, 1) := by decide +kernel
theorem d_law_771 : decode code 771 = .ok (.iadd, 1) := by decide +kernel
theorem d_law_772 : decode code 772 = .ok (.iaload, 1) := by decide +kernel
theorem d_law_773 : decode code 773 = .ok (.aload_n 0, 1) := by decide +kernel
theorem d_law_774 : decode code 774 = .ok (.iload_n 3, 1) := by decide +kernel
theorem d_law_775 : decode code 775 = .ok (.iconst 2, 1) := by decide +kernel
theorem d_law_776 : decode code 776 = .ok (.iadd, 1) := by decide +kernel
theorem d_law_777 : decode code 777 = .ok (.iaload, 1) := by decide +kernel
theorem d_law_778 : decode code 778 = .ok (.aload_n 0, 1) := by decide +kernel
theorem d_law_779 : decode code 779 = .ok (.iload_n 3, 1) := by decide +kernel
theorem d_law_780 : decode code 780 = .ok (.iconst 3, 1) := by decide +kernel
theorem d_law_781 : decode code 781 = .ok (.iadd, 1) := by decide +kernel
theorem d_law_782 : decode code 782 = .ok (.iaload, 1) := by decide +kernel
theorem d_law_783 : decode code 783 = .ok (.invokevirtual 94, 3) := by decide +kernel
theorem d_law_786 : decode code 786 = .ok (.aload_n 2, 1) := by decide +kernel
theorem d_law_787 : decode code 787 = .ok (.aload_n 0, 1) := by decide +kernel
theorem d_law_788 : decode code 788 = .ok (.iload_n 3, 1) := by decide +kernel
theorem d_law_789 : decode code 789 = .ok (.iconst 1, 1) := by decide +kernel
theorem d_law_790 : decode code 790 = .ok (.iadd, 1) := by decide +kernel
theorem d_law_791 : decode code 791 = .ok (.iaload, 1) := by decide +kernel
theorem d_law_792 : decode code 792 = .ok (.aload_n 0, 1) := by decide +kernel
theorem d_law_793 : decode code 793 = .ok (.iload_n 3, 1) := by decide +kernel
theorem d_law_794 : decode code 794 = .ok (.iconst 2, 1) := by decide +kernel
theorem d_law_795 : decode code 795 = .ok (.iadd, 1) := by decide +kernel
theorem d_law_796 : decode code 796 = .ok (.iaload, 1) := by decide +kernel
theorem d_law_797 : decode code 797 = .ok (.aload_n 0, 1) := by decide +kernel
theorem d_law_798 : decode code 798 = .ok (.iload_n 3, 1) := by decide +kernel
theorem d_law_799 : decode code 799 = .ok (.iconst 3, 1) := by decide +kernel
theorem d_law_800 : decode code 800 = .ok (.iadd, 1) := by decide +kernel
theorem d_law_801 : decode code 801 = .ok (.iaload, 1) := by decide +kernel
theorem d_law_802 : decode code 802 = .ok (.invokevirtual 97, 3) := by decide +kernel
theorem d_law_805 : decode code 805 = .ok (.if_icmp .eq 678, 3) := by decide +kernel
theorem d_law_808 : decode code 808 = .ok (.iconst 0, 1) := by decide +kernel
theorem d_law_809 : decode code 809 = .ok (.ireturn, 1) := by decide +kernel
theorem d_law_810 : decode code 810 = .ok (.aload_n 1, 1) := by decide +kernel
theorem d_law_811 : decode code 811 = .ok (.aload_n 0, 1) := by decide +kernel
theorem d_law_812 : decode code 812 = .ok (.iload_n 3, 1) := by decide +kernel
theorem d_law_813 : decode code 813 = .ok (.iconst 1, 1) := by decide +kernel
theorem d_law_814 : decode code 814 = .ok (.iadd, 1) := by decide +kernel
theorem d_law_815 : decode code 815 = .ok (.iaload, 1) := by decide +kernel
theorem d_law_816 : decode code 816 = .ok (.aload_n 0, 1) := by decide +kernel
theorem d_law_817 : decode code 817 = .ok (.iload_n 3, 1) := by decide +kernel
theorem d_law_818 : decode code 818 = .ok (.iconst 2, 1) := by decide +kernel
theorem d_law_819 : decode code 819 = .ok (.iadd, 1) := by decide +kernel
theorem d_law_820 : decode code 820 = .ok (.iaload, 1) := by decide +kernel
theorem d_law_821 : decode code 821 = .ok (.aload_n 0, 1) := by decide +kernel
theorem d_law_822 : decode code 822 = .ok (.iload_n 3, 1) := by decide +kernel
theorem d_law_823 : decode code 823 = .ok (.iconst 3, 1) := by decide +kernel
theorem d_law_824 : decode code 824 = .ok (.iadd, 1) := by decide +kernel
theorem d_law_825 : decode code 825 = .ok (.iaload, 1) := by decide +kernel
theorem d_law_826 : decode code 826 = .ok (.invokevirtual 98, 3) := by decide +kernel
theorem d_law_829 : decode code 829 = .ok (.aload_n 2, 1) := by decide +kernel
theorem d_law_830 : decode code 830 = .ok (.aload_n 0, 1) := by decide +kernel
theorem d_law_831 : decode code 831 = .ok (.iload_n 3, 1) := by decide +kernel
theorem d_law_832 : decode code 832 = .ok (.iconst 1, 1) := by decide +kernel
theorem d_law_833 : decode code 833 = .ok (.iadd, 1) := by decide +kernel
theorem d_law_834 : decode code 834 = .ok (.iaload, 1) := by decide +kernel
theorem d_law_835 : decode code 835 = .ok (.aload_n 0, 1) := by decide +kernel
theorem d_law_836 : decode code 836 = .ok (.iload_n 3, 1) := by decide +kernel
theorem d_law_837 : decode code 837 = .ok (.iconst 2, 1) := by decide +kernel
theorem d_law_838 : decode code 838 = .ok (.iadd, 1) := by decide +kernel
theorem d_law_839 : decode code 839 = .ok (.iaload, 1) := by decide +kernel
theorem d_law_840 : decode code 840 = .ok (.aload_n 0, 1) := by decide +kernel
theorem d_law_841 : decode code 841 = .ok (.iload_n 3, 1) := by decide +kernel
theorem d_law_842 : decode code 842 = .ok (.iconst 3, 1) := by decide +kernel
theorem d_law_843 : decode code 843 = .ok (.iadd, 1) := by decide +kernel
theorem d_law_844 : decode code 844 = .ok (.iaload, 1) := by decide +kernel
theorem d_law_845 : decode code 845 = .ok (.invokevirtual 101, 3) := by decide +kernel
theorem d_law_848 : decode code 848 = .ok (.if_icmp .eq 635, 3) := by decide +kernel
theorem d_law_851 : decode code 851 = .ok (.iconst 0, 1) := by decide +kernel
theorem d_law_852 : decode code 852 = .ok (.ireturn, 1) := by decide +kernel
theorem d_law_853 : decode code 853 = .ok (.aload_n 1, 1) := by decide +kernel
theorem d_law_854 : decode code 854 = .ok (.aload_n 0, 1) := by decide +kernel
theorem d_law_855 : decode code 855 = .ok (.iload_n 3, 1) := by decide +kernel
theorem d_law_856 : decode code 856 = .ok (.iconst 1, 1) := by decide +kernel
theorem d_law_857 : decode code 857 = .ok (.iadd, 1) := by decide +kernel
theorem d_law_858 : decode code 858 = .ok (.iaload, 1) := by decide +kernel
theorem d_law_859 : decode code 859 = .ok (.aload_n 0, 1) := by decide +kernel
theorem d_law_860 : decode code 860 = .ok (.iload_n 3, 1) := by decide +kernel
theorem d_law_861 : decode code 861 = .ok (.iconst 2, 1) := by decide +kernel
theorem d_law_862 : decode code 862 = .ok (.iadd, 1) := by decide +kernel
theorem d_law_863 : decode code 863 = .ok (.iaload, 1) := by decide +kernel
theorem d_law_864 : decode code 864 = .ok (.invokevirtual 102, 3) := by decide +kernel
theorem d_law_867 : decode code 867 = .ok (.aload_n 2, 1) := by decide +kernel
theorem d_law_868 : decode code 868 = .ok (.aload_n 0, 1) := by decide +kernel
theorem d_law_869 : decode code 869 = .ok (.iload_n 3, 1) := by decide +kernel
theorem d_law_870 : decode code 870 = .ok (.iconst 1, 1) := by decide +kernel
theorem d_law_871 : decode code 871 = .ok (.iadd, 1) := by decide +kernel
theorem d_law_872 : decode code 872 = .ok (.iaload, 1) := by decide +kernel
theorem d_law_873 : decode code 873 = .ok (.aload_n 0, 1) := by decide +kernel
theorem d_law_874 : decode code 874 = .ok (.iload_n 3, 1) := by decide +kernel
theorem d_law_875 : decode code 875 = .ok (.iconst 2, 1) := by decide +kernel
theorem d_law_876 : decode code 876 = .ok (.iadd, 1) := by decide +kernel
theorem d_law_877 : decode code 877 = .ok (.iaload, 1) := by decide +kernel
theorem d_law_878 : decode code 878 = .ok (.invokevirtual 105, 3) := by decide +kernel
theorem d_law_881 : decode code 881 = .ok (.if_icmp .eq 602, 3) := by decide +kernel
theorem d_law_884 : decode code 884 = .ok (.iconst 0, 1) := by decide +kernel
theorem d_law_885 : decode code 885 = .ok (.ireturn, 1) := by decide +kernel
theorem d_law_886 : decode code 886 = .ok (.aload_n 1, 1) := by decide +kernel
theorem d_law_887 : decode code 887 = .ok (.aload_n 0, 1) := by decide +kernel
theorem d_law_888 : decode code 888 = .ok (.iload_n 3, 1) := by decide +kernel
theorem d_law_889 : decode code 889 = .ok (.iconst 1, 1) := by decide +kernel
theorem d_law_890 : decode code 890 = .ok (.iadd, 1) := by decide +kernel
theorem d_law_891 : decode code 891 = .ok (.iaload, 1) := by decide +kernel
theorem d_law_892 : decode code 892 = .ok (.aload_n 0, 1) := by decide +kernel
theorem d_law_893 : decode code 893 = .ok (.iload_n 3, 1) := by decide +kernel
theorem d_law_894 : decode code 894 = .ok (.iconst 2, 1) := by decide +kernel
theorem d_law_895 : decode code 895 = .ok (.iadd, 1) := by decide +kernel
theorem d_law_896 : decode code 896 = .ok (.iaload, 1) := by decide +kernel
theorem d_law_897 : decode code 897 = .ok (.invokevirtual 106, 3) := by decide +kernel
theorem d_law_900 : decode code 900 = .ok (.aload_n 2, 1) := by decide +kernel
theorem d_law_901 : decode code 901 = .ok (.aload_n 0, 1) := by decide +kernel
theorem d_law_902 : decode code 902 = .ok (.iload_n 3, 1) := by decide +kernel
theorem d_law_903 : decode code 903 = .ok (.iconst 1, 1) := by decide +kernel
theorem d_law_904 : decode code 904 = .ok (.iadd, 1) := by decide +kernel
theorem d_law_905 : decode code 905 = .ok (.iaload, 1) := by decide +kernel
theorem d_law_906 : decode code 906 = .ok (.aload_n 0, 1) := by decide +kernel
theorem d_law_907 : decode code 907 = .ok (.iload_n 3, 1) := by decide +kernel
theorem d_law_908 : decode code 908 = .ok (.iconst 2, 1) := by decide +kernel
theorem d_law_909 : decode code 909 = .ok (.iadd, 1) := by decide +kernel
theorem d_law_910 : decode code 910 = .ok (.iaload, 1) := by decide +kernel
theorem d_law_911 : decode code 911 = .ok (.invokevirtual 109, 3) := by decide +kernel
theorem d_law_914 : decode code 914 = .ok (.if_icmp .eq 569, 3) := by decide +kernel
theorem d_law_917 : decode code 917 = .ok (.iconst 0, 1) := by decide +kernel
theorem d_law_918 : decode code 918 = .ok (.ireturn, 1) := by decide +kernel
theorem d_law_919 : decode code 919 = .ok (.aload_n 1, 1) := by decide +kernel
theorem d_law_920 : decode code 920 = .ok (.invokevirtual 110, 3) := by decide +kernel
theorem d_law_923 : decode code 923 = .ok (.aload_n 2, 1) := by decide +kernel
theorem d_law_924 : decode code 924 = .ok (.invokevirtual 113, 3) := by decide +kernel
theorem d_law_927 : decode code 927 = .ok (.if_icmp .eq 556, 3) := by decide +kernel
theorem d_law_930 : decode code 930 = .ok (.iconst 0, 1) := by decide +kernel
theorem d_law_931 : decode code 931 = .ok (.ireturn, 1) := by decide +kernel
theorem d_law_932 : decode code 932 = .ok (.aload_n 1, 1) := by decide +kernel
theorem d_law_933 : decode code 933 = .ok (.aload_n 0, 1) := by decide +kernel
theorem d_law_934 : decode code 934 = .ok (.iload_n 3, 1) := by decide +kernel
theorem d_law_935 : decode code 935 = .ok (.iconst 1, 1) := by decide +kernel
theorem d_law_936 : decode code 936 = .ok (.iadd, 1) := by decide +kernel
theorem d_law_937 : decode code 937 = .ok (.iaload, 1) := by decide +kernel
theorem d_law_938 : decode code 938 = .ok (.aload_n 0, 1) := by decide +kernel
theorem d_law_939 : decode code 939 = .ok (.iload_n 3, 1) := by decide +kernel
theorem d_law_940 : decode code 940 = .ok (.iconst 2, 1) := by decide +kernel
theorem d_law_941 : decode code 941 = .ok (.iadd, 1) := by decide +kernel
theorem d_law_942 : decode code 942 = .ok (.iaload, 1) := by decide +kernel
theorem d_law_943 : decode code 943 = .ok (.invokevirtual 114, 3) := by decide +kernel
theorem d_law_946 : decode code 946 = .ok (.aload_n 2, 1) := by decide +kernel
theorem d_law_947 : decode code 947 = .ok (.aload_n 0, 1) := by decide +kernel
theorem d_law_948 : decode code 948 = .ok (.iload_n 3, 1) := by decide +kernel
theorem d_law_949 : decode code 949 = .ok (.iconst 1, 1) := by decide +kernel
theorem d_law_950 : decode code 950 = .ok (.iadd, 1) := by decide +kernel
theorem d_law_951 : decode code 951 = .ok (.iaload, 1) := by decide +kernel
theorem d_law_952 : decode code 952 = .ok (.aload_n 0, 1) := by decide +kernel
theorem d_law_953 : decode code 953 = .ok (.iload_n 3, 1) := by decide +kernel
theorem d_law_954 : decode code 954 = .ok (.iconst 2, 1) := by decide +kernel
theorem d_law_955 : decode code 955 = .ok (.iadd, 1) := by decide +kernel
theorem d_law_956 : decode code 956 = .ok (.iaload, 1) := by decide +kernel
theorem d_law_957 : decode code 957 = .ok (.invokevirtual 117, 3) := by decide +kernel
theorem d_law_960 : decode code 960 = .ok (.if_icmp .eq 523, 3) := by decide +kernel
theorem d_law_963 : decode code 963 = .ok (.iconst 0, 1) := by decide +kernel
theorem d_law_964 : decode code 964 = .ok (.ireturn, 1) := by decide +kernel
theorem d_law_965 : decode code 965 = .ok (.aload_n 1, 1) := by decide +kernel
theorem d_law_966 : decode code 966 = .ok (.invokevirtual 118, 3) := by decide +kernel
theorem d_law_969 : decode code 969 = .ok (.aload_n 2, 1) := by decide +kernel
theorem d_law_970 : decode code 970 = .ok (.invokevirtual 121, 3) := by decide +kernel
theorem d_law_973 : decode code 973 = .ok (.if_icmp .eq 510, 3) := by decide +kernel
theorem d_law_976 : decode code 976 = .ok (.iconst 0, 1) := by decide +kernel
theorem d_law_977 : decode code 977 = .ok (.ireturn, 1) := by decide +kernel
theorem d_law_978 : decode code 978 = .ok (.aload_n 1, 1) := by decide +kernel
theorem d_law_979 : decode code 979 = .ok (.invokevirtual 122, 3) := by decide +kernel
theorem d_law_982 : decode code 982 = .ok (.aload_n 2, 1) := by decide +kernel
theorem d_law_983 : decode code 983 = .ok (.invokevirtual 125, 3) := by decide +kernel
theorem d_law_986 : decode code 986 = .ok (.if_icmp .eq 497, 3) := by decide +kernel
theorem d_law_989 : decode code 989 = .ok (.iconst 0, 1) := by decide +kernel
theorem d_law_990 : decode code 990 = .ok (.ireturn, 1) := by decide +kernel
theorem d_law_991 : decode code 991 = .ok (.aload_n 1, 1) := by decide +kernel
theorem d_law_992 : decode code 992 = .ok (.aload_n 0, 1) := by decide +kernel
theorem d_law_993 : decode code 993 = .ok (.iload_n 3, 1) := by decide +kernel
theorem d_law_994 : decode code 994 = .ok (.iconst 1, 1) := by decide +kernel
theorem d_law_995 : decode code 995 = .ok (.iadd, 1) := by decide +kernel
theorem d_law_996 : decode code 996 = .ok (.iaload, 1) := by decide +kernel
theorem d_law_997 : decode code 997 = .ok (.aload_n 0, 1) := by decide +kernel
theorem d_law_998 : decode code 998 = .ok (.iload_n 3, 1) := by decide +kernel
theorem d_law_999 : decode code 999 = .ok (.iconst 2, 1) := by decide +kernel
theorem d_law_1000 : decode code 1000 = .ok (.iadd, 1) := by decide +kernel
theorem d_law_1001 : decode code 1001 = .ok (.iaload, 1) := by decide +kernel
theorem d_law_1002 : decode code 1002 = .ok (.aload_n 0, 1) := by decide +kernel
theorem d_law_1003 : decode code 1003 = .ok (.iload_n 3, 1) := by decide +kernel
theorem d_law_1004 : decode code 1004 = .ok (.iconst 3, 1) := by decide +kernel
theorem d_law_1005 : decode code 1005 = .ok (.iadd, 1) := by decide +kernel
theorem d_law_1006 : decode code 1006 = .ok (.iaload, 1) := by decide +kernel
theorem d_law_1007 : decode code 1007 = .ok (.aload_n 0, 1) := by decide +kernel
theorem d_law_1008 : decode code 1008 = .ok (.iload_n 3, 1) := by decide +kernel
theorem d_law_1009 : decode code 1009 = .ok (.iconst 4, 1) := by decide +kernel
theorem d_law_1010 : decode code 1010 = .ok (.iadd, 1) := by decide +kernel
theorem d_law_1011 : decode code 1011 = .ok (.iaload, 1) := by decide +kernel
theorem d_law_1012 : decode code 1012 = .ok (.aload_n 0, 1) := by decide +kernel
theorem d_law_1013 : decode code 1013 = .ok (.iload_n 3, 1) := by decide +kernel
theorem d_law_1014 : decode code 1014 = .ok (.iconst 5, 1) := by decide +kernel
theorem d_law_1015 : decode code 1015 = .ok (.iadd, 1) := by decide +kernel
theorem d_law_1016 : decode code 1016 = .ok (.iaload, 1) := by decide +kernel
theorem d_law_1017 : decode code 1017 = .ok (.invokevirtual 126, 3) := by decide +kernel
theorem d_law_1020 : decode code 1020 = .ok (.aload_n 2, 1) := by decide +kernel
theorem d_law_1021 : decode code 1021 = .ok (.aload_n 0, 1) := by decide +kernel
theorem d_law_1022 : decode code 1022 = .ok (.iload_n 3, 1) := by decide +kernel
theorem d_law_1023 : decode code 1023 = .ok (.iconst 1, 1) := by decide +kernel
theorem d_law_1024 : decode code 1024 = .ok (.iadd, 1) := by decide +kernel
theorem d_law_1025 : decode code 1025 = .ok (.iaload, 1) := by decide +kernel
theorem d_law_1026 : decode code 1026 = .ok (.aload_n 0, 1) := by decide +kernel
theorem d_law_1027 : decode code 1027 = .ok (.iload_n 3, 1) := by decide +kernel
theorem d_law_1028 : decode code 1028 = .ok (.iconst 2, 1) := by decide +kernel
theorem d_law_1029 : decode code 1029 = .ok (.iadd, 1) := by decide +kernel
theorem d_law_1030 : decode code 1030 = .ok (.iaload, 1) := by decide +kernel
theorem d_law_1031 : decode code 1031 = .ok (.aload_n 0, 1) := by decide +kernel
theorem d_law_1032 : decode code 1032 = .ok (.iload_n 3, 1) := by decide +kernel
theorem d_law_1033 : decode code 1033 = .ok (.iconst 3, 1) := by decide +kernel
theorem d_law_1034 : decode code 1034 = .ok (.iadd, 1) := by decide +kernel
theorem d_law_1035 : decode code 1035 = .ok (.iaload, 1) := by decide +kernel
theorem d_law_1036 : decode code 1036 = .ok (.aload_n 0, 1) := by decide +kernel
theorem d_law_1037 : decode code 1037 = .ok (.iload_n 3, 1) := by decide +kernel
theorem d_law_1038 : decode code 1038 = .ok (.iconst 4, 1) := by decide +kernel
theorem d_law_1039 : decode code 1039 = .ok (.iadd, 1) := by decide +kernel
theorem d_law_1040 : decode code 1040 = .ok (.iaload, 1) := by decide +kernel
theorem d_law_1041 : decode code 1041 = .ok (.aload_n 0, 1) := by decide +kernel
theorem d_law_1042 : decode code 1042 = .ok (.iload_n 3, 1) := by decide +kernel
theorem d_law_1043 : decode code 1043 = .ok (.iconst 5, 1) := by decide +kernel
theorem d_law_1044 : decode code 1044 = .ok (.iadd, 1) := by decide +kernel
theorem d_law_1045 : decode code 1045 = .ok (.iaload, 1) := by decide +kernel
theorem d_law_1046 : decode code 1046 = .ok (.invokevirtual 130, 3) := by decide +kernel
theorem d_law_1049 : decode code 1049 = .ok (.if_icmp .eq 434, 3) := by decide +kernel
theorem d_law_1052 : decode code 1052 = .ok (.iconst 0, 1) := by decide +kernel
theorem d_law_1053 : decode code 1053 = .ok (.ireturn, 1) := by decide +kernel
theorem d_law_1054 : decode code 1054 = .ok (.aload_n 1, 1) := by decide +kernel
theorem d_law_1055 : decode code 1055 = .ok (.aload_n 0, 1) := by decide +kernel
theorem d_law_1056 : decode code 1056 = .ok (.iload_n 3, 1) := by decide +kernel
theorem d_law_1057 : decode code 1057 = .ok (.iconst 1, 1) := by decide +kernel
theorem d_law_1058 : decode code 1058 = .ok (.iadd, 1) := by decide +kernel
theorem d_law_1059 : decode code 1059 = .ok (.iaload, 1) := by decide +kernel
theorem d_law_1060 : decode code 1060 = .ok (.aload_n 0, 1) := by decide +kernel
theorem d_law_1061 : decode code 1061 = .ok (.iload_n 3, 1) := by decide +kernel
theorem d_law_1062 : decode code 1062 = .ok (.iconst 2, 1) := by decide +kernel
theorem d_law_1063 : decode code 1063 = .ok (.iadd, 1) := by decide +kernel
theorem d_law_1064 : decode code 1064 = .ok (.iaload, 1) := by decide +kernel
theorem d_law_1065 : decode code 1065 = .ok (.aload_n 0, 1) := by decide +kernel
theorem d_law_1066 : decode code 1066 = .ok (.iload_n 3, 1) := by decide +kernel
theorem d_law_1067 : decode code 1067 = .ok (.iconst 3, 1) := by decide +kernel
theorem d_law_1068 : decode code 1068 = .ok (.iadd, 1) := by decide +kernel
theorem d_law_1069 : decode code 1069 = .ok (.iaload, 1) := by decide +kernel
theorem d_law_1070 : decode code 1070 = .ok (.aload_n 0, 1) := by decide +kernel
theorem d_law_1071 : decode code 1071 = .ok (.iload_n 3, 1) := by decide +kernel
theorem d_law_1072 : decode code 1072 = .ok (.iconst 4, 1) := by decide +kernel
theorem d_law_1073 : decode code 1073 = .ok (.iadd, 1) := by decide +kernel
theorem d_law_1074 : decode code 1074 = .ok (.iaload, 1) := by decide +kernel
theorem d_law_1075 : decode code 1075 = .ok (.aload_n 0, 1) := by decide +kernel
theorem d_law_1076 : decode code 1076 = .ok (.iload_n 3, 1) := by decide +kernel
theorem d_law_1077 : decode code 1077 = .ok (.iconst 5, 1) := by decide +kernel
theorem d_law_1078 : decode code 1078 = .ok (.iadd, 1) := by decide +kernel
theorem d_law_1079 : decode code 1079 = .ok (.iaload, 1) := by decide +kernel
theorem d_law_1080 : decode code 1080 = .ok (.aload_n 0, 1) := by decide +kernel
theorem d_law_1081 : decode code 1081 = .ok (.iload_n 3, 1) := by decide +kernel
theorem d_law_1082 : decode code 1082 = .ok (.bipush 6, 2) := by decide +kernel
theorem d_law_1084 : decode code 1084 = .ok (.iadd, 1) := by decide +kernel
theorem d_law_1085 : decode code 1085 = .ok (.iaload, 1) := by decide +kernel
theorem d_law_1086 : decode code 1086 = .ok (.invokevirtual 131, 3) := by decide +kernel
theorem d_law_1089 : decode code 1089 = .ok (.aload_n 2, 1) := by decide +kernel
theorem d_law_1090 : decode code 1090 = .ok (.aload_n 0, 1) := by decide +kernel
theorem d_law_1091 : decode code 1091 = .ok (.iload_n 3, 1) := by decide +kernel
theorem d_law_1092 : decode code 1092 = .ok (.iconst 1, 1) := by decide +kernel
theorem d_law_1093 : decode code 1093 = .ok (.iadd, 1) := by decide +kernel
theorem d_law_1094 : decode code 1094 = .ok (.iaload, 1) := by decide +kernel
theorem d_law_1095 : decode code 1095 = .ok (.aload_n 0, 1) := by decide +kernel
theorem d_law_1096 : decode code 1096 = .ok (.iload_n 3, 1) := by decide +kernel
theorem d_law_1097 : decode code 1097 = .ok (.iconst 2, 1) := by decide +kernel
theorem d_law_1098 : decode code 1098 = .ok (.iadd, 1) := by decide +kernel
theorem d_law_1099 : decode code 1099 = .ok (.iaload, 1) := by decide +kernel
theorem d_law_1100 : decode code 1100 = .ok (.aload_n 0, 1) := by decide +kernel
theorem d_law_1101 : decode code 1101 = .ok (.iload_n 3, 1) := by decide +kernel
theorem d_law_1102 : decode code 1102 = .ok (.iconst 3, 1) := by decide +kernel
theorem d_law_1103 : decode code 1103 = .ok (.iadd, 1) := by decide +kernel
theorem d_law_1104 : decode code 1104 = .ok (.iaload, 1) := by decide +kernel
theorem d_law_1105 : decode code 1105 = .ok (.aload_n 0, 1) := by decide +kernel
theorem d_law_1106 : decode code 1106 = .ok (.iload_n 3, 1) := by decide +kernel
theorem d_law_1107 : decode code 1107 = .ok (.iconst 4, 1) := by decide +kernel
theorem d_law_1108 : decode code 1108 = .ok (.iadd, 1) := by decide +kernel
theorem d_law_1109 : decode code 1109 = .ok (.iaload, 1) := by decide +kernel
theorem d_law_1110 : decode code 1110 = .ok (.aload_n 0, 1) := by decide +kernel
theorem d_law_1111 : decode code 1111 = .ok (.iload_n 3, 1) := by decide +kernel
theorem d_law_1112 : decode code 1112 = .ok (.iconst 5, 1) := by decide +kernel
theorem d_law_1113 : decode code 1113 = .ok (.iadd, 1) := by decide +kernel
theorem d_law_1114 : decode code 1114 = .ok (.iaload, 1) := by decide +kernel
theorem d_law_1115 : decode code 1115 = .ok (.aload_n 0, 1) := by decide +kernel
theorem d_law_1116 : decode code 1116 = .ok (.iload_n 3, 1) := by decide +kernel
theorem d_law_1117 : decode code 1117 = .ok (.bipush 6, 2) := by decide +kernel
theorem d_law_1119 : decode code 1119 = .ok (.iadd, 1) := by decide +kernel
theorem d_law_1120 : decode code 1120 = .ok (.iaload, 1) := by decide +kernel
theorem d_law_1121 : decode code 1121 = .ok (.invokevirtual 135, 3) := by decide +kernel
theorem d_law_1124 : decode code 1124 = .ok (.if_icmp .eq 359, 3) := by decide +kernel
theorem d_law_1127 : decode code 1127 = .ok (.iconst 0, 1) := by decide +kernel
theorem d_law_1128 : decode code 1128 = .ok (.ireturn, 1) := by decide +kernel
theorem d_law_1129 : decode code 1129 = .ok (.aload_n 1, 1) := by decide +kernel
theorem d_law_1130 : decode code 1130 = .ok (.aload_n 0, 1) := by decide +kernel
theorem d_law_1131 : decode code 1131 = .ok (.iload_n 3, 1) := by decide +kernel
theorem d_law_1132 : decode code 1132 = .ok (.iconst 1, 1) := by decide +kernel
theorem d_law_1133 : decode code 1133 = .ok (.iadd, 1) := by decide +kernel
theorem d_law_1134 : decode code 1134 = .ok (.iaload, 1) := by decide +kernel
theorem d_law_1135 : decode code 1135 = .ok (.invokevirtual 136, 3) := by decide +kernel
theorem d_law_1138 : decode code 1138 = .ok (.aload_n 2, 1) := by decide +kernel
theorem d_law_1139 : decode code 1139 = .ok (.aload_n 0, 1) := by decide +kernel
theorem d_law_1140 : decode code 1140 = .ok (.iload_n 3, 1) := by decide +kernel
theorem d_law_1141 : decode code 1141 = .ok (.iconst 1, 1) := by decide +kernel
theorem d_law_1142 : decode code 1142 = .ok (.iadd, 1) := by decide +kernel
theorem d_law_1143 : decode code 1143 = .ok (.iaload, 1) := by decide +kernel
theorem d_law_1144 : decode code 1144 = .ok (.invokevirtual 139, 3) := by decide +kernel
theorem d_law_1147 : decode code 1147 = .ok (.if_icmp .eq 336, 3) := by decide +kernel
theorem d_law_1150 : decode code 1150 = .ok (.iconst 0, 1) := by decide +kernel
theorem d_law_1151 : decode code 1151 = .ok (.ireturn, 1) := by decide +kernel
theorem d_law_1152 : decode code 1152 = .ok (.aload_n 1, 1) := by decide +kernel
theorem d_law_1153 : decode code 1153 = .ok (.aload_n 0, 1) := by decide +kernel
theorem d_law_1154 : decode code 1154 = .ok (.iload_n 3, 1) := by decide +kernel
theorem d_law_1155 : decode code 1155 = .ok (.iconst 1, 1) := by decide +kernel
theorem d_law_1156 : decode code 1156 = .ok (.iadd, 1) := by decide +kernel
theorem d_law_1157 : decode code 1157 = .ok (.iaload, 1) := by decide +kernel
theorem d_law_1158 : decode code 1158 = .ok (.invokevirtual 140, 3) := by decide +kernel
theorem d_law_1161 : decode code 1161 = .ok (.aload_n 2, 1) := by decide +kernel
theorem d_law_1162 : decode code 1162 = .ok (.aload_n 0, 1) := by decide +kernel
theorem d_law_1163 : decode code 1163 = .ok (.iload_n 3, 1) := by decide +kernel
theorem d_law_1164 : decode code 1164 = .ok (.iconst 1, 1) := by decide +kernel
theorem d_law_1165 : decode code 1165 = .ok (.iadd, 1) := by decide +kernel
theorem d_law_1166 : decode code 1166 = .ok (.iaload, 1) := by decide +kernel
theorem d_law_1167 : decode code 1167 = .ok (.invokevirtual 143, 3) := by decide +kernel
theorem d_law_1170 : decode code 1170 = .ok (.if_icmp .eq 313, 3) := by decide +kernel
theorem d_law_1173 : decode code 1173 = .ok (.iconst 0, 1) := by decide +kernel
theorem d_law_1174 : decode code 1174 = .ok (.ireturn, 1) := by decide +kernel
theorem d_law_1175 : decode code 1175 = .ok (.aload_n 1, 1) := by decide +kernel
theorem d_law_1176 : decode code 1176 = .ok (.aload_n 0, 1) := by decide +kernel
theorem d_law_1177 : decode code 1177 = .ok (.iload_n 3, 1) := by decide +kernel
theorem d_law_1178 : decode code 1178 = .ok (.iconst 1, 1) := by decide +kernel
theorem d_law_1179 : decode code 1179 = .ok (.iadd, 1) := by decide +kernel
theorem d_law_1180 : decode code 1180 = .ok (.iaload, 1) := by decide +kernel
theorem d_law_1181 : decode code 1181 = .ok (.invokevirtual 144, 3) := by decide +kernel
theorem d_law_1184 : decode code 1184 = .ok (.aload_n 2, 1) := by decide +kernel
theorem d_law_1185 : decode code 1185 = .ok (.aload_n 0, 1) := by decide +kernel
theorem d_law_1186 : decode code 1186 = .ok (.iload_n 3, 1) := by decide +kernel
theorem d_law_1187 : decode code 1187 = .ok (.iconst 1, 1) := by decide +kernel
theorem d_law_1188 : decode code 1188 = .ok (.iadd, 1) := by decide +kernel
theorem d_law_1189 : decode code 1189 = .ok (.iaload, 1) := by decide +kernel
theorem d_law_1190 : decode code 1190 = .ok (.invokevirtual 147, 3) := by decide +kernel
theorem d_law_1193 : decode code 1193 = .ok (.if_icmp .eq 290, 3) := by decide +kernel
theorem d_law_1196 : decode code 1196 = .ok (.iconst 0, 1) := by decide +kernel
theorem d_law_1197 : decode code 1197 = .ok (.ireturn, 1) := by decide +kernel
theorem d_law_1198 : decode code 1198 = .ok (.aload_n 1, 1) := by decide +kernel
theorem d_law_1199 : decode code 1199 = .ok (.aload_n 0, 1) := by decide +kernel
theorem d_law_1200 : decode code 1200 = .ok (.iload_n 3, 1) := by decide +kernel
theorem d_law_1201 : decode code 1201 = .ok (.iconst 1, 1) := by decide +kernel
theorem d_law_1202 : decode code 1202 = .ok (.iadd, 1) := by decide +kernel
theorem d_law_1203 : decode code 1203 = .ok (.iaload, 1) := by decide +kernel
theorem d_law_1204 : decode code 1204 = .ok (.invokevirtual 148, 3) := by decide +kernel
theorem d_law_1207 : decode code 1207 = .ok (.aload_n 2, 1) := by decide +kernel
theorem d_law_1208 : decode code 1208 = .ok (.aload_n 0, 1) := by decide +kernel
theorem d_law_1209 : decode code 1209 = .ok (.iload_n 3, 1) := by decide +kernel
theorem d_law_1210 : decode code 1210 = .ok (.iconst 1, 1) := by decide +kernel
theorem d_law_1211 : decode code 1211 = .ok (.iadd, 1) := by decide +kernel
theorem d_law_1212 : decode code 1212 = .ok (.iaload, 1) := by decide +kernel
theorem d_law_1213 : decode code 1213 = .ok (.invokevirtual 151, 3) := by decide +kernel
theorem d_law_1216 : decode code 1216 = .ok (.if_icmp .eq 267, 3) := by decide +kernel
theorem d_law_1219 : decode code 1219 = .ok (.iconst 0, 1) := by decide +kernel
theorem d_law_1220 : decode code 1220 = .ok (.ireturn, 1) := by decide +kernel
theorem d_law_1221 : decode code 1221 = .ok (.aload_n 1, 1) := by decide +kernel
theorem d_law_1222 : decode code 1222 = .ok (.aload_n 0, 1) := by decide +kernel
theorem d_law_1223 : decode code 1223 = .ok (.iload_n 3, 1) := by decide +kernel
theorem d_law_1224 : decode code 1224 = .ok (.iconst 1, 1) := by decide +kernel
theorem d_law_1225 : decode code 1225 = .ok (.iadd, 1) := by decide +kernel
theorem d_law_1226 : decode code 1226 = .ok (.iaload, 1) := by decide +kernel
theorem d_law_1227 : decode code 1227 = .ok (.invokevirtual 152, 3) := by decide +kernel
theorem d_law_1230 : decode code 1230 = .ok (.aload_n 2, 1) := by decide +kernel
theorem d_law_1231 : decode code 1231 = .ok (.aload_n 0, 1) := by decide +kernel
theorem d_law_1232 : decode code 1232 = .ok (.iload_n 3, 1) := by decide +kernel
theorem d_law_1233 : decode code 1233 = .ok (.iconst 1, 1) := by decide +kernel
theorem d_law_1234 : decode code 1234 = .ok (.iadd, 1) := by decide +kernel
theorem d_law_1235 : decode code 1235 = .ok (.iaload, 1) := by decide +kernel
theorem d_law_1236 : decode code 1236 = .ok (.invokevirtual 155, 3) := by decide +kernel
theorem d_law_1239 : decode code 1239 = .ok (.if_icmp .eq 244, 3) := by decide +kernel
theorem d_law_1242 : decode code 1242 = .ok (.iconst 0, 1) := by decide +kernel
theorem d_law_1243 : decode code 1243 = .ok (.ireturn, 1) := by decide +kernel
theorem d_law_1244 : decode code 1244 = .ok (.aload_n 1, 1) := by decide +kernel
theorem d_law_1245 : decode code 1245 = .ok (.aload_n 0, 1) := by decide +kernel
theorem d_law_1246 : decode code 1246 = .ok (.iload_n 3, 1) := by decide +kernel
theorem d_law_1247 : decode code 1247 = .ok (.iconst 1, 1) := by decide +kernel
theorem d_law_1248 : decode code 1248 = .ok (.iadd, 1) := by decide +kernel
theorem d_law_1249 : decode code 1249 = .ok (.iaload, 1) := by decide +kernel
theorem d_law_1250 : decode code 1250 = .ok (.aload_n 0, 1) := by decide +kernel
theorem d_law_1251 : decode code 1251 = .ok (.iload_n 3, 1) := by decide +kernel
theorem d_law_1252 : decode code 1252 = .ok (.iconst 2, 1) := by decide +kernel
theorem d_law_1253 : decode code 1253 = .ok (.iadd, 1) := by decide +kernel
theorem d_law_1254 : decode code 1254 = .ok (.iaload, 1) := by decide +kernel
theorem d_law_1255 : decode code 1255 = .ok (.invokevirtual 156, 3) := by decide +kernel
theorem d_law_1258 : decode code 1258 = .ok (.aload_n 2, 1) := by decide +kernel
theorem d_law_1259 : decode code 1259 = .ok (.aload_n 0, 1) := by decide +kernel
theorem d_law_1260 : decode code 1260 = .ok (.iload_n 3, 1) := by decide +kernel
theorem d_law_1261 : decode code 1261 = .ok (.iconst 1, 1) := by decide +kernel
theorem d_law_1262 : decode code 1262 = .ok (.iadd, 1) := by decide +kernel
theorem d_law_1263 : decode code 1263 = .ok (.iaload, 1) := by decide +kernel
theorem d_law_1264 : decode code 1264 = .ok (.aload_n 0, 1) := by decide +kernel
theorem d_law_1265 : decode code 1265 = .ok (.iload_n 3, 1) := by decide +kernel
theorem d_law_1266 : decode code 1266 = .ok (.iconst 2, 1) := by decide +kernel
theorem d_law_1267 : decode code 1267 = .ok (.iadd, 1) := by decide +kernel
theorem d_law_1268 : decode code 1268 = .ok (.iaload, 1) := by decide +kernel
theorem d_law_1269 : decode code 1269 = .ok (.invokevirtual 159, 3) := by decide +kernel
theorem d_law_1272 : decode code 1272 = .ok (.if_icmp .eq 211, 3) := by decide +kernel
theorem d_law_1275 : decode code 1275 = .ok (.iconst 0, 1) := by decide +kernel
theorem d_law_1276 : decode code 1276 = .ok (.ireturn, 1) := by decide +kernel
theorem d_law_1277 : decode code 1277 = .ok (.aload_n 1, 1) := by decide +kernel
theorem d_law_1278 : decode code 1278 = .ok (.aload_n 0, 1) := by decide +kernel
theorem d_law_1279 : decode code 1279 = .ok (.iload_n 3, 1) := by decide +kernel
theorem d_law_1280 : decode code 1280 = .ok (.iconst 1, 1) := by decide +kernel
theorem d_law_1281 : decode code 1281 = .ok (.iadd, 1) := by decide +kernel
theorem d_law_1282 : decode code 1282 = .ok (.iaload, 1) := by decide +kernel
theorem d_law_1283 : decode code 1283 = .ok (.aload_n 0, 1) := by decide +kernel
theorem d_law_1284 : decode code 1284 = .ok (.iload_n 3, 1) := by decide +kernel
theorem d_law_1285 : decode code 1285 = .ok (.iconst 2, 1) := by decide +kernel
theorem d_law_1286 : decode code 1286 = .ok (.iadd, 1) := by decide +kernel
theorem d_law_1287 : decode code 1287 = .ok (.iaload, 1) := by decide +kernel
theorem d_law_1288 : decode code 1288 = .ok (.aload_n 0, 1) := by decide +kernel
theorem d_law_1289 : decode code 1289 = .ok (.iload_n 3, 1) := by decide +kernel
theorem d_law_1290 : decode code 1290 = .ok (.iconst 3, 1) := by decide +kernel
theorem d_law_1291 : decode code 1291 = .ok (.iadd, 1) := by decide +kernel
theorem d_law_1292 : decode code 1292 = .ok (.iaload, 1) := by decide +kernel
theorem d_law_1293 : decode code 1293 = .ok (.invokevirtual 160, 3) := by decide +kernel
theorem d_law_1296 : decode code 1296 = .ok (.aload_n 2, 1) := by decide +kernel
theorem d_law_1297 : decode code 1297 = .ok (.aload_n 0, 1) := by decide +kernel
theorem d_law_1298 : decode code 1298 = .ok (.iload_n 3, 1) := by decide +kernel
theorem d_law_1299 : decode code 1299 = .ok (.iconst 1, 1) := by decide +kernel
theorem d_law_1300 : decode code 1300 = .ok (.iadd, 1) := by decide +kernel
theorem d_law_1301 : decode code 1301 = .ok (.iaload, 1) := by decide +kernel
theorem d_law_1302 : decode code 1302 = .ok (.aload_n 0, 1) := by decide +kernel
theorem d_law_1303 : decode code 1303 = .ok (.iload_n 3, 1) := by decide +kernel
theorem d_law_1304 : decode code 1304 = .ok (.iconst 2, 1) := by decide +kernel
theorem d_law_1305 : decode code 1305 = .ok (.iadd, 1) := by decide +kernel
theorem d_law_1306 : decode code 1306 = .ok (.iaload, 1) := by decide +kernel
theorem d_law_1307 : decode code 1307 = .ok (.aload_n 0, 1) := by decide +kernel
theorem d_law_1308 : decode code 1308 = .ok (.iload_n 3, 1) := by decide +kernel
theorem d_law_1309 : decode code 1309 = .ok (.iconst 3, 1) := by decide +kernel
theorem d_law_1310 : decode code 1310 = .ok (.iadd, 1) := by decide +kernel
theorem d_law_1311 : decode code 1311 = .ok (.iaload, 1) := by decide +kernel
theorem d_law_1312 : decode code 1312 = .ok (.invokevirtual 163, 3) := by decide +kernel
theorem d_law_1315 : decode code 1315 = .ok (.if_icmp .eq 168, 3) := by decide +kernel
theorem d_law_1318 : decode code 1318 = .ok (.iconst 0, 1) := by decide +kernel
theorem d_law_1319 : decode code 1319 = .ok (.ireturn, 1) := by decide +kernel
theorem d_law_1320 : decode code 1320 = .ok (.aload_n 1, 1) := by decide +kernel
theorem d_law_1321 : decode code 1321 = .ok (.aload_n 0, 1) := by decide +kernel
theorem d_law_1322 : decode code 1322 = .ok (.iload_n 3, 1) := by decide +kernel
theorem d_law_1323 : decode code 1323 = .ok (.iconst 1, 1) := by decide +kernel
theorem d_law_1324 : decode code 1324 = .ok (.iadd, 1) := by decide +kernel
theorem d_law_1325 : decode code 1325 = .ok (.iaload, 1) := by decide +kernel
theorem d_law_1326 : decode code 1326 = .ok (.aload_n 0, 1) := by decide +kernel
theorem d_law_1327 : decode code 1327 = .ok (.iload_n 3, 1) := by decide +kernel
theorem d_law_1328 : decode code 1328 = .ok (.iconst 2, 1) := by decide +kernel
theorem d_law_1329 : decode code 1329 = .ok (.iadd, 1) := by decide +kernel
theorem d_law_1330 : decode code 1330 = .ok (.iaload, 1) := by decide +kernel
theorem d_law_1331 : decode code 1331 = .ok (.invokevirtual 164, 3) := by decide +kernel
theorem d_law_1334 : decode code 1334 = .ok (.aload_n 2, 1) := by decide +kernel
theorem d_law_1335 : decode code 1335 = .ok (.aload_n 0, 1) := by decide +kernel
theorem d_law_1336 : decode code 1336 = .ok (.iload_n 3, 1) := by decide +kernel
theorem d_law_1337 : decode code 1337 = .ok (.iconst 1, 1) := by decide +kernel
theorem d_law_1338 : decode code 1338 = .ok (.iadd, 1) := by decide +kernel
theorem d_law_1339 : decode code 1339 = .ok (.iaload, 1) := by decide +kernel
theorem d_law_1340 : decode code 1340 = .ok (.aload_n 0, 1) := by decide +kernel
theorem d_law_1341 : decode code 1341 = .ok (.iload_n 3, 1) := by decide +kernel
theorem d_law_1342 : decode code 1342 = .ok (.iconst 2, 1) := by decide +kernel
theorem d_law_1343 : decode code 1343 = .ok (.iadd, 1) := by decide +kernel
theorem d_law_1344 : decode code 1344 = .ok (.iaload, 1) := by decide +kernel
theorem d_law_1345 : decode code 1345 = .ok (.invokevirtual 167, 3) := by decide +kernel
theorem d_law_1348 : decode code 1348 = .ok (.if_icmp .eq 135, 3) := by decide +kernel
theorem d_law_1351 : decode code 1351 = .ok (.iconst 0, 1) := by decide +kernel
theorem d_law_1352 : decode code 1352 = .ok (.ireturn, 1) := by decide +kernel
theorem d_law_1353 : decode code 1353 = .ok (.aload_n 1, 1) := by decide +kernel
theorem d_law_1354 : decode code 1354 = .ok (.aload_n 0, 1) := by decide +kernel
theorem d_law_1355 : decode code 1355 = .ok (.iload_n 3, 1) := by decide +kernel
theorem d_law_1356 : decode code 1356 = .ok (.iconst 1, 1) := by decide +kernel
theorem d_law_1357 : decode code 1357 = .ok (.iadd, 1) := by decide +kernel
theorem d_law_1358 : decode code 1358 = .ok (.iaload, 1) := by decide +kernel
theorem d_law_1359 : decode code 1359 = .ok (.invokevirtual 168, 3) := by decide +kernel
theorem d_law_1362 : decode code 1362 = .ok (.aload_n 2, 1) := by decide +kernel
theorem d_law_1363 : decode code 1363 = .ok (.aload_n 0, 1) := by decide +kernel
theorem d_law_1364 : decode code 1364 = .ok (.iload_n 3, 1) := by decide +kernel
theorem d_law_1365 : decode code 1365 = .ok (.iconst 1, 1) := by decide +kernel
theorem d_law_1366 : decode code 1366 = .ok (.iadd, 1) := by decide +kernel
theorem d_law_1367 : decode code 1367 = .ok (.iaload, 1) := by decide +kernel
theorem d_law_1368 : decode code 1368 = .ok (.invokevirtual 172, 3) := by decide +kernel
theorem d_law_1371 : decode code 1371 = .ok (.lcmp, 1) := by decide +kernel
theorem d_law_1372 : decode code 1372 = .ok (.ifCond .eq 111, 3) := by decide +kernel
theorem d_law_1375 : decode code 1375 = .ok (.iconst 0, 1) := by decide +kernel
theorem d_law_1376 : decode code 1376 = .ok (.ireturn, 1) := by decide +kernel
theorem d_law_1377 : decode code 1377 = .ok (.aload_n 1, 1) := by decide +kernel
theorem d_law_1378 : decode code 1378 = .ok (.aload_n 0, 1) := by decide +kernel
theorem d_law_1379 : decode code 1379 = .ok (.iload_n 3, 1) := by decide +kernel
theorem d_law_1380 : decode code 1380 = .ok (.iconst 1, 1) := by decide +kernel
theorem d_law_1381 : decode code 1381 = .ok (.iadd, 1) := by decide +kernel
theorem d_law_1382 : decode code 1382 = .ok (.iaload, 1) := by decide +kernel
theorem d_law_1383 : decode code 1383 = .ok (.invokevirtual 173, 3) := by decide +kernel
theorem d_law_1386 : decode code 1386 = .ok (.aload_n 2, 1) := by decide +kernel
theorem d_law_1387 : decode code 1387 = .ok (.aload_n 0, 1) := by decide +kernel
theorem d_law_1388 : decode code 1388 = .ok (.iload_n 3, 1) := by decide +kernel
theorem d_law_1389 : decode code 1389 = .ok (.iconst 1, 1) := by decide +kernel
theorem d_law_1390 : decode code 1390 = .ok (.iadd, 1) := by decide +kernel
theorem d_law_1391 : decode code 1391 = .ok (.iaload, 1) := by decide +kernel
theorem d_law_1392 : decode code 1392 = .ok (.invokevirtual 176, 3) := by decide +kernel
theorem d_law_1395 : decode code 1395 = .ok (.if_icmp .eq 88, 3) := by decide +kernel
theorem d_law_1398 : decode code 1398 = .ok (.iconst 0, 1) := by decide +kernel
theorem d_law_1399 : decode code 1399 = .ok (.ireturn, 1) := by decide +kernel
theorem d_law_1400 : decode code 1400 = .ok (.aload_n 1, 1) := by decide +kernel
theorem d_law_1401 : decode code 1401 = .ok (.aload_n 0, 1) := by decide +kernel
theorem d_law_1402 : decode code 1402 = .ok (.iload_n 3, 1) := by decide +kernel
theorem d_law_1403 : decode code 1403 = .ok (.iconst 1, 1) := by decide +kernel
theorem d_law_1404 : decode code 1404 = .ok (.iadd, 1) := by decide +kernel
theorem d_law_1405 : decode code 1405 = .ok (.iaload, 1) := by decide +kernel
theorem d_law_1406 : decode code 1406 = .ok (.invokevirtual 177, 3) := by decide +kernel
theorem d_law_1409 : decode code 1409 = .ok (.aload_n 2, 1) := by decide +kernel
theorem d_law_1410 : decode code 1410 = .ok (.aload_n 0, 1) := by decide +kernel
theorem d_law_1411 : decode code 1411 = .ok (.iload_n 3, 1) := by decide +kernel
theorem d_law_1412 : decode code 1412 = .ok (.iconst 1, 1) := by decide +kernel
theorem d_law_1413 : decode code 1413 = .ok (.iadd, 1) := by decide +kernel
theorem d_law_1414 : decode code 1414 = .ok (.iaload, 1) := by decide +kernel
theorem d_law_1415 : decode code 1415 = .ok (.invokevirtual 180, 3) := by decide +kernel
theorem d_law_1418 : decode code 1418 = .ok (.if_icmp .eq 65, 3) := by decide +kernel
theorem d_law_1421 : decode code 1421 = .ok (.iconst 0, 1) := by decide +kernel
theorem d_law_1422 : decode code 1422 = .ok (.ireturn, 1) := by decide +kernel
theorem d_law_1423 : decode code 1423 = .ok (.aload_n 1, 1) := by decide +kernel
theorem d_law_1424 : decode code 1424 = .ok (.aload_n 0, 1) := by decide +kernel
theorem d_law_1425 : decode code 1425 = .ok (.iload_n 3, 1) := by decide +kernel
theorem d_law_1426 : decode code 1426 = .ok (.iconst 1, 1) := by decide +kernel
theorem d_law_1427 : decode code 1427 = .ok (.iadd, 1) := by decide +kernel
theorem d_law_1428 : decode code 1428 = .ok (.iaload, 1) := by decide +kernel
theorem d_law_1429 : decode code 1429 = .ok (.invokevirtual 181, 3) := by decide +kernel
theorem d_law_1432 : decode code 1432 = .ok (.aload_n 2, 1) := by decide +kernel
theorem d_law_1433 : decode code 1433 = .ok (.aload_n 0, 1) := by decide +kernel
theorem d_law_1434 : decode code 1434 = .ok (.iload_n 3, 1) := by decide +kernel
theorem d_law_1435 : decode code 1435 = .ok (.iconst 1, 1) := by decide +kernel
theorem d_law_1436 : decode code 1436 = .ok (.iadd, 1) := by decide +kernel
theorem d_law_1437 : decode code 1437 = .ok (.iaload, 1) := by decide +kernel
theorem d_law_1438 : decode code 1438 = .ok (.invokevirtual 184, 3) := by decide +kernel
theorem d_law_1441 : decode code 1441 = .ok (.if_icmp .eq 42, 3) := by decide +kernel
theorem d_law_1444 : decode code 1444 = .ok (.iconst 0, 1) := by decide +kernel
theorem d_law_1445 : decode code 1445 = .ok (.ireturn, 1) := by decide +kernel
theorem d_law_1446 : decode code 1446 = .ok (.aload_n 1, 1) := by decide +kernel
theorem d_law_1447 : decode code 1447 = .ok (.aload_n 0, 1) := by decide +kernel
theorem d_law_1448 : decode code 1448 = .ok (.iload_n 3, 1) := by decide +kernel
theorem d_law_1449 : decode code 1449 = .ok (.iconst 1, 1) := by decide +kernel
theorem d_law_1450 : decode code 1450 = .ok (.iadd, 1) := by decide +kernel
theorem d_law_1451 : decode code 1451 = .ok (.iaload, 1) := by decide +kernel
theorem d_law_1452 : decode code 1452 = .ok (.invokevirtual 185, 3) := by decide +kernel
theorem d_law_1455 : decode code 1455 = .ok (.aload_n 2, 1) := by decide +kernel
theorem d_law_1456 : decode code 1456 = .ok (.aload_n 0, 1) := by decide +kernel
theorem d_law_1457 : decode code 1457 = .ok (.iload_n 3, 1) := by decide +kernel
theorem d_law_1458 : decode code 1458 = .ok (.iconst 1, 1) := by decide +kernel
theorem d_law_1459 : decode code 1459 = .ok (.iadd, 1) := by decide +kernel
theorem d_law_1460 : decode code 1460 = .ok (.iaload, 1) := by decide +kernel
theorem d_law_1461 : decode code 1461 = .ok (.invokevirtual 188, 3) := by decide +kernel
theorem d_law_1464 : decode code 1464 = .ok (.if_icmp .eq 19, 3) := by decide +kernel
theorem d_law_1467 : decode code 1467 = .ok (.iconst 0, 1) := by decide +kernel
theorem d_law_1468 : decode code 1468 = .ok (.ireturn, 1) := by decide +kernel
theorem d_law_1469 : decode code 1469 = .ok (.aload_n 1, 1) := by decide +kernel
theorem d_law_1470 : decode code 1470 = .ok (.invokevirtual 189, 3) := by decide +kernel
theorem d_law_1473 : decode code 1473 = .ok (.aload_n 2, 1) := by decide +kernel
theorem d_law_1474 : decode code 1474 = .ok (.invokevirtual 193, 3) := by decide +kernel
theorem d_law_1477 : decode code 1477 = .ok (.lcmp, 1) := by decide +kernel
theorem d_law_1478 : decode code 1478 = .ok (.ifCond .eq 5, 3) := by decide +kernel
theorem d_law_1481 : decode code 1481 = .ok (.iconst 0, 1) := by decide +kernel
theorem d_law_1482 : decode code 1482 = .ok (.ireturn, 1) := by decide +kernel
theorem d_law_1483 : decode code 1483 = .ok (.iinc 3 7, 3) := by decide +kernel
theorem d_law_1486 : decode code 1486 = .ok (.goto (-1468), 3) := by decide +kernel
theorem d_law_1489 : decode code 1489 = .ok (.iconst 1, 1) := by decide +kernel
theorem d_law_1490 : decode code 1490 = .ok (.ireturn, 1) := by decide +kernel
theorem llaw_13 : Cond.methodLink R_law 13 (xn yyH_town) ∈ lw_tb := lw_tb_at 244 (by decide +kernel) rfl
theorem lcv_H_town : xcv yyH_town 0 := ⟨⟨lw_tb_at 247 (by decide +kernel) rfl, lw_tb_at 1 (by decide +kernel) rfl, ⟨by decide +kernel, by decide +kernel⟩, by decide +kernel⟩, lw_tb_at 245 (by decide +kernel) rfl, lw_tb_at 246 (by decide +kernel) rfl⟩
theorem llaw_17 : Cond.methodLink R_law 17 (xn yyM_town) ∈ lw_tb := lw_tb_at 985 (by decide +kernel) rfl
theorem lcv_M_town : xcv yyM_town 0 := ⟨⟨lw_tb_at 988 (by decide +kernel) rfl, lw_tb_at 9 (by decide +kernel) rfl, ⟨by decide +kernel, by decide +kernel⟩, by decide +kernel⟩, lw_tb_at 986 (by decide +kernel) rfl, lw_tb_at 987 (by decide +kernel) rfl⟩
theorem llaw_18 : Cond.methodLink R_law 18 (xn yyH_wet) ∈ lw_tb := lw_tb_at 265 (by decide +kernel) rfl
theorem lcv_H_wet : xcv yyH_wet 2 := ⟨⟨lw_tb_at 268 (by decide +kernel) rfl, lw_tb_at 1 (by decide +kernel) rfl, ⟨by decide +kernel, by decide +kernel⟩, by decide +kernel⟩, lw_tb_at 266 (by decide +kernel) rfl, lw_tb_at 267 (by decide +kernel) rfl⟩
theorem llaw_22 : Cond.methodLink R_law 22 (xn yyM_wet) ∈ lw_tb := lw_tb_at 993 (by decide +kernel) rfl
theorem lcv_M_wet : xcv yyM_wet 2 := ⟨⟨lw_tb_at 996 (by decide +kernel) rfl, lw_tb_at 9 (by decide +kernel) rfl, ⟨by decide +kernel, by decide +kernel⟩, by decide +kernel⟩, lw_tb_at 994 (by decide +kernel) rfl, lw_tb_at 995 (by decide +kernel) rfl⟩
theorem llaw_23 : Cond.methodLink R_law 23 (xn yyH_board) ∈ lw_tb := lw_tb_at 286 (by decide +kernel) rfl
theorem lcv_H_board : xcv yyH_board 4 := ⟨⟨lw_tb_at 289 (by decide +kernel) rfl, lw_tb_at 1 (by decide +kernel) rfl, ⟨by decide +kernel, by decide +kernel⟩, by decide +kernel⟩, lw_tb_at 287 (by decide +kernel) rfl, lw_tb_at 288 (by decide +kernel) rfl⟩
theorem llaw_27 : Cond.methodLink R_law 27 (xn yyM_board) ∈ lw_tb := lw_tb_at 1005 (by decide +kernel) rfl
theorem lcv_M_board : xcv yyM_board 4 := ⟨⟨lw_tb_at 1008 (by decide +kernel) rfl, lw_tb_at 9 (by decide +kernel) rfl, ⟨by decide +kernel, by decide +kernel⟩, by decide +kernel⟩, lw_tb_at 1006 (by decide +kernel) rfl, lw_tb_at 1007 (by decide +kernel) rfl⟩
theorem llaw_28 : Cond.methodLink R_law 28 (xn yyH_make) ∈ lw_tb := lw_tb_at 303 (by decide +kernel) rfl
theorem lcv_H_make : xcv yyH_make 1 := ⟨⟨lw_tb_at 306 (by decide +kernel) rfl, lw_tb_at 1 (by decide +kernel) rfl, ⟨by decide +kernel, by decide +kernel⟩, by decide +kernel⟩, lw_tb_at 304 (by decide +kernel) rfl, lw_tb_at 305 (by decide +kernel) rfl⟩
theorem llaw_32 : Cond.methodLink R_law 32 (xn yyM_make) ∈ lw_tb := lw_tb_at 1021 (by decide +kernel) rfl
theorem lcv_M_make : xcv yyM_make 1 := ⟨⟨lw_tb_at 1024 (by decide +kernel) rfl, lw_tb_at 9 (by decide +kernel) rfl, ⟨by decide +kernel, by decide +kernel⟩, by decide +kernel⟩, lw_tb_at 1022 (by decide +kernel) rfl, lw_tb_at 1023 (by decide +kernel) rfl⟩
theorem llaw_33 : Cond.methodLink R_law 33 (xn yyH_worm) ∈ lw_tb := lw_tb_at 312 (by decide +kernel) rfl
theorem lcv_H_worm : xcv yyH_worm 2 := ⟨⟨lw_tb_at 315 (by decide +kernel) rfl, lw_tb_at 1 (by decide +kernel) rfl, ⟨by decide +kernel, by decide +kernel⟩, by decide +kernel⟩, lw_tb_at 313 (by decide +kernel) rfl, lw_tb_at 314 (by decide +kernel) rfl⟩
theorem llaw_36 : Cond.methodLink R_law 36 (xn yyM_worm) ∈ lw_tb := lw_tb_at 1025 (by decide +kernel) rfl
theorem lcv_M_worm : xcv yyM_worm 2 := ⟨⟨lw_tb_at 1028 (by decide +kernel) rfl, lw_tb_at 9 (by decide +kernel) rfl, ⟨by decide +kernel, by decide +kernel⟩, by decide +kernel⟩, lw_tb_at 1026 (by decide +kernel) rfl, lw_tb_at 1027 (by decide +kernel) rfl⟩
theorem llaw_37 : Cond.methodLink R_law 37 (xn yyH_type) ∈ lw_tb := lw_tb_at 329 (by decide +kernel) rfl
theorem lcv_H_type : xcv yyH_type 1 := ⟨⟨lw_tb_at 332 (by decide +kernel) rfl, lw_tb_at 1 (by decide +kernel) rfl, ⟨by decide +kernel, by decide +kernel⟩, by decide +kernel⟩, lw_tb_at 330 (by decide +kernel) rfl, lw_tb_at 331 (by decide +kernel) rfl⟩
theorem llaw_40 : Cond.methodLink R_law 40 (xn yyM_type) ∈ lw_tb := lw_tb_at 1033 (by decide +kernel) rfl
theorem lcv_M_type : xcv yyM_type 1 := ⟨⟨lw_tb_at 1036 (by decide +kernel) rfl, lw_tb_at 9 (by decide +kernel) rfl, ⟨by decide +kernel, by decide +kernel⟩, by decide +kernel⟩, lw_tb_at 1034 (by decide +kernel) rfl, lw_tb_at 1035 (by decide +kernel) rfl⟩
theorem llaw_41 : Cond.methodLink R_law 41 (xn yyH_clear) ∈ lw_tb := lw_tb_at 334 (by decide +kernel) rfl
theorem lcv_H_clear : xcv yyH_clear 0 := ⟨⟨lw_tb_at 337 (by decide +kernel) rfl, lw_tb_at 1 (by decide +kernel) rfl, ⟨by decide +kernel, by decide +kernel⟩, by decide +kernel⟩, lw_tb_at 335 (by decide +kernel) rfl, lw_tb_at 336 (by decide +kernel) rfl⟩
theorem llaw_44 : Cond.methodLink R_law 44 (xn yyM_clear) ∈ lw_tb := lw_tb_at 1038 (by decide +kernel) rfl
theorem lcv_M_clear : xcv yyM_clear 0 := ⟨⟨lw_tb_at 1041 (by decide +kernel) rfl, lw_tb_at 9 (by decide +kernel) rfl, ⟨by decide +kernel, by decide +kernel⟩, by decide +kernel⟩, lw_tb_at 1039 (by decide +kernel) rfl, lw_tb_at 1040 (by decide +kernel) rfl⟩
theorem llaw_45 : Cond.methodLink R_law 45 (xn yyH_read) ∈ lw_tb := lw_tb_at 338 (by decide +kernel) rfl
theorem lcv_H_read : xcv yyH_read 0 := ⟨⟨lw_tb_at 341 (by decide +kernel) rfl, lw_tb_at 1 (by decide +kernel) rfl, ⟨by decide +kernel, by decide +kernel⟩, by decide +kernel⟩, lw_tb_at 339 (by decide +kernel) rfl, lw_tb_at 340 (by decide +kernel) rfl⟩
theorem llaw_48 : Cond.methodLink R_law 48 (xn yyM_read) ∈ lw_tb := lw_tb_at 1042 (by decide +kernel) rfl
theorem lcv_M_read : xcv yyM_read 0 := ⟨⟨lw_tb_at 1045 (by decide +kernel) rfl, lw_tb_at 9 (by decide +kernel) rfl, ⟨by decide +kernel, by decide +kernel⟩, by decide +kernel⟩, lw_tb_at 1043 (by decide +kernel) rfl, lw_tb_at 1044 (by decide +kernel) rfl⟩
theorem llaw_49 : Cond.methodLink R_law 49 (xn yyH_year) ∈ lw_tb := lw_tb_at 548 (by decide +kernel) rfl
theorem lcv_H_year : xcv yyH_year 1 := ⟨⟨lw_tb_at 551 (by decide +kernel) rfl, lw_tb_at 1 (by decide +kernel) rfl, ⟨by decide +kernel, by decide +kernel⟩, by decide +kernel⟩, lw_tb_at 549 (by decide +kernel) rfl, lw_tb_at 550 (by decide +kernel) rfl⟩
theorem llaw_52 : Cond.methodLink R_law 52 (xn yyM_year) ∈ lw_tb := lw_tb_at 1123 (by decide +kernel) rfl
theorem lcv_M_year : xcv yyM_year 1 := ⟨⟨lw_tb_at 1126 (by decide +kernel) rfl, lw_tb_at 9 (by decide +kernel) rfl, ⟨by decide +kernel, by decide +kernel⟩, by decide +kernel⟩, lw_tb_at 1124 (by decide +kernel) rfl, lw_tb_at 1125 (by decide +kernel) rfl⟩
theorem llaw_53 : Cond.methodLink R_law 53 (xn yyH_cuts) ∈ lw_tb := lw_tb_at 570 (by decide +kernel) rfl
theorem lcv_H_cuts : xcv yyH_cuts 2 := ⟨⟨lw_tb_at 573 (by decide +kernel) rfl, lw_tb_at 1 (by decide +kernel) rfl, ⟨by decide +kernel, by decide +kernel⟩, by decide +kernel⟩, lw_tb_at 571 (by decide +kernel) rfl, lw_tb_at 572 (by decide +kernel) rfl⟩
theorem llaw_56 : Cond.methodLink R_law 56 (xn yyM_cuts) ∈ lw_tb := lw_tb_at 1136 (by decide +kernel) rfl
theorem lcv_M_cuts : xcv yyM_cuts 2 := ⟨⟨lw_tb_at 1139 (by decide +kernel) rfl, lw_tb_at 9 (by decide +kernel) rfl, ⟨by decide +kernel, by decide +kernel⟩, by decide +kernel⟩, lw_tb_at 1137 (by decide +kernel) rfl, lw_tb_at 1138 (by decide +kernel) rfl⟩
theorem llaw_57 : Cond.methodLink R_law 57 (xn yyH_takes) ∈ lw_tb := lw_tb_at 584 (by decide +kernel) rfl
theorem lcv_H_takes : xcv yyH_takes 1 := ⟨⟨lw_tb_at 587 (by decide +kernel) rfl, lw_tb_at 1 (by decide +kernel) rfl, ⟨by decide +kernel, by decide +kernel⟩, by decide +kernel⟩, lw_tb_at 585 (by decide +kernel) rfl, lw_tb_at 586 (by decide +kernel) rfl⟩
theorem llaw_60 : Cond.methodLink R_law 60 (xn yyM_takes) ∈ lw_tb := lw_tb_at 1148 (by decide +kernel) rfl
theorem lcv_M_takes : xcv yyM_takes 1 := ⟨⟨lw_tb_at 1151 (by decide +kernel) rfl, lw_tb_at 9 (by decide +kernel) rfl, ⟨by decide +kernel, by decide +kernel⟩, by decide +kernel⟩, lw_tb_at 1149 (by decide +kernel) rfl, lw_tb_at 1150 (by decide +kernel) rfl⟩
theorem llaw_61 : Cond.methodLink R_law 61 (xn yyH_dries) ∈ lw_tb := lw_tb_at 588 (by decide +kernel) rfl
theorem lcv_H_dries : xcv yyH_dries 2 := ⟨⟨lw_tb_at 591 (by decide +kernel) rfl, lw_tb_at 1 (by decide +kernel) rfl, ⟨by decide +kernel, by decide +kernel⟩, by decide +kernel⟩, lw_tb_at 589 (by decide +kernel) rfl, lw_tb_at 590 (by decide +kernel) rfl⟩
theorem llaw_64 : Cond.methodLink R_law 64 (xn yyM_dries) ∈ lw_tb := lw_tb_at 1152 (by decide +kernel) rfl
theorem lcv_M_dries : xcv yyM_dries 2 := ⟨⟨lw_tb_at 1155 (by decide +kernel) rfl, lw_tb_at 9 (by decide +kernel) rfl, ⟨by decide +kernel, by decide +kernel⟩, by decide +kernel⟩, lw_tb_at 1153 (by decide +kernel) rfl, lw_tb_at 1154 (by decide +kernel) rfl⟩
theorem llaw_65 : Cond.methodLink R_law 65 (xn yyH_undo) ∈ lw_tb := lw_tb_at 593 (by decide +kernel) rfl
theorem lcv_H_undo : xcv yyH_undo 0 := ⟨⟨lw_tb_at 596 (by decide +kernel) rfl, lw_tb_at 1 (by decide +kernel) rfl, ⟨by decide +kernel, by decide +kernel⟩, by decide +kernel⟩, lw_tb_at 594 (by decide +kernel) rfl, lw_tb_at 595 (by decide +kernel) rfl⟩
theorem llaw_68 : Cond.methodLink R_law 68 (xn yyM_undo) ∈ lw_tb := lw_tb_at 1159 (by decide +kernel) rfl
theorem lcv_M_undo : xcv yyM_undo 0 := ⟨⟨lw_tb_at 1162 (by decide +kernel) rfl, lw_tb_at 9 (by decide +kernel) rfl, ⟨by decide +kernel, by decide +kernel⟩, by decide +kernel⟩, lw_tb_at 1160 (by decide +kernel) rfl, lw_tb_at 1161 (by decide +kernel) rfl⟩
theorem llaw_69 : Cond.methodLink R_law 69 (xn yyH_of) ∈ lw_tb := lw_tb_at 609 (by decide +kernel) rfl
theorem lcv_H_of : xcv yyH_of 2 := ⟨⟨lw_tb_at 612 (by decide +kernel) rfl, lw_tb_at 1 (by decide +kernel) rfl, ⟨by decide +kernel, by decide +kernel⟩, by decide +kernel⟩, lw_tb_at 610 (by decide +kernel) rfl, lw_tb_at 611 (by decide +kernel) rfl⟩
theorem llaw_72 : Cond.methodLink R_law 72 (xn yyM_of) ∈ lw_tb := lw_tb_at 1163 (by decide +kernel) rfl
theorem lcv_M_of : xcv yyM_of 2 := ⟨⟨lw_tb_at 1166 (by decide +kernel) rfl, lw_tb_at 9 (by decide +kernel) rfl, ⟨by decide +kernel, by decide +kernel⟩, by decide +kernel⟩, lw_tb_at 1164 (by decide +kernel) rfl, lw_tb_at 1165 (by decide +kernel) rfl⟩
theorem llaw_73 : Cond.methodLink R_law 73 (xn yyH_about) ∈ lw_tb := lw_tb_at 613 (by decide +kernel) rfl
theorem lcv_H_about : xcv yyH_about 2 := ⟨⟨lw_tb_at 616 (by decide +kernel) rfl, lw_tb_at 1 (by decide +kernel) rfl, ⟨by decide +kernel, by decide +kernel⟩, by decide +kernel⟩, lw_tb_at 614 (by decide +kernel) rfl, lw_tb_at 615 (by decide +kernel) rfl⟩
theorem llaw_76 : Cond.methodLink R_law 76 (xn yyM_about) ∈ lw_tb := lw_tb_at 1171 (by decide +kernel) rfl
theorem lcv_M_about : xcv yyM_about 2 := ⟨⟨lw_tb_at 1174 (by decide +kernel) rfl, lw_tb_at 9 (by decide +kernel) rfl, ⟨by decide +kernel, by decide +kernel⟩, by decide +kernel⟩, lw_tb_at 1172 (by decide +kernel) rfl, lw_tb_at 1173 (by decide +kernel) rfl⟩
theorem llaw_77 : Cond.methodLink R_law 77 (xn yyH_sounds) ∈ lw_tb := lw_tb_at 621 (by decide +kernel) rfl
theorem lcv_H_sounds : xcv yyH_sounds 2 := ⟨⟨lw_tb_at 624 (by decide +kernel) rfl, lw_tb_at 1 (by decide +kernel) rfl, ⟨by decide +kernel, by decide +kernel⟩, by decide +kernel⟩, lw_tb_at 622 (by decide +kernel) rfl, lw_tb_at 623 (by decide +kernel) rfl⟩
theorem llaw_80 : Cond.methodLink R_law 80 (xn yyM_sounds) ∈ lw_tb := lw_tb_at 1182 (by decide +kernel) rfl
theorem lcv_M_sounds : xcv yyM_sounds 2 := ⟨⟨lw_tb_at 1185 (by decide +kernel) rfl, lw_tb_at 9 (by decide +kernel) rfl, ⟨by decide +kernel, by decide +kernel⟩, by decide +kernel⟩, lw_tb_at 1183 (by decide +kernel) rfl, lw_tb_at 1184 (by decide +kernel) rfl⟩
theorem llaw_81 : Cond.methodLink R_law 81 (xn yyH_plays) ∈ lw_tb := lw_tb_at 654 (by decide +kernel) rfl
theorem lcv_H_plays : xcv yyH_plays 2 := ⟨⟨lw_tb_at 657 (by decide +kernel) rfl, lw_tb_at 1 (by decide +kernel) rfl, ⟨by decide +kernel, by decide +kernel⟩, by decide +kernel⟩, lw_tb_at 655 (by decide +kernel) rfl, lw_tb_at 656 (by decide +kernel) rfl⟩
theorem llaw_84 : Cond.methodLink R_law 84 (xn yyM_plays) ∈ lw_tb := lw_tb_at 1205 (by decide +kernel) rfl
theorem lcv_M_plays : xcv yyM_plays 2 := ⟨⟨lw_tb_at 1208 (by decide +kernel) rfl, lw_tb_at 9 (by decide +kernel) rfl, ⟨by decide +kernel, by decide +kernel⟩, by decide +kernel⟩, lw_tb_at 1206 (by decide +kernel) rfl, lw_tb_at 1207 (by decide +kernel) rfl⟩
theorem llaw_85 : Cond.methodLink R_law 85 (xn yyH_then) ∈ lw_tb := lw_tb_at 693 (by decide +kernel) rfl
theorem lcv_H_then : xcv yyH_then 3 := ⟨⟨lw_tb_at 696 (by decide +kernel) rfl, lw_tb_at 1 (by decide +kernel) rfl, ⟨by decide +kernel, by decide +kernel⟩, by decide +kernel⟩, lw_tb_at 694 (by decide +kernel) rfl, lw_tb_at 695 (by decide +kernel) rfl⟩
theorem llaw_89 : Cond.methodLink R_law 89 (xn yyM_then) ∈ lw_tb := lw_tb_at 1219 (by decide +kernel) rfl
theorem lcv_M_then : xcv yyM_then 3 := ⟨⟨lw_tb_at 1222 (by decide +kernel) rfl, lw_tb_at 9 (by decide +kernel) rfl, ⟨by decide +kernel, by decide +kernel⟩, by decide +kernel⟩, lw_tb_at 1220 (by decide +kernel) rfl, lw_tb_at 1221 (by decide +kernel) rfl⟩
theorem llaw_90 : Cond.methodLink R_law 90 (xn yyH_waits) ∈ lw_tb := lw_tb_at 700 (by decide +kernel) rfl
theorem lcv_H_waits : xcv yyH_waits 3 := ⟨⟨lw_tb_at 703 (by decide +kernel) rfl, lw_tb_at 1 (by decide +kernel) rfl, ⟨by decide +kernel, by decide +kernel⟩, by decide +kernel⟩, lw_tb_at 701 (by decide +kernel) rfl, lw_tb_at 702 (by decide +kernel) rfl⟩
theorem llaw_93 : Cond.methodLink R_law 93 (xn yyM_waits) ∈ lw_tb := lw_tb_at 1227 (by decide +kernel) rfl
theorem lcv_M_waits : xcv yyM_waits 3 := ⟨⟨lw_tb_at 1230 (by decide +kernel) rfl, lw_tb_at 9 (by decide +kernel) rfl, ⟨by decide +kernel, by decide +kernel⟩, by decide +kernel⟩, lw_tb_at 1228 (by decide +kernel) rfl, lw_tb_at 1229 (by decide +kernel) rfl⟩
theorem llaw_94 : Cond.methodLink R_law 94 (xn yyH_dry) ∈ lw_tb := lw_tb_at 704 (by decide +kernel) rfl
theorem lcv_H_dry : xcv yyH_dry 3 := ⟨⟨lw_tb_at 707 (by decide +kernel) rfl, lw_tb_at 1 (by decide +kernel) rfl, ⟨by decide +kernel, by decide +kernel⟩, by decide +kernel⟩, lw_tb_at 705 (by decide +kernel) rfl, lw_tb_at 706 (by decide +kernel) rfl⟩
theorem llaw_97 : Cond.methodLink R_law 97 (xn yyM_dry) ∈ lw_tb := lw_tb_at 1231 (by decide +kernel) rfl
theorem lcv_M_dry : xcv yyM_dry 3 := ⟨⟨lw_tb_at 1234 (by decide +kernel) rfl, lw_tb_at 9 (by decide +kernel) rfl, ⟨by decide +kernel, by decide +kernel⟩, by decide +kernel⟩, lw_tb_at 1232 (by decide +kernel) rfl, lw_tb_at 1233 (by decide +kernel) rfl⟩
theorem llaw_98 : Cond.methodLink R_law 98 (xn yyH_tune) ∈ lw_tb := lw_tb_at 712 (by decide +kernel) rfl
theorem lcv_H_tune : xcv yyH_tune 3 := ⟨⟨lw_tb_at 715 (by decide +kernel) rfl, lw_tb_at 1 (by decide +kernel) rfl, ⟨by decide +kernel, by decide +kernel⟩, by decide +kernel⟩, lw_tb_at 713 (by decide +kernel) rfl, lw_tb_at 714 (by decide +kernel) rfl⟩
theorem llaw_101 : Cond.methodLink R_law 101 (xn yyM_tune) ∈ lw_tb := lw_tb_at 1236 (by decide +kernel) rfl
theorem lcv_M_tune : xcv yyM_tune 3 := ⟨⟨lw_tb_at 1239 (by decide +kernel) rfl, lw_tb_at 9 (by decide +kernel) rfl, ⟨by decide +kernel, by decide +kernel⟩, by decide +kernel⟩, lw_tb_at 1237 (by decide +kernel) rfl, lw_tb_at 1238 (by decide +kernel) rfl⟩
theorem llaw_102 : Cond.methodLink R_law 102 (xn yyH_best) ∈ lw_tb := lw_tb_at 721 (by decide +kernel) rfl
theorem lcv_H_best : xcv yyH_best 2 := ⟨⟨lw_tb_at 724 (by decide +kernel) rfl, lw_tb_at 1 (by decide +kernel) rfl, ⟨by decide +kernel, by decide +kernel⟩, by decide +kernel⟩, lw_tb_at 722 (by decide +kernel) rfl, lw_tb_at 723 (by decide +kernel) rfl⟩
theorem llaw_105 : Cond.methodLink R_law 105 (xn yyM_best) ∈ lw_tb := lw_tb_at 1247 (by decide +kernel) rfl
theorem lcv_M_best : xcv yyM_best 2 := ⟨⟨lw_tb_at 1250 (by decide +kernel) rfl, lw_tb_at 9 (by decide +kernel) rfl, ⟨by decide +kernel, by decide +kernel⟩, by decide +kernel⟩, lw_tb_at 1248 (by decide +kernel) rfl, lw_tb_at 1249 (by decide +kernel) rfl⟩
theorem llaw_106 : Cond.methodLink R_law 106 (xn yyH_together) ∈ lw_tb := lw_tb_at 756 (by decide +kernel) rfl
theorem lcv_H_together : xcv yyH_together 2 := ⟨⟨lw_tb_at 759 (by decide +kernel) rfl, lw_tb_at 1 (by decide +kernel) rfl, ⟨by decide +kernel, by decide +kernel⟩, by decide +kernel⟩, lw_tb_at 757 (by decide +kernel) rfl, lw_tb_at 758 (by decide +kernel) rfl⟩
theorem llaw_109 : Cond.methodLink R_law 109 (xn yyM_together) ∈ lw_tb := lw_tb_at 1260 (by decide +kernel) rfl
theorem lcv_M_together : xcv yyM_together 2 := ⟨⟨lw_tb_at 1263 (by decide +kernel) rfl, lw_tb_at 9 (by decide +kernel) rfl, ⟨by decide +kernel, by decide +kernel⟩, by decide +kernel⟩, lw_tb_at 1261 (by decide +kernel) rfl, lw_tb_at 1262 (by decide +kernel) rfl⟩
theorem llaw_110 : Cond.methodLink R_law 110 (xn yyH_orchestra) ∈ lw_tb := lw_tb_at 768 (by decide +kernel) rfl
theorem lcv_H_orchestra : xcv yyH_orchestra 0 := ⟨⟨lw_tb_at 771 (by decide +kernel) rfl, lw_tb_at 1 (by decide +kernel) rfl, ⟨by decide +kernel, by decide +kernel⟩, by decide +kernel⟩, lw_tb_at 769 (by decide +kernel) rfl, lw_tb_at 770 (by decide +kernel) rfl⟩
theorem llaw_113 : Cond.methodLink R_law 113 (xn yyM_orchestra) ∈ lw_tb := lw_tb_at 1269 (by decide +kernel) rfl
theorem lcv_M_orchestra : xcv yyM_orchestra 0 := ⟨⟨lw_tb_at 1272 (by decide +kernel) rfl, lw_tb_at 9 (by decide +kernel) rfl, ⟨by decide +kernel, by decide +kernel⟩, by decide +kernel⟩, lw_tb_at 1270 (by decide +kernel) rfl, lw_tb_at 1271 (by decide +kernel) rfl⟩
theorem llaw_114 : Cond.methodLink R_law 114 (xn yyH_heard) ∈ lw_tb := lw_tb_at 777 (by decide +kernel) rfl
theorem lcv_H_heard : xcv yyH_heard 2 := ⟨⟨lw_tb_at 780 (by decide +kernel) rfl, lw_tb_at 1 (by decide +kernel) rfl, ⟨by decide +kernel, by decide +kernel⟩, by decide +kernel⟩, lw_tb_at 778 (by decide +kernel) rfl, lw_tb_at 779 (by decide +kernel) rfl⟩
theorem llaw_117 : Cond.methodLink R_law 117 (xn yyM_heard) ∈ lw_tb := lw_tb_at 1273 (by decide +kernel) rfl
theorem lcv_M_heard : xcv yyM_heard 2 := ⟨⟨lw_tb_at 1276 (by decide +kernel) rfl, lw_tb_at 9 (by decide +kernel) rfl, ⟨by decide +kernel, by decide +kernel⟩, by decide +kernel⟩, lw_tb_at 1274 (by decide +kernel) rfl, lw_tb_at 1275 (by decide +kernel) rfl⟩
theorem llaw_118 : Cond.methodLink R_law 118 (xn yyH_whose) ∈ lw_tb := lw_tb_at 781 (by decide +kernel) rfl
theorem lcv_H_whose : xcv yyH_whose 0 := ⟨⟨lw_tb_at 784 (by decide +kernel) rfl, lw_tb_at 1 (by decide +kernel) rfl, ⟨by decide +kernel, by decide +kernel⟩, by decide +kernel⟩, lw_tb_at 782 (by decide +kernel) rfl, lw_tb_at 783 (by decide +kernel) rfl⟩
theorem llaw_121 : Cond.methodLink R_law 121 (xn yyM_whose) ∈ lw_tb := lw_tb_at 1277 (by decide +kernel) rfl
theorem lcv_M_whose : xcv yyM_whose 0 := ⟨⟨lw_tb_at 1280 (by decide +kernel) rfl, lw_tb_at 9 (by decide +kernel) rfl, ⟨by decide +kernel, by decide +kernel⟩, by decide +kernel⟩, lw_tb_at 1278 (by decide +kernel) rfl, lw_tb_at 1279 (by decide +kernel) rfl⟩
theorem llaw_122 : Cond.methodLink R_law 122 (xn yyH_tells) ∈ lw_tb := lw_tb_at 793 (by decide +kernel) rfl
theorem lcv_H_tells : xcv yyH_tells 0 := ⟨⟨lw_tb_at 796 (by decide +kernel) rfl, lw_tb_at 1 (by decide +kernel) rfl, ⟨by decide +kernel, by decide +kernel⟩, by decide +kernel⟩, lw_tb_at 794 (by decide +kernel) rfl, lw_tb_at 795 (by decide +kernel) rfl⟩
theorem llaw_125 : Cond.methodLink R_law 125 (xn yyM_tells) ∈ lw_tb := lw_tb_at 1281 (by decide +kernel) rfl
theorem lcv_M_tells : xcv yyM_tells 0 := ⟨⟨lw_tb_at 1284 (by decide +kernel) rfl, lw_tb_at 9 (by decide +kernel) rfl, ⟨by decide +kernel, by decide +kernel⟩, by decide +kernel⟩, lw_tb_at 1282 (by decide +kernel) rfl, lw_tb_at 1283 (by decide +kernel) rfl⟩
theorem llaw_126 : Cond.methodLink R_law 126 (xn yyH_note) ∈ lw_tb := lw_tb_at 805 (by decide +kernel) rfl
theorem lcv_H_note : xcv yyH_note 5 := ⟨⟨lw_tb_at 808 (by decide +kernel) rfl, lw_tb_at 1 (by decide +kernel) rfl, ⟨by decide +kernel, by decide +kernel⟩, by decide +kernel⟩, lw_tb_at 806 (by decide +kernel) rfl, lw_tb_at 807 (by decide +kernel) rfl⟩
theorem llaw_130 : Cond.methodLink R_law 130 (xn yyM_note) ∈ lw_tb := lw_tb_at 1290 (by decide +kernel) rfl
theorem lcv_M_note : xcv yyM_note 5 := ⟨⟨lw_tb_at 1293 (by decide +kernel) rfl, lw_tb_at 9 (by decide +kernel) rfl, ⟨by decide +kernel, by decide +kernel⟩, by decide +kernel⟩, lw_tb_at 1291 (by decide +kernel) rfl, lw_tb_at 1292 (by decide +kernel) rfl⟩
theorem llaw_131 : Cond.methodLink R_law 131 (xn yyH_mark) ∈ lw_tb := lw_tb_at 809 (by decide +kernel) rfl
theorem lcv_H_mark : xcv yyH_mark 6 := ⟨⟨lw_tb_at 812 (by decide +kernel) rfl, lw_tb_at 1 (by decide +kernel) rfl, ⟨by decide +kernel, by decide +kernel⟩, by decide +kernel⟩, lw_tb_at 810 (by decide +kernel) rfl, lw_tb_at 811 (by decide +kernel) rfl⟩
theorem llaw_135 : Cond.methodLink R_law 135 (xn yyM_mark) ∈ lw_tb := lw_tb_at 1294 (by decide +kernel) rfl
theorem lcv_M_mark : xcv yyM_mark 6 := ⟨⟨lw_tb_at 1297 (by decide +kernel) rfl, lw_tb_at 9 (by decide +kernel) rfl, ⟨by decide +kernel, by decide +kernel⟩, by decide +kernel⟩, lw_tb_at 1295 (by decide +kernel) rfl, lw_tb_at 1296 (by decide +kernel) rfl⟩
theorem llaw_136 : Cond.methodLink R_law 136 (xn yyH_forget) ∈ lw_tb := lw_tb_at 813 (by decide +kernel) rfl
theorem lcv_H_forget : xcv yyH_forget 1 := ⟨⟨lw_tb_at 816 (by decide +kernel) rfl, lw_tb_at 1 (by decide +kernel) rfl, ⟨by decide +kernel, by decide +kernel⟩, by decide +kernel⟩, lw_tb_at 814 (by decide +kernel) rfl, lw_tb_at 815 (by decide +kernel) rfl⟩
theorem llaw_139 : Cond.methodLink R_law 139 (xn yyM_forget) ∈ lw_tb := lw_tb_at 1299 (by decide +kernel) rfl
theorem lcv_M_forget : xcv yyM_forget 1 := ⟨⟨lw_tb_at 1302 (by decide +kernel) rfl, lw_tb_at 9 (by decide +kernel) rfl, ⟨by decide +kernel, by decide +kernel⟩, by decide +kernel⟩, lw_tb_at 1300 (by decide +kernel) rfl, lw_tb_at 1301 (by decide +kernel) rfl⟩
theorem llaw_140 : Cond.methodLink R_law 140 (xn yyH_is) ∈ lw_tb := lw_tb_at 817 (by decide +kernel) rfl
theorem lcv_H_is : xcv yyH_is 1 := ⟨⟨lw_tb_at 820 (by decide +kernel) rfl, lw_tb_at 1 (by decide +kernel) rfl, ⟨by decide +kernel, by decide +kernel⟩, by decide +kernel⟩, lw_tb_at 818 (by decide +kernel) rfl, lw_tb_at 819 (by decide +kernel) rfl⟩
theorem llaw_143 : Cond.methodLink R_law 143 (xn yyM_is) ∈ lw_tb := lw_tb_at 1303 (by decide +kernel) rfl
theorem lcv_M_is : xcv yyM_is 1 := ⟨⟨lw_tb_at 1306 (by decide +kernel) rfl, lw_tb_at 9 (by decide +kernel) rfl, ⟨by decide +kernel, by decide +kernel⟩, by decide +kernel⟩, lw_tb_at 1304 (by decide +kernel) rfl, lw_tb_at 1305 (by decide +kernel) rfl⟩
theorem llaw_144 : Cond.methodLink R_law 144 (xn yyH_look) ∈ lw_tb := lw_tb_at 830 (by decide +kernel) rfl
theorem lcv_H_look : xcv yyH_look 1 := ⟨⟨lw_tb_at 833 (by decide +kernel) rfl, lw_tb_at 1 (by decide +kernel) rfl, ⟨by decide +kernel, by decide +kernel⟩, by decide +kernel⟩, lw_tb_at 831 (by decide +kernel) rfl, lw_tb_at 832 (by decide +kernel) rfl⟩
theorem llaw_147 : Cond.methodLink R_law 147 (xn yyM_look) ∈ lw_tb := lw_tb_at 1311 (by decide +kernel) rfl
theorem lcv_M_look : xcv yyM_look 1 := ⟨⟨lw_tb_at 1314 (by decide +kernel) rfl, lw_tb_at 9 (by decide +kernel) rfl, ⟨by decide +kernel, by decide +kernel⟩, by decide +kernel⟩, lw_tb_at 1312 (by decide +kernel) rfl, lw_tb_at 1313 (by decide +kernel) rfl⟩
theorem llaw_148 : Cond.methodLink R_law 148 (xn yyH_kinds) ∈ lw_tb := lw_tb_at 835 (by decide +kernel) rfl
theorem lcv_H_kinds : xcv yyH_kinds 1 := ⟨⟨lw_tb_at 838 (by decide +kernel) rfl, lw_tb_at 1 (by decide +kernel) rfl, ⟨by decide +kernel, by decide +kernel⟩, by decide +kernel⟩, lw_tb_at 836 (by decide +kernel) rfl, lw_tb_at 837 (by decide +kernel) rfl⟩
theorem llaw_151 : Cond.methodLink R_law 151 (xn yyM_kinds) ∈ lw_tb := lw_tb_at 1315 (by decide +kernel) rfl
theorem lcv_M_kinds : xcv yyM_kinds 1 := ⟨⟨lw_tb_at 1318 (by decide +kernel) rfl, lw_tb_at 9 (by decide +kernel) rfl, ⟨by decide +kernel, by decide +kernel⟩, by decide +kernel⟩, lw_tb_at 1316 (by decide +kernel) rfl, lw_tb_at 1317 (by decide +kernel) rfl⟩
theorem llaw_152 : Cond.methodLink R_law 152 (xn yyH_ask) ∈ lw_tb := lw_tb_at 847 (by decide +kernel) rfl
theorem lcv_H_ask : xcv yyH_ask 1 := ⟨⟨lw_tb_at 850 (by decide +kernel) rfl, lw_tb_at 1 (by decide +kernel) rfl, ⟨by decide +kernel, by decide +kernel⟩, by decide +kernel⟩, lw_tb_at 848 (by decide +kernel) rfl, lw_tb_at 849 (by decide +kernel) rfl⟩
theorem llaw_155 : Cond.methodLink R_law 155 (xn yyM_ask) ∈ lw_tb := lw_tb_at 1323 (by decide +kernel) rfl
theorem lcv_M_ask : xcv yyM_ask 1 := ⟨⟨lw_tb_at 1326 (by decide +kernel) rfl, lw_tb_at 9 (by decide +kernel) rfl, ⟨by decide +kernel, by decide +kernel⟩, by decide +kernel⟩, lw_tb_at 1324 (by decide +kernel) rfl, lw_tb_at 1325 (by decide +kernel) rfl⟩
theorem llaw_156 : Cond.methodLink R_law 156 (xn yyH_bids) ∈ lw_tb := lw_tb_at 856 (by decide +kernel) rfl
theorem lcv_H_bids : xcv yyH_bids 2 := ⟨⟨lw_tb_at 859 (by decide +kernel) rfl, lw_tb_at 1 (by decide +kernel) rfl, ⟨by decide +kernel, by decide +kernel⟩, by decide +kernel⟩, lw_tb_at 857 (by decide +kernel) rfl, lw_tb_at 858 (by decide +kernel) rfl⟩
theorem llaw_159 : Cond.methodLink R_law 159 (xn yyM_bids) ∈ lw_tb := lw_tb_at 1327 (by decide +kernel) rfl
theorem lcv_M_bids : xcv yyM_bids 2 := ⟨⟨lw_tb_at 1330 (by decide +kernel) rfl, lw_tb_at 9 (by decide +kernel) rfl, ⟨by decide +kernel, by decide +kernel⟩, by decide +kernel⟩, lw_tb_at 1328 (by decide +kernel) rfl, lw_tb_at 1329 (by decide +kernel) rfl⟩
theorem llaw_160 : Cond.methodLink R_law 160 (xn yyH_weeps) ∈ lw_tb := lw_tb_at 870 (by decide +kernel) rfl
theorem lcv_H_weeps : xcv yyH_weeps 3 := ⟨⟨lw_tb_at 873 (by decide +kernel) rfl, lw_tb_at 1 (by decide +kernel) rfl, ⟨by decide +kernel, by decide +kernel⟩, by decide +kernel⟩, lw_tb_at 871 (by decide +kernel) rfl, lw_tb_at 872 (by decide +kernel) rfl⟩
theorem llaw_163 : Cond.methodLink R_law 163 (xn yyM_weeps) ∈ lw_tb := lw_tb_at 1337 (by decide +kernel) rfl
theorem lcv_M_weeps : xcv yyM_weeps 3 := ⟨⟨lw_tb_at 1340 (by decide +kernel) rfl, lw_tb_at 9 (by decide +kernel) rfl, ⟨by decide +kernel, by decide +kernel⟩, by decide +kernel⟩, lw_tb_at 1338 (by decide +kernel) rfl, lw_tb_at 1339 (by decide +kernel) rfl⟩
theorem llaw_164 : Cond.methodLink R_law 164 (xn yyH_generations) ∈ lw_tb := lw_tb_at 890 (by decide +kernel) rfl
theorem lcv_H_generations : xcv yyH_generations 2 := ⟨⟨lw_tb_at 893 (by decide +kernel) rfl, lw_tb_at 1 (by decide +kernel) rfl, ⟨by decide +kernel, by decide +kernel⟩, by decide +kernel⟩, lw_tb_at 891 (by decide +kernel) rfl, lw_tb_at 892 (by decide +kernel) rfl⟩
theorem llaw_167 : Cond.methodLink R_law 167 (xn yyM_generations) ∈ lw_tb := lw_tb_at 1342 (by decide +kernel) rfl
theorem lcv_M_generations : xcv yyM_generations 2 := ⟨⟨lw_tb_at 1345 (by decide +kernel) rfl, lw_tb_at 9 (by decide +kernel) rfl, ⟨by decide +kernel, by decide +kernel⟩, by decide +kernel⟩, lw_tb_at 1343 (by decide +kernel) rfl, lw_tb_at 1344 (by decide +kernel) rfl⟩
theorem llaw_168 : Cond.methodLink R_law 168 (xn yyH_part) ∈ lw_tb := lw_tb_at 901 (by decide +kernel) rfl
theorem lcv_H_part : xcv yyH_part 1 := ⟨⟨lw_tb_at 904 (by decide +kernel) rfl, lw_tb_at 1 (by decide +kernel) rfl, ⟨by decide +kernel, by decide +kernel⟩, by decide +kernel⟩, lw_tb_at 902 (by decide +kernel) rfl, lw_tb_at 903 (by decide +kernel) rfl⟩
theorem llaw_172 : Cond.methodLink R_law 172 (xn yyM_part) ∈ lw_tb := lw_tb_at 1352 (by decide +kernel) rfl
theorem lcv_M_part : xcv yyM_part 1 := ⟨⟨lw_tb_at 1355 (by decide +kernel) rfl, lw_tb_at 9 (by decide +kernel) rfl, ⟨by decide +kernel, by decide +kernel⟩, by decide +kernel⟩, lw_tb_at 1353 (by decide +kernel) rfl, lw_tb_at 1354 (by decide +kernel) rfl⟩
theorem llaw_173 : Cond.methodLink R_law 173 (xn yyH_image) ∈ lw_tb := lw_tb_at 905 (by decide +kernel) rfl
theorem lcv_H_image : xcv yyH_image 1 := ⟨⟨lw_tb_at 908 (by decide +kernel) rfl, lw_tb_at 1 (by decide +kernel) rfl, ⟨by decide +kernel, by decide +kernel⟩, by decide +kernel⟩, lw_tb_at 906 (by decide +kernel) rfl, lw_tb_at 907 (by decide +kernel) rfl⟩
theorem llaw_176 : Cond.methodLink R_law 176 (xn yyM_image) ∈ lw_tb := lw_tb_at 1356 (by decide +kernel) rfl
theorem lcv_M_image : xcv yyM_image 1 := ⟨⟨lw_tb_at 1359 (by decide +kernel) rfl, lw_tb_at 9 (by decide +kernel) rfl, ⟨by decide +kernel, by decide +kernel⟩, by decide +kernel⟩, lw_tb_at 1357 (by decide +kernel) rfl, lw_tb_at 1358 (by decide +kernel) rfl⟩
theorem llaw_177 : Cond.methodLink R_law 177 (xn yyH_from) ∈ lw_tb := lw_tb_at 909 (by decide +kernel) rfl
theorem lcv_H_from : xcv yyH_from 1 := ⟨⟨lw_tb_at 912 (by decide +kernel) rfl, lw_tb_at 1 (by decide +kernel) rfl, ⟨by decide +kernel, by decide +kernel⟩, by decide +kernel⟩, lw_tb_at 910 (by decide +kernel) rfl, lw_tb_at 911 (by decide +kernel) rfl⟩
theorem llaw_180 : Cond.methodLink R_law 180 (xn yyM_from) ∈ lw_tb := lw_tb_at 1360 (by decide +kernel) rfl
theorem lcv_M_from : xcv yyM_from 1 := ⟨⟨lw_tb_at 1363 (by decide +kernel) rfl, lw_tb_at 9 (by decide +kernel) rfl, ⟨by decide +kernel, by decide +kernel⟩, by decide +kernel⟩, lw_tb_at 1361 (by decide +kernel) rfl, lw_tb_at 1362 (by decide +kernel) rfl⟩
theorem llaw_181 : Cond.methodLink R_law 181 (xn yyH_status) ∈ lw_tb := lw_tb_at 913 (by decide +kernel) rfl
theorem lcv_H_status : xcv yyH_status 1 := ⟨⟨lw_tb_at 916 (by decide +kernel) rfl, lw_tb_at 1 (by decide +kernel) rfl, ⟨by decide +kernel, by decide +kernel⟩, by decide +kernel⟩, lw_tb_at 914 (by decide +kernel) rfl, lw_tb_at 915 (by decide +kernel) rfl⟩
theorem llaw_184 : Cond.methodLink R_law 184 (xn yyM_status) ∈ lw_tb := lw_tb_at 1364 (by decide +kernel) rfl
theorem lcv_M_status : xcv yyM_status 1 := ⟨⟨lw_tb_at 1367 (by decide +kernel) rfl, lw_tb_at 9 (by decide +kernel) rfl, ⟨by decide +kernel, by decide +kernel⟩, by decide +kernel⟩, lw_tb_at 1365 (by decide +kernel) rfl, lw_tb_at 1366 (by decide +kernel) rfl⟩
theorem llaw_185 : Cond.methodLink R_law 185 (xn yyH_count) ∈ lw_tb := lw_tb_at 917 (by decide +kernel) rfl
theorem lcv_H_count : xcv yyH_count 1 := ⟨⟨lw_tb_at 920 (by decide +kernel) rfl, lw_tb_at 1 (by decide +kernel) rfl, ⟨by decide +kernel, by decide +kernel⟩, by decide +kernel⟩, lw_tb_at 918 (by decide +kernel) rfl, lw_tb_at 919 (by decide +kernel) rfl⟩
theorem llaw_188 : Cond.methodLink R_law 188 (xn yyM_count) ∈ lw_tb := lw_tb_at 1368 (by decide +kernel) rfl
theorem lcv_M_count : xcv yyM_count 1 := ⟨⟨lw_tb_at 1371 (by decide +kernel) rfl, lw_tb_at 9 (by decide +kernel) rfl, ⟨by decide +kernel, by decide +kernel⟩, by decide +kernel⟩, lw_tb_at 1369 (by decide +kernel) rfl, lw_tb_at 1370 (by decide +kernel) rfl⟩
theorem llaw_189 : Cond.methodLink R_law 189 (xn yyH_digest) ∈ lw_tb := lw_tb_at 925 (by decide +kernel) rfl
theorem lcv_H_digest : xcv yyH_digest 0 := ⟨⟨lw_tb_at 928 (by decide +kernel) rfl, lw_tb_at 1 (by decide +kernel) rfl, ⟨by decide +kernel, by decide +kernel⟩, by decide +kernel⟩, lw_tb_at 926 (by decide +kernel) rfl, lw_tb_at 927 (by decide +kernel) rfl⟩
theorem llaw_193 : Cond.methodLink R_law 193 (xn yyM_digest) ∈ lw_tb := lw_tb_at 1376 (by decide +kernel) rfl
theorem lcv_M_digest : xcv yyM_digest 0 := ⟨⟨lw_tb_at 1379 (by decide +kernel) rfl, lw_tb_at 9 (by decide +kernel) rfl, ⟨by decide +kernel, by decide +kernel⟩, by decide +kernel⟩, lw_tb_at 1377 (by decide +kernel) rfl, lw_tb_at 1378 (by decide +kernel) rfl⟩
