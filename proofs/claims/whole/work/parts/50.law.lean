theorem d_law_0 : decode code 0 = .ok (.new 7, 3) := by decide +kernel
theorem d_law_3 : decode code 3 = .ok (.dup, 1) := by decide +kernel
theorem d_law_4 : decode code 4 = .ok (.invokespecial 9, 3) := by decide +kernel
theorem d_law_7 : decode code 7 = .ok (.astore_n 1, 1) := by decide +kernel
theorem d_law_8 : decode code 8 = .ok (.new 10, 3) := by decide +kernel
theorem d_law_11 : decode code 11 = .ok (.dup, 1) := by decide +kernel
theorem d_law_12 : decode code 12 = .ok (.invokespecial 12, 3) := by decide +kernel
theorem d_law_15 : decode code 15 = .ok (.astore_n 2, 1) := by decide +kernel
theorem d_law_16 : decode code 16 = .ok (.iconst 0, 1) := by decide +kernel
theorem d_law_17 : decode code 17 = .ok (.istore_n 3, 1) := by decide +kernel
theorem d_law_18 : decode code 18 = .ok (.iload_n 3, 1) := by decide +kernel
theorem d_law_19 : decode code 19 = .ok (.aload_n 0, 1) := by decide +kernel
theorem d_law_20 : decode code 20 = .ok (.arraylength, 1) := by decide +kernel
theorem d_law_21 : decode code 21 = .ok (.iconst 5, 1) := by decide +kernel
theorem d_law_22 : decode code 22 = .ok (.isub, 1) := by decide +kernel
theorem d_law_23 : decode code 23 = .ok (.if_icmp .gt 1003, 3) := by decide +kernel
theorem d_law_26 : decode code 26 = .ok (.aload_n 0, 1) := by decide +kernel
theorem d_law_27 : decode code 27 = .ok (.iload_n 3, 1) := by decide +kernel
theorem d_law_28 : decode code 28 = .ok (.iaload, 1) := by decide +kernel
theorem d_law_29 : decode code 29 = .ok (.bipush 31, 2) := by decide +kernel
theorem d_law_31 : decode code 31 = .ok (.iand, 1) := by decide +kernel
theorem d_law_32 : decode code 32 = .ok (.tableswitch 988 0 31 #[144, 167, 180, 233, 266, 299, 332, 355, 388, 421, 454, 467, 490, 503, 526, 539, 562, 575, 608, 642, 665, 678, 721, 754, 778, 827, 840, 883, 906, 939, 952, 965], 144) := by decide +kernel
theorem d_law_176 : decode code 176 = .ok (.aload_n 1, 1) := by decide +kernel
theorem d_law_177 : decode code 177 = .ok (.aload_n 0, 1) := by decide +kernel
theorem d_law_178 : decode code 178 = .ok (.iload_n 3, 1) := by decide +kernel
theorem d_law_179 : decode code 179 = .ok (.iconst 1, 1) := by decide +kernel
theorem d_law_180 : decode code 180 = .ok (.iadd, 1) := by decide +kernel
theorem d_law_181 : decode code 181 = .ok (.iaload, 1) := by decide +kernel
theorem d_law_182 : decode code 182 = .ok (.invokevirtual 13, 3) := by decide +kernel
theorem d_law_185 : decode code 185 = .ok (.aload_n 2, 1) := by decide +kernel
theorem d_law_186 : decode code 186 = .ok (.aload_n 0, 1) := by decide +kernel
theorem d_law_187 : decode code 187 = .ok (.iload_n 3, 1) := by decide +kernel
theorem d_law_188 : decode code 188 = .ok (.iconst 1, 1) := by decide +kernel
theorem d_law_189 : decode code 189 = .ok (.iadd, 1) := by decide +kernel
theorem d_law_190 : decode code 190 = .ok (.iaload, 1) := by decide +kernel
theorem d_law_191 : decode code 191 = .ok (.invokevirtual 17, 3) := by decide +kernel
theorem d_law_194 : decode code 194 = .ok (.if_icmp .eq 826, 3) := by decide +kernel
theorem d_law_197 : decode code 197 = .ok (.iconst 0, 1) := by decide +kernel
theorem d_law_198 : decode code 198 = .ok (.ireturn, 1) := by decide +kernel
theorem d_law_199 : decode code 199 = .ok (.aload_n 1, 1) := by decide +kernel
theorem d_law_200 : decode code 200 = .ok (.invokevirtual 18, 3) := by decide +kernel
theorem d_law_203 : decode code 203 = .ok (.aload_n 2, 1) := by decide +kernel
theorem d_law_204 : decode code 204 = .ok (.invokevirtual 22, 3) := by decide +kernel
theorem d_law_207 : decode code 207 = .ok (.if_icmp .eq 813, 3) := by decide +kernel
theorem d_law_210 : decode code 210 = .ok (.iconst 0, 1) := by decide +kernel
theorem d_law_211 : decode code 211 = .ok (.ireturn, 1) := by decide +kernel
theorem d_law_212 : decode code 212 = .ok (.aload_n 1, 1) := by decide +kernel
theorem d_law_213 : decode code 213 = .ok (.aload_n 0, 1) := by decide +kernel
theorem d_law_214 : decode code 214 = .ok (.iload_n 3, 1) := by decide +kernel
theorem d_law_215 : decode code 215 = .ok (.iconst 1, 1) := by decide +kernel
theorem d_law_216 : decode code 216 = .ok (.iadd, 1) := by decide +kernel
theorem d_law_217 : decode code 217 = .ok (.iaload, 1) := by decide +kernel
theorem d_law_218 : decode code 218 = .ok (.aload_n 0, 1) := by decide +kernel
theorem d_law_219 : decode code 219 = .ok (.iload_n 3, 1) := by decide +kernel
theorem d_law_220 : decode code 220 = .ok (.iconst 2, 1) := by decide +kernel
theorem d_law_221 : decode code 221 = .ok (.iadd, 1) := by decide +kernel
theorem d_law_222 : decode code 222 = .ok (.iaload, 1) := by decide +kernel
theorem d_law_223 : decode code 223 = .ok (.aload_n 0, 1) := by decide +kernel
theorem d_law_224 : decode code 224 = .ok (.iload_n 3, 1) := by decide +kernel
theorem d_law_225 : decode code 225 = .ok (.iconst 3, 1) := by decide +kernel
theorem d_law_226 : decode code 226 = .ok (.iadd, 1) := by decide +kernel
theorem d_law_227 : decode code 227 = .ok (.iaload, 1) := by decide +kernel
theorem d_law_228 : decode code 228 = .ok (.aload_n 0, 1) := by decide +kernel
theorem d_law_229 : decode code 229 = .ok (.iload_n 3, 1) := by decide +kernel
theorem d_law_230 : decode code 230 = .ok (.iconst 4, 1) := by decide +kernel
theorem d_law_231 : decode code 231 = .ok (.iadd, 1) := by decide +kernel
theorem d_law_232 : decode code 232 = .ok (.iaload, 1) := by decide +kernel
theorem d_law_233 : decode code 233 = .ok (.invokevirtual 23, 3) := by decide +kernel
theorem d_law_236 : decode code 236 = .ok (.aload_n 2, 1) := by decide +kernel
theorem d_law_237 : decode code 237 = .ok (.aload_n 0, 1) := by decide +kernel
theorem d_law_238 : decode code 238 = .ok (.iload_n 3, 1) := by decide +kernel
theorem d_law_239 : decode code 239 = .ok (.iconst 1, 1) := by decide +kernel
theorem d_law_240 : decode code 240 = .ok (.iadd, 1) := by decide +kernel
theorem d_law_241 : decode code 241 = .ok (.iaload, 1) := by decide +kernel
theorem d_law_242 : decode code 242 = .ok (.aload_n 0, 1) := by decide +kernel
theorem d_law_243 : decode code 243 = .ok (.iload_n 3, 1) := by decide +kernel
theorem d_law_244 : decode code 244 = .ok (.iconst 2, 1) := by decide +kernel
theorem d_law_245 : decode code 245 = .ok (.iadd, 1) := by decide +kernel
theorem d_law_246 : decode code 246 = .ok (.iaload, 1) := by decide +kernel
theorem d_law_247 : decode code 247 = .ok (.aload_n 0, 1) := by decide +kernel
theorem d_law_248 : decode code 248 = .ok (.iload_n 3, 1) := by decide +kernel
theorem d_law_249 : decode code 249 = .ok (.iconst 3, 1) := by decide +kernel
theorem d_law_250 : decode code 250 = .ok (.iadd, 1) := by decide +kernel
theorem d_law_251 : decode code 251 = .ok (.iaload, 1) := by decide +kernel
theorem d_law_252 : decode code 252 = .ok (.aload_n 0, 1) := by decide +kernel
theorem d_law_253 : decode code 253 = .ok (.iload_n 3, 1) := by decide +kernel
theorem d_law_254 : decode code 254 = .ok (.iconst 4, 1) := by decide +kernel
theorem d_law_255 : decode code 255 = .ok (.iadd, 1) := by decide +kernel
theorem d_law_256 : decode code 256 = .ok (.iaload, 1) := by decide +kernel
theorem d_law_257 : decode code 257 = .ok (.invokevirtual 27, 3) := by decide +kernel
theorem d_law_260 : decode code 260 = .ok (.if_icmp .eq 760, 3) := by decide +kernel
theorem d_law_263 : decode code 263 = .ok (.iconst 0, 1) := by decide +kernel
theorem d_law_264 : decode code 264 = .ok (.ireturn, 1) := by decide +kernel
theorem d_law_265 : decode code 265 = .ok (.aload_n 1, 1) := by decide +kernel
theorem d_law_266 : decode code 266 = .ok (.aload_n 0, 1) := by decide +kernel
theorem d_law_267 : decode code 267 = .ok (.iload_n 3, 1) := by decide +kernel
theorem d_law_268 : decode code 268 = .ok (.iconst 1, 1) := by decide +kernel
theorem d_law_269 : decode code 269 = .ok (.iadd, 1) := by decide +kernel
theorem d_law_270 : decode code 270 = .ok (.iaload, 1) := by decide +kernel
theorem d_law_271 : decode code 271 = .ok (.aload_n 0, 1) := by decide +kernel
theorem d_law_272 : decode code 272 = .ok (.iload_n 3, 1) := by decide +kernel
theorem d_law_273 : decode code 273 = .ok (.iconst 2, 1) := by decide +kernel
theorem d_law_274 : decode code 274 = .ok (.iadd, 1) := by decide +kernel
theorem d_law_275 : decode code 275 = .ok (.iaload, 1) := by decide +kernel
theorem d_law_276 : decode code 276 = .ok (.invokevirtual 28, 3) := by decide +kernel
theorem d_law_279 : decode code 279 = .ok (.aload_n 2, 1) := by decide +kernel
theorem d_law_280 : decode code 280 = .ok (.aload_n 0, 1) := by decide +kernel
theorem d_law_281 : decode code 281 = .ok (.iload_n 3, 1) := by decide +kernel
theorem d_law_282 : decode code 282 = .ok (.iconst 1, 1) := by decide +kernel
theorem d_law_283 : decode code 283 = .ok (.iadd, 1) := by decide +kernel
theorem d_law_284 : decode code 284 = .ok (.iaload, 1) := by decide +kernel
theorem d_law_285 : decode code 285 = .ok (.aload_n 0, 1) := by decide +kernel
theorem d_law_286 : decode code 286 = .ok (.iload_n 3, 1) := by decide +kernel
theorem d_law_287 : decode code 287 = .ok (.iconst 2, 1) := by decide +kernel
theorem d_law_288 : decode code 288 = .ok (.iadd, 1) := by decide +kernel
theorem d_law_289 : decode code 289 = .ok (.iaload, 1) := by decide +kernel
theorem d_law_290 : decode code 290 = .ok (.invokevirtual 32, 3) := by decide +kernel
theorem d_law_293 : decode code 293 = .ok (.if_icmp .eq 727, 3) := by decide +kernel
theorem d_law_296 : decode code 296 = .ok (.iconst 0, 1) := by decide +kernel
theorem d_law_297 : decode code 297 = .ok (.ireturn, 1) := by decide +kernel
theorem d_law_298 : decode code 298 = .ok (.aload_n 1, 1) := by decide +kernel
theorem d_law_299 : decode code 299 = .ok (.aload_n 0, 1) := by decide +kernel
theorem d_law_300 : decode code 300 = .ok (.iload_n 3, 1) := by decide +kernel
theorem d_law_301 : decode code 301 = .ok (.iconst 1, 1) := by decide +kernel
theorem d_law_302 : decode code 302 = .ok (.iadd, 1) := by decide +kernel
theorem d_law_303 : decode code 303 = .ok (.iaload, 1) := by decide +kernel
theorem d_law_304 : decode code 304 = .ok (.aload_n 0, 1) := by decide +kernel
theorem d_law_305 : decode code 305 = .ok (.iload_n 3, 1) := by decide +kernel
theorem d_law_306 : decode code 306 = .ok (.iconst 2, 1) := by decide +kernel
theorem d_law_307 : decode code 307 = .ok (.iadd, 1) := by decide +kernel
theorem d_law_308 : decode code 308 = .ok (.iaload, 1) := by decide +kernel
theorem d_law_309 : decode code 309 = .ok (.invokevirtual 33, 3) := by decide +kernel
theorem d_law_312 : decode code 312 = .ok (.aload_n 2, 1) := by decide +kernel
theorem d_law_313 : decode code 313 = .ok (.aload_n 0, 1) := by decide +kernel
theorem d_law_314 : decode code 314 = .ok (.iload_n 3, 1) := by decide +kernel
theorem d_law_315 : decode code 315 = .ok (.iconst 1, 1) := by decide +kernel
theorem d_law_316 : decode code 316 = .ok (.iadd, 1) := by decide +kernel
theorem d_law_317 : decode code 317 = .ok (.iaload, 1) := by decide +kernel
theorem d_law_318 : decode code 318 = .ok (.aload_n 0, 1) := by decide +kernel
theorem d_law_319 : decode code 319 = .ok (.iload_n 3, 1) := by decide +kernel
theorem d_law_320 : decode code 320 = .ok (.iconst 2, 1) := by decide +kernel
theorem d_law_321 : decode code 321 = .ok (.iadd, 1) := by decide +kernel
theorem d_law_322 : decode code 322 = .ok (.iaload, 1) := by decide +kernel
theorem d_law_323 : decode code 323 = .ok (.invokevirtual 36, 3) := by decide +kernel
theorem d_law_326 : decode code 326 = .ok (.if_icmp .eq 694, 3) := by decide +kernel
theorem d_law_329 : decode code 329 = .ok (.iconst 0, 1) := by decide +kernel
theorem d_law_330 : decode code 330 = .ok (.ireturn, 1) := by decide +kernel
theorem d_law_331 : decode code 331 = .ok (.aload_n 1, 1) := by decide +kernel
theorem d_law_332 : decode code 332 = .ok (.aload_n 0, 1) := by decide +kernel
theorem d_law_333 : decode code 333 = .ok (.iload_n 3, 1) := by decide +kernel
theorem d_law_334 : decode code 334 = .ok (.iconst 1, 1) := by decide +kernel
theorem d_law_335 : decode code 335 = .ok (.iadd, 1) := by decide +kernel
theorem d_law_336 : decode code 336 = .ok (.iaload, 1) := by decide +kernel
theorem d_law_337 : decode code 337 = .ok (.aload_n 0, 1) := by decide +kernel
theorem d_law_338 : decode code 338 = .ok (.iload_n 3, 1) := by decide +kernel
theorem d_law_339 : decode code 339 = .ok (.iconst 2, 1) := by decide +kernel
theorem d_law_340 : decode code 340 = .ok (.iadd, 1) := by decide +kernel
theorem d_law_341 : decode code 341 = .ok (.iaload, 1) := by decide +kernel
theorem d_law_342 : decode code 342 = .ok (.invokevirtual 37, 3) := by decide +kernel
theorem d_law_345 : decode code 345 = .ok (.aload_n 2, 1) := by decide +kernel
theorem d_law_346 : decode code 346 = .ok (.aload_n 0, 1) := by decide +kernel
theorem d_law_347 : decode code 347 = .ok (.iload_n 3, 1) := by decide +kernel
theorem d_law_348 : decode code 348 = .ok (.iconst 1, 1) := by decide +kernel
theorem d_law_349 : decode code 349 = .ok (.iadd, 1) := by decide +kernel
theorem d_law_350 : decode code 350 = .ok (.iaload, 1) := by decide +kernel
theorem d_law_351 : decode code 351 = .ok (.aload_n 0, 1) := by decide +kernel
theorem d_law_352 : decode code 352 = .ok (.iload_n 3, 1) := by decide +kernel
theorem d_law_353 : decode code 353 = .ok (.iconst 2, 1) := by decide +kernel
theorem d_law_354 : decode code 354 = .ok (.iadd, 1) := by decide +kernel
theorem d_law_355 : decode code 355 = .ok (.iaload, 1) := by decide +kernel
theorem d_law_356 : decode code 356 = .ok (.invokevirtual 40, 3) := by decide +kernel
theorem d_law_359 : decode code 359 = .ok (.if_icmp .eq 661, 3) := by decide +kernel
theorem d_law_362 : decode code 362 = .ok (.iconst 0, 1) := by decide +kernel
theorem d_law_363 : decode code 363 = .ok (.ireturn, 1) := by decide +kernel
theorem d_law_364 : decode code 364 = .ok (.aload_n 1, 1) := by decide +kernel
theorem d_law_365 : decode code 365 = .ok (.aload_n 0, 1) := by decide +kernel
theorem d_law_366 : decode code 366 = .ok (.iload_n 3, 1) := by decide +kernel
theorem d_law_367 : decode code 367 = .ok (.iconst 1, 1) := by decide +kernel
theorem d_law_368 : decode code 368 = .ok (.iadd, 1) := by decide +kernel
theorem d_law_369 : decode code 369 = .ok (.iaload, 1) := by decide +kernel
theorem d_law_370 : decode code 370 = .ok (.invokevirtual 41, 3) := by decide +kernel
theorem d_law_373 : decode code 373 = .ok (.aload_n 2, 1) := by decide +kernel
theorem d_law_374 : decode code 374 = .ok (.aload_n 0, 1) := by decide +kernel
theorem d_law_375 : decode code 375 = .ok (.iload_n 3, 1) := by decide +kernel
theorem d_law_376 : decode code 376 = .ok (.iconst 1, 1) := by decide +kernel
theorem d_law_377 : decode code 377 = .ok (.iadd, 1) := by decide +kernel
theorem d_law_378 : decode code 378 = .ok (.iaload, 1) := by decide +kernel
theorem d_law_379 : decode code 379 = .ok (.invokevirtual 44, 3) := by decide +kernel
theorem d_law_382 : decode code 382 = .ok (.if_icmp .eq 638, 3) := by decide +kernel
theorem d_law_385 : decode code 385 = .ok (.iconst 0, 1) := by decide +kernel
theorem d_law_386 : decode code 386 = .ok (.ireturn, 1) := by decide +kernel
theorem d_law_387 : decode code 387 = .ok (.aload_n 1, 1) := by decide +kernel
theorem d_law_388 : decode code 388 = .ok (.aload_n 0, 1) := by decide +kernel
theorem d_law_389 : decode code 389 = .ok (.iload_n 3, 1) := by decide +kernel
theorem d_law_390 : decode code 390 = .ok (.iconst 1, 1) := by decide +kernel
theorem d_law_391 : decode code 391 = .ok (.iadd, 1) := by decide +kernel
theorem d_law_392 : decode code 392 = .ok (.iaload, 1) := by decide +kernel
theorem d_law_393 : decode code 393 = .ok (.aload_n 0, 1) := by decide +kernel
theorem d_law_394 : decode code 394 = .ok (.iload_n 3, 1) := by decide +kernel
theorem d_law_395 : decode code 395 = .ok (.iconst 2, 1) := by decide +kernel
theorem d_law_396 : decode code 396 = .ok (.iadd, 1) := by decide +kernel
theorem d_law_397 : decode code 397 = .ok (.iaload, 1) := by decide +kernel
theorem d_law_398 : decode code 398 = .ok (.invokevirtual 45, 3) := by decide +kernel
theorem d_law_401 : decode code 401 = .ok (.aload_n 2, 1) := by decide +kernel
theorem d_law_402 : decode code 402 = .ok (.aload_n 0, 1) := by decide +kernel
theorem d_law_403 : decode code 403 = .ok (.iload_n 3, 1) := by decide +kernel
theorem d_law_404 : decode code 404 = .ok (.iconst 1, 1) := by decide +kernel
theorem d_law_405 : decode code 405 = .ok (.iadd, 1) := by decide +kernel
theorem d_law_406 : decode code 406 = .ok (.iaload, 1) := by decide +kernel
theorem d_law_407 : decode code 407 = .ok (.aload_n 0, 1) := by decide +kernel
theorem d_law_408 : decode code 408 = .ok (.iload_n 3, 1) := by decide +kernel
theorem d_law_409 : decode code 409 = .ok (.iconst 2, 1) := by decide +kernel
theorem d_law_410 : decode code 410 = .ok (.iadd, 1) := by decide +kernel
theorem d_law_411 : decode code 411 = .ok (.iaload, 1) := by decide +kernel
theorem d_law_412 : decode code 412 = .ok (.invokevirtual 48, 3) := by decide +kernel
theorem d_law_415 : decode code 415 = .ok (.if_icmp .eq 605, 3) := by decide +kernel
theorem d_law_418 : decode code 418 = .ok (.iconst 0, 1) := by decide +kernel
theorem d_law_419 : decode code 419 = .ok (.ireturn, 1) := by decide +kernel
theorem d_law_420 : decode code 420 = .ok (.aload_n 1, 1) := by decide +kernel
theorem d_law_421 : decode code 421 = .ok (.aload_n 0, 1) := by decide +kernel
theorem d_law_422 : decode code 422 = .ok (.iload_n 3, 1) := by decide +kernel
theorem d_law_423 : decode code 423 = .ok (.iconst 1, 1) := by decide +kernel
theorem d_law_424 : decode code 424 = .ok (.iadd, 1) := by decide +kernel
theorem d_law_425 : decode code 425 = .ok (.iaload, 1) := by decide +kernel
theorem d_law_426 : decode code 426 = .ok (.aload_n 0, 1) := by decide +kernel
theorem d_law_427 : decode code 427 = .ok (.iload_n 3, 1) := by decide +kernel
theorem d_law_428 : decode code 428 = .ok (.iconst 2, 1) := by decide +kernel
theorem d_law_429 : decode code 429 = .ok (.iadd, 1) := by decide +kernel
theorem d_law_430 : decode code 430 = .ok (.iaload, 1) := by decide +kernel
theorem d_law_431 : decode code 431 = .ok (.invokevirtual 49, 3) := by decide +kernel
theorem d_law_434 : decode code 434 = .ok (.aload_n 2, 1) := by decide +kernel
theorem d_law_435 : decode code 435 = .ok (.aload_n 0, 1) := by decide +kernel
theorem d_law_436 : decode code 436 = .ok (.iload_n 3, 1) := by decide +kernel
theorem d_law_437 : decode code 437 = .ok (.iconst 1, 1) := by decide +kernel
theorem d_law_438 : decode code 438 = .ok (.iadd, 1) := by decide +kernel
theorem d_law_439 : decode code 439 = .ok (.iaload, 1) := by decide +kernel
theorem d_law_440 : decode code 440 = .ok (.aload_n 0, 1) := by decide +kernel
theorem d_law_441 : decode code 441 = .ok (.iload_n 3, 1) := by decide +kernel
theorem d_law_442 : decode code 442 = .ok (.iconst 2, 1) := by decide +kernel
theorem d_law_443 : decode code 443 = .ok (.iadd, 1) := by decide +kernel
theorem d_law_444 : decode code 444 = .ok (.iaload, 1) := by decide +kernel
theorem d_law_445 : decode code 445 = .ok (.invokevirtual 52, 3) := by decide +kernel
theorem d_law_448 : decode code 448 = .ok (.if_icmp .eq 572, 3) := by decide +kernel
theorem d_law_451 : decode code 451 = .ok (.iconst 0, 1) := by decide +kernel
theorem d_law_452 : decode code 452 = .ok (.ireturn, 1) := by decide +kernel
theorem d_law_453 : decode code 453 = .ok (.aload_n 1, 1) := by decide +kernel
theorem d_law_454 : decode code 454 = .ok (.aload_n 0, 1) := by decide +kernel
theorem d_law_455 : decode code 455 = .ok (.iload_n 3, 1) := by decide +kernel
theorem d_law_456 : decode code 456 = .ok (.iconst 1, 1) := by decide +kernel
theorem d_law_457 : decode code 457 = .ok (.iadd, 1) := by decide +kernel
theorem d_law_458 : decode code 458 = .ok (.iaload, 1) := by decide +kernel
theorem d_law_459 : decode code 459 = .ok (.aload_n 0, 1) := by decide +kernel
theorem d_law_460 : decode code 460 = .ok (.iload_n 3, 1) := by decide +kernel
theorem d_law_461 : decode code 461 = .ok (.iconst 2, 1) := by decide +kernel
theorem d_law_462 : decode code 462 = .ok (.iadd, 1) := by decide +kernel
theorem d_law_463 : decode code 463 = .ok (.iaload, 1) := by decide +kernel
theorem d_law_464 : decode code 464 = .ok (.invokevirtual 53, 3) := by decide +kernel
theorem d_law_467 : decode code 467 = .ok (.aload_n 2, 1) := by decide +kernel
theorem d_law_468 : decode code 468 = .ok (.aload_n 0, 1) := by decide +kernel
theorem d_law_469 : decode code 469 = .ok (.iload_n 3, 1) := by decide +kernel
theorem d_law_470 : decode code 470 = .ok (.iconst 1, 1) := by decide +kernel
theorem d_law_471 : decode code 471 = .ok (.iadd, 1) := by decide +kernel
theorem d_law_472 : decode code 472 = .ok (.iaload, 1) := by decide +kernel
theorem d_law_473 : decode code 473 = .ok (.aload_n 0, 1) := by decide +kernel
theorem d_law_474 : decode code 474 = .ok (.iload_n 3, 1) := by decide +kernel
theorem d_law_475 : decode code 475 = .ok (.iconst 2, 1) := by decide +kernel
theorem d_law_476 : decode code 476 = .ok (.iadd, 1) := by decide +kernel
theorem d_law_477 : decode code 477 = .ok (.iaload, 1) := by decide +kernel
theorem d_law_478 : decode code 478 = .ok (.invokevirtual 56, 3) := by decide +kernel
theorem d_law_481 : decode code 481 = .ok (.if_icmp .eq 539, 3) := by decide +kernel
theorem d_law_484 : decode code 484 = .ok (.iconst 0, 1) := by decide +kernel
theorem d_law_485 : decode code 485 = .ok (.ireturn, 1) := by decide +kernel
theorem d_law_486 : decode code 486 = .ok (.aload_n 1, 1) := by decide +kernel
theorem d_law_487 : decode code 487 = .ok (.invokevirtual 57, 3) := by decide +kernel
theorem d_law_490 : decode code 490 = .ok (.aload_n 2, 1) := by decide +kernel
theorem d_law_491 : decode code 491 = .ok (.invokevirtual 60, 3) := by decide +kernel
theorem d_law_494 : decode code 494 = .ok (.if_icmp .eq 526, 3) := by decide +kernel
theorem d_law_497 : decode code 497 = .ok (.iconst 0, 1) := by decide +kernel
theorem d_law_498 : decode code 498 = .ok (.ireturn, 1) := by decide +kernel
theorem d_law_499 : decode code 499 = .ok (.aload_n 1, 1) := by decide +kernel
theorem d_law_500 : decode code 500 = .ok (.aload_n 0, 1) := by decide +kernel
theorem d_law_501 : decode code 501 = .ok (.iload_n 3, 1) := by decide +kernel
theorem d_law_502 : decode code 502 = .ok (.iconst 1, 1) := by decide +kernel
theorem d_law_503 : decode code 503 = .ok (.iadd, 1) := by decide +kernel
theorem d_law_504 : decode code 504 = .ok (.iaload, 1) := by decide +kernel
theorem d_law_505 : decode code 505 = .ok (.invokevirtual 61, 3) := by decide +kernel
theorem d_law_508 : decode code 508 = .ok (.aload_n 2, 1) := by decide +kernel
theorem d_law_509 : decode code 509 = .ok (.aload_n 0, 1) := by decide +kernel
theorem d_law_510 : decode code 510 = .ok (.iload_n 3, 1) := by decide +kernel
theorem d_law_511 : decode code 511 = .ok (.iconst 1, 1) := by decide +kernel
theorem d_law_512 : decode code 512 = .ok (.iadd, 1) := by decide +kernel
theorem d_law_513 : decode code 513 = .ok (.iaload, 1) := by decide +kernel
theorem d_law_514 : decode code 514 = .ok (.invokevirtual 64, 3) := by decide +kernel
theorem d_law_517 : decode code 517 = .ok (.if_icmp .eq 503, 3) := by decide +kernel
theorem d_law_520 : decode code 520 = .ok (.iconst 0, 1) := by decide +kernel
theorem d_law_521 : decode code 521 = .ok (.ireturn, 1) := by decide +kernel
theorem d_law_522 : decode code 522 = .ok (.aload_n 1, 1) := by decide +kernel
theorem d_law_523 : decode code 523 = .ok (.invokevirtual 65, 3) := by decide +kernel
theorem d_law_526 : decode code 526 = .ok (.aload_n 2, 1) := by decide +kernel
theorem d_law_527 : decode code 527 = .ok (.invokevirtual 68, 3) := by decide +kernel
theorem d_law_530 : decode code 530 = .ok (.if_icmp .eq 490, 3) := by decide +kernel
theorem d_law_533 : decode code 533 = .ok (.iconst 0, 1) := by decide +kernel
theorem d_law_534 : decode code 534 = .ok (.ireturn, 1) := by decide +kernel
theorem d_law_535 : decode code 535 = .ok (.aload_n 1, 1) := by decide +kernel
theorem d_law_536 : decode code 536 = .ok (.aload_n 0, 1) := by decide +kernel
theorem d_law_537 : decode code 537 = .ok (.iload_n 3, 1) := by decide +kernel
theorem d_law_538 : decode code 538 = .ok (.iconst 1, 1) := by decide +kernel
theorem d_law_539 : decode code 539 = .ok (.iadd, 1) := by decide +kernel
theorem d_law_540 : decode code 540 = .ok (.iaload, 1) := by decide +kernel
theorem d_law_541 : decode code 541 = .ok (.invokevirtual 69, 3) := by decide +kernel
theorem d_law_544 : decode code 544 = .ok (.aload_n 2, 1) := by decide +kernel
theorem d_law_545 : decode code 545 = .ok (.aload_n 0, 1) := by decide +kernel
theorem d_law_546 : decode code 546 = .ok (.iload_n 3, 1) := by decide +kernel
theorem d_law_547 : decode code 547 = .ok (.iconst 1, 1) := by decide +kernel
theorem d_law_548 : decode code 548 = .ok (.iadd, 1) := by decide +kernel
theorem d_law_549 : decode code 549 = .ok (.iaload, 1) := by decide +kernel
theorem d_law_550 : decode code 550 = .ok (.invokevirtual 72, 3) := by decide +kernel
theorem d_law_553 : decode code 553 = .ok (.if_icmp .eq 467, 3) := by decide +kernel
theorem d_law_556 : decode code 556 = .ok (.iconst 0, 1) := by decide +kernel
theorem d_law_557 : decode code 557 = .ok (.ireturn, 1) := by decide +kernel
theorem d_law_558 : decode code 558 = .ok (.aload_n 1, 1) := by decide +kernel
theorem d_law_559 : decode code 559 = .ok (.invokevirtual 73, 3) := by decide +kernel
theorem d_law_562 : decode code 562 = .ok (.aload_n 2, 1) := by decide +kernel
theorem d_law_563 : decode code 563 = .ok (.invokevirtual 76, 3) := by decide +kernel
theorem d_law_566 : decode code 566 = .ok (.if_icmp .eq 454, 3) := by decide +kernel
theorem d_law_569 : decode code 569 = .ok (.iconst 0, 1) := by decide +kernel
theorem d_law_570 : decode code 570 = .ok (.ireturn, 1) := by decide +kernel
theorem d_law_571 : decode code 571 = .ok (.aload_n 1, 1) := by decide +kernel
theorem d_law_572 : decode code 572 = .ok (.aload_n 0, 1) := by decide +kernel
theorem d_law_573 : decode code 573 = .ok (.iload_n 3, 1) := by decide +kernel
theorem d_law_574 : decode code 574 = .ok (.iconst 1, 1) := by decide +kernel
theorem d_law_575 : decode code 575 = .ok (.iadd, 1) := by decide +kernel
theorem d_law_576 : decode code 576 = .ok (.iaload, 1) := by decide +kernel
theorem d_law_577 : decode code 577 = .ok (.invokevirtual 77, 3) := by decide +kernel
theorem d_law_580 : decode code 580 = .ok (.aload_n 2, 1) := by decide +kernel
theorem d_law_581 : decode code 581 = .ok (.aload_n 0, 1) := by decide +kernel
theorem d_law_582 : decode code 582 = .ok (.iload_n 3, 1) := by decide +kernel
theorem d_law_583 : decode code 583 = .ok (.iconst 1, 1) := by decide +kernel
theorem d_law_584 : decode code 584 = .ok (.iadd, 1) := by decide +kernel
theorem d_law_585 : decode code 585 = .ok (.iaload, 1) := by decide +kernel
theorem d_law_586 : decode code 586 = .ok (.invokevirtual 80, 3) := by decide +kernel
theorem d_law_589 : decode code 589 = .ok (.if_icmp .eq 431, 3) := by decide +kernel
theorem d_law_592 : decode code 592 = .ok (.iconst 0, 1) := by decide +kernel
theorem d_law_593 : decode code 593 = .ok (.ireturn, 1) := by decide +kernel
theorem d_law_594 : decode code 594 = .ok (.aload_n 1, 1) := by decide +kernel
theorem d_law_595 : decode code 595 = .ok (.invokevirtual 81, 3) := by decide +kernel
theorem d_law_598 : decode code 598 = .ok (.aload_n 2, 1) := by decide +kernel
theorem d_law_599 : decode code 599 = .ok (.invokevirtual 84, 3) := by decide +kernel
theorem d_law_602 : decode code 602 = .ok (.if_icmp .eq 418, 3) := by decide +kernel
theorem d_law_605 : decode code 605 = .ok (.iconst 0, 1) := by decide +kernel
theorem d_law_606 : decode code 606 = .ok (.ireturn, 1) := by decide +kernel
theorem d_law_607 : decode code 607 = .ok (.aload_n 1, 1) := by decide +kernel
theorem d_law_608 : decode code 608 = .ok (.aload_n 0, 1) := by decide +kernel
theorem d_law_609 : decode code 609 = .ok (.iload_n 3, 1) := by decide +kernel
theorem d_law_610 : decode code 610 = .ok (.iconst 1, 1) := by decide +kernel
theorem d_law_611 : decode code 611 = .ok (.iadd, 1) := by decide +kernel
theorem d_law_612 : decode code 612 = .ok (.iaload, 1) := by decide +kernel
theorem d_law_613 : decode code 613 = .ok (.aload_n 0, 1) := by decide +kernel
theorem d_law_614 : decode code 614 = .ok (.iload_n 3, 1) := by decide +kernel
theorem d_law_615 : decode code 615 = .ok (.iconst 2, 1) := by decide +kernel
theorem d_law_616 : decode code 616 = .ok (.iadd, 1) := by decide +kernel
theorem d_law_617 : decode code 617 = .ok (.iaload, 1) := by decide +kernel
theorem d_law_618 : decode code 618 = .ok (.invokevirtual 85, 3) := by decide +kernel
theorem d_law_621 : decode code 621 = .ok (.aload_n 2, 1) := by decide +kernel
theorem d_law_622 : decode code 622 = .ok (.aload_n 0, 1) := by decide +kernel
theorem d_law_623 : decode code 623 = .ok (.iload_n 3, 1) := by decide +kernel
theorem d_law_624 : decode code 624 = .ok (.iconst 1, 1) := by decide +kernel
theorem d_law_625 : decode code 625 = .ok (.iadd, 1) := by decide +kernel
theorem d_law_626 : decode code 626 = .ok (.iaload, 1) := by decide +kernel
theorem d_law_627 : decode code 627 = .ok (.aload_n 0, 1) := by decide +kernel
theorem d_law_628 : decode code 628 = .ok (.iload_n 3, 1) := by decide +kernel
theorem d_law_629 : decode code 629 = .ok (.iconst 2, 1) := by decide +kernel
theorem d_law_630 : decode code 630 = .ok (.iadd, 1) := by decide +kernel
theorem d_law_631 : decode code 631 = .ok (.iaload, 1) := by decide +kernel
theorem d_law_632 : decode code 632 = .ok (.invokevirtual 88, 3) := by decide +kernel
theorem d_law_635 : decode code 635 = .ok (.if_icmp .eq 385, 3) := by decide +kernel
theorem d_law_638 : decode code 638 = .ok (.iconst 0, 1) := by decide +kernel
theorem d_law_639 : decode code 639 = .ok (.ireturn, 1) := by decide +kernel
theorem d_law_640 : decode code 640 = .ok (.aload_n 1, 1) := by decide +kernel
theorem d_law_641 : decode code 641 = .ok (.aload_n 0, 1) := by decide +kernel
theorem d_law_642 : decode code 642 = .ok (.iload_n 3, 1) := by decide +kernel
theorem d_law_643 : decode code 643 = .ok (.iconst 1, 1) := by decide +kernel
theorem d_law_644 : decode code 644 = .ok (.iadd, 1) := by decide +kernel
theorem d_law_645 : decode code 645 = .ok (.iaload, 1) := by decide +kernel
theorem d_law_646 : decode code 646 = .ok (.aload_n 0, 1) := by decide +kernel
theorem d_law_647 : decode code 647 = .ok (.iload_n 3, 1) := by decide +kernel
theorem d_law_648 : decode code 648 = .ok (.iconst 2, 1) := by decide +kernel
theorem d_law_649 : decode code 649 = .ok (.iadd, 1) := by decide +kernel
theorem d_law_650 : decode code 650 = .ok (.iaload, 1) := by decide +kernel
theorem d_law_651 : decode code 651 = .ok (.invokevirtual 89, 3) := by decide +kernel
theorem d_law_654 : decode code 654 = .ok (.aload_n 2, 1) := by decide +kernel
theorem d_law_655 : decode code 655 = .ok (.aload_n 0, 1) := by decide +kernel
theorem d_law_656 : decode code 656 = .ok (.iload_n 3, 1) := by decide +kernel
theorem d_law_657 : decode code 657 = .ok (.iconst 1, 1) := by decide +kernel
theorem d_law_658 : decode code 658 = .ok (.iadd, 1) := by decide +kernel
theorem d_law_659 : decode code 659 = .ok (.iaload, 1) := by decide +kernel
theorem d_law_660 : decode code 660 = .ok (.aload_n 0, 1) := by decide +kernel
theorem d_law_661 : decode code 661 = .ok (.iload_n 3, 1) := by decide +kernel
theorem d_law_662 : decode code 662 = .ok (.iconst 2, 1) := by decide +kernel
theorem d_law_663 : decode code 663 = .ok (.iadd, 1) := by decide +kernel
theorem d_law_664 : decode code 664 = .ok (.iaload, 1) := by decide +kernel
theorem d_law_665 : decode code 665 = .ok (.invokevirtual 93, 3) := by decide +kernel
theorem d_law_668 : decode code 668 = .ok (.lcmp, 1) := by decide +kernel
theorem d_law_669 : decode code 669 = .ok (.ifCond .eq 351, 3) := by decide +kernel
theorem d_law_672 : decode code 672 = .ok (.iconst 0, 1) := by decide +kernel
theorem d_law_673 : decode code 673 = .ok (.ireturn, 1) := by decide +kernel
theorem d_law_674 : decode code 674 = .ok (.aload_n 1, 1) := by decide +kernel
theorem d_law_675 : decode code 675 = .ok (.aload_n 0, 1) := by decide +kernel
theorem d_law_676 : decode code 676 = .ok (.iload_n 3, 1) := by decide +kernel
theorem d_law_677 : decode code 677 = .ok (.iconst 1, 1) := by decide +kernel
theorem d_law_678 : decode code 678 = .ok (.iadd, 1) := by decide +kernel
theorem d_law_679 : decode code 679 = .ok (.iaload, 1) := by decide +kernel
theorem d_law_680 : decode code 680 = .ok (.invokevirtual 94, 3) := by decide +kernel
theorem d_law_683 : decode code 683 = .ok (.aload_n 2, 1) := by decide +kernel
theorem d_law_684 : decode code 684 = .ok (.aload_n 0, 1) := by decide +kernel
theorem d_law_685 : decode code 685 = .ok (.iload_n 3, 1) := by decide +kernel
theorem d_law_686 : decode code 686 = .ok (.iconst 1, 1) := by decide +kernel
theorem d_law_687 : decode code 687 = .ok (.iadd, 1) := by decide +kernel
theorem d_law_688 : decode code 688 = .ok (.iaload, 1) := by decide +kernel
theorem d_law_689 : decode code 689 = .ok (.invokevirtual 97, 3) := by decide +kernel
theorem d_law_692 : decode code 692 = .ok (.if_icmp .eq 328, 3) := by decide +kernel
theorem d_law_695 : decode code 695 = .ok (.iconst 0, 1) := by decide +kernel
theorem d_law_696 : decode code 696 = .ok (.ireturn, 1) := by decide +kernel
theorem d_law_697 : decode code 697 = .ok (.aload_n 1, 1) := by decide +kernel
theorem d_law_698 : decode code 698 = .ok (.invokevirtual 98, 3) := by decide +kernel
theorem d_law_701 : decode code 701 = .ok (.aload_n 2, 1) := by decide +kernel
theorem d_law_702 : decode code 702 = .ok (.invokevirtual 101, 3) := by decide +kernel
theorem d_law_705 : decode code 705 = .ok (.if_icmp .eq 315, 3) := by decide +kernel
theorem d_law_708 : decode code 708 = .ok (.iconst 0, 1) := by decide +kernel
theorem d_law_709 : decode code 709 = .ok (.ireturn, 1) := by decide +kernel
theorem d_law_710 : decode code 710 = .ok (.aload_n 1, 1) := by decide +kernel
theorem d_law_711 : decode code 711 = .ok (.aload_n 0, 1) := by decide +kernel
theorem d_law_712 : decode code 712 = .ok (.iload_n 3, 1) := by decide +kernel
theorem d_law_713 : decode code 713 = .ok (.iconst 1, 1) := by decide +kernel
theorem d_law_714 : decode code 714 = .ok (.iadd, 1) := by decide +kernel
theorem d_law_715 : decode code 715 = .ok (.iaload, 1) := by decide +kernel
theorem d_law_716 : decode code 716 = .ok (.aload_n 0, 1) := by decide +kernel
theorem d_law_717 : decode code 717 = .ok (.iload_n 3, 1) := by decide +kernel
theorem d_law_718 : decode code 718 = .ok (.iconst 2, 1) := by decide +kernel
theorem d_law_719 : decode code 719 = .ok (.iadd, 1) := by decide +kernel
theorem d_law_720 : decode code 720 = .ok (.iaload, 1) := by decide +kernel
theorem d_law_721 : decode code 721 = .ok (.aload_n 0, 1) := by decide +kernel
theorem d_law_722 : decode code 722 = .ok (.iload_n 3, 1) := by decide +kernel
theorem d_law_723 : decode code 723 = .ok (.iconst 3, 1) := by decide +kernel
theorem d_law_724 : decode code 724 = .ok (.iadd, 1) := by decide +kernel
theorem d_law_725 : decode code 725 = .ok (.iaload, 1) := by decide +kernel
theorem d_law_726 : decode code 726 = .ok (.invokevirtual 102, 3) := by decide +kernel
theorem d_law_729 : decode code 729 = .ok (.aload_n 2, 1) := by decide +kernel
theorem d_law_730 : decode code 730 = .ok (.aload_n 0, 1) := by decide +kernel
theorem d_law_731 : decode code 731 = .ok (.iload_n 3, 1) := by decide +kernel
theorem d_law_732 : decode code 732 = .ok (.iconst 1, 1) := by decide +kernel
theorem d_law_733 : decode code 733 = .ok (.iadd, 1) := by decide +kernel
theorem d_law_734 : decode code 734 = .ok (.iaload, 1) := by decide +kernel
theorem d_law_735 : decode code 735 = .ok (.aload_n 0, 1) := by decide +kernel
theorem d_law_736 : decode code 736 = .ok (.iload_n 3, 1) := by decide +kernel
theorem d_law_737 : decode code 737 = .ok (.iconst 2, 1) := by decide +kernel
theorem d_law_738 : decode code 738 = .ok (.iadd, 1) := by decide +kernel
theorem d_law_739 : decode code 739 = .ok (.iaload, 1) := by decide +kernel
theorem d_law_740 : decode code 740 = .ok (.aload_n 0, 1) := by decide +kernel
theorem d_law_741 : decode code 741 = .ok (.iload_n 3, 1) := by decide +kernel
theorem d_law_742 : decode code 742 = .ok (.iconst 3, 1) := by decide +kernel
theorem d_law_743 : decode code 743 = .ok (.iadd, 1) := by decide +kernel
theorem d_law_744 : decode code 744 = .ok (.iaload, 1) := by decide +kernel
theorem d_law_745 : decode code 745 = .ok (.invokevirtual 106, 3) := by decide +kernel
theorem d_law_748 : decode code 748 = .ok (.if_icmp .eq 272, 3) := by decide +kernel
theorem d_law_751 : decode code 751 = .ok (.iconst 0, 1) := by decide +kernel
theorem d_law_752 : decode code 752 = .ok (.ireturn, 1) := by decide +kernel
theorem d_law_753 : decode code 753 = .ok (.aload_n 1, 1) := by decide +kernel
theorem d_law_754 : decode code 754 = .ok (.aload_n 0, 1) := by decide +kernel
theorem d_law_755 : decode code 755 = .ok (.iload_n 3, 1) := by decide +kernel
theorem d_law_756 : decode code 756 = .ok (.iconst 1, 1) := by decide +kernel
theorem d_law_757 : decode code 757 = .ok (.iadd, 1) := by decide +kernel
theorem d_law_758 : decode code 758 = .ok (.iaload, 1) := by decide +kernel
theorem d_law_759 : decode code 759 = .ok (.aload_n 0, 1) := by decide +kernel
theorem d_law_760 : decode code 760 = .ok (.iload_n 3, 1) := by decide +kernel
theorem d_law_761 : decode code 761 = .ok (.iconst 2, 1) := by decide +kernel
theorem d_law_762 : decode code 762 = .ok (.iadd, 1) := by decide +kernel
theorem d_law_763 : decode code 763 = .ok (.iaload, 1) := by decide +kernel
theorem d_law_764 : decode code 764 = .ok (.invokevirtual 107, 3) := by decide +kernel
theorem d_law_767 : decode code 767 = .ok (.aload_n 2, 1) := by decide +kernel
theorem d_law_768 : decode code 768 = .ok (.aload_n 0, 1) := by decide +kernel
theorem d_law_769 : decode code 769 = .ok (.iload_n 3, 1) := by decide +kernel
theorem d_law_770 : decode code 770 = .ok (.iconst 1, 1) := by decide +kernel
theorem d_law_771 : decode code 771 = .ok (.iadd, 1) := by decide +kernel
theorem d_law_772 : decode code 772 = .ok (.iaload, 1) := by decide +kernel
theorem d_law_773 : decode code 773 = .ok (.aload_n 0, 1) := by decide +kernel
theorem d_law_774 : decode code 774 = .ok (.iload_n 3, 1) := by decide +kernel
theorem d_law_775 : decode code 775 = .ok (.iconst 2, 1) := by decide +kernel
theorem d_law_776 : decode code 776 = .ok (.iadd, 1) := by decide +kernel
theorem d_law_777 : decode code 777 = .ok (.iaload, 1) := by decide +kernel
theorem d_law_778 : decode code 778 = .ok (.invokevirtual 110, 3) := by decide +kernel
theorem d_law_781 : decode code 781 = .ok (.if_icmp .eq 239, 3) := by decide +kernel
theorem d_law_784 : decode code 784 = .ok (.iconst 0, 1) := by decide +kernel
theorem d_law_785 : decode code 785 = .ok (.ireturn, 1) := by decide +kernel
theorem d_law_786 : decode code 786 = .ok (.aload_n 1, 1) := by decide +kernel
theorem d_law_787 : decode code 787 = .ok (.aload_n 0, 1) := by decide +kernel
theorem d_law_788 : decode code 788 = .ok (.iload_n 3, 1) := by decide +kernel
theorem d_law_789 : decode code 789 = .ok (.iconst 1, 1) := by decide +kernel
theorem d_law_790 : decode code 790 = .ok (.iadd, 1) := by decide +kernel
theorem d_law_791 : decode code 791 = .ok (.iaload, 1) := by decide +kernel
theorem d_law_792 : decode code 792 = .ok (.invokevirtual 111, 3) := by decide +kernel
theorem d_law_795 : decode code 795 = .ok (.aload_n 2, 1) := by decide +kernel
theorem d_law_796 : decode code 796 = .ok (.aload_n 0, 1) := by decide +kernel
theorem d_law_797 : decode code 797 = .ok (.iload_n 3, 1) := by decide +kernel
theorem d_law_798 : decode code 798 = .ok (.iconst 1, 1) := by decide +kernel
theorem d_law_799 : decode code 799 = .ok (.iadd, 1) := by decide +kernel
theorem d_law_800 : decode code 800 = .ok (.iaload, 1) := by decide +kernel
theorem d_law_801 : decode code 801 = .ok (.invokevirtual 115, 3) := by decide +kernel
theorem d_law_804 : decode code 804 = .ok (.lcmp, 1) := by decide +kernel
theorem d_law_805 : decode code 805 = .ok (.ifCond .eq 215, 3) := by decide +kernel
theorem d_law_808 : decode code 808 = .ok (.iconst 0, 1) := by decide +kernel
theorem d_law_809 : decode code 809 = .ok (.ireturn, 1) := by decide +kernel
theorem d_law_810 : decode code 810 = .ok (.aload_n 1, 1) := by decide +kernel
theorem d_law_811 : decode code 811 = .ok (.aload_n 0, 1) := by decide +kernel
theorem d_law_812 : decode code 812 = .ok (.iload_n 3, 1) := by decide +kernel
theorem d_law_813 : decode code 813 = .ok (.iconst 1, 1) := by decide +kernel
theorem d_law_814 : decode code 814 = .ok (.iadd, 1) := by decide +kernel
theorem d_law_815 : decode code 815 = .ok (.iaload, 1) := by decide +kernel
theorem d_law_816 : decode code 816 = .ok (.aload_n 0, 1) := by decide +kernel
theorem d_law_817 : decode code 817 = .ok (.iload_n 3, 1) := by decide +kernel
theorem d_law_818 : decode code 818 = .ok (.iconst 2, 1) := by decide +kernel
theorem d_law_819 : decode code 819 = .ok (.iadd, 1) := by decide +kernel
theorem d_law_820 : decode code 820 = .ok (.iaload, 1) := by decide +kernel
theorem d_law_821 : decode code 821 = .ok (.ifCond .eq 7, 3) := by decide +kernel
theorem d_law_824 : decode code 824 = .ok (.iconst 1, 1) := by decide +kernel
theorem d_law_825 : decode code 825 = .ok (.goto 4, 3) := by decide +kernel
theorem d_law_828 : decode code 828 = .ok (.iconst 0, 1) := by decide +kernel
theorem d_law_829 : decode code 829 = .ok (.invokevirtual 116, 3) := by decide +kernel
theorem d_law_832 : decode code 832 = .ok (.aload_n 2, 1) := by decide +kernel
theorem d_law_833 : decode code 833 = .ok (.aload_n 0, 1) := by decide +kernel
theorem d_law_834 : decode code 834 = .ok (.iload_n 3, 1) := by decide +kernel
theorem d_law_835 : decode code 835 = .ok (.iconst 1, 1) := by decide +kernel
theorem d_law_836 : decode code 836 = .ok (.iadd, 1) := by decide +kernel
theorem d_law_837 : decode code 837 = .ok (.iaload, 1) := by decide +kernel
theorem d_law_838 : decode code 838 = .ok (.aload_n 0, 1) := by decide +kernel
theorem d_law_839 : decode code 839 = .ok (.iload_n 3, 1) := by decide +kernel
theorem d_law_840 : decode code 840 = .ok (.iconst 2, 1) := by decide +kernel
theorem d_law_841 : decode code 841 = .ok (.iadd, 1) := by decide +kernel
theorem d_law_842 : decode code 842 = .ok (.iaload, 1) := by decide +kernel
theorem d_law_843 : decode code 843 = .ok (.ifCond .eq 7, 3) := by decide +kernel
theorem d_law_846 : decode code 846 = .ok (.iconst 1, 1) := by decide +kernel
theorem d_law_847 : decode code 847 = .ok (.goto 4, 3) := by decide +kernel
theorem d_law_850 : decode code 850 = .ok (.iconst 0, 1) := by decide +kernel
theorem d_law_851 : decode code 851 = .ok (.invokevirtual 120, 3) := by decide +kernel
theorem d_law_854 : decode code 854 = .ok (.if_icmp .eq 166, 3) := by decide +kernel
theorem d_law_857 : decode code 857 = .ok (.iconst 0, 1) := by decide +kernel
theorem d_law_858 : decode code 858 = .ok (.ireturn, 1) := by decide +kernel
theorem d_law_859 : decode code 859 = .ok (.aload_n 1, 1) := by decide +kernel
theorem d_law_860 : decode code 860 = .ok (.invokevirtual 121, 3) := by decide +kernel
theorem d_law_863 : decode code 863 = .ok (.aload_n 2, 1) := by decide +kernel
theorem d_law_864 : decode code 864 = .ok (.invokevirtual 124, 3) := by decide +kernel
theorem d_law_867 : decode code 867 = .ok (.if_icmp .eq 153, 3) := by decide +kernel
theorem d_law_870 : decode code 870 = .ok (.iconst 0, 1) := by decide +kernel
theorem d_law_871 : decode code 871 = .ok (.ireturn, 1) := by decide +kernel
theorem d_law_872 : decode code 872 = .ok (.aload_n 1, 1) := by decide +kernel
theorem d_law_873 : decode code 873 = .ok (.aload_n 0, 1) := by decide +kernel
theorem d_law_874 : decode code 874 = .ok (.iload_n 3, 1) := by decide +kernel
theorem d_law_875 : decode code 875 = .ok (.iconst 1, 1) := by decide +kernel
theorem d_law_876 : decode code 876 = .ok (.iadd, 1) := by decide +kernel
theorem d_law_877 : decode code 877 = .ok (.iaload, 1) := by decide +kernel
theorem d_law_878 : decode code 878 = .ok (.aload_n 0, 1) := by decide +kernel
theorem d_law_879 : decode code 879 = .ok (.iload_n 3, 1) := by decide +kernel
theorem d_law_880 : decode code 880 = .ok (.iconst 2, 1) := by decide +kernel
theorem d_law_881 : decode code 881 = .ok (.iadd, 1) := by decide +kernel
theorem d_law_882 : decode code 882 = .ok (.iaload, 1) := by decide +kernel
theorem d_law_883 : decode code 883 = .ok (.aload_n 0, 1) := by decide +kernel
theorem d_law_884 : decode code 884 = .ok (.iload_n 3, 1) := by decide +kernel
theorem d_law_885 : decode code 885 = .ok (.iconst 3, 1) := by decide +kernel
theorem d_law_886 : decode code 886 = .ok (.iadd, 1) := by decide +kernel
theorem d_law_887 : decode code 887 = .ok (.iaload, 1) := by decide +kernel
theorem d_law_888 : decode code 888 = .ok (.invokevirtual 125, 3) := by decide +kernel
theorem d_law_891 : decode code 891 = .ok (.aload_n 2, 1) := by decide +kernel
theorem d_law_892 : decode code 892 = .ok (.aload_n 0, 1) := by decide +kernel
theorem d_law_893 : decode code 893 = .ok (.iload_n 3, 1) := by decide +kernel
theorem d_law_894 : decode code 894 = .ok (.iconst 1, 1) := by decide +kernel
theorem d_law_895 : decode code 895 = .ok (.iadd, 1) := by decide +kernel
theorem d_law_896 : decode code 896 = .ok (.iaload, 1) := by decide +kernel
theorem d_law_897 : decode code 897 = .ok (.aload_n 0, 1) := by decide +kernel
theorem d_law_898 : decode code 898 = .ok (.iload_n 3, 1) := by decide +kernel
theorem d_law_899 : decode code 899 = .ok (.iconst 2, 1) := by decide +kernel
theorem d_law_900 : decode code 900 = .ok (.iadd, 1) := by decide +kernel
theorem d_law_901 : decode code 901 = .ok (.iaload, 1) := by decide +kernel
theorem d_law_902 : decode code 902 = .ok (.aload_n 0, 1) := by decide +kernel
theorem d_law_903 : decode code 903 = .ok (.iload_n 3, 1) := by decide +kernel
theorem d_law_904 : decode code 904 = .ok (.iconst 3, 1) := by decide +kernel
theorem d_law_905 : decode code 905 = .ok (.iadd, 1) := by decide +kernel
theorem d_law_906 : decode code 906 = .ok (.iaload, 1) := by decide +kernel
theorem d_law_907 : decode code 907 = .ok (.invokevirtual 128, 3) := by decide +kernel
theorem d_law_910 : decode code 910 = .ok (.if_icmp .eq 110, 3) := by decide +kernel
theorem d_law_913 : decode code 913 = .ok (.iconst 0, 1) := by decide +kernel
theorem d_law_914 : decode code 914 = .ok (.ireturn, 1) := by decide +kernel
theorem d_law_915 : decode code 915 = .ok (.aload_n 1, 1) := by decide +kernel
theorem d_law_916 : decode code 916 = .ok (.aload_n 0, 1) := by decide +kernel
theorem d_law_917 : decode code 917 = .ok (.iload_n 3, 1) := by decide +kernel
theorem d_law_918 : decode code 918 = .ok (.iconst 1, 1) := by decide +kernel
theorem d_law_919 : decode code 919 = .ok (.iadd, 1) := by decide +kernel
theorem d_law_920 : decode code 920 = .ok (.iaload, 1) := by decide +kernel
theorem d_law_921 : decode code 921 = .ok (.invokevirtual 129, 3) := by decide +kernel
theorem d_law_924 : decode code 924 = .ok (.aload_n 2, 1) := by decide +kernel
theorem d_law_925 : decode code 925 = .ok (.aload_n 0, 1) := by decide +kernel
theorem d_law_926 : decode code 926 = .ok (.iload_n 3, 1) := by decide +kernel
theorem d_law_927 : decode code 927 = .ok (.iconst 1, 1) := by decide +kernel
theorem d_law_928 : decode code 928 = .ok (.iadd, 1) := by decide +kernel
theorem d_law_929 : decode code 929 = .ok (.iaload, 1) := by decide +kernel
theorem d_law_930 : decode code 930 = .ok (.invokevirtual 132, 3) := by decide +kernel
theorem d_law_933 : decode code 933 = .ok (.if_icmp .eq 87, 3) := by decide +kernel
theorem d_law_936 : decode code 936 = .ok (.iconst 0, 1) := by decide +kernel
theorem d_law_937 : decode code 937 = .ok (.ireturn, 1) := by decide +kernel
theorem d_law_938 : decode code 938 = .ok (.aload_n 1, 1) := by decide +kernel
theorem d_law_939 : decode code 939 = .ok (.aload_n 0, 1) := by decide +kernel
theorem d_law_940 : decode code 940 = .ok (.iload_n 3, 1) := by decide +kernel
theorem d_law_941 : decode code 941 = .ok (.iconst 1, 1) := by decide +kernel
theorem d_law_942 : decode code 942 = .ok (.iadd, 1) := by decide +kernel
theorem d_law_943 : decode code 943 = .ok (.iaload, 1) := by decide +kernel
theorem d_law_944 : decode code 944 = .ok (.aload_n 0, 1) := by decide +kernel
theorem d_law_945 : decode code 945 = .ok (.iload_n 3, 1) := by decide +kernel
theorem d_law_946 : decode code 946 = .ok (.iconst 2, 1) := by decide +kernel
theorem d_law_947 : decode code 947 = .ok (.iadd, 1) := by decide +kernel
theorem d_law_948 : decode code 948 = .ok (.iaload, 1) := by decide +kernel
theorem d_law_949 : decode code 949 = .ok (.invokevirtual 133, 3) := by decide +kernel
theorem d_law_952 : decode code 952 = .ok (.aload_n 2, 1) := by decide +kernel
theorem d_law_953 : decode code 953 = .ok (.aload_n 0, 1) := by decide +kernel
theorem d_law_954 : decode code 954 = .ok (.iload_n 3, 1) := by decide +kernel
theorem d_law_955 : decode code 955 = .ok (.iconst 1, 1) := by decide +kernel
theorem d_law_956 : decode code 956 = .ok (.iadd, 1) := by decide +kernel
theorem d_law_957 : decode code 957 = .ok (.iaload, 1) := by decide +kernel
theorem d_law_958 : decode code 958 = .ok (.aload_n 0, 1) := by decide +kernel
theorem d_law_959 : decode code 959 = .ok (.iload_n 3, 1) := by decide +kernel
theorem d_law_960 : decode code 960 = .ok (.iconst 2, 1) := by decide +kernel
theorem d_law_961 : decode code 961 = .ok (.iadd, 1) := by decide +kernel
theorem d_law_962 : decode code 962 = .ok (.iaload, 1) := by decide +kernel
theorem d_law_963 : decode code 963 = .ok (.invokevirtual 136, 3) := by decide +kernel
theorem d_law_966 : decode code 966 = .ok (.if_icmp .eq 54, 3) := by decide +kernel
theorem d_law_969 : decode code 969 = .ok (.iconst 0, 1) := by decide +kernel
theorem d_law_970 : decode code 970 = .ok (.ireturn, 1) := by decide +kernel
theorem d_law_971 : decode code 971 = .ok (.aload_n 1, 1) := by decide +kernel
theorem d_law_972 : decode code 972 = .ok (.invokevirtual 137, 3) := by decide +kernel
theorem d_law_975 : decode code 975 = .ok (.aload_n 2, 1) := by decide +kernel
theorem d_law_976 : decode code 976 = .ok (.invokevirtual 140, 3) := by decide +kernel
theorem d_law_979 : decode code 979 = .ok (.if_icmp .eq 41, 3) := by decide +kernel
theorem d_law_982 : decode code 982 = .ok (.iconst 0, 1) := by decide +kernel
theorem d_law_983 : decode code 983 = .ok (.ireturn, 1) := by decide +kernel
theorem d_law_984 : decode code 984 = .ok (.aload_n 1, 1) := by decide +kernel
theorem d_law_985 : decode code 985 = .ok (.invokevirtual 141, 3) := by decide +kernel
theorem d_law_988 : decode code 988 = .ok (.aload_n 2, 1) := by decide +kernel
theorem d_law_989 : decode code 989 = .ok (.invokevirtual 144, 3) := by decide +kernel
theorem d_law_992 : decode code 992 = .ok (.if_icmp .eq 28, 3) := by decide +kernel
theorem d_law_995 : decode code 995 = .ok (.iconst 0, 1) := by decide +kernel
theorem d_law_996 : decode code 996 = .ok (.ireturn, 1) := by decide +kernel
theorem d_law_997 : decode code 997 = .ok (.aload_n 1, 1) := by decide +kernel
theorem d_law_998 : decode code 998 = .ok (.aload_n 0, 1) := by decide +kernel
theorem d_law_999 : decode code 999 = .ok (.iload_n 3, 1) := by decide +kernel
theorem d_law_1000 : decode code 1000 = .ok (.iconst 1, 1) := by decide +kernel
theorem d_law_1001 : decode code 1001 = .ok (.iadd, 1) := by decide +kernel
theorem d_law_1002 : decode code 1002 = .ok (.iaload, 1) := by decide +kernel
theorem d_law_1003 : decode code 1003 = .ok (.invokevirtual 145, 3) := by decide +kernel
theorem d_law_1006 : decode code 1006 = .ok (.aload_n 2, 1) := by decide +kernel
theorem d_law_1007 : decode code 1007 = .ok (.aload_n 0, 1) := by decide +kernel
theorem d_law_1008 : decode code 1008 = .ok (.iload_n 3, 1) := by decide +kernel
theorem d_law_1009 : decode code 1009 = .ok (.iconst 1, 1) := by decide +kernel
theorem d_law_1010 : decode code 1010 = .ok (.iadd, 1) := by decide +kernel
theorem d_law_1011 : decode code 1011 = .ok (.iaload, 1) := by decide +kernel
theorem d_law_1012 : decode code 1012 = .ok (.invokevirtual 148, 3) := by decide +kernel
theorem d_law_1015 : decode code 1015 = .ok (.if_icmp .eq 5, 3) := by decide +kernel
theorem d_law_1018 : decode code 1018 = .ok (.iconst 0, 1) := by decide +kernel
theorem d_law_1019 : decode code 1019 = .ok (.ireturn, 1) := by decide +kernel
theorem d_law_1020 : decode code 1020 = .ok (.iinc 3 5, 3) := by decide +kernel
theorem d_law_1023 : decode code 1023 = .ok (.goto (-1005), 3) := by decide +kernel
theorem d_law_1026 : decode code 1026 = .ok (.iconst 1, 1) := by decide +kernel
theorem d_law_1027 : decode code 1027 = .ok (.ireturn, 1) := by decide +kernel

theorem lg_same (x : Int64) : lg_cmp x x = 0 := by
  have h : ¬ x > x := Int64.lt_irrefl
  unfold lg_cmp
  rw [if_neg h, if_pos rfl]

section CALLWI
variable {p : Program} {l : Launch} {e : Env} {R : Room} {s : State} {m : MethodId} {args : Array Value} {below : List Frame} {meth : Method} {c : Code} {H : Heap} {locs : List Loc} {Q : State → Prop}
variable {cc : ByteArray} {pc : Nat} {ls : Array Slot} {rest st As : List Value} {D : va_G} {g : Nat → ClassId} {A : Nat → Prop} {ws wc w1 ws' : va_W}
theorem callWI {own C : String} {idx n k nL ci q0 : Nat} {y : MethodName} {b : ByteArray} {rt : FieldType} {rm : Room} {a : Addr} {r : Int32} {T : u_T} {N : Nat} {fs : List Value} {cells slots : Nat} (hfit : cells ≤ R.cells ∧ slots ≤ R.slots) (hx : p.tables.exec = Jvm.exec) (hb : c.code = cc) (hml : c.maxLocals = nL) (hown : s.vm.findClass own = some m.cls) (hg : ∀ w ∈ GW, w.before args s = true)
    (hK : va_K D classes (TY g) s) (hP : va_P D classes ws H) (hD : va_D A ws) (hS : va_S A s.heap H locs) (hA : ∀ q, s.heap.size ≤ q → A q) (hCs : Cst g A s s.heap) (hlz : ls.size = nL) (hM : MI l y b n rt rm D g (.ref a :: As) wc r w1) (ok : OkV y C b n (some rt) k) (kl : Cond.methodLink own idx y ∈ GW)
    (hc : classes[ci]? = some (C, T, N)) (he : ws[q0]? = some (a, .inr (ci, fs))) (isC : List Nat) (hC : isC.map (fun i => ws[i]?) = wc.map some) (hnC : va_nd isC = true) (had : w1.map Prod.fst = wc.map Prod.fst) (hpt : patch ws isC w1 = ws')
    (hn : As.length = k) (hst : st = As.reverse ++ .ref a :: rest) (hW : (rest.map fun v => v.category).sum ≤ 8) (hR' : rm.cells = 0 ∧ rm.slots = 0 ∧ rm.frames + 1 ≤ R.frames ∧ 8 + (n + 11) + rm.locals ≤ R.locals) (hdg : decode cc pc = .ok (.invokevirtual idx, 3))
    (kk : ∀ (H1 : Heap) (locs1 : List Loc), va_P D classes ws' H1 → va_D A ws' → va_S A s.heap H1 locs1 → W p l e R s m args below meth c H1 locs1 cells slots Q (F0 m (pc + 3) ls (.int r :: rest))) : W p l e R s m args below meth c H locs cells slots Q (F0 m pc ls st) := by
  have hPc := cut hP isC hC
  have hDc := hD.sub isC hnC hC
  have hFc := va_free (wc := wc) hD hS hA isC hC
  refine va_calli (va_runV (As := As) (rest := rest) ⟨hx, hb, hml, hown, hg⟩ (hM H.size) (cwV (Ts := GW) k hg (goodV ok kl) rfl hR'.1 hR'.2.1 ok.1 ⟨hR'.2.2.1, hR'.2.2.2⟩) ⟨fbW D g _ wc H.size, va_recv hK hP hc he, fun U hU hW => ⟨rfl, by rw [hU], by rw [hU]; exact hPc, va_K.moved hW.alike hK, hDc.weaken (fun _ _ _ _ => trivial), hCs.step hS hW hU hFc⟩⟩ rfl hn hlz hst (lv_room hW) hdg hfit) hS (fun q _ h => hFc q h) hFc (fun r1 u t H1 locs ht hvm hw hB hz1 hk1 hS => ?_)
  obtain ⟨hP1, hK1, hD1⟩ := hB
  rw [ht] at hP1
  obtain ⟨hP, hD⟩ := mid hP hD isC hC hnC had hpt hk1 hP1
  have hw : r1 = r := hw
  rw [hw]
  exact kk H1 locs hP hD hS
end CALLWI

section CALLWL
variable {p : Program} {l : Launch} {e : Env} {R : Room} {s : State} {m : MethodId} {args : Array Value} {below : List Frame} {meth : Method} {c : Code} {H : Heap} {locs : List Loc} {Q : State → Prop}
variable {cc : ByteArray} {pc : Nat} {ls : Array Slot} {rest st As : List Value} {D : va_G} {g : Nat → ClassId} {A : Nat → Prop} {ws wc w1 ws' : va_W}
theorem callWL {own C : String} {idx n k nL ci q0 : Nat} {y : MethodName} {b : ByteArray} {rm : Room} {a : Addr} {r : Int64} {T : u_T} {N : Nat} {fs : List Value} {cells slots : Nat} (hfit : cells ≤ R.cells ∧ slots ≤ R.slots) (hx : p.tables.exec = Jvm.exec) (hb : c.code = cc) (hml : c.maxLocals = nL) (hown : s.vm.findClass own = some m.cls) (hg : ∀ w ∈ GW, w.before args s = true)
    (hK : va_K D classes (TY g) s) (hP : va_P D classes ws H) (hD : va_D A ws) (hS : va_S A s.heap H locs) (hA : ∀ q, s.heap.size ≤ q → A q) (hCs : Cst g A s s.heap) (hlz : ls.size = nL) (hM : ML l y b n rm D g (.ref a :: As) wc r w1) (ok : OkV y C b n (some .long) k) (kl : Cond.methodLink own idx y ∈ GW)
    (hc : classes[ci]? = some (C, T, N)) (he : ws[q0]? = some (a, .inr (ci, fs))) (isC : List Nat) (hC : isC.map (fun i => ws[i]?) = wc.map some) (hnC : va_nd isC = true) (had : w1.map Prod.fst = wc.map Prod.fst) (hpt : patch ws isC w1 = ws')
    (hn : As.length = k) (hst : st = As.reverse ++ .ref a :: rest) (hW : (rest.map fun v => v.category).sum ≤ 8) (hR' : rm.cells = 0 ∧ rm.slots = 0 ∧ rm.frames + 1 ≤ R.frames ∧ 8 + (n + 11) + rm.locals ≤ R.locals) (hdg : decode cc pc = .ok (.invokevirtual idx, 3))
    (kk : ∀ (H1 : Heap) (locs1 : List Loc), va_P D classes ws' H1 → va_D A ws' → va_S A s.heap H1 locs1 → W p l e R s m args below meth c H1 locs1 cells slots Q (F0 m (pc + 3) ls (.long r :: rest))) : W p l e R s m args below meth c H locs cells slots Q (F0 m pc ls st) := by
  have hPc := cut hP isC hC
  have hDc := hD.sub isC hnC hC
  have hFc := va_free (wc := wc) hD hS hA isC hC
  refine va_calll (va_runV (As := As) (rest := rest) ⟨hx, hb, hml, hown, hg⟩ (hM H.size) (cwV (Ts := GW) k hg (goodV ok kl) rfl hR'.1 hR'.2.1 ok.1 ⟨hR'.2.2.1, hR'.2.2.2⟩) ⟨fbW D g _ wc H.size, va_recv hK hP hc he, fun U hU hW => ⟨rfl, by rw [hU], by rw [hU]; exact hPc, va_K.moved hW.alike hK, hDc.weaken (fun _ _ _ _ => trivial), hCs.step hS hW hU hFc⟩⟩ rfl hn hlz hst (lv_room hW) hdg hfit) hS (fun q _ h => hFc q h) hFc (fun r1 u t H1 locs ht hvm hw hB hz1 hk1 hS => ?_)
  obtain ⟨hP1, hK1, hD1⟩ := hB
  rw [ht] at hP1
  obtain ⟨hP, hD⟩ := mid hP hD isC hC hnC had hpt hk1 hP1
  have hw : r1 = r := hw
  rw [hw]
  exact kk H1 locs hP hD hS
end CALLWL

def S_feed (Rl : T_OL → T_Mo → Prop) : Prop := ∀ (z : T_OL) (w : T_Mo) (x1 : Int32), Rl z w → ∃ (r : Int32) (z' : T_OL) (w' : T_Mo), d_OL_feed x1 z = some (r, z') ∧ d_Mo_feed x1 w = some (r, w') ∧ Rl z' w'

def S_land (Rl : T_OL → T_Mo → Prop) : Prop := ∀ (z : T_OL) (w : T_Mo), Rl z w → ∃ (r : Int32) (z' : T_OL) (w' : T_Mo), d_OL_land  z = some (r, z') ∧ d_Mo_land  w = some (r, w') ∧ Rl z' w'

def S_person (Rl : T_OL → T_Mo → Prop) : Prop := ∀ (z : T_OL) (w : T_Mo) (x1 : Int32) (x2 : Int32) (x3 : Int32) (x4 : Int32), Rl z w → ∃ (r : Int32) (z' : T_OL) (w' : T_Mo), d_OL_person x1 x2 x3 x4 z = some (r, z') ∧ d_Mo_person x1 x2 x3 x4 w = some (r, w') ∧ Rl z' w'

def S_of (Rl : T_OL → T_Mo → Prop) : Prop := ∀ (z : T_OL) (w : T_Mo) (x1 : Int32) (x2 : Int32), Rl z w → ∃ (r : Int32) (z' : T_OL) (w' : T_Mo), d_OL_of x1 x2 z = some (r, z') ∧ d_Mo_of x1 x2 w = some (r, w') ∧ Rl z' w'

def S_strength (Rl : T_OL → T_Mo → Prop) : Prop := ∀ (z : T_OL) (w : T_Mo) (x1 : Int32) (x2 : Int32), Rl z w → ∃ (r : Int32) (z' : T_OL) (w' : T_Mo), d_OL_strength x1 x2 z = some (r, z') ∧ d_Mo_strength x1 x2 w = some (r, w') ∧ Rl z' w'

def S_row (Rl : T_OL → T_Mo → Prop) : Prop := ∀ (z : T_OL) (w : T_Mo) (x1 : Int32) (x2 : Int32), Rl z w → ∃ (r : Int32) (z' : T_OL) (w' : T_Mo), d_OL_row x1 x2 z = some (r, z') ∧ d_Mo_row x1 x2 w = some (r, w') ∧ Rl z' w'

def S_thing (Rl : T_OL → T_Mo → Prop) : Prop := ∀ (z : T_OL) (w : T_Mo) (x1 : Int32), Rl z w → ∃ (r : Int32) (z' : T_OL) (w' : T_Mo), d_OL_thing x1 z = some (r, z') ∧ d_Mo_thing x1 w = some (r, w') ∧ Rl z' w'

def S_at (Rl : T_OL → T_Mo → Prop) : Prop := ∀ (z : T_OL) (w : T_Mo) (x1 : Int32) (x2 : Int32), Rl z w → ∃ (r : Int32) (z' : T_OL) (w' : T_Mo), d_OL_at x1 x2 z = some r ∧ d_Mo_at x1 x2 w = some r ∧ Rl z' w' ∧ z' = z ∧ w' = w

def S_give (Rl : T_OL → T_Mo → Prop) : Prop := ∀ (z : T_OL) (w : T_Mo) (x1 : Int32) (x2 : Int32), Rl z w → ∃ (r : Int32) (z' : T_OL) (w' : T_Mo), d_OL_give x1 x2 z = some (r, z') ∧ d_Mo_give x1 x2 w = some (r, w') ∧ Rl z' w'

def S_like (Rl : T_OL → T_Mo → Prop) : Prop := ∀ (z : T_OL) (w : T_Mo) (x1 : Int32) (x2 : Int32), Rl z w → ∃ (r : Int32) (z' : T_OL) (w' : T_Mo), d_OL_like x1 x2 z = some (r, z') ∧ d_Mo_like x1 x2 w = some (r, w') ∧ Rl z' w'

def S_when (Rl : T_OL → T_Mo → Prop) : Prop := ∀ (z : T_OL) (w : T_Mo), Rl z w → ∃ (r : Int32) (z' : T_OL) (w' : T_Mo), d_OL_when  z = some r ∧ d_Mo_when  w = some r ∧ Rl z' w' ∧ z' = z ∧ w' = w

def S_bench (Rl : T_OL → T_Mo → Prop) : Prop := ∀ (z : T_OL) (w : T_Mo) (x1 : Int32), Rl z w → ∃ (r : Int32) (z' : T_OL) (w' : T_Mo), d_OL_bench x1 z = some (r, z') ∧ d_Mo_bench x1 w = some (r, w') ∧ Rl z' w'

def S_year (Rl : T_OL → T_Mo → Prop) : Prop := ∀ (z : T_OL) (w : T_Mo), Rl z w → ∃ (r : Int32) (z' : T_OL) (w' : T_Mo), d_OL_year  z = some (r, z') ∧ d_Mo_year  w = some (r, w') ∧ Rl z' w'

def S_best (Rl : T_OL → T_Mo → Prop) : Prop := ∀ (z : T_OL) (w : T_Mo) (x1 : Int32), Rl z w → ∃ (r : Int32) (z' : T_OL) (w' : T_Mo), d_OL_best x1 z = some (r, z') ∧ d_Mo_best x1 w = some (r, w') ∧ Rl z' w'

def S_most (Rl : T_OL → T_Mo → Prop) : Prop := ∀ (z : T_OL) (w : T_Mo), Rl z w → ∃ (r : Int32) (z' : T_OL) (w' : T_Mo), d_OL_most  z = some (r, z') ∧ d_Mo_most  w = some (r, w') ∧ Rl z' w'

def S_train (Rl : T_OL → T_Mo → Prop) : Prop := ∀ (z : T_OL) (w : T_Mo) (x1 : Int32), Rl z w → ∃ (r : Int32) (z' : T_OL) (w' : T_Mo), d_OL_train x1 z = some (r, z') ∧ d_Mo_train x1 w = some (r, w') ∧ Rl z' w'

def S_moved (Rl : T_OL → T_Mo → Prop) : Prop := ∀ (z : T_OL) (w : T_Mo), Rl z w → ∃ (r : Int32) (z' : T_OL) (w' : T_Mo), d_OL_moved  z = some (r, z') ∧ d_Mo_moved  w = some (r, w') ∧ Rl z' w'

def S_gives (Rl : T_OL → T_Mo → Prop) : Prop := ∀ (z : T_OL) (w : T_Mo) (x1 : Int32) (x2 : Int32), Rl z w → ∃ (r : Int32) (z' : T_OL) (w' : T_Mo), d_OL_gives x1 x2 z = some (r, z') ∧ d_Mo_gives x1 x2 w = some (r, w') ∧ Rl z' w'

def S_parts (Rl : T_OL → T_Mo → Prop) : Prop := ∀ (z : T_OL) (w : T_Mo) (x1 : Int32) (x2 : Int32), Rl z w → ∃ (r : Int64) (z' : T_OL) (w' : T_Mo), d_OL_parts x1 x2 z = some (r, z') ∧ d_Mo_parts x1 x2 w = some (r, w') ∧ Rl z' w'

def S_swap (Rl : T_OL → T_Mo → Prop) : Prop := ∀ (z : T_OL) (w : T_Mo) (x1 : Int32), Rl z w → ∃ (r : Int32) (z' : T_OL) (w' : T_Mo), d_OL_swap x1 z = some (r, z') ∧ d_Mo_swap x1 w = some (r, w') ∧ Rl z' w'

def S_rest (Rl : T_OL → T_Mo → Prop) : Prop := ∀ (z : T_OL) (w : T_Mo), Rl z w → ∃ (r : Int32) (z' : T_OL) (w' : T_Mo), d_OL_rest  z = some (r, z') ∧ d_Mo_rest  w = some (r, w') ∧ Rl z' w'

def S_fair (Rl : T_OL → T_Mo → Prop) : Prop := ∀ (z : T_OL) (w : T_Mo) (x1 : Int32) (x2 : Int32) (x3 : Int32), Rl z w → ∃ (r : Int32) (z' : T_OL) (w' : T_Mo), d_OL_fair x1 x2 x3 z = some (r, z') ∧ d_Mo_fair x1 x2 x3 w = some (r, w') ∧ Rl z' w'

def S_had (Rl : T_OL → T_Mo → Prop) : Prop := ∀ (z : T_OL) (w : T_Mo) (x1 : Int32) (x2 : Int32), Rl z w → ∃ (r : Int32) (z' : T_OL) (w' : T_Mo), d_OL_had x1 x2 z = some (r, z') ∧ d_Mo_had x1 x2 w = some r ∧ Rl z' w' ∧ w' = w

def S_odds (Rl : T_OL → T_Mo → Prop) : Prop := ∀ (z : T_OL) (w : T_Mo) (x1 : Int32), Rl z w → ∃ (r : Int64) (z' : T_OL) (w' : T_Mo), d_OL_odds x1 z = some (r, z') ∧ d_Mo_odds x1 w = some (r, w') ∧ Rl z' w'

def S_see (Rl : T_OL → T_Mo → Prop) : Prop := ∀ (z : T_OL) (w : T_Mo) (x1 : Int32) (x2 : Int32), Rl z w → ∃ (r : Int32) (z' : T_OL) (w' : T_Mo), d_OL_see x1 x2 z = some (r, z') ∧ d_Mo_see x1 x2 w = some (r, w') ∧ Rl z' w'

def S_looked (Rl : T_OL → T_Mo → Prop) : Prop := ∀ (z : T_OL) (w : T_Mo), Rl z w → ∃ (r : Int32) (z' : T_OL) (w' : T_Mo), d_OL_looked  z = some (r, z') ∧ d_Mo_looked  w = some (r, w') ∧ Rl z' w'

def S_act (Rl : T_OL → T_Mo → Prop) : Prop := ∀ (z : T_OL) (w : T_Mo) (x1 : Int32) (x2 : Int32) (x3 : Int32), Rl z w → ∃ (r : Int32) (z' : T_OL) (w' : T_Mo), d_OL_act x1 x2 x3 z = some (r, z') ∧ d_Mo_act x1 x2 x3 w = some (r, w') ∧ Rl z' w'

def S_trace (Rl : T_OL → T_Mo → Prop) : Prop := ∀ (z : T_OL) (w : T_Mo) (x1 : Int32), Rl z w → ∃ (r : Int32) (z' : T_OL) (w' : T_Mo), d_OL_trace x1 z = some r ∧ d_Mo_trace x1 w = some r ∧ Rl z' w' ∧ z' = z ∧ w' = w

def S_as (Rl : T_OL → T_Mo → Prop) : Prop := ∀ (z : T_OL) (w : T_Mo) (x1 : Int32) (x2 : Int32), Rl z w → ∃ (r : Int32) (z' : T_OL) (w' : T_Mo), d_OL_as x1 x2 z = some r ∧ d_Mo_as x1 x2 w = some r ∧ Rl z' w' ∧ z' = z ∧ w' = w

def S_image (Rl : T_OL → T_Mo → Prop) : Prop := ∀ (z : T_OL) (w : T_Mo), Rl z w → ∃ (r : Int32) (z' : T_OL) (w' : T_Mo), d_OL_image  z = some (r, z') ∧ d_Mo_image  w = some (r, w') ∧ Rl z' w'

def S_undo (Rl : T_OL → T_Mo → Prop) : Prop := ∀ (z : T_OL) (w : T_Mo), Rl z w → ∃ (r : Int32) (z' : T_OL) (w' : T_Mo), d_OL_undo  z = some (r, z') ∧ d_Mo_undo  w = some (r, w') ∧ Rl z' w'

def S_count (Rl : T_OL → T_Mo → Prop) : Prop := ∀ (z : T_OL) (w : T_Mo) (x1 : Int32), Rl z w → ∃ (r : Int32) (z' : T_OL) (w' : T_Mo), d_OL_count x1 z = some r ∧ d_Mo_count x1 w = some r ∧ Rl z' w' ∧ z' = z ∧ w' = w

set_option maxHeartbeats 8000000 in
set_option maxRecDepth 100000 in
theorem lawc_0 {p : Program} {l : Launch} {e : Env} {s : State} {m : MethodId} {below : List Frame} {meth : Method} {c : Code} {D : va_G} {g : Nat → ClassId} {b L : Nat} {xs : Nat → Int32} {a1 a2 : Nat → Nat} {Rl : T_OL → T_Mo → Prop} (C0 : lw_At p s m meth c b L xs) (hK : va_K D classes (TY g) s) (hCs : Cst g (fun q : Nat => s.heap.size ≤ q) s s.heap) (hs_feed : S_feed Rl) {x3 : Int32} (h_in0 : vp_in x3 L) (h_in1 : vp_in (x3 + 1) L) (h_in2 : vp_in (x3 + 2) L) (h_in3 : vp_in (x3 + 3) L) (h_in4 : vp_in (x3 + 4) L)
    (hend : ∀ (z : T_OL) (w : T_Mo) (H : Heap) (locs : List Loc) (ls : Array Slot), Rl z w → va_P D classes (ws_OL g a1 z ++ ws_Mo g a2 w) H → va_D (fun q : Nat => s.heap.size ≤ q) (ws_OL g a1 z ++ ws_Mo g a2 w) → va_S (fun q : Nat => s.heap.size ≤ q) s.heap H locs → lv_has ls 4 [(0, .ref b), (1, .ref (a1 0)), (2, .ref (a2 0)), (3, .int x3)] → W p l e room_1 s m #[Value.ref b] below meth c H locs 600000 7302250 (lw_Z below #[Value.ref b] s) (F0 m 1020 ls [])) {z0 : T_OL} {w0 : T_Mo} {H : Heap} {locs : List Loc} {ls : Array Slot} (hRl : Rl z0 w0) (hP : va_P D classes (ws_OL g a1 z0 ++ ws_Mo g a2 w0) H) (hD : va_D (fun q : Nat => s.heap.size ≤ q) (ws_OL g a1 z0 ++ ws_Mo g a2 w0)) (hS : va_S (fun q : Nat => s.heap.size ≤ q) s.heap H locs) (hl : lv_has ls 4 [(0, .ref b), (1, .ref (a1 0)), (2, .ref (a2 0)), (3, .int x3)]) :
    W p l e room_1 s m #[Value.ref b] below meth c H locs 600000 7302250 (lw_Z below #[Value.ref b] s) (F0 m 176 ls []) := by
  obtain ⟨hx, hb, hr, hml, hown, hts, hX, hbl, hlocks, hgv⟩ := C0
  have hg : ∀ w ∈ GW, w.before #[Value.ref b] s = true := fun w hw => hts w (List.mem_filter.mp hw).1
  have hA : ∀ q : Nat, s.heap.size ≤ q → (fun q : Nat => s.heap.size ≤ q) q := fun _ h => h
  have hbA : ¬ (fun q : Nat => s.heap.size ≤ q) b := Nat.not_le.mpr hbl
  have hfit : 600000 ≤ room_1.cells ∧ 7302250 ≤ room_1.slots := ⟨Nat.le_of_ble_eq_true rfl, Nat.le_of_ble_eq_true rfl⟩
  refine lv_aload_n hx hb d_law_176 rfl (lv_at hl 1 rfl) ?_
  refine lv_aload_n hx hb d_law_177 rfl (lv_at hl 0 rfl) ?_
  refine lv_iload_n hx hb d_law_178 rfl (lv_at hl 3 rfl) ?_
  refine lv_iconst (v := 1) hx hb d_law_179 (by decide) ?_
  refine lv_iadd hx hb d_law_180 ?_
  refine va_sld hx hb hX hbl hbA hS h_in1 d_law_181 ?_
  obtain ⟨r_1, z_2, w_3, e1_r_1, e2_r_1, hR2⟩ := hs_feed z0 w0 (xs (x3 + 1).toNatClampNeg) hRl
  refine callWI (ws' := ws_OL g a1 z_2 ++ ws_Mo g a2 w0) (rest := []) (As := [.int (xs (x3 + 1).toNatClampNeg)]) hfit hx hb hml hown hg hK hP hD hS hA hCs hl.1 (c_OL_feed l D g a1 (xs (x3 + 1).toNatClampNeg) z0 (r_1, z_2) e1_r_1) o_OL_feed g_421 (ci := 0) (q0 := 0) rfl rfl (List.range' 0 83) (segC1 rfl rfl) (by decide) rfl (segP1 rfl rfl) rfl rfl (Nat.le_of_ble_eq_true rfl) ⟨rfl, rfl, Nat.le_of_ble_eq_true rfl, Nat.le_of_ble_eq_true rfl⟩ d_law_182 (fun H locs hP hD hS => ?_)
  refine lv_aload_n hx hb d_law_185 rfl (lv_at hl 2 rfl) ?_
  refine lv_aload_n hx hb d_law_186 rfl (lv_at hl 0 rfl) ?_
  refine lv_iload_n hx hb d_law_187 rfl (lv_at hl 3 rfl) ?_
  refine lv_iconst (v := 1) hx hb d_law_188 (by decide) ?_
  refine lv_iadd hx hb d_law_189 ?_
  refine va_sld hx hb hX hbl hbA hS h_in1 d_law_190 ?_
  refine callWI (ws' := ws_OL g a1 z_2 ++ ws_Mo g a2 w_3) (rest := [.int r_1]) (As := [.int (xs (x3 + 1).toNatClampNeg)]) hfit hx hb hml hown hg hK hP hD hS hA hCs hl.1 (c_Mo_feed l D g a2 (xs (x3 + 1).toNatClampNeg) w0 (r_1, w_3) e2_r_1) o_Mo_feed g_1072 (ci := 1) (q0 := 83) rfl rfl (List.range' 83 12) (segC1 rfl rfl) (by decide) rfl (segP1 rfl rfl) rfl rfl (Nat.le_of_ble_eq_true rfl) ⟨rfl, rfl, Nat.le_of_ble_eq_true rfl, Nat.le_of_ble_eq_true rfl⟩ d_law_191 (fun H locs hP hD hS => ?_)
  refine lv_icmp_eq (tgt := 1020) hx hb d_law_194 (by decide) (fun _ => ?_) (fun h9 => absurd rfl h9)
  exact hend _ _ H locs ls hR2 hP hD hS hl

set_option maxHeartbeats 8000000 in
set_option maxRecDepth 100000 in
theorem lawc_1 {p : Program} {l : Launch} {e : Env} {s : State} {m : MethodId} {below : List Frame} {meth : Method} {c : Code} {D : va_G} {g : Nat → ClassId} {b L : Nat} {xs : Nat → Int32} {a1 a2 : Nat → Nat} {Rl : T_OL → T_Mo → Prop} (C0 : lw_At p s m meth c b L xs) (hK : va_K D classes (TY g) s) (hCs : Cst g (fun q : Nat => s.heap.size ≤ q) s s.heap) (hs_land : S_land Rl) {x3 : Int32} (h_in0 : vp_in x3 L) (h_in1 : vp_in (x3 + 1) L) (h_in2 : vp_in (x3 + 2) L) (h_in3 : vp_in (x3 + 3) L) (h_in4 : vp_in (x3 + 4) L)
    (hend : ∀ (z : T_OL) (w : T_Mo) (H : Heap) (locs : List Loc) (ls : Array Slot), Rl z w → va_P D classes (ws_OL g a1 z ++ ws_Mo g a2 w) H → va_D (fun q : Nat => s.heap.size ≤ q) (ws_OL g a1 z ++ ws_Mo g a2 w) → va_S (fun q : Nat => s.heap.size ≤ q) s.heap H locs → lv_has ls 4 [(0, .ref b), (1, .ref (a1 0)), (2, .ref (a2 0)), (3, .int x3)] → W p l e room_1 s m #[Value.ref b] below meth c H locs 600000 7302250 (lw_Z below #[Value.ref b] s) (F0 m 1020 ls [])) {z0 : T_OL} {w0 : T_Mo} {H : Heap} {locs : List Loc} {ls : Array Slot} (hRl : Rl z0 w0) (hP : va_P D classes (ws_OL g a1 z0 ++ ws_Mo g a2 w0) H) (hD : va_D (fun q : Nat => s.heap.size ≤ q) (ws_OL g a1 z0 ++ ws_Mo g a2 w0)) (hS : va_S (fun q : Nat => s.heap.size ≤ q) s.heap H locs) (hl : lv_has ls 4 [(0, .ref b), (1, .ref (a1 0)), (2, .ref (a2 0)), (3, .int x3)]) :
    W p l e room_1 s m #[Value.ref b] below meth c H locs 600000 7302250 (lw_Z below #[Value.ref b] s) (F0 m 199 ls []) := by
  obtain ⟨hx, hb, hr, hml, hown, hts, hX, hbl, hlocks, hgv⟩ := C0
  have hg : ∀ w ∈ GW, w.before #[Value.ref b] s = true := fun w hw => hts w (List.mem_filter.mp hw).1
  have hA : ∀ q : Nat, s.heap.size ≤ q → (fun q : Nat => s.heap.size ≤ q) q := fun _ h => h
  have hbA : ¬ (fun q : Nat => s.heap.size ≤ q) b := Nat.not_le.mpr hbl
  have hfit : 600000 ≤ room_1.cells ∧ 7302250 ≤ room_1.slots := ⟨Nat.le_of_ble_eq_true rfl, Nat.le_of_ble_eq_true rfl⟩
  refine lv_aload_n hx hb d_law_199 rfl (lv_at hl 1 rfl) ?_
  obtain ⟨r_4, z_5, w_6, e1_r_4, e2_r_4, hR2⟩ := hs_land z0 w0  hRl
  refine callWI (ws' := ws_OL g a1 z_5 ++ ws_Mo g a2 w0) (rest := []) (As := []) hfit hx hb hml hown hg hK hP hD hS hA hCs hl.1 (c_OL_land l D g a1  z0 (r_4, z_5) e1_r_4) o_OL_land g_425 (ci := 0) (q0 := 0) rfl rfl (List.range' 0 83) (segC1 rfl rfl) (by decide) rfl (segP1 rfl rfl) rfl rfl (Nat.le_of_ble_eq_true rfl) ⟨rfl, rfl, Nat.le_of_ble_eq_true rfl, Nat.le_of_ble_eq_true rfl⟩ d_law_200 (fun H locs hP hD hS => ?_)
  refine lv_aload_n hx hb d_law_203 rfl (lv_at hl 2 rfl) ?_
  refine callWI (ws' := ws_OL g a1 z_5 ++ ws_Mo g a2 w_6) (rest := [.int r_4]) (As := []) hfit hx hb hml hown hg hK hP hD hS hA hCs hl.1 (c_Mo_land l D g a2  w0 (r_4, w_6) e2_r_4) o_Mo_land g_1079 (ci := 1) (q0 := 83) rfl rfl (List.range' 83 12) (segC1 rfl rfl) (by decide) rfl (segP1 rfl rfl) rfl rfl (Nat.le_of_ble_eq_true rfl) ⟨rfl, rfl, Nat.le_of_ble_eq_true rfl, Nat.le_of_ble_eq_true rfl⟩ d_law_204 (fun H locs hP hD hS => ?_)
  refine lv_icmp_eq (tgt := 1020) hx hb d_law_207 (by decide) (fun _ => ?_) (fun h9 => absurd rfl h9)
  exact hend _ _ H locs ls hR2 hP hD hS hl

set_option maxHeartbeats 8000000 in
set_option maxRecDepth 100000 in
theorem lawc_2 {p : Program} {l : Launch} {e : Env} {s : State} {m : MethodId} {below : List Frame} {meth : Method} {c : Code} {D : va_G} {g : Nat → ClassId} {b L : Nat} {xs : Nat → Int32} {a1 a2 : Nat → Nat} {Rl : T_OL → T_Mo → Prop} (C0 : lw_At p s m meth c b L xs) (hK : va_K D classes (TY g) s) (hCs : Cst g (fun q : Nat => s.heap.size ≤ q) s s.heap) (hs_person : S_person Rl) {x3 : Int32} (h_in0 : vp_in x3 L) (h_in1 : vp_in (x3 + 1) L) (h_in2 : vp_in (x3 + 2) L) (h_in3 : vp_in (x3 + 3) L) (h_in4 : vp_in (x3 + 4) L)
    (hend : ∀ (z : T_OL) (w : T_Mo) (H : Heap) (locs : List Loc) (ls : Array Slot), Rl z w → va_P D classes (ws_OL g a1 z ++ ws_Mo g a2 w) H → va_D (fun q : Nat => s.heap.size ≤ q) (ws_OL g a1 z ++ ws_Mo g a2 w) → va_S (fun q : Nat => s.heap.size ≤ q) s.heap H locs → lv_has ls 4 [(0, .ref b), (1, .ref (a1 0)), (2, .ref (a2 0)), (3, .int x3)] → W p l e room_1 s m #[Value.ref b] below meth c H locs 600000 7302250 (lw_Z below #[Value.ref b] s) (F0 m 1020 ls [])) {z0 : T_OL} {w0 : T_Mo} {H : Heap} {locs : List Loc} {ls : Array Slot} (hRl : Rl z0 w0) (hP : va_P D classes (ws_OL g a1 z0 ++ ws_Mo g a2 w0) H) (hD : va_D (fun q : Nat => s.heap.size ≤ q) (ws_OL g a1 z0 ++ ws_Mo g a2 w0)) (hS : va_S (fun q : Nat => s.heap.size ≤ q) s.heap H locs) (hl : lv_has ls 4 [(0, .ref b), (1, .ref (a1 0)), (2, .ref (a2 0)), (3, .int x3)]) :
    W p l e room_1 s m #[Value.ref b] below meth c H locs 600000 7302250 (lw_Z below #[Value.ref b] s) (F0 m 212 ls []) := by
  obtain ⟨hx, hb, hr, hml, hown, hts, hX, hbl, hlocks, hgv⟩ := C0
  have hg : ∀ w ∈ GW, w.before #[Value.ref b] s = true := fun w hw => hts w (List.mem_filter.mp hw).1
  have hA : ∀ q : Nat, s.heap.size ≤ q → (fun q : Nat => s.heap.size ≤ q) q := fun _ h => h
  have hbA : ¬ (fun q : Nat => s.heap.size ≤ q) b := Nat.not_le.mpr hbl
  have hfit : 600000 ≤ room_1.cells ∧ 7302250 ≤ room_1.slots := ⟨Nat.le_of_ble_eq_true rfl, Nat.le_of_ble_eq_true rfl⟩
  refine lv_aload_n hx hb d_law_212 rfl (lv_at hl 1 rfl) ?_
  refine lv_aload_n hx hb d_law_213 rfl (lv_at hl 0 rfl) ?_
  refine lv_iload_n hx hb d_law_214 rfl (lv_at hl 3 rfl) ?_
  refine lv_iconst (v := 1) hx hb d_law_215 (by decide) ?_
  refine lv_iadd hx hb d_law_216 ?_
  refine va_sld hx hb hX hbl hbA hS h_in1 d_law_217 ?_
  refine lv_aload_n hx hb d_law_218 rfl (lv_at hl 0 rfl) ?_
  refine lv_iload_n hx hb d_law_219 rfl (lv_at hl 3 rfl) ?_
  refine lv_iconst (v := 2) hx hb d_law_220 (by decide) ?_
  refine lv_iadd hx hb d_law_221 ?_
  refine va_sld hx hb hX hbl hbA hS h_in2 d_law_222 ?_
  refine lv_aload_n hx hb d_law_223 rfl (lv_at hl 0 rfl) ?_
  refine lv_iload_n hx hb d_law_224 rfl (lv_at hl 3 rfl) ?_
  refine lv_iconst (v := 3) hx hb d_law_225 (by decide) ?_
  refine lv_iadd hx hb d_law_226 ?_
  refine va_sld hx hb hX hbl hbA hS h_in3 d_law_227 ?_
  refine lv_aload_n hx hb d_law_228 rfl (lv_at hl 0 rfl) ?_
  refine lv_iload_n hx hb d_law_229 rfl (lv_at hl 3 rfl) ?_
  refine lv_iconst (v := 4) hx hb d_law_230 (by decide) ?_
  refine lv_iadd hx hb d_law_231 ?_
  refine va_sld hx hb hX hbl hbA hS h_in4 d_law_232 ?_
  obtain ⟨r_7, z_8, w_9, e1_r_7, e2_r_7, hR2⟩ := hs_person z0 w0 (xs (x3 + 1).toNatClampNeg) (xs (x3 + 2).toNatClampNeg) (xs (x3 + 3).toNatClampNeg) (xs (x3 + 4).toNatClampNeg) hRl
  refine callWI (ws' := ws_OL g a1 z_8 ++ ws_Mo g a2 w0) (rest := []) (As := [.int (xs (x3 + 1).toNatClampNeg), .int (xs (x3 + 2).toNatClampNeg), .int (xs (x3 + 3).toNatClampNeg), .int (xs (x3 + 4).toNatClampNeg)]) hfit hx hb hml hown hg hK hP hD hS hA hCs hl.1 (c_OL_person l D g a1 (xs (x3 + 1).toNatClampNeg) (xs (x3 + 2).toNatClampNeg) (xs (x3 + 3).toNatClampNeg) (xs (x3 + 4).toNatClampNeg) z0 (r_7, z_8) e1_r_7) o_OL_person g_611 (ci := 0) (q0 := 0) rfl rfl (List.range' 0 83) (segC1 rfl rfl) (by decide) rfl (segP1 rfl rfl) rfl rfl (Nat.le_of_ble_eq_true rfl) ⟨rfl, rfl, Nat.le_of_ble_eq_true rfl, Nat.le_of_ble_eq_true rfl⟩ d_law_233 (fun H locs hP hD hS => ?_)
  refine lv_aload_n hx hb d_law_236 rfl (lv_at hl 2 rfl) ?_
  refine lv_aload_n hx hb d_law_237 rfl (lv_at hl 0 rfl) ?_
  refine lv_iload_n hx hb d_law_238 rfl (lv_at hl 3 rfl) ?_
  refine lv_iconst (v := 1) hx hb d_law_239 (by decide) ?_
  refine lv_iadd hx hb d_law_240 ?_
  refine va_sld hx hb hX hbl hbA hS h_in1 d_law_241 ?_
  refine lv_aload_n hx hb d_law_242 rfl (lv_at hl 0 rfl) ?_
  refine lv_iload_n hx hb d_law_243 rfl (lv_at hl 3 rfl) ?_
  refine lv_iconst (v := 2) hx hb d_law_244 (by decide) ?_
  refine lv_iadd hx hb d_law_245 ?_
  refine va_sld hx hb hX hbl hbA hS h_in2 d_law_246 ?_
  refine lv_aload_n hx hb d_law_247 rfl (lv_at hl 0 rfl) ?_
  refine lv_iload_n hx hb d_law_248 rfl (lv_at hl 3 rfl) ?_
  refine lv_iconst (v := 3) hx hb d_law_249 (by decide) ?_
  refine lv_iadd hx hb d_law_250 ?_
  refine va_sld hx hb hX hbl hbA hS h_in3 d_law_251 ?_
  refine lv_aload_n hx hb d_law_252 rfl (lv_at hl 0 rfl) ?_
  refine lv_iload_n hx hb d_law_253 rfl (lv_at hl 3 rfl) ?_
  refine lv_iconst (v := 4) hx hb d_law_254 (by decide) ?_
  refine lv_iadd hx hb d_law_255 ?_
  refine va_sld hx hb hX hbl hbA hS h_in4 d_law_256 ?_
  refine callWI (ws' := ws_OL g a1 z_8 ++ ws_Mo g a2 w_9) (rest := [.int r_7]) (As := [.int (xs (x3 + 1).toNatClampNeg), .int (xs (x3 + 2).toNatClampNeg), .int (xs (x3 + 3).toNatClampNeg), .int (xs (x3 + 4).toNatClampNeg)]) hfit hx hb hml hown hg hK hP hD hS hA hCs hl.1 (c_Mo_person l D g a2 (xs (x3 + 1).toNatClampNeg) (xs (x3 + 2).toNatClampNeg) (xs (x3 + 3).toNatClampNeg) (xs (x3 + 4).toNatClampNeg) w0 (r_7, w_9) e2_r_7) o_Mo_person g_1139 (ci := 1) (q0 := 83) rfl rfl (List.range' 83 12) (segC1 rfl rfl) (by decide) rfl (segP1 rfl rfl) rfl rfl (Nat.le_of_ble_eq_true rfl) ⟨rfl, rfl, Nat.le_of_ble_eq_true rfl, Nat.le_of_ble_eq_true rfl⟩ d_law_257 (fun H locs hP hD hS => ?_)
  refine lv_icmp_eq (tgt := 1020) hx hb d_law_260 (by decide) (fun _ => ?_) (fun h9 => absurd rfl h9)
  exact hend _ _ H locs ls hR2 hP hD hS hl

set_option maxHeartbeats 8000000 in
set_option maxRecDepth 100000 in
theorem lawc_3 {p : Program} {l : Launch} {e : Env} {s : State} {m : MethodId} {below : List Frame} {meth : Method} {c : Code} {D : va_G} {g : Nat → ClassId} {b L : Nat} {xs : Nat → Int32} {a1 a2 : Nat → Nat} {Rl : T_OL → T_Mo → Prop} (C0 : lw_At p s m meth c b L xs) (hK : va_K D classes (TY g) s) (hCs : Cst g (fun q : Nat => s.heap.size ≤ q) s s.heap) (hs_of : S_of Rl) {x3 : Int32} (h_in0 : vp_in x3 L) (h_in1 : vp_in (x3 + 1) L) (h_in2 : vp_in (x3 + 2) L) (h_in3 : vp_in (x3 + 3) L) (h_in4 : vp_in (x3 + 4) L)
    (hend : ∀ (z : T_OL) (w : T_Mo) (H : Heap) (locs : List Loc) (ls : Array Slot), Rl z w → va_P D classes (ws_OL g a1 z ++ ws_Mo g a2 w) H → va_D (fun q : Nat => s.heap.size ≤ q) (ws_OL g a1 z ++ ws_Mo g a2 w) → va_S (fun q : Nat => s.heap.size ≤ q) s.heap H locs → lv_has ls 4 [(0, .ref b), (1, .ref (a1 0)), (2, .ref (a2 0)), (3, .int x3)] → W p l e room_1 s m #[Value.ref b] below meth c H locs 600000 7302250 (lw_Z below #[Value.ref b] s) (F0 m 1020 ls [])) {z0 : T_OL} {w0 : T_Mo} {H : Heap} {locs : List Loc} {ls : Array Slot} (hRl : Rl z0 w0) (hP : va_P D classes (ws_OL g a1 z0 ++ ws_Mo g a2 w0) H) (hD : va_D (fun q : Nat => s.heap.size ≤ q) (ws_OL g a1 z0 ++ ws_Mo g a2 w0)) (hS : va_S (fun q : Nat => s.heap.size ≤ q) s.heap H locs) (hl : lv_has ls 4 [(0, .ref b), (1, .ref (a1 0)), (2, .ref (a2 0)), (3, .int x3)]) :
    W p l e room_1 s m #[Value.ref b] below meth c H locs 600000 7302250 (lw_Z below #[Value.ref b] s) (F0 m 265 ls []) := by
  obtain ⟨hx, hb, hr, hml, hown, hts, hX, hbl, hlocks, hgv⟩ := C0
  have hg : ∀ w ∈ GW, w.before #[Value.ref b] s = true := fun w hw => hts w (List.mem_filter.mp hw).1
  have hA : ∀ q : Nat, s.heap.size ≤ q → (fun q : Nat => s.heap.size ≤ q) q := fun _ h => h
  have hbA : ¬ (fun q : Nat => s.heap.size ≤ q) b := Nat.not_le.mpr hbl
  have hfit : 600000 ≤ room_1.cells ∧ 7302250 ≤ room_1.slots := ⟨Nat.le_of_ble_eq_true rfl, Nat.le_of_ble_eq_true rfl⟩
  refine lv_aload_n hx hb d_law_265 rfl (lv_at hl 1 rfl) ?_
  refine lv_aload_n hx hb d_law_266 rfl (lv_at hl 0 rfl) ?_
  refine lv_iload_n hx hb d_law_267 rfl (lv_at hl 3 rfl) ?_
  refine lv_iconst (v := 1) hx hb d_law_268 (by decide) ?_
  refine lv_iadd hx hb d_law_269 ?_
  refine va_sld hx hb hX hbl hbA hS h_in1 d_law_270 ?_
  refine lv_aload_n hx hb d_law_271 rfl (lv_at hl 0 rfl) ?_
  refine lv_iload_n hx hb d_law_272 rfl (lv_at hl 3 rfl) ?_
  refine lv_iconst (v := 2) hx hb d_law_273 (by decide) ?_
  refine lv_iadd hx hb d_law_274 ?_
  refine va_sld hx hb hX hbl hbA hS h_in2 d_law_275 ?_
  obtain ⟨r_10, z_11, w_12, e1_r_10, e2_r_10, hR2⟩ := hs_of z0 w0 (xs (x3 + 1).toNatClampNeg) (xs (x3 + 2).toNatClampNeg) hRl
  refine callWI (ws' := ws_OL g a1 z_11 ++ ws_Mo g a2 w0) (rest := []) (As := [.int (xs (x3 + 1).toNatClampNeg), .int (xs (x3 + 2).toNatClampNeg)]) hfit hx hb hml hown hg hK hP hD hS hA hCs hl.1 (c_OL_of l D g a1 (xs (x3 + 1).toNatClampNeg) (xs (x3 + 2).toNatClampNeg) z0 (r_10, z_11) e1_r_10) o_OL_of g_625 (ci := 0) (q0 := 0) rfl rfl (List.range' 0 83) (segC1 rfl rfl) (by decide) rfl (segP1 rfl rfl) rfl rfl (Nat.le_of_ble_eq_true rfl) ⟨rfl, rfl, Nat.le_of_ble_eq_true rfl, Nat.le_of_ble_eq_true rfl⟩ d_law_276 (fun H locs hP hD hS => ?_)
  refine lv_aload_n hx hb d_law_279 rfl (lv_at hl 2 rfl) ?_
  refine lv_aload_n hx hb d_law_280 rfl (lv_at hl 0 rfl) ?_
  refine lv_iload_n hx hb d_law_281 rfl (lv_at hl 3 rfl) ?_
  refine lv_iconst (v := 1) hx hb d_law_282 (by decide) ?_
  refine lv_iadd hx hb d_law_283 ?_
  refine va_sld hx hb hX hbl hbA hS h_in1 d_law_284 ?_
  refine lv_aload_n hx hb d_law_285 rfl (lv_at hl 0 rfl) ?_
  refine lv_iload_n hx hb d_law_286 rfl (lv_at hl 3 rfl) ?_
  refine lv_iconst (v := 2) hx hb d_law_287 (by decide) ?_
  refine lv_iadd hx hb d_law_288 ?_
  refine va_sld hx hb hX hbl hbA hS h_in2 d_law_289 ?_
  refine callWI (ws' := ws_OL g a1 z_11 ++ ws_Mo g a2 w_12) (rest := [.int r_10]) (As := [.int (xs (x3 + 1).toNatClampNeg), .int (xs (x3 + 2).toNatClampNeg)]) hfit hx hb hml hown hg hK hP hD hS hA hCs hl.1 (c_Mo_of l D g a2 (xs (x3 + 1).toNatClampNeg) (xs (x3 + 2).toNatClampNeg) w0 (r_10, w_12) e2_r_10) o_Mo_of g_1143 (ci := 1) (q0 := 83) rfl rfl (List.range' 83 12) (segC1 rfl rfl) (by decide) rfl (segP1 rfl rfl) rfl rfl (Nat.le_of_ble_eq_true rfl) ⟨rfl, rfl, Nat.le_of_ble_eq_true rfl, Nat.le_of_ble_eq_true rfl⟩ d_law_290 (fun H locs hP hD hS => ?_)
  refine lv_icmp_eq (tgt := 1020) hx hb d_law_293 (by decide) (fun _ => ?_) (fun h9 => absurd rfl h9)
  exact hend _ _ H locs ls hR2 hP hD hS hl

set_option maxHeartbeats 8000000 in
set_option maxRecDepth 100000 in
theorem lawc_4 {p : Program} {l : Launch} {e : Env} {s : State} {m : MethodId} {below : List Frame} {meth : Method} {c : Code} {D : va_G} {g : Nat → ClassId} {b L : Nat} {xs : Nat → Int32} {a1 a2 : Nat → Nat} {Rl : T_OL → T_Mo → Prop} (C0 : lw_At p s m meth c b L xs) (hK : va_K D classes (TY g) s) (hCs : Cst g (fun q : Nat => s.heap.size ≤ q) s s.heap) (hs_strength : S_strength Rl) {x3 : Int32} (h_in0 : vp_in x3 L) (h_in1 : vp_in (x3 + 1) L) (h_in2 : vp_in (x3 + 2) L) (h_in3 : vp_in (x3 + 3) L) (h_in4 : vp_in (x3 + 4) L)
    (hend : ∀ (z : T_OL) (w : T_Mo) (H : Heap) (locs : List Loc) (ls : Array Slot), Rl z w → va_P D classes (ws_OL g a1 z ++ ws_Mo g a2 w) H → va_D (fun q : Nat => s.heap.size ≤ q) (ws_OL g a1 z ++ ws_Mo g a2 w) → va_S (fun q : Nat => s.heap.size ≤ q) s.heap H locs → lv_has ls 4 [(0, .ref b), (1, .ref (a1 0)), (2, .ref (a2 0)), (3, .int x3)] → W p l e room_1 s m #[Value.ref b] below meth c H locs 600000 7302250 (lw_Z below #[Value.ref b] s) (F0 m 1020 ls [])) {z0 : T_OL} {w0 : T_Mo} {H : Heap} {locs : List Loc} {ls : Array Slot} (hRl : Rl z0 w0) (hP : va_P D classes (ws_OL g a1 z0 ++ ws_Mo g a2 w0) H) (hD : va_D (fun q : Nat => s.heap.size ≤ q) (ws_OL g a1 z0 ++ ws_Mo g a2 w0)) (hS : va_S (fun q : Nat => s.heap.size ≤ q) s.heap H locs) (hl : lv_has ls 4 [(0, .ref b), (1, .ref (a1 0)), (2, .ref (a2 0)), (3, .int x3)]) :
    W p l e room_1 s m #[Value.ref b] below meth c H locs 600000 7302250 (lw_Z below #[Value.ref b] s) (F0 m 298 ls []) := by
  obtain ⟨hx, hb, hr, hml, hown, hts, hX, hbl, hlocks, hgv⟩ := C0
  have hg : ∀ w ∈ GW, w.before #[Value.ref b] s = true := fun w hw => hts w (List.mem_filter.mp hw).1
  have hA : ∀ q : Nat, s.heap.size ≤ q → (fun q : Nat => s.heap.size ≤ q) q := fun _ h => h
  have hbA : ¬ (fun q : Nat => s.heap.size ≤ q) b := Nat.not_le.mpr hbl
  have hfit : 600000 ≤ room_1.cells ∧ 7302250 ≤ room_1.slots := ⟨Nat.le_of_ble_eq_true rfl, Nat.le_of_ble_eq_true rfl⟩
  refine lv_aload_n hx hb d_law_298 rfl (lv_at hl 1 rfl) ?_
  refine lv_aload_n hx hb d_law_299 rfl (lv_at hl 0 rfl) ?_
  refine lv_iload_n hx hb d_law_300 rfl (lv_at hl 3 rfl) ?_
  refine lv_iconst (v := 1) hx hb d_law_301 (by decide) ?_
  refine lv_iadd hx hb d_law_302 ?_
  refine va_sld hx hb hX hbl hbA hS h_in1 d_law_303 ?_
  refine lv_aload_n hx hb d_law_304 rfl (lv_at hl 0 rfl) ?_
  refine lv_iload_n hx hb d_law_305 rfl (lv_at hl 3 rfl) ?_
  refine lv_iconst (v := 2) hx hb d_law_306 (by decide) ?_
  refine lv_iadd hx hb d_law_307 ?_
  refine va_sld hx hb hX hbl hbA hS h_in2 d_law_308 ?_
  obtain ⟨r_13, z_14, w_15, e1_r_13, e2_r_13, hR2⟩ := hs_strength z0 w0 (xs (x3 + 1).toNatClampNeg) (xs (x3 + 2).toNatClampNeg) hRl
  refine callWI (ws' := ws_OL g a1 z_14 ++ ws_Mo g a2 w0) (rest := []) (As := [.int (xs (x3 + 1).toNatClampNeg), .int (xs (x3 + 2).toNatClampNeg)]) hfit hx hb hml hown hg hK hP hD hS hA hCs hl.1 (c_OL_strength l D g a1 (xs (x3 + 1).toNatClampNeg) (xs (x3 + 2).toNatClampNeg) z0 (r_13, z_14) e1_r_13) o_OL_strength g_692 (ci := 0) (q0 := 0) rfl rfl (List.range' 0 83) (segC1 rfl rfl) (by decide) rfl (segP1 rfl rfl) rfl rfl (Nat.le_of_ble_eq_true rfl) ⟨rfl, rfl, Nat.le_of_ble_eq_true rfl, Nat.le_of_ble_eq_true rfl⟩ d_law_309 (fun H locs hP hD hS => ?_)
  refine lv_aload_n hx hb d_law_312 rfl (lv_at hl 2 rfl) ?_
  refine lv_aload_n hx hb d_law_313 rfl (lv_at hl 0 rfl) ?_
  refine lv_iload_n hx hb d_law_314 rfl (lv_at hl 3 rfl) ?_
  refine lv_iconst (v := 1) hx hb d_law_315 (by decide) ?_
  refine lv_iadd hx hb d_law_316 ?_
  refine va_sld hx hb hX hbl hbA hS h_in1 d_law_317 ?_
  refine lv_aload_n hx hb d_law_318 rfl (lv_at hl 0 rfl) ?_
  refine lv_iload_n hx hb d_law_319 rfl (lv_at hl 3 rfl) ?_
  refine lv_iconst (v := 2) hx hb d_law_320 (by decide) ?_
  refine lv_iadd hx hb d_law_321 ?_
  refine va_sld hx hb hX hbl hbA hS h_in2 d_law_322 ?_
  refine callWI (ws' := ws_OL g a1 z_14 ++ ws_Mo g a2 w_15) (rest := [.int r_13]) (As := [.int (xs (x3 + 1).toNatClampNeg), .int (xs (x3 + 2).toNatClampNeg)]) hfit hx hb hml hown hg hK hP hD hS hA hCs hl.1 (c_Mo_strength l D g a2 (xs (x3 + 1).toNatClampNeg) (xs (x3 + 2).toNatClampNeg) w0 (r_13, w_15) e2_r_13) o_Mo_strength g_1175 (ci := 1) (q0 := 83) rfl rfl (List.range' 83 12) (segC1 rfl rfl) (by decide) rfl (segP1 rfl rfl) rfl rfl (Nat.le_of_ble_eq_true rfl) ⟨rfl, rfl, Nat.le_of_ble_eq_true rfl, Nat.le_of_ble_eq_true rfl⟩ d_law_323 (fun H locs hP hD hS => ?_)
  refine lv_icmp_eq (tgt := 1020) hx hb d_law_326 (by decide) (fun _ => ?_) (fun h9 => absurd rfl h9)
  exact hend _ _ H locs ls hR2 hP hD hS hl

set_option maxHeartbeats 8000000 in
set_option maxRecDepth 100000 in
theorem lawc_5 {p : Program} {l : Launch} {e : Env} {s : State} {m : MethodId} {below : List Frame} {meth : Method} {c : Code} {D : va_G} {g : Nat → ClassId} {b L : Nat} {xs : Nat → Int32} {a1 a2 : Nat → Nat} {Rl : T_OL → T_Mo → Prop} (C0 : lw_At p s m meth c b L xs) (hK : va_K D classes (TY g) s) (hCs : Cst g (fun q : Nat => s.heap.size ≤ q) s s.heap) (hs_row : S_row Rl) {x3 : Int32} (h_in0 : vp_in x3 L) (h_in1 : vp_in (x3 + 1) L) (h_in2 : vp_in (x3 + 2) L) (h_in3 : vp_in (x3 + 3) L) (h_in4 : vp_in (x3 + 4) L)
    (hend : ∀ (z : T_OL) (w : T_Mo) (H : Heap) (locs : List Loc) (ls : Array Slot), Rl z w → va_P D classes (ws_OL g a1 z ++ ws_Mo g a2 w) H → va_D (fun q : Nat => s.heap.size ≤ q) (ws_OL g a1 z ++ ws_Mo g a2 w) → va_S (fun q : Nat => s.heap.size ≤ q) s.heap H locs → lv_has ls 4 [(0, .ref b), (1, .ref (a1 0)), (2, .ref (a2 0)), (3, .int x3)] → W p l e room_1 s m #[Value.ref b] below meth c H locs 600000 7302250 (lw_Z below #[Value.ref b] s) (F0 m 1020 ls [])) {z0 : T_OL} {w0 : T_Mo} {H : Heap} {locs : List Loc} {ls : Array Slot} (hRl : Rl z0 w0) (hP : va_P D classes (ws_OL g a1 z0 ++ ws_Mo g a2 w0) H) (hD : va_D (fun q : Nat => s.heap.size ≤ q) (ws_OL g a1 z0 ++ ws_Mo g a2 w0)) (hS : va_S (fun q : Nat => s.heap.size ≤ q) s.heap H locs) (hl : lv_has ls 4 [(0, .ref b), (1, .ref (a1 0)), (2, .ref (a2 0)), (3, .int x3)]) :
    W p l e room_1 s m #[Value.ref b] below meth c H locs 600000 7302250 (lw_Z below #[Value.ref b] s) (F0 m 331 ls []) := by
  obtain ⟨hx, hb, hr, hml, hown, hts, hX, hbl, hlocks, hgv⟩ := C0
  have hg : ∀ w ∈ GW, w.before #[Value.ref b] s = true := fun w hw => hts w (List.mem_filter.mp hw).1
  have hA : ∀ q : Nat, s.heap.size ≤ q → (fun q : Nat => s.heap.size ≤ q) q := fun _ h => h
  have hbA : ¬ (fun q : Nat => s.heap.size ≤ q) b := Nat.not_le.mpr hbl
  have hfit : 600000 ≤ room_1.cells ∧ 7302250 ≤ room_1.slots := ⟨Nat.le_of_ble_eq_true rfl, Nat.le_of_ble_eq_true rfl⟩
  refine lv_aload_n hx hb d_law_331 rfl (lv_at hl 1 rfl) ?_
  refine lv_aload_n hx hb d_law_332 rfl (lv_at hl 0 rfl) ?_
  refine lv_iload_n hx hb d_law_333 rfl (lv_at hl 3 rfl) ?_
  refine lv_iconst (v := 1) hx hb d_law_334 (by decide) ?_
  refine lv_iadd hx hb d_law_335 ?_
  refine va_sld hx hb hX hbl hbA hS h_in1 d_law_336 ?_
  refine lv_aload_n hx hb d_law_337 rfl (lv_at hl 0 rfl) ?_
  refine lv_iload_n hx hb d_law_338 rfl (lv_at hl 3 rfl) ?_
  refine lv_iconst (v := 2) hx hb d_law_339 (by decide) ?_
  refine lv_iadd hx hb d_law_340 ?_
  refine va_sld hx hb hX hbl hbA hS h_in2 d_law_341 ?_
  obtain ⟨r_16, z_17, w_18, e1_r_16, e2_r_16, hR2⟩ := hs_row z0 w0 (xs (x3 + 1).toNatClampNeg) (xs (x3 + 2).toNatClampNeg) hRl
  refine callWI (ws' := ws_OL g a1 z_17 ++ ws_Mo g a2 w0) (rest := []) (As := [.int (xs (x3 + 1).toNatClampNeg), .int (xs (x3 + 2).toNatClampNeg)]) hfit hx hb hml hown hg hK hP hD hS hA hCs hl.1 (c_OL_row l D g a1 (xs (x3 + 1).toNatClampNeg) (xs (x3 + 2).toNatClampNeg) z0 (r_16, z_17) e1_r_16) o_OL_row g_696 (ci := 0) (q0 := 0) rfl rfl (List.range' 0 83) (segC1 rfl rfl) (by decide) rfl (segP1 rfl rfl) rfl rfl (Nat.le_of_ble_eq_true rfl) ⟨rfl, rfl, Nat.le_of_ble_eq_true rfl, Nat.le_of_ble_eq_true rfl⟩ d_law_342 (fun H locs hP hD hS => ?_)
  refine lv_aload_n hx hb d_law_345 rfl (lv_at hl 2 rfl) ?_
  refine lv_aload_n hx hb d_law_346 rfl (lv_at hl 0 rfl) ?_
  refine lv_iload_n hx hb d_law_347 rfl (lv_at hl 3 rfl) ?_
  refine lv_iconst (v := 1) hx hb d_law_348 (by decide) ?_
  refine lv_iadd hx hb d_law_349 ?_
  refine va_sld hx hb hX hbl hbA hS h_in1 d_law_350 ?_
  refine lv_aload_n hx hb d_law_351 rfl (lv_at hl 0 rfl) ?_
  refine lv_iload_n hx hb d_law_352 rfl (lv_at hl 3 rfl) ?_
  refine lv_iconst (v := 2) hx hb d_law_353 (by decide) ?_
  refine lv_iadd hx hb d_law_354 ?_
  refine va_sld hx hb hX hbl hbA hS h_in2 d_law_355 ?_
  refine callWI (ws' := ws_OL g a1 z_17 ++ ws_Mo g a2 w_18) (rest := [.int r_16]) (As := [.int (xs (x3 + 1).toNatClampNeg), .int (xs (x3 + 2).toNatClampNeg)]) hfit hx hb hml hown hg hK hP hD hS hA hCs hl.1 (c_Mo_row l D g a2 (xs (x3 + 1).toNatClampNeg) (xs (x3 + 2).toNatClampNeg) w0 (r_16, w_18) e2_r_16) o_Mo_row g_1179 (ci := 1) (q0 := 83) rfl rfl (List.range' 83 12) (segC1 rfl rfl) (by decide) rfl (segP1 rfl rfl) rfl rfl (Nat.le_of_ble_eq_true rfl) ⟨rfl, rfl, Nat.le_of_ble_eq_true rfl, Nat.le_of_ble_eq_true rfl⟩ d_law_356 (fun H locs hP hD hS => ?_)
  refine lv_icmp_eq (tgt := 1020) hx hb d_law_359 (by decide) (fun _ => ?_) (fun h9 => absurd rfl h9)
  exact hend _ _ H locs ls hR2 hP hD hS hl

set_option maxHeartbeats 8000000 in
set_option maxRecDepth 100000 in
theorem lawc_6 {p : Program} {l : Launch} {e : Env} {s : State} {m : MethodId} {below : List Frame} {meth : Method} {c : Code} {D : va_G} {g : Nat → ClassId} {b L : Nat} {xs : Nat → Int32} {a1 a2 : Nat → Nat} {Rl : T_OL → T_Mo → Prop} (C0 : lw_At p s m meth c b L xs) (hK : va_K D classes (TY g) s) (hCs : Cst g (fun q : Nat => s.heap.size ≤ q) s s.heap) (hs_thing : S_thing Rl) {x3 : Int32} (h_in0 : vp_in x3 L) (h_in1 : vp_in (x3 + 1) L) (h_in2 : vp_in (x3 + 2) L) (h_in3 : vp_in (x3 + 3) L) (h_in4 : vp_in (x3 + 4) L)
    (hend : ∀ (z : T_OL) (w : T_Mo) (H : Heap) (locs : List Loc) (ls : Array Slot), Rl z w → va_P D classes (ws_OL g a1 z ++ ws_Mo g a2 w) H → va_D (fun q : Nat => s.heap.size ≤ q) (ws_OL g a1 z ++ ws_Mo g a2 w) → va_S (fun q : Nat => s.heap.size ≤ q) s.heap H locs → lv_has ls 4 [(0, .ref b), (1, .ref (a1 0)), (2, .ref (a2 0)), (3, .int x3)] → W p l e room_1 s m #[Value.ref b] below meth c H locs 600000 7302250 (lw_Z below #[Value.ref b] s) (F0 m 1020 ls [])) {z0 : T_OL} {w0 : T_Mo} {H : Heap} {locs : List Loc} {ls : Array Slot} (hRl : Rl z0 w0) (hP : va_P D classes (ws_OL g a1 z0 ++ ws_Mo g a2 w0) H) (hD : va_D (fun q : Nat => s.heap.size ≤ q) (ws_OL g a1 z0 ++ ws_Mo g a2 w0)) (hS : va_S (fun q : Nat => s.heap.size ≤ q) s.heap H locs) (hl : lv_has ls 4 [(0, .ref b), (1, .ref (a1 0)), (2, .ref (a2 0)), (3, .int x3)]) :
    W p l e room_1 s m #[Value.ref b] below meth c H locs 600000 7302250 (lw_Z below #[Value.ref b] s) (F0 m 364 ls []) := by
  obtain ⟨hx, hb, hr, hml, hown, hts, hX, hbl, hlocks, hgv⟩ := C0
  have hg : ∀ w ∈ GW, w.before #[Value.ref b] s = true := fun w hw => hts w (List.mem_filter.mp hw).1
  have hA : ∀ q : Nat, s.heap.size ≤ q → (fun q : Nat => s.heap.size ≤ q) q := fun _ h => h
  have hbA : ¬ (fun q : Nat => s.heap.size ≤ q) b := Nat.not_le.mpr hbl
  have hfit : 600000 ≤ room_1.cells ∧ 7302250 ≤ room_1.slots := ⟨Nat.le_of_ble_eq_true rfl, Nat.le_of_ble_eq_true rfl⟩
  refine lv_aload_n hx hb d_law_364 rfl (lv_at hl 1 rfl) ?_
  refine lv_aload_n hx hb d_law_365 rfl (lv_at hl 0 rfl) ?_
  refine lv_iload_n hx hb d_law_366 rfl (lv_at hl 3 rfl) ?_
  refine lv_iconst (v := 1) hx hb d_law_367 (by decide) ?_
  refine lv_iadd hx hb d_law_368 ?_
  refine va_sld hx hb hX hbl hbA hS h_in1 d_law_369 ?_
  obtain ⟨r_19, z_20, w_21, e1_r_19, e2_r_19, hR2⟩ := hs_thing z0 w0 (xs (x3 + 1).toNatClampNeg) hRl
  refine callWI (ws' := ws_OL g a1 z_20 ++ ws_Mo g a2 w0) (rest := []) (As := [.int (xs (x3 + 1).toNatClampNeg)]) hfit hx hb hml hown hg hK hP hD hS hA hCs hl.1 (c_OL_thing l D g a1 (xs (x3 + 1).toNatClampNeg) z0 (r_19, z_20) e1_r_19) o_OL_thing g_708 (ci := 0) (q0 := 0) rfl rfl (List.range' 0 83) (segC1 rfl rfl) (by decide) rfl (segP1 rfl rfl) rfl rfl (Nat.le_of_ble_eq_true rfl) ⟨rfl, rfl, Nat.le_of_ble_eq_true rfl, Nat.le_of_ble_eq_true rfl⟩ d_law_370 (fun H locs hP hD hS => ?_)
  refine lv_aload_n hx hb d_law_373 rfl (lv_at hl 2 rfl) ?_
  refine lv_aload_n hx hb d_law_374 rfl (lv_at hl 0 rfl) ?_
  refine lv_iload_n hx hb d_law_375 rfl (lv_at hl 3 rfl) ?_
  refine lv_iconst (v := 1) hx hb d_law_376 (by decide) ?_
  refine lv_iadd hx hb d_law_377 ?_
  refine va_sld hx hb hX hbl hbA hS h_in1 d_law_378 ?_
  refine callWI (ws' := ws_OL g a1 z_20 ++ ws_Mo g a2 w_21) (rest := [.int r_19]) (As := [.int (xs (x3 + 1).toNatClampNeg)]) hfit hx hb hml hown hg hK hP hD hS hA hCs hl.1 (c_Mo_thing l D g a2 (xs (x3 + 1).toNatClampNeg) w0 (r_19, w_21) e2_r_19) o_Mo_thing g_1187 (ci := 1) (q0 := 83) rfl rfl (List.range' 83 12) (segC1 rfl rfl) (by decide) rfl (segP1 rfl rfl) rfl rfl (Nat.le_of_ble_eq_true rfl) ⟨rfl, rfl, Nat.le_of_ble_eq_true rfl, Nat.le_of_ble_eq_true rfl⟩ d_law_379 (fun H locs hP hD hS => ?_)
  refine lv_icmp_eq (tgt := 1020) hx hb d_law_382 (by decide) (fun _ => ?_) (fun h9 => absurd rfl h9)
  exact hend _ _ H locs ls hR2 hP hD hS hl

set_option maxHeartbeats 8000000 in
set_option maxRecDepth 100000 in
theorem lawc_7 {p : Program} {l : Launch} {e : Env} {s : State} {m : MethodId} {below : List Frame} {meth : Method} {c : Code} {D : va_G} {g : Nat → ClassId} {b L : Nat} {xs : Nat → Int32} {a1 a2 : Nat → Nat} {Rl : T_OL → T_Mo → Prop} (C0 : lw_At p s m meth c b L xs) (hK : va_K D classes (TY g) s) (hCs : Cst g (fun q : Nat => s.heap.size ≤ q) s s.heap) (hs_at : S_at Rl) {x3 : Int32} (h_in0 : vp_in x3 L) (h_in1 : vp_in (x3 + 1) L) (h_in2 : vp_in (x3 + 2) L) (h_in3 : vp_in (x3 + 3) L) (h_in4 : vp_in (x3 + 4) L)
    (hend : ∀ (z : T_OL) (w : T_Mo) (H : Heap) (locs : List Loc) (ls : Array Slot), Rl z w → va_P D classes (ws_OL g a1 z ++ ws_Mo g a2 w) H → va_D (fun q : Nat => s.heap.size ≤ q) (ws_OL g a1 z ++ ws_Mo g a2 w) → va_S (fun q : Nat => s.heap.size ≤ q) s.heap H locs → lv_has ls 4 [(0, .ref b), (1, .ref (a1 0)), (2, .ref (a2 0)), (3, .int x3)] → W p l e room_1 s m #[Value.ref b] below meth c H locs 600000 7302250 (lw_Z below #[Value.ref b] s) (F0 m 1020 ls [])) {z0 : T_OL} {w0 : T_Mo} {H : Heap} {locs : List Loc} {ls : Array Slot} (hRl : Rl z0 w0) (hP : va_P D classes (ws_OL g a1 z0 ++ ws_Mo g a2 w0) H) (hD : va_D (fun q : Nat => s.heap.size ≤ q) (ws_OL g a1 z0 ++ ws_Mo g a2 w0)) (hS : va_S (fun q : Nat => s.heap.size ≤ q) s.heap H locs) (hl : lv_has ls 4 [(0, .ref b), (1, .ref (a1 0)), (2, .ref (a2 0)), (3, .int x3)]) :
    W p l e room_1 s m #[Value.ref b] below meth c H locs 600000 7302250 (lw_Z below #[Value.ref b] s) (F0 m 387 ls []) := by
  obtain ⟨hx, hb, hr, hml, hown, hts, hX, hbl, hlocks, hgv⟩ := C0
  have hg : ∀ w ∈ GW, w.before #[Value.ref b] s = true := fun w hw => hts w (List.mem_filter.mp hw).1
  have hA : ∀ q : Nat, s.heap.size ≤ q → (fun q : Nat => s.heap.size ≤ q) q := fun _ h => h
  have hbA : ¬ (fun q : Nat => s.heap.size ≤ q) b := Nat.not_le.mpr hbl
  have hfit : 600000 ≤ room_1.cells ∧ 7302250 ≤ room_1.slots := ⟨Nat.le_of_ble_eq_true rfl, Nat.le_of_ble_eq_true rfl⟩
  refine lv_aload_n hx hb d_law_387 rfl (lv_at hl 1 rfl) ?_
  refine lv_aload_n hx hb d_law_388 rfl (lv_at hl 0 rfl) ?_
  refine lv_iload_n hx hb d_law_389 rfl (lv_at hl 3 rfl) ?_
  refine lv_iconst (v := 1) hx hb d_law_390 (by decide) ?_
  refine lv_iadd hx hb d_law_391 ?_
  refine va_sld hx hb hX hbl hbA hS h_in1 d_law_392 ?_
  refine lv_aload_n hx hb d_law_393 rfl (lv_at hl 0 rfl) ?_
  refine lv_iload_n hx hb d_law_394 rfl (lv_at hl 3 rfl) ?_
  refine lv_iconst (v := 2) hx hb d_law_395 (by decide) ?_
  refine lv_iadd hx hb d_law_396 ?_
  refine va_sld hx hb hX hbl hbA hS h_in2 d_law_397 ?_
  obtain ⟨r_22, z_23, w_24, e1_r_22, e2_r_22, hR2, q1_r_22, q2_r_22⟩ := hs_at z0 w0 (xs (x3 + 1).toNatClampNeg) (xs (x3 + 2).toNatClampNeg) hRl
  rw [q1_r_22] at hR2
  rw [q2_r_22] at hR2
  refine callWI (ws' := ws_OL g a1 z0 ++ ws_Mo g a2 w0) (rest := []) (As := [.int (xs (x3 + 1).toNatClampNeg), .int (xs (x3 + 2).toNatClampNeg)]) hfit hx hb hml hown hg hK hP hD hS hA hCs hl.1 (c_OL_at l D g a1 (xs (x3 + 1).toNatClampNeg) (xs (x3 + 2).toNatClampNeg) z0 r_22 e1_r_22) o_OL_at g_716 (ci := 0) (q0 := 0) rfl rfl (List.range' 0 83) (segC1 rfl rfl) (by decide) rfl (segP1 rfl rfl) rfl rfl (Nat.le_of_ble_eq_true rfl) ⟨rfl, rfl, Nat.le_of_ble_eq_true rfl, Nat.le_of_ble_eq_true rfl⟩ d_law_398 (fun H locs hP hD hS => ?_)
  refine lv_aload_n hx hb d_law_401 rfl (lv_at hl 2 rfl) ?_
  refine lv_aload_n hx hb d_law_402 rfl (lv_at hl 0 rfl) ?_
  refine lv_iload_n hx hb d_law_403 rfl (lv_at hl 3 rfl) ?_
  refine lv_iconst (v := 1) hx hb d_law_404 (by decide) ?_
  refine lv_iadd hx hb d_law_405 ?_
  refine va_sld hx hb hX hbl hbA hS h_in1 d_law_406 ?_
  refine lv_aload_n hx hb d_law_407 rfl (lv_at hl 0 rfl) ?_
  refine lv_iload_n hx hb d_law_408 rfl (lv_at hl 3 rfl) ?_
  refine lv_iconst (v := 2) hx hb d_law_409 (by decide) ?_
  refine lv_iadd hx hb d_law_410 ?_
  refine va_sld hx hb hX hbl hbA hS h_in2 d_law_411 ?_
  refine callWI (ws' := ws_OL g a1 z0 ++ ws_Mo g a2 w0) (rest := [.int r_22]) (As := [.int (xs (x3 + 1).toNatClampNeg), .int (xs (x3 + 2).toNatClampNeg)]) hfit hx hb hml hown hg hK hP hD hS hA hCs hl.1 (c_Mo_at l D g a2 (xs (x3 + 1).toNatClampNeg) (xs (x3 + 2).toNatClampNeg) w0 r_22 e2_r_22) o_Mo_at g_1191 (ci := 1) (q0 := 83) rfl rfl (List.range' 83 12) (segC1 rfl rfl) (by decide) rfl (segP1 rfl rfl) rfl rfl (Nat.le_of_ble_eq_true rfl) ⟨rfl, rfl, Nat.le_of_ble_eq_true rfl, Nat.le_of_ble_eq_true rfl⟩ d_law_412 (fun H locs hP hD hS => ?_)
  refine lv_icmp_eq (tgt := 1020) hx hb d_law_415 (by decide) (fun _ => ?_) (fun h9 => absurd rfl h9)
  exact hend _ _ H locs ls hR2 hP hD hS hl

set_option maxHeartbeats 8000000 in
set_option maxRecDepth 100000 in
theorem lawc_8 {p : Program} {l : Launch} {e : Env} {s : State} {m : MethodId} {below : List Frame} {meth : Method} {c : Code} {D : va_G} {g : Nat → ClassId} {b L : Nat} {xs : Nat → Int32} {a1 a2 : Nat → Nat} {Rl : T_OL → T_Mo → Prop} (C0 : lw_At p s m meth c b L xs) (hK : va_K D classes (TY g) s) (hCs : Cst g (fun q : Nat => s.heap.size ≤ q) s s.heap) (hs_give : S_give Rl) {x3 : Int32} (h_in0 : vp_in x3 L) (h_in1 : vp_in (x3 + 1) L) (h_in2 : vp_in (x3 + 2) L) (h_in3 : vp_in (x3 + 3) L) (h_in4 : vp_in (x3 + 4) L)
    (hend : ∀ (z : T_OL) (w : T_Mo) (H : Heap) (locs : List Loc) (ls : Array Slot), Rl z w → va_P D classes (ws_OL g a1 z ++ ws_Mo g a2 w) H → va_D (fun q : Nat => s.heap.size ≤ q) (ws_OL g a1 z ++ ws_Mo g a2 w) → va_S (fun q : Nat => s.heap.size ≤ q) s.heap H locs → lv_has ls 4 [(0, .ref b), (1, .ref (a1 0)), (2, .ref (a2 0)), (3, .int x3)] → W p l e room_1 s m #[Value.ref b] below meth c H locs 600000 7302250 (lw_Z below #[Value.ref b] s) (F0 m 1020 ls [])) {z0 : T_OL} {w0 : T_Mo} {H : Heap} {locs : List Loc} {ls : Array Slot} (hRl : Rl z0 w0) (hP : va_P D classes (ws_OL g a1 z0 ++ ws_Mo g a2 w0) H) (hD : va_D (fun q : Nat => s.heap.size ≤ q) (ws_OL g a1 z0 ++ ws_Mo g a2 w0)) (hS : va_S (fun q : Nat => s.heap.size ≤ q) s.heap H locs) (hl : lv_has ls 4 [(0, .ref b), (1, .ref (a1 0)), (2, .ref (a2 0)), (3, .int x3)]) :
    W p l e room_1 s m #[Value.ref b] below meth c H locs 600000 7302250 (lw_Z below #[Value.ref b] s) (F0 m 420 ls []) := by
  obtain ⟨hx, hb, hr, hml, hown, hts, hX, hbl, hlocks, hgv⟩ := C0
  have hg : ∀ w ∈ GW, w.before #[Value.ref b] s = true := fun w hw => hts w (List.mem_filter.mp hw).1
  have hA : ∀ q : Nat, s.heap.size ≤ q → (fun q : Nat => s.heap.size ≤ q) q := fun _ h => h
  have hbA : ¬ (fun q : Nat => s.heap.size ≤ q) b := Nat.not_le.mpr hbl
  have hfit : 600000 ≤ room_1.cells ∧ 7302250 ≤ room_1.slots := ⟨Nat.le_of_ble_eq_true rfl, Nat.le_of_ble_eq_true rfl⟩
  refine lv_aload_n hx hb d_law_420 rfl (lv_at hl 1 rfl) ?_
  refine lv_aload_n hx hb d_law_421 rfl (lv_at hl 0 rfl) ?_
  refine lv_iload_n hx hb d_law_422 rfl (lv_at hl 3 rfl) ?_
  refine lv_iconst (v := 1) hx hb d_law_423 (by decide) ?_
  refine lv_iadd hx hb d_law_424 ?_
  refine va_sld hx hb hX hbl hbA hS h_in1 d_law_425 ?_
  refine lv_aload_n hx hb d_law_426 rfl (lv_at hl 0 rfl) ?_
  refine lv_iload_n hx hb d_law_427 rfl (lv_at hl 3 rfl) ?_
  refine lv_iconst (v := 2) hx hb d_law_428 (by decide) ?_
  refine lv_iadd hx hb d_law_429 ?_
  refine va_sld hx hb hX hbl hbA hS h_in2 d_law_430 ?_
  obtain ⟨r_25, z_26, w_27, e1_r_25, e2_r_25, hR2⟩ := hs_give z0 w0 (xs (x3 + 1).toNatClampNeg) (xs (x3 + 2).toNatClampNeg) hRl
  refine callWI (ws' := ws_OL g a1 z_26 ++ ws_Mo g a2 w0) (rest := []) (As := [.int (xs (x3 + 1).toNatClampNeg), .int (xs (x3 + 2).toNatClampNeg)]) hfit hx hb hml hown hg hK hP hD hS hA hCs hl.1 (c_OL_give l D g a1 (xs (x3 + 1).toNatClampNeg) (xs (x3 + 2).toNatClampNeg) z0 (r_25, z_26) e1_r_25) o_OL_give g_720 (ci := 0) (q0 := 0) rfl rfl (List.range' 0 83) (segC1 rfl rfl) (by decide) rfl (segP1 rfl rfl) rfl rfl (Nat.le_of_ble_eq_true rfl) ⟨rfl, rfl, Nat.le_of_ble_eq_true rfl, Nat.le_of_ble_eq_true rfl⟩ d_law_431 (fun H locs hP hD hS => ?_)
  refine lv_aload_n hx hb d_law_434 rfl (lv_at hl 2 rfl) ?_
  refine lv_aload_n hx hb d_law_435 rfl (lv_at hl 0 rfl) ?_
  refine lv_iload_n hx hb d_law_436 rfl (lv_at hl 3 rfl) ?_
  refine lv_iconst (v := 1) hx hb d_law_437 (by decide) ?_
  refine lv_iadd hx hb d_law_438 ?_
  refine va_sld hx hb hX hbl hbA hS h_in1 d_law_439 ?_
  refine lv_aload_n hx hb d_law_440 rfl (lv_at hl 0 rfl) ?_
  refine lv_iload_n hx hb d_law_441 rfl (lv_at hl 3 rfl) ?_
  refine lv_iconst (v := 2) hx hb d_law_442 (by decide) ?_
  refine lv_iadd hx hb d_law_443 ?_
  refine va_sld hx hb hX hbl hbA hS h_in2 d_law_444 ?_
  refine callWI (ws' := ws_OL g a1 z_26 ++ ws_Mo g a2 w_27) (rest := [.int r_25]) (As := [.int (xs (x3 + 1).toNatClampNeg), .int (xs (x3 + 2).toNatClampNeg)]) hfit hx hb hml hown hg hK hP hD hS hA hCs hl.1 (c_Mo_give l D g a2 (xs (x3 + 1).toNatClampNeg) (xs (x3 + 2).toNatClampNeg) w0 (r_25, w_27) e2_r_25) o_Mo_give g_1198 (ci := 1) (q0 := 83) rfl rfl (List.range' 83 12) (segC1 rfl rfl) (by decide) rfl (segP1 rfl rfl) rfl rfl (Nat.le_of_ble_eq_true rfl) ⟨rfl, rfl, Nat.le_of_ble_eq_true rfl, Nat.le_of_ble_eq_true rfl⟩ d_law_445 (fun H locs hP hD hS => ?_)
  refine lv_icmp_eq (tgt := 1020) hx hb d_law_448 (by decide) (fun _ => ?_) (fun h9 => absurd rfl h9)
  exact hend _ _ H locs ls hR2 hP hD hS hl

set_option maxHeartbeats 8000000 in
set_option maxRecDepth 100000 in
theorem lawc_9 {p : Program} {l : Launch} {e : Env} {s : State} {m : MethodId} {below : List Frame} {meth : Method} {c : Code} {D : va_G} {g : Nat → ClassId} {b L : Nat} {xs : Nat → Int32} {a1 a2 : Nat → Nat} {Rl : T_OL → T_Mo → Prop} (C0 : lw_At p s m meth c b L xs) (hK : va_K D classes (TY g) s) (hCs : Cst g (fun q : Nat => s.heap.size ≤ q) s s.heap) (hs_like : S_like Rl) {x3 : Int32} (h_in0 : vp_in x3 L) (h_in1 : vp_in (x3 + 1) L) (h_in2 : vp_in (x3 + 2) L) (h_in3 : vp_in (x3 + 3) L) (h_in4 : vp_in (x3 + 4) L)
    (hend : ∀ (z : T_OL) (w : T_Mo) (H : Heap) (locs : List Loc) (ls : Array Slot), Rl z w → va_P D classes (ws_OL g a1 z ++ ws_Mo g a2 w) H → va_D (fun q : Nat => s.heap.size ≤ q) (ws_OL g a1 z ++ ws_Mo g a2 w) → va_S (fun q : Nat => s.heap.size ≤ q) s.heap H locs → lv_has ls 4 [(0, .ref b), (1, .ref (a1 0)), (2, .ref (a2 0)), (3, .int x3)] → W p l e room_1 s m #[Value.ref b] below meth c H locs 600000 7302250 (lw_Z below #[Value.ref b] s) (F0 m 1020 ls [])) {z0 : T_OL} {w0 : T_Mo} {H : Heap} {locs : List Loc} {ls : Array Slot} (hRl : Rl z0 w0) (hP : va_P D classes (ws_OL g a1 z0 ++ ws_Mo g a2 w0) H) (hD : va_D (fun q : Nat => s.heap.size ≤ q) (ws_OL g a1 z0 ++ ws_Mo g a2 w0)) (hS : va_S (fun q : Nat => s.heap.size ≤ q) s.heap H locs) (hl : lv_has ls 4 [(0, .ref b), (1, .ref (a1 0)), (2, .ref (a2 0)), (3, .int x3)]) :
    W p l e room_1 s m #[Value.ref b] below meth c H locs 600000 7302250 (lw_Z below #[Value.ref b] s) (F0 m 453 ls []) := by
  obtain ⟨hx, hb, hr, hml, hown, hts, hX, hbl, hlocks, hgv⟩ := C0
  have hg : ∀ w ∈ GW, w.before #[Value.ref b] s = true := fun w hw => hts w (List.mem_filter.mp hw).1
  have hA : ∀ q : Nat, s.heap.size ≤ q → (fun q : Nat => s.heap.size ≤ q) q := fun _ h => h
  have hbA : ¬ (fun q : Nat => s.heap.size ≤ q) b := Nat.not_le.mpr hbl
  have hfit : 600000 ≤ room_1.cells ∧ 7302250 ≤ room_1.slots := ⟨Nat.le_of_ble_eq_true rfl, Nat.le_of_ble_eq_true rfl⟩
  refine lv_aload_n hx hb d_law_453 rfl (lv_at hl 1 rfl) ?_
  refine lv_aload_n hx hb d_law_454 rfl (lv_at hl 0 rfl) ?_
  refine lv_iload_n hx hb d_law_455 rfl (lv_at hl 3 rfl) ?_
  refine lv_iconst (v := 1) hx hb d_law_456 (by decide) ?_
  refine lv_iadd hx hb d_law_457 ?_
  refine va_sld hx hb hX hbl hbA hS h_in1 d_law_458 ?_
  refine lv_aload_n hx hb d_law_459 rfl (lv_at hl 0 rfl) ?_
  refine lv_iload_n hx hb d_law_460 rfl (lv_at hl 3 rfl) ?_
  refine lv_iconst (v := 2) hx hb d_law_461 (by decide) ?_
  refine lv_iadd hx hb d_law_462 ?_
  refine va_sld hx hb hX hbl hbA hS h_in2 d_law_463 ?_
  obtain ⟨r_28, z_29, w_30, e1_r_28, e2_r_28, hR2⟩ := hs_like z0 w0 (xs (x3 + 1).toNatClampNeg) (xs (x3 + 2).toNatClampNeg) hRl
  refine callWI (ws' := ws_OL g a1 z_29 ++ ws_Mo g a2 w0) (rest := []) (As := [.int (xs (x3 + 1).toNatClampNeg), .int (xs (x3 + 2).toNatClampNeg)]) hfit hx hb hml hown hg hK hP hD hS hA hCs hl.1 (c_OL_like l D g a1 (xs (x3 + 1).toNatClampNeg) (xs (x3 + 2).toNatClampNeg) z0 (r_28, z_29) e1_r_28) o_OL_like g_724 (ci := 0) (q0 := 0) rfl rfl (List.range' 0 83) (segC1 rfl rfl) (by decide) rfl (segP1 rfl rfl) rfl rfl (Nat.le_of_ble_eq_true rfl) ⟨rfl, rfl, Nat.le_of_ble_eq_true rfl, Nat.le_of_ble_eq_true rfl⟩ d_law_464 (fun H locs hP hD hS => ?_)
  refine lv_aload_n hx hb d_law_467 rfl (lv_at hl 2 rfl) ?_
  refine lv_aload_n hx hb d_law_468 rfl (lv_at hl 0 rfl) ?_
  refine lv_iload_n hx hb d_law_469 rfl (lv_at hl 3 rfl) ?_
  refine lv_iconst (v := 1) hx hb d_law_470 (by decide) ?_
  refine lv_iadd hx hb d_law_471 ?_
  refine va_sld hx hb hX hbl hbA hS h_in1 d_law_472 ?_
  refine lv_aload_n hx hb d_law_473 rfl (lv_at hl 0 rfl) ?_
  refine lv_iload_n hx hb d_law_474 rfl (lv_at hl 3 rfl) ?_
  refine lv_iconst (v := 2) hx hb d_law_475 (by decide) ?_
  refine lv_iadd hx hb d_law_476 ?_
  refine va_sld hx hb hX hbl hbA hS h_in2 d_law_477 ?_
  refine callWI (ws' := ws_OL g a1 z_29 ++ ws_Mo g a2 w_30) (rest := [.int r_28]) (As := [.int (xs (x3 + 1).toNatClampNeg), .int (xs (x3 + 2).toNatClampNeg)]) hfit hx hb hml hown hg hK hP hD hS hA hCs hl.1 (c_Mo_like l D g a2 (xs (x3 + 1).toNatClampNeg) (xs (x3 + 2).toNatClampNeg) w0 (r_28, w_30) e2_r_28) o_Mo_like g_1202 (ci := 1) (q0 := 83) rfl rfl (List.range' 83 12) (segC1 rfl rfl) (by decide) rfl (segP1 rfl rfl) rfl rfl (Nat.le_of_ble_eq_true rfl) ⟨rfl, rfl, Nat.le_of_ble_eq_true rfl, Nat.le_of_ble_eq_true rfl⟩ d_law_478 (fun H locs hP hD hS => ?_)
  refine lv_icmp_eq (tgt := 1020) hx hb d_law_481 (by decide) (fun _ => ?_) (fun h9 => absurd rfl h9)
  exact hend _ _ H locs ls hR2 hP hD hS hl

set_option maxHeartbeats 8000000 in
set_option maxRecDepth 100000 in
theorem lawc_10 {p : Program} {l : Launch} {e : Env} {s : State} {m : MethodId} {below : List Frame} {meth : Method} {c : Code} {D : va_G} {g : Nat → ClassId} {b L : Nat} {xs : Nat → Int32} {a1 a2 : Nat → Nat} {Rl : T_OL → T_Mo → Prop} (C0 : lw_At p s m meth c b L xs) (hK : va_K D classes (TY g) s) (hCs : Cst g (fun q : Nat => s.heap.size ≤ q) s s.heap) (hs_when : S_when Rl) {x3 : Int32} (h_in0 : vp_in x3 L) (h_in1 : vp_in (x3 + 1) L) (h_in2 : vp_in (x3 + 2) L) (h_in3 : vp_in (x3 + 3) L) (h_in4 : vp_in (x3 + 4) L)
    (hend : ∀ (z : T_OL) (w : T_Mo) (H : Heap) (locs : List Loc) (ls : Array Slot), Rl z w → va_P D classes (ws_OL g a1 z ++ ws_Mo g a2 w) H → va_D (fun q : Nat => s.heap.size ≤ q) (ws_OL g a1 z ++ ws_Mo g a2 w) → va_S (fun q : Nat => s.heap.size ≤ q) s.heap H locs → lv_has ls 4 [(0, .ref b), (1, .ref (a1 0)), (2, .ref (a2 0)), (3, .int x3)] → W p l e room_1 s m #[Value.ref b] below meth c H locs 600000 7302250 (lw_Z below #[Value.ref b] s) (F0 m 1020 ls [])) {z0 : T_OL} {w0 : T_Mo} {H : Heap} {locs : List Loc} {ls : Array Slot} (hRl : Rl z0 w0) (hP : va_P D classes (ws_OL g a1 z0 ++ ws_Mo g a2 w0) H) (hD : va_D (fun q : Nat => s.heap.size ≤ q) (ws_OL g a1 z0 ++ ws_Mo g a2 w0)) (hS : va_S (fun q : Nat => s.heap.size ≤ q) s.heap H locs) (hl : lv_has ls 4 [(0, .ref b), (1, .ref (a1 0)), (2, .ref (a2 0)), (3, .int x3)]) :
    W p l e room_1 s m #[Value.ref b] below meth c H locs 600000 7302250 (lw_Z below #[Value.ref b] s) (F0 m 486 ls []) := by
  obtain ⟨hx, hb, hr, hml, hown, hts, hX, hbl, hlocks, hgv⟩ := C0
  have hg : ∀ w ∈ GW, w.before #[Value.ref b] s = true := fun w hw => hts w (List.mem_filter.mp hw).1
  have hA : ∀ q : Nat, s.heap.size ≤ q → (fun q : Nat => s.heap.size ≤ q) q := fun _ h => h
  have hbA : ¬ (fun q : Nat => s.heap.size ≤ q) b := Nat.not_le.mpr hbl
  have hfit : 600000 ≤ room_1.cells ∧ 7302250 ≤ room_1.slots := ⟨Nat.le_of_ble_eq_true rfl, Nat.le_of_ble_eq_true rfl⟩
  refine lv_aload_n hx hb d_law_486 rfl (lv_at hl 1 rfl) ?_
  obtain ⟨r_31, z_32, w_33, e1_r_31, e2_r_31, hR2, q1_r_31, q2_r_31⟩ := hs_when z0 w0  hRl
  rw [q1_r_31] at hR2
  rw [q2_r_31] at hR2
  refine callWI (ws' := ws_OL g a1 z0 ++ ws_Mo g a2 w0) (rest := []) (As := []) hfit hx hb hml hown hg hK hP hD hS hA hCs hl.1 (c_OL_when l D g a1  z0 r_31 e1_r_31) o_OL_when g_729 (ci := 0) (q0 := 0) rfl rfl (List.range' 0 83) (segC1 rfl rfl) (by decide) rfl (segP1 rfl rfl) rfl rfl (Nat.le_of_ble_eq_true rfl) ⟨rfl, rfl, Nat.le_of_ble_eq_true rfl, Nat.le_of_ble_eq_true rfl⟩ d_law_487 (fun H locs hP hD hS => ?_)
  refine lv_aload_n hx hb d_law_490 rfl (lv_at hl 2 rfl) ?_
  refine callWI (ws' := ws_OL g a1 z0 ++ ws_Mo g a2 w0) (rest := [.int r_31]) (As := []) hfit hx hb hml hown hg hK hP hD hS hA hCs hl.1 (c_Mo_when l D g a2  w0 r_31 e2_r_31) o_Mo_when g_1210 (ci := 1) (q0 := 83) rfl rfl (List.range' 83 12) (segC1 rfl rfl) (by decide) rfl (segP1 rfl rfl) rfl rfl (Nat.le_of_ble_eq_true rfl) ⟨rfl, rfl, Nat.le_of_ble_eq_true rfl, Nat.le_of_ble_eq_true rfl⟩ d_law_491 (fun H locs hP hD hS => ?_)
  refine lv_icmp_eq (tgt := 1020) hx hb d_law_494 (by decide) (fun _ => ?_) (fun h9 => absurd rfl h9)
  exact hend _ _ H locs ls hR2 hP hD hS hl

set_option maxHeartbeats 8000000 in
set_option maxRecDepth 100000 in
theorem lawc_11 {p : Program} {l : Launch} {e : Env} {s : State} {m : MethodId} {below : List Frame} {meth : Method} {c : Code} {D : va_G} {g : Nat → ClassId} {b L : Nat} {xs : Nat → Int32} {a1 a2 : Nat → Nat} {Rl : T_OL → T_Mo → Prop} (C0 : lw_At p s m meth c b L xs) (hK : va_K D classes (TY g) s) (hCs : Cst g (fun q : Nat => s.heap.size ≤ q) s s.heap) (hs_bench : S_bench Rl) {x3 : Int32} (h_in0 : vp_in x3 L) (h_in1 : vp_in (x3 + 1) L) (h_in2 : vp_in (x3 + 2) L) (h_in3 : vp_in (x3 + 3) L) (h_in4 : vp_in (x3 + 4) L)
    (hend : ∀ (z : T_OL) (w : T_Mo) (H : Heap) (locs : List Loc) (ls : Array Slot), Rl z w → va_P D classes (ws_OL g a1 z ++ ws_Mo g a2 w) H → va_D (fun q : Nat => s.heap.size ≤ q) (ws_OL g a1 z ++ ws_Mo g a2 w) → va_S (fun q : Nat => s.heap.size ≤ q) s.heap H locs → lv_has ls 4 [(0, .ref b), (1, .ref (a1 0)), (2, .ref (a2 0)), (3, .int x3)] → W p l e room_1 s m #[Value.ref b] below meth c H locs 600000 7302250 (lw_Z below #[Value.ref b] s) (F0 m 1020 ls [])) {z0 : T_OL} {w0 : T_Mo} {H : Heap} {locs : List Loc} {ls : Array Slot} (hRl : Rl z0 w0) (hP : va_P D classes (ws_OL g a1 z0 ++ ws_Mo g a2 w0) H) (hD : va_D (fun q : Nat => s.heap.size ≤ q) (ws_OL g a1 z0 ++ ws_Mo g a2 w0)) (hS : va_S (fun q : Nat => s.heap.size ≤ q) s.heap H locs) (hl : lv_has ls 4 [(0, .ref b), (1, .ref (a1 0)), (2, .ref (a2 0)), (3, .int x3)]) :
    W p l e room_1 s m #[Value.ref b] below meth c H locs 600000 7302250 (lw_Z below #[Value.ref b] s) (F0 m 499 ls []) := by
  obtain ⟨hx, hb, hr, hml, hown, hts, hX, hbl, hlocks, hgv⟩ := C0
  have hg : ∀ w ∈ GW, w.before #[Value.ref b] s = true := fun w hw => hts w (List.mem_filter.mp hw).1
  have hA : ∀ q : Nat, s.heap.size ≤ q → (fun q : Nat => s.heap.size ≤ q) q := fun _ h => h
  have hbA : ¬ (fun q : Nat => s.heap.size ≤ q) b := Nat.not_le.mpr hbl
  have hfit : 600000 ≤ room_1.cells ∧ 7302250 ≤ room_1.slots := ⟨Nat.le_of_ble_eq_true rfl, Nat.le_of_ble_eq_true rfl⟩
  refine lv_aload_n hx hb d_law_499 rfl (lv_at hl 1 rfl) ?_
  refine lv_aload_n hx hb d_law_500 rfl (lv_at hl 0 rfl) ?_
  refine lv_iload_n hx hb d_law_501 rfl (lv_at hl 3 rfl) ?_
  refine lv_iconst (v := 1) hx hb d_law_502 (by decide) ?_
  refine lv_iadd hx hb d_law_503 ?_
  refine va_sld hx hb hX hbl hbA hS h_in1 d_law_504 ?_
  obtain ⟨r_34, z_35, w_36, e1_r_34, e2_r_34, hR2⟩ := hs_bench z0 w0 (xs (x3 + 1).toNatClampNeg) hRl
  refine callWI (ws' := ws_OL g a1 z_35 ++ ws_Mo g a2 w0) (rest := []) (As := [.int (xs (x3 + 1).toNatClampNeg)]) hfit hx hb hml hown hg hK hP hD hS hA hCs hl.1 (c_OL_bench l D g a1 (xs (x3 + 1).toNatClampNeg) z0 (r_34, z_35) e1_r_34) o_OL_bench g_733 (ci := 0) (q0 := 0) rfl rfl (List.range' 0 83) (segC1 rfl rfl) (by decide) rfl (segP1 rfl rfl) rfl rfl (Nat.le_of_ble_eq_true rfl) ⟨rfl, rfl, Nat.le_of_ble_eq_true rfl, Nat.le_of_ble_eq_true rfl⟩ d_law_505 (fun H locs hP hD hS => ?_)
  refine lv_aload_n hx hb d_law_508 rfl (lv_at hl 2 rfl) ?_
  refine lv_aload_n hx hb d_law_509 rfl (lv_at hl 0 rfl) ?_
  refine lv_iload_n hx hb d_law_510 rfl (lv_at hl 3 rfl) ?_
  refine lv_iconst (v := 1) hx hb d_law_511 (by decide) ?_
  refine lv_iadd hx hb d_law_512 ?_
  refine va_sld hx hb hX hbl hbA hS h_in1 d_law_513 ?_
  refine callWI (ws' := ws_OL g a1 z_35 ++ ws_Mo g a2 w_36) (rest := [.int r_34]) (As := [.int (xs (x3 + 1).toNatClampNeg)]) hfit hx hb hml hown hg hK hP hD hS hA hCs hl.1 (c_Mo_bench l D g a2 (xs (x3 + 1).toNatClampNeg) w0 (r_34, w_36) e2_r_34) o_Mo_bench g_1214 (ci := 1) (q0 := 83) rfl rfl (List.range' 83 12) (segC1 rfl rfl) (by decide) rfl (segP1 rfl rfl) rfl rfl (Nat.le_of_ble_eq_true rfl) ⟨rfl, rfl, Nat.le_of_ble_eq_true rfl, Nat.le_of_ble_eq_true rfl⟩ d_law_514 (fun H locs hP hD hS => ?_)
  refine lv_icmp_eq (tgt := 1020) hx hb d_law_517 (by decide) (fun _ => ?_) (fun h9 => absurd rfl h9)
  exact hend _ _ H locs ls hR2 hP hD hS hl

set_option maxHeartbeats 8000000 in
set_option maxRecDepth 100000 in
theorem lawc_12 {p : Program} {l : Launch} {e : Env} {s : State} {m : MethodId} {below : List Frame} {meth : Method} {c : Code} {D : va_G} {g : Nat → ClassId} {b L : Nat} {xs : Nat → Int32} {a1 a2 : Nat → Nat} {Rl : T_OL → T_Mo → Prop} (C0 : lw_At p s m meth c b L xs) (hK : va_K D classes (TY g) s) (hCs : Cst g (fun q : Nat => s.heap.size ≤ q) s s.heap) (hs_year : S_year Rl) {x3 : Int32} (h_in0 : vp_in x3 L) (h_in1 : vp_in (x3 + 1) L) (h_in2 : vp_in (x3 + 2) L) (h_in3 : vp_in (x3 + 3) L) (h_in4 : vp_in (x3 + 4) L)
    (hend : ∀ (z : T_OL) (w : T_Mo) (H : Heap) (locs : List Loc) (ls : Array Slot), Rl z w → va_P D classes (ws_OL g a1 z ++ ws_Mo g a2 w) H → va_D (fun q : Nat => s.heap.size ≤ q) (ws_OL g a1 z ++ ws_Mo g a2 w) → va_S (fun q : Nat => s.heap.size ≤ q) s.heap H locs → lv_has ls 4 [(0, .ref b), (1, .ref (a1 0)), (2, .ref (a2 0)), (3, .int x3)] → W p l e room_1 s m #[Value.ref b] below meth c H locs 600000 7302250 (lw_Z below #[Value.ref b] s) (F0 m 1020 ls [])) {z0 : T_OL} {w0 : T_Mo} {H : Heap} {locs : List Loc} {ls : Array Slot} (hRl : Rl z0 w0) (hP : va_P D classes (ws_OL g a1 z0 ++ ws_Mo g a2 w0) H) (hD : va_D (fun q : Nat => s.heap.size ≤ q) (ws_OL g a1 z0 ++ ws_Mo g a2 w0)) (hS : va_S (fun q : Nat => s.heap.size ≤ q) s.heap H locs) (hl : lv_has ls 4 [(0, .ref b), (1, .ref (a1 0)), (2, .ref (a2 0)), (3, .int x3)]) :
    W p l e room_1 s m #[Value.ref b] below meth c H locs 600000 7302250 (lw_Z below #[Value.ref b] s) (F0 m 522 ls []) := by
  obtain ⟨hx, hb, hr, hml, hown, hts, hX, hbl, hlocks, hgv⟩ := C0
  have hg : ∀ w ∈ GW, w.before #[Value.ref b] s = true := fun w hw => hts w (List.mem_filter.mp hw).1
  have hA : ∀ q : Nat, s.heap.size ≤ q → (fun q : Nat => s.heap.size ≤ q) q := fun _ h => h
  have hbA : ¬ (fun q : Nat => s.heap.size ≤ q) b := Nat.not_le.mpr hbl
  have hfit : 600000 ≤ room_1.cells ∧ 7302250 ≤ room_1.slots := ⟨Nat.le_of_ble_eq_true rfl, Nat.le_of_ble_eq_true rfl⟩
  refine lv_aload_n hx hb d_law_522 rfl (lv_at hl 1 rfl) ?_
  obtain ⟨r_37, z_38, w_39, e1_r_37, e2_r_37, hR2⟩ := hs_year z0 w0  hRl
  refine callWI (ws' := ws_OL g a1 z_38 ++ ws_Mo g a2 w0) (rest := []) (As := []) hfit hx hb hml hown hg hK hP hD hS hA hCs hl.1 (c_OL_year l D g a1  z0 (r_37, z_38) e1_r_37) o_OL_year g_763 (ci := 0) (q0 := 0) rfl rfl (List.range' 0 83) (segC1 rfl rfl) (by decide) rfl (segP1 rfl rfl) rfl rfl (Nat.le_of_ble_eq_true rfl) ⟨rfl, rfl, Nat.le_of_ble_eq_true rfl, Nat.le_of_ble_eq_true rfl⟩ d_law_523 (fun H locs hP hD hS => ?_)
  refine lv_aload_n hx hb d_law_526 rfl (lv_at hl 2 rfl) ?_
  refine callWI (ws' := ws_OL g a1 z_38 ++ ws_Mo g a2 w_39) (rest := [.int r_37]) (As := []) hfit hx hb hml hown hg hK hP hD hS hA hCs hl.1 (c_Mo_year l D g a2  w0 (r_37, w_39) e2_r_37) o_Mo_year g_1242 (ci := 1) (q0 := 83) rfl rfl (List.range' 83 12) (segC1 rfl rfl) (by decide) rfl (segP1 rfl rfl) rfl rfl (Nat.le_of_ble_eq_true rfl) ⟨rfl, rfl, Nat.le_of_ble_eq_true rfl, Nat.le_of_ble_eq_true rfl⟩ d_law_527 (fun H locs hP hD hS => ?_)
  refine lv_icmp_eq (tgt := 1020) hx hb d_law_530 (by decide) (fun _ => ?_) (fun h9 => absurd rfl h9)
  exact hend _ _ H locs ls hR2 hP hD hS hl

set_option maxHeartbeats 8000000 in
set_option maxRecDepth 100000 in
theorem lawc_13 {p : Program} {l : Launch} {e : Env} {s : State} {m : MethodId} {below : List Frame} {meth : Method} {c : Code} {D : va_G} {g : Nat → ClassId} {b L : Nat} {xs : Nat → Int32} {a1 a2 : Nat → Nat} {Rl : T_OL → T_Mo → Prop} (C0 : lw_At p s m meth c b L xs) (hK : va_K D classes (TY g) s) (hCs : Cst g (fun q : Nat => s.heap.size ≤ q) s s.heap) (hs_best : S_best Rl) {x3 : Int32} (h_in0 : vp_in x3 L) (h_in1 : vp_in (x3 + 1) L) (h_in2 : vp_in (x3 + 2) L) (h_in3 : vp_in (x3 + 3) L) (h_in4 : vp_in (x3 + 4) L)
    (hend : ∀ (z : T_OL) (w : T_Mo) (H : Heap) (locs : List Loc) (ls : Array Slot), Rl z w → va_P D classes (ws_OL g a1 z ++ ws_Mo g a2 w) H → va_D (fun q : Nat => s.heap.size ≤ q) (ws_OL g a1 z ++ ws_Mo g a2 w) → va_S (fun q : Nat => s.heap.size ≤ q) s.heap H locs → lv_has ls 4 [(0, .ref b), (1, .ref (a1 0)), (2, .ref (a2 0)), (3, .int x3)] → W p l e room_1 s m #[Value.ref b] below meth c H locs 600000 7302250 (lw_Z below #[Value.ref b] s) (F0 m 1020 ls [])) {z0 : T_OL} {w0 : T_Mo} {H : Heap} {locs : List Loc} {ls : Array Slot} (hRl : Rl z0 w0) (hP : va_P D classes (ws_OL g a1 z0 ++ ws_Mo g a2 w0) H) (hD : va_D (fun q : Nat => s.heap.size ≤ q) (ws_OL g a1 z0 ++ ws_Mo g a2 w0)) (hS : va_S (fun q : Nat => s.heap.size ≤ q) s.heap H locs) (hl : lv_has ls 4 [(0, .ref b), (1, .ref (a1 0)), (2, .ref (a2 0)), (3, .int x3)]) :
    W p l e room_1 s m #[Value.ref b] below meth c H locs 600000 7302250 (lw_Z below #[Value.ref b] s) (F0 m 535 ls []) := by
  obtain ⟨hx, hb, hr, hml, hown, hts, hX, hbl, hlocks, hgv⟩ := C0
  have hg : ∀ w ∈ GW, w.before #[Value.ref b] s = true := fun w hw => hts w (List.mem_filter.mp hw).1
  have hA : ∀ q : Nat, s.heap.size ≤ q → (fun q : Nat => s.heap.size ≤ q) q := fun _ h => h
  have hbA : ¬ (fun q : Nat => s.heap.size ≤ q) b := Nat.not_le.mpr hbl
  have hfit : 600000 ≤ room_1.cells ∧ 7302250 ≤ room_1.slots := ⟨Nat.le_of_ble_eq_true rfl, Nat.le_of_ble_eq_true rfl⟩
  refine lv_aload_n hx hb d_law_535 rfl (lv_at hl 1 rfl) ?_
  refine lv_aload_n hx hb d_law_536 rfl (lv_at hl 0 rfl) ?_
  refine lv_iload_n hx hb d_law_537 rfl (lv_at hl 3 rfl) ?_
  refine lv_iconst (v := 1) hx hb d_law_538 (by decide) ?_
  refine lv_iadd hx hb d_law_539 ?_
  refine va_sld hx hb hX hbl hbA hS h_in1 d_law_540 ?_
  obtain ⟨r_40, z_41, w_42, e1_r_40, e2_r_40, hR2⟩ := hs_best z0 w0 (xs (x3 + 1).toNatClampNeg) hRl
  refine callWI (ws' := ws_OL g a1 z_41 ++ ws_Mo g a2 w0) (rest := []) (As := [.int (xs (x3 + 1).toNatClampNeg)]) hfit hx hb hml hown hg hK hP hD hS hA hCs hl.1 (c_OL_best l D g a1 (xs (x3 + 1).toNatClampNeg) z0 (r_40, z_41) e1_r_40) o_OL_best g_780 (ci := 0) (q0 := 0) rfl rfl (List.range' 0 83) (segC1 rfl rfl) (by decide) rfl (segP1 rfl rfl) rfl rfl (Nat.le_of_ble_eq_true rfl) ⟨rfl, rfl, Nat.le_of_ble_eq_true rfl, Nat.le_of_ble_eq_true rfl⟩ d_law_541 (fun H locs hP hD hS => ?_)
  refine lv_aload_n hx hb d_law_544 rfl (lv_at hl 2 rfl) ?_
  refine lv_aload_n hx hb d_law_545 rfl (lv_at hl 0 rfl) ?_
  refine lv_iload_n hx hb d_law_546 rfl (lv_at hl 3 rfl) ?_
  refine lv_iconst (v := 1) hx hb d_law_547 (by decide) ?_
  refine lv_iadd hx hb d_law_548 ?_
  refine va_sld hx hb hX hbl hbA hS h_in1 d_law_549 ?_
  refine callWI (ws' := ws_OL g a1 z_41 ++ ws_Mo g a2 w_42) (rest := [.int r_40]) (As := [.int (xs (x3 + 1).toNatClampNeg)]) hfit hx hb hml hown hg hK hP hD hS hA hCs hl.1 (c_Mo_best l D g a2 (xs (x3 + 1).toNatClampNeg) w0 (r_40, w_42) e2_r_40) o_Mo_best g_1246 (ci := 1) (q0 := 83) rfl rfl (List.range' 83 12) (segC1 rfl rfl) (by decide) rfl (segP1 rfl rfl) rfl rfl (Nat.le_of_ble_eq_true rfl) ⟨rfl, rfl, Nat.le_of_ble_eq_true rfl, Nat.le_of_ble_eq_true rfl⟩ d_law_550 (fun H locs hP hD hS => ?_)
  refine lv_icmp_eq (tgt := 1020) hx hb d_law_553 (by decide) (fun _ => ?_) (fun h9 => absurd rfl h9)
  exact hend _ _ H locs ls hR2 hP hD hS hl

set_option maxHeartbeats 8000000 in
set_option maxRecDepth 100000 in
theorem lawc_14 {p : Program} {l : Launch} {e : Env} {s : State} {m : MethodId} {below : List Frame} {meth : Method} {c : Code} {D : va_G} {g : Nat → ClassId} {b L : Nat} {xs : Nat → Int32} {a1 a2 : Nat → Nat} {Rl : T_OL → T_Mo → Prop} (C0 : lw_At p s m meth c b L xs) (hK : va_K D classes (TY g) s) (hCs : Cst g (fun q : Nat => s.heap.size ≤ q) s s.heap) (hs_most : S_most Rl) {x3 : Int32} (h_in0 : vp_in x3 L) (h_in1 : vp_in (x3 + 1) L) (h_in2 : vp_in (x3 + 2) L) (h_in3 : vp_in (x3 + 3) L) (h_in4 : vp_in (x3 + 4) L)
    (hend : ∀ (z : T_OL) (w : T_Mo) (H : Heap) (locs : List Loc) (ls : Array Slot), Rl z w → va_P D classes (ws_OL g a1 z ++ ws_Mo g a2 w) H → va_D (fun q : Nat => s.heap.size ≤ q) (ws_OL g a1 z ++ ws_Mo g a2 w) → va_S (fun q : Nat => s.heap.size ≤ q) s.heap H locs → lv_has ls 4 [(0, .ref b), (1, .ref (a1 0)), (2, .ref (a2 0)), (3, .int x3)] → W p l e room_1 s m #[Value.ref b] below meth c H locs 600000 7302250 (lw_Z below #[Value.ref b] s) (F0 m 1020 ls [])) {z0 : T_OL} {w0 : T_Mo} {H : Heap} {locs : List Loc} {ls : Array Slot} (hRl : Rl z0 w0) (hP : va_P D classes (ws_OL g a1 z0 ++ ws_Mo g a2 w0) H) (hD : va_D (fun q : Nat => s.heap.size ≤ q) (ws_OL g a1 z0 ++ ws_Mo g a2 w0)) (hS : va_S (fun q : Nat => s.heap.size ≤ q) s.heap H locs) (hl : lv_has ls 4 [(0, .ref b), (1, .ref (a1 0)), (2, .ref (a2 0)), (3, .int x3)]) :
    W p l e room_1 s m #[Value.ref b] below meth c H locs 600000 7302250 (lw_Z below #[Value.ref b] s) (F0 m 558 ls []) := by
  obtain ⟨hx, hb, hr, hml, hown, hts, hX, hbl, hlocks, hgv⟩ := C0
  have hg : ∀ w ∈ GW, w.before #[Value.ref b] s = true := fun w hw => hts w (List.mem_filter.mp hw).1
  have hA : ∀ q : Nat, s.heap.size ≤ q → (fun q : Nat => s.heap.size ≤ q) q := fun _ h => h
  have hbA : ¬ (fun q : Nat => s.heap.size ≤ q) b := Nat.not_le.mpr hbl
  have hfit : 600000 ≤ room_1.cells ∧ 7302250 ≤ room_1.slots := ⟨Nat.le_of_ble_eq_true rfl, Nat.le_of_ble_eq_true rfl⟩
  refine lv_aload_n hx hb d_law_558 rfl (lv_at hl 1 rfl) ?_
  obtain ⟨r_43, z_44, w_45, e1_r_43, e2_r_43, hR2⟩ := hs_most z0 w0  hRl
  refine callWI (ws' := ws_OL g a1 z_44 ++ ws_Mo g a2 w0) (rest := []) (As := []) hfit hx hb hml hown hg hK hP hD hS hA hCs hl.1 (c_OL_most l D g a1  z0 (r_43, z_44) e1_r_43) o_OL_most g_803 (ci := 0) (q0 := 0) rfl rfl (List.range' 0 83) (segC1 rfl rfl) (by decide) rfl (segP1 rfl rfl) rfl rfl (Nat.le_of_ble_eq_true rfl) ⟨rfl, rfl, Nat.le_of_ble_eq_true rfl, Nat.le_of_ble_eq_true rfl⟩ d_law_559 (fun H locs hP hD hS => ?_)
  refine lv_aload_n hx hb d_law_562 rfl (lv_at hl 2 rfl) ?_
  refine callWI (ws' := ws_OL g a1 z_44 ++ ws_Mo g a2 w_45) (rest := [.int r_43]) (As := []) hfit hx hb hml hown hg hK hP hD hS hA hCs hl.1 (c_Mo_most l D g a2  w0 (r_43, w_45) e2_r_43) o_Mo_most g_1258 (ci := 1) (q0 := 83) rfl rfl (List.range' 83 12) (segC1 rfl rfl) (by decide) rfl (segP1 rfl rfl) rfl rfl (Nat.le_of_ble_eq_true rfl) ⟨rfl, rfl, Nat.le_of_ble_eq_true rfl, Nat.le_of_ble_eq_true rfl⟩ d_law_563 (fun H locs hP hD hS => ?_)
  refine lv_icmp_eq (tgt := 1020) hx hb d_law_566 (by decide) (fun _ => ?_) (fun h9 => absurd rfl h9)
  exact hend _ _ H locs ls hR2 hP hD hS hl

set_option maxHeartbeats 8000000 in
set_option maxRecDepth 100000 in
theorem lawc_15 {p : Program} {l : Launch} {e : Env} {s : State} {m : MethodId} {below : List Frame} {meth : Method} {c : Code} {D : va_G} {g : Nat → ClassId} {b L : Nat} {xs : Nat → Int32} {a1 a2 : Nat → Nat} {Rl : T_OL → T_Mo → Prop} (C0 : lw_At p s m meth c b L xs) (hK : va_K D classes (TY g) s) (hCs : Cst g (fun q : Nat => s.heap.size ≤ q) s s.heap) (hs_train : S_train Rl) {x3 : Int32} (h_in0 : vp_in x3 L) (h_in1 : vp_in (x3 + 1) L) (h_in2 : vp_in (x3 + 2) L) (h_in3 : vp_in (x3 + 3) L) (h_in4 : vp_in (x3 + 4) L)
    (hend : ∀ (z : T_OL) (w : T_Mo) (H : Heap) (locs : List Loc) (ls : Array Slot), Rl z w → va_P D classes (ws_OL g a1 z ++ ws_Mo g a2 w) H → va_D (fun q : Nat => s.heap.size ≤ q) (ws_OL g a1 z ++ ws_Mo g a2 w) → va_S (fun q : Nat => s.heap.size ≤ q) s.heap H locs → lv_has ls 4 [(0, .ref b), (1, .ref (a1 0)), (2, .ref (a2 0)), (3, .int x3)] → W p l e room_1 s m #[Value.ref b] below meth c H locs 600000 7302250 (lw_Z below #[Value.ref b] s) (F0 m 1020 ls [])) {z0 : T_OL} {w0 : T_Mo} {H : Heap} {locs : List Loc} {ls : Array Slot} (hRl : Rl z0 w0) (hP : va_P D classes (ws_OL g a1 z0 ++ ws_Mo g a2 w0) H) (hD : va_D (fun q : Nat => s.heap.size ≤ q) (ws_OL g a1 z0 ++ ws_Mo g a2 w0)) (hS : va_S (fun q : Nat => s.heap.size ≤ q) s.heap H locs) (hl : lv_has ls 4 [(0, .ref b), (1, .ref (a1 0)), (2, .ref (a2 0)), (3, .int x3)]) :
    W p l e room_1 s m #[Value.ref b] below meth c H locs 600000 7302250 (lw_Z below #[Value.ref b] s) (F0 m 571 ls []) := by
  obtain ⟨hx, hb, hr, hml, hown, hts, hX, hbl, hlocks, hgv⟩ := C0
  have hg : ∀ w ∈ GW, w.before #[Value.ref b] s = true := fun w hw => hts w (List.mem_filter.mp hw).1
  have hA : ∀ q : Nat, s.heap.size ≤ q → (fun q : Nat => s.heap.size ≤ q) q := fun _ h => h
  have hbA : ¬ (fun q : Nat => s.heap.size ≤ q) b := Nat.not_le.mpr hbl
  have hfit : 600000 ≤ room_1.cells ∧ 7302250 ≤ room_1.slots := ⟨Nat.le_of_ble_eq_true rfl, Nat.le_of_ble_eq_true rfl⟩
  refine lv_aload_n hx hb d_law_571 rfl (lv_at hl 1 rfl) ?_
  refine lv_aload_n hx hb d_law_572 rfl (lv_at hl 0 rfl) ?_
  refine lv_iload_n hx hb d_law_573 rfl (lv_at hl 3 rfl) ?_
  refine lv_iconst (v := 1) hx hb d_law_574 (by decide) ?_
  refine lv_iadd hx hb d_law_575 ?_
  refine va_sld hx hb hX hbl hbA hS h_in1 d_law_576 ?_
  obtain ⟨r_46, z_47, w_48, e1_r_46, e2_r_46, hR2⟩ := hs_train z0 w0 (xs (x3 + 1).toNatClampNeg) hRl
  refine callWI (ws' := ws_OL g a1 z_47 ++ ws_Mo g a2 w0) (rest := []) (As := [.int (xs (x3 + 1).toNatClampNeg)]) hfit hx hb hml hown hg hK hP hD hS hA hCs hl.1 (c_OL_train l D g a1 (xs (x3 + 1).toNatClampNeg) z0 (r_46, z_47) e1_r_46) o_OL_train g_811 (ci := 0) (q0 := 0) rfl rfl (List.range' 0 83) (segC1 rfl rfl) (by decide) rfl (segP1 rfl rfl) rfl rfl (Nat.le_of_ble_eq_true rfl) ⟨rfl, rfl, Nat.le_of_ble_eq_true rfl, Nat.le_of_ble_eq_true rfl⟩ d_law_577 (fun H locs hP hD hS => ?_)
  refine lv_aload_n hx hb d_law_580 rfl (lv_at hl 2 rfl) ?_
  refine lv_aload_n hx hb d_law_581 rfl (lv_at hl 0 rfl) ?_
  refine lv_iload_n hx hb d_law_582 rfl (lv_at hl 3 rfl) ?_
  refine lv_iconst (v := 1) hx hb d_law_583 (by decide) ?_
  refine lv_iadd hx hb d_law_584 ?_
  refine va_sld hx hb hX hbl hbA hS h_in1 d_law_585 ?_
  refine callWI (ws' := ws_OL g a1 z_47 ++ ws_Mo g a2 w_48) (rest := [.int r_46]) (As := [.int (xs (x3 + 1).toNatClampNeg)]) hfit hx hb hml hown hg hK hP hD hS hA hCs hl.1 (c_Mo_train l D g a2 (xs (x3 + 1).toNatClampNeg) w0 (r_46, w_48) e2_r_46) o_Mo_train g_1262 (ci := 1) (q0 := 83) rfl rfl (List.range' 83 12) (segC1 rfl rfl) (by decide) rfl (segP1 rfl rfl) rfl rfl (Nat.le_of_ble_eq_true rfl) ⟨rfl, rfl, Nat.le_of_ble_eq_true rfl, Nat.le_of_ble_eq_true rfl⟩ d_law_586 (fun H locs hP hD hS => ?_)
  refine lv_icmp_eq (tgt := 1020) hx hb d_law_589 (by decide) (fun _ => ?_) (fun h9 => absurd rfl h9)
  exact hend _ _ H locs ls hR2 hP hD hS hl

set_option maxHeartbeats 8000000 in
set_option maxRecDepth 100000 in
theorem lawc_16 {p : Program} {l : Launch} {e : Env} {s : State} {m : MethodId} {below : List Frame} {meth : Method} {c : Code} {D : va_G} {g : Nat → ClassId} {b L : Nat} {xs : Nat → Int32} {a1 a2 : Nat → Nat} {Rl : T_OL → T_Mo → Prop} (C0 : lw_At p s m meth c b L xs) (hK : va_K D classes (TY g) s) (hCs : Cst g (fun q : Nat => s.heap.size ≤ q) s s.heap) (hs_moved : S_moved Rl) {x3 : Int32} (h_in0 : vp_in x3 L) (h_in1 : vp_in (x3 + 1) L) (h_in2 : vp_in (x3 + 2) L) (h_in3 : vp_in (x3 + 3) L) (h_in4 : vp_in (x3 + 4) L)
    (hend : ∀ (z : T_OL) (w : T_Mo) (H : Heap) (locs : List Loc) (ls : Array Slot), Rl z w → va_P D classes (ws_OL g a1 z ++ ws_Mo g a2 w) H → va_D (fun q : Nat => s.heap.size ≤ q) (ws_OL g a1 z ++ ws_Mo g a2 w) → va_S (fun q : Nat => s.heap.size ≤ q) s.heap H locs → lv_has ls 4 [(0, .ref b), (1, .ref (a1 0)), (2, .ref (a2 0)), (3, .int x3)] → W p l e room_1 s m #[Value.ref b] below meth c H locs 600000 7302250 (lw_Z below #[Value.ref b] s) (F0 m 1020 ls [])) {z0 : T_OL} {w0 : T_Mo} {H : Heap} {locs : List Loc} {ls : Array Slot} (hRl : Rl z0 w0) (hP : va_P D classes (ws_OL g a1 z0 ++ ws_Mo g a2 w0) H) (hD : va_D (fun q : Nat => s.heap.size ≤ q) (ws_OL g a1 z0 ++ ws_Mo g a2 w0)) (hS : va_S (fun q : Nat => s.heap.size ≤ q) s.heap H locs) (hl : lv_has ls 4 [(0, .ref b), (1, .ref (a1 0)), (2, .ref (a2 0)), (3, .int x3)]) :
    W p l e room_1 s m #[Value.ref b] below meth c H locs 600000 7302250 (lw_Z below #[Value.ref b] s) (F0 m 594 ls []) := by
  obtain ⟨hx, hb, hr, hml, hown, hts, hX, hbl, hlocks, hgv⟩ := C0
  have hg : ∀ w ∈ GW, w.before #[Value.ref b] s = true := fun w hw => hts w (List.mem_filter.mp hw).1
  have hA : ∀ q : Nat, s.heap.size ≤ q → (fun q : Nat => s.heap.size ≤ q) q := fun _ h => h
  have hbA : ¬ (fun q : Nat => s.heap.size ≤ q) b := Nat.not_le.mpr hbl
  have hfit : 600000 ≤ room_1.cells ∧ 7302250 ≤ room_1.slots := ⟨Nat.le_of_ble_eq_true rfl, Nat.le_of_ble_eq_true rfl⟩
  refine lv_aload_n hx hb d_law_594 rfl (lv_at hl 1 rfl) ?_
  obtain ⟨r_49, z_50, w_51, e1_r_49, e2_r_49, hR2⟩ := hs_moved z0 w0  hRl
  refine callWI (ws' := ws_OL g a1 z_50 ++ ws_Mo g a2 w0) (rest := []) (As := []) hfit hx hb hml hown hg hK hP hD hS hA hCs hl.1 (c_OL_moved l D g a1  z0 (r_49, z_50) e1_r_49) o_OL_moved g_815 (ci := 0) (q0 := 0) rfl rfl (List.range' 0 83) (segC1 rfl rfl) (by decide) rfl (segP1 rfl rfl) rfl rfl (Nat.le_of_ble_eq_true rfl) ⟨rfl, rfl, Nat.le_of_ble_eq_true rfl, Nat.le_of_ble_eq_true rfl⟩ d_law_595 (fun H locs hP hD hS => ?_)
  refine lv_aload_n hx hb d_law_598 rfl (lv_at hl 2 rfl) ?_
  refine callWI (ws' := ws_OL g a1 z_50 ++ ws_Mo g a2 w_51) (rest := [.int r_49]) (As := []) hfit hx hb hml hown hg hK hP hD hS hA hCs hl.1 (c_Mo_moved l D g a2  w0 (r_49, w_51) e2_r_49) o_Mo_moved g_1266 (ci := 1) (q0 := 83) rfl rfl (List.range' 83 12) (segC1 rfl rfl) (by decide) rfl (segP1 rfl rfl) rfl rfl (Nat.le_of_ble_eq_true rfl) ⟨rfl, rfl, Nat.le_of_ble_eq_true rfl, Nat.le_of_ble_eq_true rfl⟩ d_law_599 (fun H locs hP hD hS => ?_)
  refine lv_icmp_eq (tgt := 1020) hx hb d_law_602 (by decide) (fun _ => ?_) (fun h9 => absurd rfl h9)
  exact hend _ _ H locs ls hR2 hP hD hS hl

set_option maxHeartbeats 8000000 in
set_option maxRecDepth 100000 in
theorem lawc_17 {p : Program} {l : Launch} {e : Env} {s : State} {m : MethodId} {below : List Frame} {meth : Method} {c : Code} {D : va_G} {g : Nat → ClassId} {b L : Nat} {xs : Nat → Int32} {a1 a2 : Nat → Nat} {Rl : T_OL → T_Mo → Prop} (C0 : lw_At p s m meth c b L xs) (hK : va_K D classes (TY g) s) (hCs : Cst g (fun q : Nat => s.heap.size ≤ q) s s.heap) (hs_gives : S_gives Rl) {x3 : Int32} (h_in0 : vp_in x3 L) (h_in1 : vp_in (x3 + 1) L) (h_in2 : vp_in (x3 + 2) L) (h_in3 : vp_in (x3 + 3) L) (h_in4 : vp_in (x3 + 4) L)
    (hend : ∀ (z : T_OL) (w : T_Mo) (H : Heap) (locs : List Loc) (ls : Array Slot), Rl z w → va_P D classes (ws_OL g a1 z ++ ws_Mo g a2 w) H → va_D (fun q : Nat => s.heap.size ≤ q) (ws_OL g a1 z ++ ws_Mo g a2 w) → va_S (fun q : Nat => s.heap.size ≤ q) s.heap H locs → lv_has ls 4 [(0, .ref b), (1, .ref (a1 0)), (2, .ref (a2 0)), (3, .int x3)] → W p l e room_1 s m #[Value.ref b] below meth c H locs 600000 7302250 (lw_Z below #[Value.ref b] s) (F0 m 1020 ls [])) {z0 : T_OL} {w0 : T_Mo} {H : Heap} {locs : List Loc} {ls : Array Slot} (hRl : Rl z0 w0) (hP : va_P D classes (ws_OL g a1 z0 ++ ws_Mo g a2 w0) H) (hD : va_D (fun q : Nat => s.heap.size ≤ q) (ws_OL g a1 z0 ++ ws_Mo g a2 w0)) (hS : va_S (fun q : Nat => s.heap.size ≤ q) s.heap H locs) (hl : lv_has ls 4 [(0, .ref b), (1, .ref (a1 0)), (2, .ref (a2 0)), (3, .int x3)]) :
    W p l e room_1 s m #[Value.ref b] below meth c H locs 600000 7302250 (lw_Z below #[Value.ref b] s) (F0 m 607 ls []) := by
  obtain ⟨hx, hb, hr, hml, hown, hts, hX, hbl, hlocks, hgv⟩ := C0
  have hg : ∀ w ∈ GW, w.before #[Value.ref b] s = true := fun w hw => hts w (List.mem_filter.mp hw).1
  have hA : ∀ q : Nat, s.heap.size ≤ q → (fun q : Nat => s.heap.size ≤ q) q := fun _ h => h
  have hbA : ¬ (fun q : Nat => s.heap.size ≤ q) b := Nat.not_le.mpr hbl
  have hfit : 600000 ≤ room_1.cells ∧ 7302250 ≤ room_1.slots := ⟨Nat.le_of_ble_eq_true rfl, Nat.le_of_ble_eq_true rfl⟩
  refine lv_aload_n hx hb d_law_607 rfl (lv_at hl 1 rfl) ?_
  refine lv_aload_n hx hb d_law_608 rfl (lv_at hl 0 rfl) ?_
  refine lv_iload_n hx hb d_law_609 rfl (lv_at hl 3 rfl) ?_
  refine lv_iconst (v := 1) hx hb d_law_610 (by decide) ?_
  refine lv_iadd hx hb d_law_611 ?_
  refine va_sld hx hb hX hbl hbA hS h_in1 d_law_612 ?_
  refine lv_aload_n hx hb d_law_613 rfl (lv_at hl 0 rfl) ?_
  refine lv_iload_n hx hb d_law_614 rfl (lv_at hl 3 rfl) ?_
  refine lv_iconst (v := 2) hx hb d_law_615 (by decide) ?_
  refine lv_iadd hx hb d_law_616 ?_
  refine va_sld hx hb hX hbl hbA hS h_in2 d_law_617 ?_
  obtain ⟨r_52, z_53, w_54, e1_r_52, e2_r_52, hR2⟩ := hs_gives z0 w0 (xs (x3 + 1).toNatClampNeg) (xs (x3 + 2).toNatClampNeg) hRl
  refine callWI (ws' := ws_OL g a1 z_53 ++ ws_Mo g a2 w0) (rest := []) (As := [.int (xs (x3 + 1).toNatClampNeg), .int (xs (x3 + 2).toNatClampNeg)]) hfit hx hb hml hown hg hK hP hD hS hA hCs hl.1 (c_OL_gives l D g a1 (xs (x3 + 1).toNatClampNeg) (xs (x3 + 2).toNatClampNeg) z0 (r_52, z_53) e1_r_52) o_OL_gives g_823 (ci := 0) (q0 := 0) rfl rfl (List.range' 0 83) (segC1 rfl rfl) (by decide) rfl (segP1 rfl rfl) rfl rfl (Nat.le_of_ble_eq_true rfl) ⟨rfl, rfl, Nat.le_of_ble_eq_true rfl, Nat.le_of_ble_eq_true rfl⟩ d_law_618 (fun H locs hP hD hS => ?_)
  refine lv_aload_n hx hb d_law_621 rfl (lv_at hl 2 rfl) ?_
  refine lv_aload_n hx hb d_law_622 rfl (lv_at hl 0 rfl) ?_
  refine lv_iload_n hx hb d_law_623 rfl (lv_at hl 3 rfl) ?_
  refine lv_iconst (v := 1) hx hb d_law_624 (by decide) ?_
  refine lv_iadd hx hb d_law_625 ?_
  refine va_sld hx hb hX hbl hbA hS h_in1 d_law_626 ?_
  refine lv_aload_n hx hb d_law_627 rfl (lv_at hl 0 rfl) ?_
  refine lv_iload_n hx hb d_law_628 rfl (lv_at hl 3 rfl) ?_
  refine lv_iconst (v := 2) hx hb d_law_629 (by decide) ?_
  refine lv_iadd hx hb d_law_630 ?_
  refine va_sld hx hb hX hbl hbA hS h_in2 d_law_631 ?_
  refine callWI (ws' := ws_OL g a1 z_53 ++ ws_Mo g a2 w_54) (rest := [.int r_52]) (As := [.int (xs (x3 + 1).toNatClampNeg), .int (xs (x3 + 2).toNatClampNeg)]) hfit hx hb hml hown hg hK hP hD hS hA hCs hl.1 (c_Mo_gives l D g a2 (xs (x3 + 1).toNatClampNeg) (xs (x3 + 2).toNatClampNeg) w0 (r_52, w_54) e2_r_52) o_Mo_gives g_1274 (ci := 1) (q0 := 83) rfl rfl (List.range' 83 12) (segC1 rfl rfl) (by decide) rfl (segP1 rfl rfl) rfl rfl (Nat.le_of_ble_eq_true rfl) ⟨rfl, rfl, Nat.le_of_ble_eq_true rfl, Nat.le_of_ble_eq_true rfl⟩ d_law_632 (fun H locs hP hD hS => ?_)
  refine lv_icmp_eq (tgt := 1020) hx hb d_law_635 (by decide) (fun _ => ?_) (fun h9 => absurd rfl h9)
  exact hend _ _ H locs ls hR2 hP hD hS hl

set_option maxHeartbeats 8000000 in
set_option maxRecDepth 100000 in
theorem lawc_18 {p : Program} {l : Launch} {e : Env} {s : State} {m : MethodId} {below : List Frame} {meth : Method} {c : Code} {D : va_G} {g : Nat → ClassId} {b L : Nat} {xs : Nat → Int32} {a1 a2 : Nat → Nat} {Rl : T_OL → T_Mo → Prop} (C0 : lw_At p s m meth c b L xs) (hK : va_K D classes (TY g) s) (hCs : Cst g (fun q : Nat => s.heap.size ≤ q) s s.heap) (hs_parts : S_parts Rl) {x3 : Int32} (h_in0 : vp_in x3 L) (h_in1 : vp_in (x3 + 1) L) (h_in2 : vp_in (x3 + 2) L) (h_in3 : vp_in (x3 + 3) L) (h_in4 : vp_in (x3 + 4) L)
    (hend : ∀ (z : T_OL) (w : T_Mo) (H : Heap) (locs : List Loc) (ls : Array Slot), Rl z w → va_P D classes (ws_OL g a1 z ++ ws_Mo g a2 w) H → va_D (fun q : Nat => s.heap.size ≤ q) (ws_OL g a1 z ++ ws_Mo g a2 w) → va_S (fun q : Nat => s.heap.size ≤ q) s.heap H locs → lv_has ls 4 [(0, .ref b), (1, .ref (a1 0)), (2, .ref (a2 0)), (3, .int x3)] → W p l e room_1 s m #[Value.ref b] below meth c H locs 600000 7302250 (lw_Z below #[Value.ref b] s) (F0 m 1020 ls [])) {z0 : T_OL} {w0 : T_Mo} {H : Heap} {locs : List Loc} {ls : Array Slot} (hRl : Rl z0 w0) (hP : va_P D classes (ws_OL g a1 z0 ++ ws_Mo g a2 w0) H) (hD : va_D (fun q : Nat => s.heap.size ≤ q) (ws_OL g a1 z0 ++ ws_Mo g a2 w0)) (hS : va_S (fun q : Nat => s.heap.size ≤ q) s.heap H locs) (hl : lv_has ls 4 [(0, .ref b), (1, .ref (a1 0)), (2, .ref (a2 0)), (3, .int x3)]) :
    W p l e room_1 s m #[Value.ref b] below meth c H locs 600000 7302250 (lw_Z below #[Value.ref b] s) (F0 m 640 ls []) := by
  obtain ⟨hx, hb, hr, hml, hown, hts, hX, hbl, hlocks, hgv⟩ := C0
  have hg : ∀ w ∈ GW, w.before #[Value.ref b] s = true := fun w hw => hts w (List.mem_filter.mp hw).1
  have hA : ∀ q : Nat, s.heap.size ≤ q → (fun q : Nat => s.heap.size ≤ q) q := fun _ h => h
  have hbA : ¬ (fun q : Nat => s.heap.size ≤ q) b := Nat.not_le.mpr hbl
  have hfit : 600000 ≤ room_1.cells ∧ 7302250 ≤ room_1.slots := ⟨Nat.le_of_ble_eq_true rfl, Nat.le_of_ble_eq_true rfl⟩
  refine lv_aload_n hx hb d_law_640 rfl (lv_at hl 1 rfl) ?_
  refine lv_aload_n hx hb d_law_641 rfl (lv_at hl 0 rfl) ?_
  refine lv_iload_n hx hb d_law_642 rfl (lv_at hl 3 rfl) ?_
  refine lv_iconst (v := 1) hx hb d_law_643 (by decide) ?_
  refine lv_iadd hx hb d_law_644 ?_
  refine va_sld hx hb hX hbl hbA hS h_in1 d_law_645 ?_
  refine lv_aload_n hx hb d_law_646 rfl (lv_at hl 0 rfl) ?_
  refine lv_iload_n hx hb d_law_647 rfl (lv_at hl 3 rfl) ?_
  refine lv_iconst (v := 2) hx hb d_law_648 (by decide) ?_
  refine lv_iadd hx hb d_law_649 ?_
  refine va_sld hx hb hX hbl hbA hS h_in2 d_law_650 ?_
  obtain ⟨r_55, z_56, w_57, e1_r_55, e2_r_55, hR2⟩ := hs_parts z0 w0 (xs (x3 + 1).toNatClampNeg) (xs (x3 + 2).toNatClampNeg) hRl
  refine callWL (ws' := ws_OL g a1 z_56 ++ ws_Mo g a2 w0) (rest := []) (As := [.int (xs (x3 + 1).toNatClampNeg), .int (xs (x3 + 2).toNatClampNeg)]) hfit hx hb hml hown hg hK hP hD hS hA hCs hl.1 (c_OL_parts l D g a1 (xs (x3 + 1).toNatClampNeg) (xs (x3 + 2).toNatClampNeg) z0 (r_55, z_56) e1_r_55) o_OL_parts g_837 (ci := 0) (q0 := 0) rfl rfl (List.range' 0 83) (segC1 rfl rfl) (by decide) rfl (segP1 rfl rfl) rfl rfl (Nat.le_of_ble_eq_true rfl) ⟨rfl, rfl, Nat.le_of_ble_eq_true rfl, Nat.le_of_ble_eq_true rfl⟩ d_law_651 (fun H locs hP hD hS => ?_)
  refine lv_aload_n hx hb d_law_654 rfl (lv_at hl 2 rfl) ?_
  refine lv_aload_n hx hb d_law_655 rfl (lv_at hl 0 rfl) ?_
  refine lv_iload_n hx hb d_law_656 rfl (lv_at hl 3 rfl) ?_
  refine lv_iconst (v := 1) hx hb d_law_657 (by decide) ?_
  refine lv_iadd hx hb d_law_658 ?_
  refine va_sld hx hb hX hbl hbA hS h_in1 d_law_659 ?_
  refine lv_aload_n hx hb d_law_660 rfl (lv_at hl 0 rfl) ?_
  refine lv_iload_n hx hb d_law_661 rfl (lv_at hl 3 rfl) ?_
  refine lv_iconst (v := 2) hx hb d_law_662 (by decide) ?_
  refine lv_iadd hx hb d_law_663 ?_
  refine va_sld hx hb hX hbl hbA hS h_in2 d_law_664 ?_
  refine callWL (ws' := ws_OL g a1 z_56 ++ ws_Mo g a2 w_57) (rest := [.long r_55]) (As := [.int (xs (x3 + 1).toNatClampNeg), .int (xs (x3 + 2).toNatClampNeg)]) hfit hx hb hml hown hg hK hP hD hS hA hCs hl.1 (c_Mo_parts l D g a2 (xs (x3 + 1).toNatClampNeg) (xs (x3 + 2).toNatClampNeg) w0 (r_55, w_57) e2_r_55) o_Mo_parts g_1286 (ci := 1) (q0 := 83) rfl rfl (List.range' 83 12) (segC1 rfl rfl) (by decide) rfl (segP1 rfl rfl) rfl rfl (Nat.le_of_ble_eq_true rfl) ⟨rfl, rfl, Nat.le_of_ble_eq_true rfl, Nat.le_of_ble_eq_true rfl⟩ d_law_665 (fun H locs hP hD hS => ?_)
  refine W.lcmp hx hb d_law_668 ?_
  refine lv_if_eq (tgt := 1020) hx hb d_law_669 (by decide) (fun _ => ?_) (fun h9 => absurd (lg_same _) h9)
  exact hend _ _ H locs ls hR2 hP hD hS hl

set_option maxHeartbeats 8000000 in
set_option maxRecDepth 100000 in
theorem lawc_19 {p : Program} {l : Launch} {e : Env} {s : State} {m : MethodId} {below : List Frame} {meth : Method} {c : Code} {D : va_G} {g : Nat → ClassId} {b L : Nat} {xs : Nat → Int32} {a1 a2 : Nat → Nat} {Rl : T_OL → T_Mo → Prop} (C0 : lw_At p s m meth c b L xs) (hK : va_K D classes (TY g) s) (hCs : Cst g (fun q : Nat => s.heap.size ≤ q) s s.heap) (hs_swap : S_swap Rl) {x3 : Int32} (h_in0 : vp_in x3 L) (h_in1 : vp_in (x3 + 1) L) (h_in2 : vp_in (x3 + 2) L) (h_in3 : vp_in (x3 + 3) L) (h_in4 : vp_in (x3 + 4) L)
    (hend : ∀ (z : T_OL) (w : T_Mo) (H : Heap) (locs : List Loc) (ls : Array Slot), Rl z w → va_P D classes (ws_OL g a1 z ++ ws_Mo g a2 w) H → va_D (fun q : Nat => s.heap.size ≤ q) (ws_OL g a1 z ++ ws_Mo g a2 w) → va_S (fun q : Nat => s.heap.size ≤ q) s.heap H locs → lv_has ls 4 [(0, .ref b), (1, .ref (a1 0)), (2, .ref (a2 0)), (3, .int x3)] → W p l e room_1 s m #[Value.ref b] below meth c H locs 600000 7302250 (lw_Z below #[Value.ref b] s) (F0 m 1020 ls [])) {z0 : T_OL} {w0 : T_Mo} {H : Heap} {locs : List Loc} {ls : Array Slot} (hRl : Rl z0 w0) (hP : va_P D classes (ws_OL g a1 z0 ++ ws_Mo g a2 w0) H) (hD : va_D (fun q : Nat => s.heap.size ≤ q) (ws_OL g a1 z0 ++ ws_Mo g a2 w0)) (hS : va_S (fun q : Nat => s.heap.size ≤ q) s.heap H locs) (hl : lv_has ls 4 [(0, .ref b), (1, .ref (a1 0)), (2, .ref (a2 0)), (3, .int x3)]) :
    W p l e room_1 s m #[Value.ref b] below meth c H locs 600000 7302250 (lw_Z below #[Value.ref b] s) (F0 m 674 ls []) := by
  obtain ⟨hx, hb, hr, hml, hown, hts, hX, hbl, hlocks, hgv⟩ := C0
  have hg : ∀ w ∈ GW, w.before #[Value.ref b] s = true := fun w hw => hts w (List.mem_filter.mp hw).1
  have hA : ∀ q : Nat, s.heap.size ≤ q → (fun q : Nat => s.heap.size ≤ q) q := fun _ h => h
  have hbA : ¬ (fun q : Nat => s.heap.size ≤ q) b := Nat.not_le.mpr hbl
  have hfit : 600000 ≤ room_1.cells ∧ 7302250 ≤ room_1.slots := ⟨Nat.le_of_ble_eq_true rfl, Nat.le_of_ble_eq_true rfl⟩
  refine lv_aload_n hx hb d_law_674 rfl (lv_at hl 1 rfl) ?_
  refine lv_aload_n hx hb d_law_675 rfl (lv_at hl 0 rfl) ?_
  refine lv_iload_n hx hb d_law_676 rfl (lv_at hl 3 rfl) ?_
  refine lv_iconst (v := 1) hx hb d_law_677 (by decide) ?_
  refine lv_iadd hx hb d_law_678 ?_
  refine va_sld hx hb hX hbl hbA hS h_in1 d_law_679 ?_
  obtain ⟨r_58, z_59, w_60, e1_r_58, e2_r_58, hR2⟩ := hs_swap z0 w0 (xs (x3 + 1).toNatClampNeg) hRl
  refine callWI (ws' := ws_OL g a1 z_59 ++ ws_Mo g a2 w0) (rest := []) (As := [.int (xs (x3 + 1).toNatClampNeg)]) hfit hx hb hml hown hg hK hP hD hS hA hCs hl.1 (c_OL_swap l D g a1 (xs (x3 + 1).toNatClampNeg) z0 (r_58, z_59) e1_r_58) o_OL_swap g_857 (ci := 0) (q0 := 0) rfl rfl (List.range' 0 83) (segC1 rfl rfl) (by decide) rfl (segP1 rfl rfl) rfl rfl (Nat.le_of_ble_eq_true rfl) ⟨rfl, rfl, Nat.le_of_ble_eq_true rfl, Nat.le_of_ble_eq_true rfl⟩ d_law_680 (fun H locs hP hD hS => ?_)
  refine lv_aload_n hx hb d_law_683 rfl (lv_at hl 2 rfl) ?_
  refine lv_aload_n hx hb d_law_684 rfl (lv_at hl 0 rfl) ?_
  refine lv_iload_n hx hb d_law_685 rfl (lv_at hl 3 rfl) ?_
  refine lv_iconst (v := 1) hx hb d_law_686 (by decide) ?_
  refine lv_iadd hx hb d_law_687 ?_
  refine va_sld hx hb hX hbl hbA hS h_in1 d_law_688 ?_
  refine callWI (ws' := ws_OL g a1 z_59 ++ ws_Mo g a2 w_60) (rest := [.int r_58]) (As := [.int (xs (x3 + 1).toNatClampNeg)]) hfit hx hb hml hown hg hK hP hD hS hA hCs hl.1 (c_Mo_swap l D g a2 (xs (x3 + 1).toNatClampNeg) w0 (r_58, w_60) e2_r_58) o_Mo_swap g_1298 (ci := 1) (q0 := 83) rfl rfl (List.range' 83 12) (segC1 rfl rfl) (by decide) rfl (segP1 rfl rfl) rfl rfl (Nat.le_of_ble_eq_true rfl) ⟨rfl, rfl, Nat.le_of_ble_eq_true rfl, Nat.le_of_ble_eq_true rfl⟩ d_law_689 (fun H locs hP hD hS => ?_)
  refine lv_icmp_eq (tgt := 1020) hx hb d_law_692 (by decide) (fun _ => ?_) (fun h9 => absurd rfl h9)
  exact hend _ _ H locs ls hR2 hP hD hS hl

set_option maxHeartbeats 8000000 in
set_option maxRecDepth 100000 in
theorem lawc_20 {p : Program} {l : Launch} {e : Env} {s : State} {m : MethodId} {below : List Frame} {meth : Method} {c : Code} {D : va_G} {g : Nat → ClassId} {b L : Nat} {xs : Nat → Int32} {a1 a2 : Nat → Nat} {Rl : T_OL → T_Mo → Prop} (C0 : lw_At p s m meth c b L xs) (hK : va_K D classes (TY g) s) (hCs : Cst g (fun q : Nat => s.heap.size ≤ q) s s.heap) (hs_rest : S_rest Rl) {x3 : Int32} (h_in0 : vp_in x3 L) (h_in1 : vp_in (x3 + 1) L) (h_in2 : vp_in (x3 + 2) L) (h_in3 : vp_in (x3 + 3) L) (h_in4 : vp_in (x3 + 4) L)
    (hend : ∀ (z : T_OL) (w : T_Mo) (H : Heap) (locs : List Loc) (ls : Array Slot), Rl z w → va_P D classes (ws_OL g a1 z ++ ws_Mo g a2 w) H → va_D (fun q : Nat => s.heap.size ≤ q) (ws_OL g a1 z ++ ws_Mo g a2 w) → va_S (fun q : Nat => s.heap.size ≤ q) s.heap H locs → lv_has ls 4 [(0, .ref b), (1, .ref (a1 0)), (2, .ref (a2 0)), (3, .int x3)] → W p l e room_1 s m #[Value.ref b] below meth c H locs 600000 7302250 (lw_Z below #[Value.ref b] s) (F0 m 1020 ls [])) {z0 : T_OL} {w0 : T_Mo} {H : Heap} {locs : List Loc} {ls : Array Slot} (hRl : Rl z0 w0) (hP : va_P D classes (ws_OL g a1 z0 ++ ws_Mo g a2 w0) H) (hD : va_D (fun q : Nat => s.heap.size ≤ q) (ws_OL g a1 z0 ++ ws_Mo g a2 w0)) (hS : va_S (fun q : Nat => s.heap.size ≤ q) s.heap H locs) (hl : lv_has ls 4 [(0, .ref b), (1, .ref (a1 0)), (2, .ref (a2 0)), (3, .int x3)]) :
    W p l e room_1 s m #[Value.ref b] below meth c H locs 600000 7302250 (lw_Z below #[Value.ref b] s) (F0 m 697 ls []) := by
  obtain ⟨hx, hb, hr, hml, hown, hts, hX, hbl, hlocks, hgv⟩ := C0
  have hg : ∀ w ∈ GW, w.before #[Value.ref b] s = true := fun w hw => hts w (List.mem_filter.mp hw).1
  have hA : ∀ q : Nat, s.heap.size ≤ q → (fun q : Nat => s.heap.size ≤ q) q := fun _ h => h
  have hbA : ¬ (fun q : Nat => s.heap.size ≤ q) b := Nat.not_le.mpr hbl
  have hfit : 600000 ≤ room_1.cells ∧ 7302250 ≤ room_1.slots := ⟨Nat.le_of_ble_eq_true rfl, Nat.le_of_ble_eq_true rfl⟩
  refine lv_aload_n hx hb d_law_697 rfl (lv_at hl 1 rfl) ?_
  obtain ⟨r_61, z_62, w_63, e1_r_61, e2_r_61, hR2⟩ := hs_rest z0 w0  hRl
  refine callWI (ws' := ws_OL g a1 z_62 ++ ws_Mo g a2 w0) (rest := []) (As := []) hfit hx hb hml hown hg hK hP hD hS hA hCs hl.1 (c_OL_rest l D g a1  z0 (r_61, z_62) e1_r_61) o_OL_rest g_874 (ci := 0) (q0 := 0) rfl rfl (List.range' 0 83) (segC1 rfl rfl) (by decide) rfl (segP1 rfl rfl) rfl rfl (Nat.le_of_ble_eq_true rfl) ⟨rfl, rfl, Nat.le_of_ble_eq_true rfl, Nat.le_of_ble_eq_true rfl⟩ d_law_698 (fun H locs hP hD hS => ?_)
  refine lv_aload_n hx hb d_law_701 rfl (lv_at hl 2 rfl) ?_
  refine callWI (ws' := ws_OL g a1 z_62 ++ ws_Mo g a2 w_63) (rest := [.int r_61]) (As := []) hfit hx hb hml hown hg hK hP hD hS hA hCs hl.1 (c_Mo_rest l D g a2  w0 (r_61, w_63) e2_r_61) o_Mo_rest g_1310 (ci := 1) (q0 := 83) rfl rfl (List.range' 83 12) (segC1 rfl rfl) (by decide) rfl (segP1 rfl rfl) rfl rfl (Nat.le_of_ble_eq_true rfl) ⟨rfl, rfl, Nat.le_of_ble_eq_true rfl, Nat.le_of_ble_eq_true rfl⟩ d_law_702 (fun H locs hP hD hS => ?_)
  refine lv_icmp_eq (tgt := 1020) hx hb d_law_705 (by decide) (fun _ => ?_) (fun h9 => absurd rfl h9)
  exact hend _ _ H locs ls hR2 hP hD hS hl

set_option maxHeartbeats 8000000 in
set_option maxRecDepth 100000 in
theorem lawc_21 {p : Program} {l : Launch} {e : Env} {s : State} {m : MethodId} {below : List Frame} {meth : Method} {c : Code} {D : va_G} {g : Nat → ClassId} {b L : Nat} {xs : Nat → Int32} {a1 a2 : Nat → Nat} {Rl : T_OL → T_Mo → Prop} (C0 : lw_At p s m meth c b L xs) (hK : va_K D classes (TY g) s) (hCs : Cst g (fun q : Nat => s.heap.size ≤ q) s s.heap) (hs_fair : S_fair Rl) {x3 : Int32} (h_in0 : vp_in x3 L) (h_in1 : vp_in (x3 + 1) L) (h_in2 : vp_in (x3 + 2) L) (h_in3 : vp_in (x3 + 3) L) (h_in4 : vp_in (x3 + 4) L)
    (hend : ∀ (z : T_OL) (w : T_Mo) (H : Heap) (locs : List Loc) (ls : Array Slot), Rl z w → va_P D classes (ws_OL g a1 z ++ ws_Mo g a2 w) H → va_D (fun q : Nat => s.heap.size ≤ q) (ws_OL g a1 z ++ ws_Mo g a2 w) → va_S (fun q : Nat => s.heap.size ≤ q) s.heap H locs → lv_has ls 4 [(0, .ref b), (1, .ref (a1 0)), (2, .ref (a2 0)), (3, .int x3)] → W p l e room_1 s m #[Value.ref b] below meth c H locs 600000 7302250 (lw_Z below #[Value.ref b] s) (F0 m 1020 ls [])) {z0 : T_OL} {w0 : T_Mo} {H : Heap} {locs : List Loc} {ls : Array Slot} (hRl : Rl z0 w0) (hP : va_P D classes (ws_OL g a1 z0 ++ ws_Mo g a2 w0) H) (hD : va_D (fun q : Nat => s.heap.size ≤ q) (ws_OL g a1 z0 ++ ws_Mo g a2 w0)) (hS : va_S (fun q : Nat => s.heap.size ≤ q) s.heap H locs) (hl : lv_has ls 4 [(0, .ref b), (1, .ref (a1 0)), (2, .ref (a2 0)), (3, .int x3)]) :
    W p l e room_1 s m #[Value.ref b] below meth c H locs 600000 7302250 (lw_Z below #[Value.ref b] s) (F0 m 710 ls []) := by
  obtain ⟨hx, hb, hr, hml, hown, hts, hX, hbl, hlocks, hgv⟩ := C0
  have hg : ∀ w ∈ GW, w.before #[Value.ref b] s = true := fun w hw => hts w (List.mem_filter.mp hw).1
  have hA : ∀ q : Nat, s.heap.size ≤ q → (fun q : Nat => s.heap.size ≤ q) q := fun _ h => h
  have hbA : ¬ (fun q : Nat => s.heap.size ≤ q) b := Nat.not_le.mpr hbl
  have hfit : 600000 ≤ room_1.cells ∧ 7302250 ≤ room_1.slots := ⟨Nat.le_of_ble_eq_true rfl, Nat.le_of_ble_eq_true rfl⟩
  refine lv_aload_n hx hb d_law_710 rfl (lv_at hl 1 rfl) ?_
  refine lv_aload_n hx hb d_law_711 rfl (lv_at hl 0 rfl) ?_
  refine lv_iload_n hx hb d_law_712 rfl (lv_at hl 3 rfl) ?_
  refine lv_iconst (v := 1) hx hb d_law_713 (by decide) ?_
  refine lv_iadd hx hb d_law_714 ?_
  refine va_sld hx hb hX hbl hbA hS h_in1 d_law_715 ?_
  refine lv_aload_n hx hb d_law_716 rfl (lv_at hl 0 rfl) ?_
  refine lv_iload_n hx hb d_law_717 rfl (lv_at hl 3 rfl) ?_
  refine lv_iconst (v := 2) hx hb d_law_718 (by decide) ?_
  refine lv_iadd hx hb d_law_719 ?_
  refine va_sld hx hb hX hbl hbA hS h_in2 d_law_720 ?_
  refine lv_aload_n hx hb d_law_721 rfl (lv_at hl 0 rfl) ?_
  refine lv_iload_n hx hb d_law_722 rfl (lv_at hl 3 rfl) ?_
  refine lv_iconst (v := 3) hx hb d_law_723 (by decide) ?_
  refine lv_iadd hx hb d_law_724 ?_
  refine va_sld hx hb hX hbl hbA hS h_in3 d_law_725 ?_
  obtain ⟨r_64, z_65, w_66, e1_r_64, e2_r_64, hR2⟩ := hs_fair z0 w0 (xs (x3 + 1).toNatClampNeg) (xs (x3 + 2).toNatClampNeg) (xs (x3 + 3).toNatClampNeg) hRl
  refine callWI (ws' := ws_OL g a1 z_65 ++ ws_Mo g a2 w0) (rest := []) (As := [.int (xs (x3 + 1).toNatClampNeg), .int (xs (x3 + 2).toNatClampNeg), .int (xs (x3 + 3).toNatClampNeg)]) hfit hx hb hml hown hg hK hP hD hS hA hCs hl.1 (c_OL_fair l D g a1 (xs (x3 + 1).toNatClampNeg) (xs (x3 + 2).toNatClampNeg) (xs (x3 + 3).toNatClampNeg) z0 (r_64, z_65) e1_r_64) o_OL_fair g_882 (ci := 0) (q0 := 0) rfl rfl (List.range' 0 83) (segC1 rfl rfl) (by decide) rfl (segP1 rfl rfl) rfl rfl (Nat.le_of_ble_eq_true rfl) ⟨rfl, rfl, Nat.le_of_ble_eq_true rfl, Nat.le_of_ble_eq_true rfl⟩ d_law_726 (fun H locs hP hD hS => ?_)
  refine lv_aload_n hx hb d_law_729 rfl (lv_at hl 2 rfl) ?_
  refine lv_aload_n hx hb d_law_730 rfl (lv_at hl 0 rfl) ?_
  refine lv_iload_n hx hb d_law_731 rfl (lv_at hl 3 rfl) ?_
  refine lv_iconst (v := 1) hx hb d_law_732 (by decide) ?_
  refine lv_iadd hx hb d_law_733 ?_
  refine va_sld hx hb hX hbl hbA hS h_in1 d_law_734 ?_
  refine lv_aload_n hx hb d_law_735 rfl (lv_at hl 0 rfl) ?_
  refine lv_iload_n hx hb d_law_736 rfl (lv_at hl 3 rfl) ?_
  refine lv_iconst (v := 2) hx hb d_law_737 (by decide) ?_
  refine lv_iadd hx hb d_law_738 ?_
  refine va_sld hx hb hX hbl hbA hS h_in2 d_law_739 ?_
  refine lv_aload_n hx hb d_law_740 rfl (lv_at hl 0 rfl) ?_
  refine lv_iload_n hx hb d_law_741 rfl (lv_at hl 3 rfl) ?_
  refine lv_iconst (v := 3) hx hb d_law_742 (by decide) ?_
  refine lv_iadd hx hb d_law_743 ?_
  refine va_sld hx hb hX hbl hbA hS h_in3 d_law_744 ?_
  refine callWI (ws' := ws_OL g a1 z_65 ++ ws_Mo g a2 w_66) (rest := [.int r_64]) (As := [.int (xs (x3 + 1).toNatClampNeg), .int (xs (x3 + 2).toNatClampNeg), .int (xs (x3 + 3).toNatClampNeg)]) hfit hx hb hml hown hg hK hP hD hS hA hCs hl.1 (c_Mo_fair l D g a2 (xs (x3 + 1).toNatClampNeg) (xs (x3 + 2).toNatClampNeg) (xs (x3 + 3).toNatClampNeg) w0 (r_64, w_66) e2_r_64) o_Mo_fair g_1322 (ci := 1) (q0 := 83) rfl rfl (List.range' 83 12) (segC1 rfl rfl) (by decide) rfl (segP1 rfl rfl) rfl rfl (Nat.le_of_ble_eq_true rfl) ⟨rfl, rfl, Nat.le_of_ble_eq_true rfl, Nat.le_of_ble_eq_true rfl⟩ d_law_745 (fun H locs hP hD hS => ?_)
  refine lv_icmp_eq (tgt := 1020) hx hb d_law_748 (by decide) (fun _ => ?_) (fun h9 => absurd rfl h9)
  exact hend _ _ H locs ls hR2 hP hD hS hl

set_option maxHeartbeats 8000000 in
set_option maxRecDepth 100000 in
theorem lawc_22 {p : Program} {l : Launch} {e : Env} {s : State} {m : MethodId} {below : List Frame} {meth : Method} {c : Code} {D : va_G} {g : Nat → ClassId} {b L : Nat} {xs : Nat → Int32} {a1 a2 : Nat → Nat} {Rl : T_OL → T_Mo → Prop} (C0 : lw_At p s m meth c b L xs) (hK : va_K D classes (TY g) s) (hCs : Cst g (fun q : Nat => s.heap.size ≤ q) s s.heap) (hs_had : S_had Rl) {x3 : Int32} (h_in0 : vp_in x3 L) (h_in1 : vp_in (x3 + 1) L) (h_in2 : vp_in (x3 + 2) L) (h_in3 : vp_in (x3 + 3) L) (h_in4 : vp_in (x3 + 4) L)
    (hend : ∀ (z : T_OL) (w : T_Mo) (H : Heap) (locs : List Loc) (ls : Array Slot), Rl z w → va_P D classes (ws_OL g a1 z ++ ws_Mo g a2 w) H → va_D (fun q : Nat => s.heap.size ≤ q) (ws_OL g a1 z ++ ws_Mo g a2 w) → va_S (fun q : Nat => s.heap.size ≤ q) s.heap H locs → lv_has ls 4 [(0, .ref b), (1, .ref (a1 0)), (2, .ref (a2 0)), (3, .int x3)] → W p l e room_1 s m #[Value.ref b] below meth c H locs 600000 7302250 (lw_Z below #[Value.ref b] s) (F0 m 1020 ls [])) {z0 : T_OL} {w0 : T_Mo} {H : Heap} {locs : List Loc} {ls : Array Slot} (hRl : Rl z0 w0) (hP : va_P D classes (ws_OL g a1 z0 ++ ws_Mo g a2 w0) H) (hD : va_D (fun q : Nat => s.heap.size ≤ q) (ws_OL g a1 z0 ++ ws_Mo g a2 w0)) (hS : va_S (fun q : Nat => s.heap.size ≤ q) s.heap H locs) (hl : lv_has ls 4 [(0, .ref b), (1, .ref (a1 0)), (2, .ref (a2 0)), (3, .int x3)]) :
    W p l e room_1 s m #[Value.ref b] below meth c H locs 600000 7302250 (lw_Z below #[Value.ref b] s) (F0 m 753 ls []) := by
  obtain ⟨hx, hb, hr, hml, hown, hts, hX, hbl, hlocks, hgv⟩ := C0
  have hg : ∀ w ∈ GW, w.before #[Value.ref b] s = true := fun w hw => hts w (List.mem_filter.mp hw).1
  have hA : ∀ q : Nat, s.heap.size ≤ q → (fun q : Nat => s.heap.size ≤ q) q := fun _ h => h
  have hbA : ¬ (fun q : Nat => s.heap.size ≤ q) b := Nat.not_le.mpr hbl
  have hfit : 600000 ≤ room_1.cells ∧ 7302250 ≤ room_1.slots := ⟨Nat.le_of_ble_eq_true rfl, Nat.le_of_ble_eq_true rfl⟩
  refine lv_aload_n hx hb d_law_753 rfl (lv_at hl 1 rfl) ?_
  refine lv_aload_n hx hb d_law_754 rfl (lv_at hl 0 rfl) ?_
  refine lv_iload_n hx hb d_law_755 rfl (lv_at hl 3 rfl) ?_
  refine lv_iconst (v := 1) hx hb d_law_756 (by decide) ?_
  refine lv_iadd hx hb d_law_757 ?_
  refine va_sld hx hb hX hbl hbA hS h_in1 d_law_758 ?_
  refine lv_aload_n hx hb d_law_759 rfl (lv_at hl 0 rfl) ?_
  refine lv_iload_n hx hb d_law_760 rfl (lv_at hl 3 rfl) ?_
  refine lv_iconst (v := 2) hx hb d_law_761 (by decide) ?_
  refine lv_iadd hx hb d_law_762 ?_
  refine va_sld hx hb hX hbl hbA hS h_in2 d_law_763 ?_
  obtain ⟨r_67, z_68, w_69, e1_r_67, e2_r_67, hR2, q2_r_67⟩ := hs_had z0 w0 (xs (x3 + 1).toNatClampNeg) (xs (x3 + 2).toNatClampNeg) hRl
  rw [q2_r_67] at hR2
  refine callWI (ws' := ws_OL g a1 z_68 ++ ws_Mo g a2 w0) (rest := []) (As := [.int (xs (x3 + 1).toNatClampNeg), .int (xs (x3 + 2).toNatClampNeg)]) hfit hx hb hml hown hg hK hP hD hS hA hCs hl.1 (c_OL_had l D g a1 (xs (x3 + 1).toNatClampNeg) (xs (x3 + 2).toNatClampNeg) z0 (r_67, z_68) e1_r_67) o_OL_had g_895 (ci := 0) (q0 := 0) rfl rfl (List.range' 0 83) (segC1 rfl rfl) (by decide) rfl (segP1 rfl rfl) rfl rfl (Nat.le_of_ble_eq_true rfl) ⟨rfl, rfl, Nat.le_of_ble_eq_true rfl, Nat.le_of_ble_eq_true rfl⟩ d_law_764 (fun H locs hP hD hS => ?_)
  refine lv_aload_n hx hb d_law_767 rfl (lv_at hl 2 rfl) ?_
  refine lv_aload_n hx hb d_law_768 rfl (lv_at hl 0 rfl) ?_
  refine lv_iload_n hx hb d_law_769 rfl (lv_at hl 3 rfl) ?_
  refine lv_iconst (v := 1) hx hb d_law_770 (by decide) ?_
  refine lv_iadd hx hb d_law_771 ?_
  refine va_sld hx hb hX hbl hbA hS h_in1 d_law_772 ?_
  refine lv_aload_n hx hb d_law_773 rfl (lv_at hl 0 rfl) ?_
  refine lv_iload_n hx hb d_law_774 rfl (lv_at hl 3 rfl) ?_
  refine lv_iconst (v := 2) hx hb d_law_775 (by decide) ?_
  refine lv_iadd hx hb d_law_776 ?_
  refine va_sld hx hb hX hbl hbA hS h_in2 d_law_777 ?_
  refine callWI (ws' := ws_OL g a1 z_68 ++ ws_Mo g a2 w0) (rest := [.int r_67]) (As := [.int (xs (x3 + 1).toNatClampNeg), .int (xs (x3 + 2).toNatClampNeg)]) hfit hx hb hml hown hg hK hP hD hS hA hCs hl.1 (c_Mo_had l D g a2 (xs (x3 + 1).toNatClampNeg) (xs (x3 + 2).toNatClampNeg) w0 r_67 e2_r_67) o_Mo_had g_1326 (ci := 1) (q0 := 83) rfl rfl (List.range' 83 12) (segC1 rfl rfl) (by decide) rfl (segP1 rfl rfl) rfl rfl (Nat.le_of_ble_eq_true rfl) ⟨rfl, rfl, Nat.le_of_ble_eq_true rfl, Nat.le_of_ble_eq_true rfl⟩ d_law_778 (fun H locs hP hD hS => ?_)
  refine lv_icmp_eq (tgt := 1020) hx hb d_law_781 (by decide) (fun _ => ?_) (fun h9 => absurd rfl h9)
  exact hend _ _ H locs ls hR2 hP hD hS hl

set_option maxHeartbeats 8000000 in
set_option maxRecDepth 100000 in
theorem lawc_23 {p : Program} {l : Launch} {e : Env} {s : State} {m : MethodId} {below : List Frame} {meth : Method} {c : Code} {D : va_G} {g : Nat → ClassId} {b L : Nat} {xs : Nat → Int32} {a1 a2 : Nat → Nat} {Rl : T_OL → T_Mo → Prop} (C0 : lw_At p s m meth c b L xs) (hK : va_K D classes (TY g) s) (hCs : Cst g (fun q : Nat => s.heap.size ≤ q) s s.heap) (hs_odds : S_odds Rl) {x3 : Int32} (h_in0 : vp_in x3 L) (h_in1 : vp_in (x3 + 1) L) (h_in2 : vp_in (x3 + 2) L) (h_in3 : vp_in (x3 + 3) L) (h_in4 : vp_in (x3 + 4) L)
    (hend : ∀ (z : T_OL) (w : T_Mo) (H : Heap) (locs : List Loc) (ls : Array Slot), Rl z w → va_P D classes (ws_OL g a1 z ++ ws_Mo g a2 w) H → va_D (fun q : Nat => s.heap.size ≤ q) (ws_OL g a1 z ++ ws_Mo g a2 w) → va_S (fun q : Nat => s.heap.size ≤ q) s.heap H locs → lv_has ls 4 [(0, .ref b), (1, .ref (a1 0)), (2, .ref (a2 0)), (3, .int x3)] → W p l e room_1 s m #[Value.ref b] below meth c H locs 600000 7302250 (lw_Z below #[Value.ref b] s) (F0 m 1020 ls [])) {z0 : T_OL} {w0 : T_Mo} {H : Heap} {locs : List Loc} {ls : Array Slot} (hRl : Rl z0 w0) (hP : va_P D classes (ws_OL g a1 z0 ++ ws_Mo g a2 w0) H) (hD : va_D (fun q : Nat => s.heap.size ≤ q) (ws_OL g a1 z0 ++ ws_Mo g a2 w0)) (hS : va_S (fun q : Nat => s.heap.size ≤ q) s.heap H locs) (hl : lv_has ls 4 [(0, .ref b), (1, .ref (a1 0)), (2, .ref (a2 0)), (3, .int x3)]) :
    W p l e room_1 s m #[Value.ref b] below meth c H locs 600000 7302250 (lw_Z below #[Value.ref b] s) (F0 m 786 ls []) := by
  obtain ⟨hx, hb, hr, hml, hown, hts, hX, hbl, hlocks, hgv⟩ := C0
  have hg : ∀ w ∈ GW, w.before #[Value.ref b] s = true := fun w hw => hts w (List.mem_filter.mp hw).1
  have hA : ∀ q : Nat, s.heap.size ≤ q → (fun q : Nat => s.heap.size ≤ q) q := fun _ h => h
  have hbA : ¬ (fun q : Nat => s.heap.size ≤ q) b := Nat.not_le.mpr hbl
  have hfit : 600000 ≤ room_1.cells ∧ 7302250 ≤ room_1.slots := ⟨Nat.le_of_ble_eq_true rfl, Nat.le_of_ble_eq_true rfl⟩
  refine lv_aload_n hx hb d_law_786 rfl (lv_at hl 1 rfl) ?_
  refine lv_aload_n hx hb d_law_787 rfl (lv_at hl 0 rfl) ?_
  refine lv_iload_n hx hb d_law_788 rfl (lv_at hl 3 rfl) ?_
  refine lv_iconst (v := 1) hx hb d_law_789 (by decide) ?_
  refine lv_iadd hx hb d_law_790 ?_
  refine va_sld hx hb hX hbl hbA hS h_in1 d_law_791 ?_
  obtain ⟨r_70, z_71, w_72, e1_r_70, e2_r_70, hR2⟩ := hs_odds z0 w0 (xs (x3 + 1).toNatClampNeg) hRl
  refine callWL (ws' := ws_OL g a1 z_71 ++ ws_Mo g a2 w0) (rest := []) (As := [.int (xs (x3 + 1).toNatClampNeg)]) hfit hx hb hml hown hg hK hP hD hS hA hCs hl.1 (c_OL_odds l D g a1 (xs (x3 + 1).toNatClampNeg) z0 (r_70, z_71) e1_r_70) o_OL_odds g_905 (ci := 0) (q0 := 0) rfl rfl (List.range' 0 83) (segC1 rfl rfl) (by decide) rfl (segP1 rfl rfl) rfl rfl (Nat.le_of_ble_eq_true rfl) ⟨rfl, rfl, Nat.le_of_ble_eq_true rfl, Nat.le_of_ble_eq_true rfl⟩ d_law_792 (fun H locs hP hD hS => ?_)
  refine lv_aload_n hx hb d_law_795 rfl (lv_at hl 2 rfl) ?_
  refine lv_aload_n hx hb d_law_796 rfl (lv_at hl 0 rfl) ?_
  refine lv_iload_n hx hb d_law_797 rfl (lv_at hl 3 rfl) ?_
  refine lv_iconst (v := 1) hx hb d_law_798 (by decide) ?_
  refine lv_iadd hx hb d_law_799 ?_
  refine va_sld hx hb hX hbl hbA hS h_in1 d_law_800 ?_
  refine callWL (ws' := ws_OL g a1 z_71 ++ ws_Mo g a2 w_72) (rest := [.long r_70]) (As := [.int (xs (x3 + 1).toNatClampNeg)]) hfit hx hb hml hown hg hK hP hD hS hA hCs hl.1 (c_Mo_odds l D g a2 (xs (x3 + 1).toNatClampNeg) w0 (r_70, w_72) e2_r_70) o_Mo_odds g_1330 (ci := 1) (q0 := 83) rfl rfl (List.range' 83 12) (segC1 rfl rfl) (by decide) rfl (segP1 rfl rfl) rfl rfl (Nat.le_of_ble_eq_true rfl) ⟨rfl, rfl, Nat.le_of_ble_eq_true rfl, Nat.le_of_ble_eq_true rfl⟩ d_law_801 (fun H locs hP hD hS => ?_)
  refine W.lcmp hx hb d_law_804 ?_
  refine lv_if_eq (tgt := 1020) hx hb d_law_805 (by decide) (fun _ => ?_) (fun h9 => absurd (lg_same _) h9)
  exact hend _ _ H locs ls hR2 hP hD hS hl

set_option maxHeartbeats 8000000 in
set_option maxRecDepth 100000 in
theorem lawc_24 {p : Program} {l : Launch} {e : Env} {s : State} {m : MethodId} {below : List Frame} {meth : Method} {c : Code} {D : va_G} {g : Nat → ClassId} {b L : Nat} {xs : Nat → Int32} {a1 a2 : Nat → Nat} {Rl : T_OL → T_Mo → Prop} (C0 : lw_At p s m meth c b L xs) (hK : va_K D classes (TY g) s) (hCs : Cst g (fun q : Nat => s.heap.size ≤ q) s s.heap) (hs_see : S_see Rl) {x3 : Int32} (h_in0 : vp_in x3 L) (h_in1 : vp_in (x3 + 1) L) (h_in2 : vp_in (x3 + 2) L) (h_in3 : vp_in (x3 + 3) L) (h_in4 : vp_in (x3 + 4) L)
    (hend : ∀ (z : T_OL) (w : T_Mo) (H : Heap) (locs : List Loc) (ls : Array Slot), Rl z w → va_P D classes (ws_OL g a1 z ++ ws_Mo g a2 w) H → va_D (fun q : Nat => s.heap.size ≤ q) (ws_OL g a1 z ++ ws_Mo g a2 w) → va_S (fun q : Nat => s.heap.size ≤ q) s.heap H locs → lv_has ls 4 [(0, .ref b), (1, .ref (a1 0)), (2, .ref (a2 0)), (3, .int x3)] → W p l e room_1 s m #[Value.ref b] below meth c H locs 600000 7302250 (lw_Z below #[Value.ref b] s) (F0 m 1020 ls [])) {z0 : T_OL} {w0 : T_Mo} {H : Heap} {locs : List Loc} {ls : Array Slot} (hRl : Rl z0 w0) (hP : va_P D classes (ws_OL g a1 z0 ++ ws_Mo g a2 w0) H) (hD : va_D (fun q : Nat => s.heap.size ≤ q) (ws_OL g a1 z0 ++ ws_Mo g a2 w0)) (hS : va_S (fun q : Nat => s.heap.size ≤ q) s.heap H locs) (hl : lv_has ls 4 [(0, .ref b), (1, .ref (a1 0)), (2, .ref (a2 0)), (3, .int x3)]) :
    W p l e room_1 s m #[Value.ref b] below meth c H locs 600000 7302250 (lw_Z below #[Value.ref b] s) (F0 m 810 ls []) := by
  obtain ⟨hx, hb, hr, hml, hown, hts, hX, hbl, hlocks, hgv⟩ := C0
  have hg : ∀ w ∈ GW, w.before #[Value.ref b] s = true := fun w hw => hts w (List.mem_filter.mp hw).1
  have hA : ∀ q : Nat, s.heap.size ≤ q → (fun q : Nat => s.heap.size ≤ q) q := fun _ h => h
  have hbA : ¬ (fun q : Nat => s.heap.size ≤ q) b := Nat.not_le.mpr hbl
  have hfit : 600000 ≤ room_1.cells ∧ 7302250 ≤ room_1.slots := ⟨Nat.le_of_ble_eq_true rfl, Nat.le_of_ble_eq_true rfl⟩
  refine lv_aload_n hx hb d_law_810 rfl (lv_at hl 1 rfl) ?_
  refine lv_aload_n hx hb d_law_811 rfl (lv_at hl 0 rfl) ?_
  refine lv_iload_n hx hb d_law_812 rfl (lv_at hl 3 rfl) ?_
  refine lv_iconst (v := 1) hx hb d_law_813 (by decide) ?_
  refine lv_iadd hx hb d_law_814 ?_
  refine va_sld hx hb hX hbl hbA hS h_in1 d_law_815 ?_
  refine lv_aload_n hx hb d_law_816 rfl (lv_at hl 0 rfl) ?_
  refine lv_iload_n hx hb d_law_817 rfl (lv_at hl 3 rfl) ?_
  refine lv_iconst (v := 2) hx hb d_law_818 (by decide) ?_
  refine lv_iadd hx hb d_law_819 ?_
  refine va_sld hx hb hX hbl hbA hS h_in2 d_law_820 ?_
  refine lv_if_eq (tgt := 828) hx hb d_law_821 (by decide) (fun h_73 => ?_) (fun h_73 => ?_)
  · refine lv_iconst (v := 0) hx hb d_law_828 (by decide) ?_
    obtain ⟨r_74, z_75, w_76, e1_r_74, e2_r_74, hR2⟩ := hs_see z0 w0 (xs (x3 + 1).toNatClampNeg) 0 hRl
    refine callWI (ws' := ws_OL g a1 z_75 ++ ws_Mo g a2 w0) (rest := []) (As := [.int (xs (x3 + 1).toNatClampNeg), .int 0]) hfit hx hb hml hown hg hK hP hD hS hA hCs hl.1 (c_OL_see l D g a1 (xs (x3 + 1).toNatClampNeg) 0 z0 (r_74, z_75) e1_r_74) o_OL_see g_914 (ci := 0) (q0 := 0) rfl rfl (List.range' 0 83) (segC1 rfl rfl) (by decide) rfl (segP1 rfl rfl) rfl rfl (Nat.le_of_ble_eq_true rfl) ⟨rfl, rfl, Nat.le_of_ble_eq_true rfl, Nat.le_of_ble_eq_true rfl⟩ d_law_829 (fun H locs hP hD hS => ?_)
    refine lv_aload_n hx hb d_law_832 rfl (lv_at hl 2 rfl) ?_
    refine lv_aload_n hx hb d_law_833 rfl (lv_at hl 0 rfl) ?_
    refine lv_iload_n hx hb d_law_834 rfl (lv_at hl 3 rfl) ?_
    refine lv_iconst (v := 1) hx hb d_law_835 (by decide) ?_
    refine lv_iadd hx hb d_law_836 ?_
    refine va_sld hx hb hX hbl hbA hS h_in1 d_law_837 ?_
    refine lv_aload_n hx hb d_law_838 rfl (lv_at hl 0 rfl) ?_
    refine lv_iload_n hx hb d_law_839 rfl (lv_at hl 3 rfl) ?_
    refine lv_iconst (v := 2) hx hb d_law_840 (by decide) ?_
    refine lv_iadd hx hb d_law_841 ?_
    refine va_sld hx hb hX hbl hbA hS h_in2 d_law_842 ?_
    refine lv_if_eq (tgt := 850) hx hb d_law_843 (by decide) (fun _ => ?_) (fun h9 => absurd h_73 h9)
    refine lv_iconst (v := 0) hx hb d_law_850 (by decide) ?_
    refine callWI (ws' := ws_OL g a1 z_75 ++ ws_Mo g a2 w_76) (rest := [.int r_74]) (As := [.int (xs (x3 + 1).toNatClampNeg), .int 0]) hfit hx hb hml hown hg hK hP hD hS hA hCs hl.1 (c_Mo_see l D g a2 (xs (x3 + 1).toNatClampNeg) 0 w0 (r_74, w_76) e2_r_74) o_Mo_see g_1335 (ci := 1) (q0 := 83) rfl rfl (List.range' 83 12) (segC1 rfl rfl) (by decide) rfl (segP1 rfl rfl) rfl rfl (Nat.le_of_ble_eq_true rfl) ⟨rfl, rfl, Nat.le_of_ble_eq_true rfl, Nat.le_of_ble_eq_true rfl⟩ d_law_851 (fun H locs hP hD hS => ?_)
    refine lv_icmp_eq (tgt := 1020) hx hb d_law_854 (by decide) (fun _ => ?_) (fun h9 => absurd rfl h9)
    exact hend _ _ H locs ls hR2 hP hD hS hl
  · refine lv_iconst (v := 1) hx hb d_law_824 (by decide) ?_
    refine lv_goto (tgt := 829) hx hb d_law_825 (by decide) ?_
    obtain ⟨r_77, z_78, w_79, e1_r_77, e2_r_77, hR2⟩ := hs_see z0 w0 (xs (x3 + 1).toNatClampNeg) 1 hRl
    refine callWI (ws' := ws_OL g a1 z_78 ++ ws_Mo g a2 w0) (rest := []) (As := [.int (xs (x3 + 1).toNatClampNeg), .int 1]) hfit hx hb hml hown hg hK hP hD hS hA hCs hl.1 (c_OL_see l D g a1 (xs (x3 + 1).toNatClampNeg) 1 z0 (r_77, z_78) e1_r_77) o_OL_see g_914 (ci := 0) (q0 := 0) rfl rfl (List.range' 0 83) (segC1 rfl rfl) (by decide) rfl (segP1 rfl rfl) rfl rfl (Nat.le_of_ble_eq_true rfl) ⟨rfl, rfl, Nat.le_of_ble_eq_true rfl, Nat.le_of_ble_eq_true rfl⟩ d_law_829 (fun H locs hP hD hS => ?_)
    refine lv_aload_n hx hb d_law_832 rfl (lv_at hl 2 rfl) ?_
    refine lv_aload_n hx hb d_law_833 rfl (lv_at hl 0 rfl) ?_
    refine lv_iload_n hx hb d_law_834 rfl (lv_at hl 3 rfl) ?_
    refine lv_iconst (v := 1) hx hb d_law_835 (by decide) ?_
    refine lv_iadd hx hb d_law_836 ?_
    refine va_sld hx hb hX hbl hbA hS h_in1 d_law_837 ?_
    refine lv_aload_n hx hb d_law_838 rfl (lv_at hl 0 rfl) ?_
    refine lv_iload_n hx hb d_law_839 rfl (lv_at hl 3 rfl) ?_
    refine lv_iconst (v := 2) hx hb d_law_840 (by decide) ?_
    refine lv_iadd hx hb d_law_841 ?_
    refine va_sld hx hb hX hbl hbA hS h_in2 d_law_842 ?_
    refine lv_if_eq (tgt := 850) hx hb d_law_843 (by decide) (fun h9 => absurd h9 h_73) (fun _ => ?_)
    refine lv_iconst (v := 1) hx hb d_law_846 (by decide) ?_
    refine lv_goto (tgt := 851) hx hb d_law_847 (by decide) ?_
    refine callWI (ws' := ws_OL g a1 z_78 ++ ws_Mo g a2 w_79) (rest := [.int r_77]) (As := [.int (xs (x3 + 1).toNatClampNeg), .int 1]) hfit hx hb hml hown hg hK hP hD hS hA hCs hl.1 (c_Mo_see l D g a2 (xs (x3 + 1).toNatClampNeg) 1 w0 (r_77, w_79) e2_r_77) o_Mo_see g_1335 (ci := 1) (q0 := 83) rfl rfl (List.range' 83 12) (segC1 rfl rfl) (by decide) rfl (segP1 rfl rfl) rfl rfl (Nat.le_of_ble_eq_true rfl) ⟨rfl, rfl, Nat.le_of_ble_eq_true rfl, Nat.le_of_ble_eq_true rfl⟩ d_law_851 (fun H locs hP hD hS => ?_)
    refine lv_icmp_eq (tgt := 1020) hx hb d_law_854 (by decide) (fun _ => ?_) (fun h9 => absurd rfl h9)
    exact hend _ _ H locs ls hR2 hP hD hS hl

set_option maxHeartbeats 8000000 in
set_option maxRecDepth 100000 in
theorem lawc_25 {p : Program} {l : Launch} {e : Env} {s : State} {m : MethodId} {below : List Frame} {meth : Method} {c : Code} {D : va_G} {g : Nat → ClassId} {b L : Nat} {xs : Nat → Int32} {a1 a2 : Nat → Nat} {Rl : T_OL → T_Mo → Prop} (C0 : lw_At p s m meth c b L xs) (hK : va_K D classes (TY g) s) (hCs : Cst g (fun q : Nat => s.heap.size ≤ q) s s.heap) (hs_looked : S_looked Rl) {x3 : Int32} (h_in0 : vp_in x3 L) (h_in1 : vp_in (x3 + 1) L) (h_in2 : vp_in (x3 + 2) L) (h_in3 : vp_in (x3 + 3) L) (h_in4 : vp_in (x3 + 4) L)
    (hend : ∀ (z : T_OL) (w : T_Mo) (H : Heap) (locs : List Loc) (ls : Array Slot), Rl z w → va_P D classes (ws_OL g a1 z ++ ws_Mo g a2 w) H → va_D (fun q : Nat => s.heap.size ≤ q) (ws_OL g a1 z ++ ws_Mo g a2 w) → va_S (fun q : Nat => s.heap.size ≤ q) s.heap H locs → lv_has ls 4 [(0, .ref b), (1, .ref (a1 0)), (2, .ref (a2 0)), (3, .int x3)] → W p l e room_1 s m #[Value.ref b] below meth c H locs 600000 7302250 (lw_Z below #[Value.ref b] s) (F0 m 1020 ls [])) {z0 : T_OL} {w0 : T_Mo} {H : Heap} {locs : List Loc} {ls : Array Slot} (hRl : Rl z0 w0) (hP : va_P D classes (ws_OL g a1 z0 ++ ws_Mo g a2 w0) H) (hD : va_D (fun q : Nat => s.heap.size ≤ q) (ws_OL g a1 z0 ++ ws_Mo g a2 w0)) (hS : va_S (fun q : Nat => s.heap.size ≤ q) s.heap H locs) (hl : lv_has ls 4 [(0, .ref b), (1, .ref (a1 0)), (2, .ref (a2 0)), (3, .int x3)]) :
    W p l e room_1 s m #[Value.ref b] below meth c H locs 600000 7302250 (lw_Z below #[Value.ref b] s) (F0 m 859 ls []) := by
  obtain ⟨hx, hb, hr, hml, hown, hts, hX, hbl, hlocks, hgv⟩ := C0
  have hg : ∀ w ∈ GW, w.before #[Value.ref b] s = true := fun w hw => hts w (List.mem_filter.mp hw).1
  have hA : ∀ q : Nat, s.heap.size ≤ q → (fun q : Nat => s.heap.size ≤ q) q := fun _ h => h
  have hbA : ¬ (fun q : Nat => s.heap.size ≤ q) b := Nat.not_le.mpr hbl
  have hfit : 600000 ≤ room_1.cells ∧ 7302250 ≤ room_1.slots := ⟨Nat.le_of_ble_eq_true rfl, Nat.le_of_ble_eq_true rfl⟩
  refine lv_aload_n hx hb d_law_859 rfl (lv_at hl 1 rfl) ?_
  obtain ⟨r_80, z_81, w_82, e1_r_80, e2_r_80, hR2⟩ := hs_looked z0 w0  hRl
  refine callWI (ws' := ws_OL g a1 z_81 ++ ws_Mo g a2 w0) (rest := []) (As := []) hfit hx hb hml hown hg hK hP hD hS hA hCs hl.1 (c_OL_looked l D g a1  z0 (r_80, z_81) e1_r_80) o_OL_looked g_918 (ci := 0) (q0 := 0) rfl rfl (List.range' 0 83) (segC1 rfl rfl) (by decide) rfl (segP1 rfl rfl) rfl rfl (Nat.le_of_ble_eq_true rfl) ⟨rfl, rfl, Nat.le_of_ble_eq_true rfl, Nat.le_of_ble_eq_true rfl⟩ d_law_860 (fun H locs hP hD hS => ?_)
  refine lv_aload_n hx hb d_law_863 rfl (lv_at hl 2 rfl) ?_
  refine callWI (ws' := ws_OL g a1 z_81 ++ ws_Mo g a2 w_82) (rest := [.int r_80]) (As := []) hfit hx hb hml hown hg hK hP hD hS hA hCs hl.1 (c_Mo_looked l D g a2  w0 (r_80, w_82) e2_r_80) o_Mo_looked g_1339 (ci := 1) (q0 := 83) rfl rfl (List.range' 83 12) (segC1 rfl rfl) (by decide) rfl (segP1 rfl rfl) rfl rfl (Nat.le_of_ble_eq_true rfl) ⟨rfl, rfl, Nat.le_of_ble_eq_true rfl, Nat.le_of_ble_eq_true rfl⟩ d_law_864 (fun H locs hP hD hS => ?_)
  refine lv_icmp_eq (tgt := 1020) hx hb d_law_867 (by decide) (fun _ => ?_) (fun h9 => absurd rfl h9)
  exact hend _ _ H locs ls hR2 hP hD hS hl

set_option maxHeartbeats 8000000 in
set_option maxRecDepth 100000 in
theorem lawc_26 {p : Program} {l : Launch} {e : Env} {s : State} {m : MethodId} {below : List Frame} {meth : Method} {c : Code} {D : va_G} {g : Nat → ClassId} {b L : Nat} {xs : Nat → Int32} {a1 a2 : Nat → Nat} {Rl : T_OL → T_Mo → Prop} (C0 : lw_At p s m meth c b L xs) (hK : va_K D classes (TY g) s) (hCs : Cst g (fun q : Nat => s.heap.size ≤ q) s s.heap) (hs_act : S_act Rl) {x3 : Int32} (h_in0 : vp_in x3 L) (h_in1 : vp_in (x3 + 1) L) (h_in2 : vp_in (x3 + 2) L) (h_in3 : vp_in (x3 + 3) L) (h_in4 : vp_in (x3 + 4) L)
    (hend : ∀ (z : T_OL) (w : T_Mo) (H : Heap) (locs : List Loc) (ls : Array Slot), Rl z w → va_P D classes (ws_OL g a1 z ++ ws_Mo g a2 w) H → va_D (fun q : Nat => s.heap.size ≤ q) (ws_OL g a1 z ++ ws_Mo g a2 w) → va_S (fun q : Nat => s.heap.size ≤ q) s.heap H locs → lv_has ls 4 [(0, .ref b), (1, .ref (a1 0)), (2, .ref (a2 0)), (3, .int x3)] → W p l e room_1 s m #[Value.ref b] below meth c H locs 600000 7302250 (lw_Z below #[Value.ref b] s) (F0 m 1020 ls [])) {z0 : T_OL} {w0 : T_Mo} {H : Heap} {locs : List Loc} {ls : Array Slot} (hRl : Rl z0 w0) (hP : va_P D classes (ws_OL g a1 z0 ++ ws_Mo g a2 w0) H) (hD : va_D (fun q : Nat => s.heap.size ≤ q) (ws_OL g a1 z0 ++ ws_Mo g a2 w0)) (hS : va_S (fun q : Nat => s.heap.size ≤ q) s.heap H locs) (hl : lv_has ls 4 [(0, .ref b), (1, .ref (a1 0)), (2, .ref (a2 0)), (3, .int x3)]) :
    W p l e room_1 s m #[Value.ref b] below meth c H locs 600000 7302250 (lw_Z below #[Value.ref b] s) (F0 m 872 ls []) := by
  obtain ⟨hx, hb, hr, hml, hown, hts, hX, hbl, hlocks, hgv⟩ := C0
  have hg : ∀ w ∈ GW, w.before #[Value.ref b] s = true := fun w hw => hts w (List.mem_filter.mp hw).1
  have hA : ∀ q : Nat, s.heap.size ≤ q → (fun q : Nat => s.heap.size ≤ q) q := fun _ h => h
  have hbA : ¬ (fun q : Nat => s.heap.size ≤ q) b := Nat.not_le.mpr hbl
  have hfit : 600000 ≤ room_1.cells ∧ 7302250 ≤ room_1.slots := ⟨Nat.le_of_ble_eq_true rfl, Nat.le_of_ble_eq_true rfl⟩
  refine lv_aload_n hx hb d_law_872 rfl (lv_at hl 1 rfl) ?_
  refine lv_aload_n hx hb d_law_873 rfl (lv_at hl 0 rfl) ?_
  refine lv_iload_n hx hb d_law_874 rfl (lv_at hl 3 rfl) ?_
  refine lv_iconst (v := 1) hx hb d_law_875 (by decide) ?_
  refine lv_iadd hx hb d_law_876 ?_
  refine va_sld hx hb hX hbl hbA hS h_in1 d_law_877 ?_
  refine lv_aload_n hx hb d_law_878 rfl (lv_at hl 0 rfl) ?_
  refine lv_iload_n hx hb d_law_879 rfl (lv_at hl 3 rfl) ?_
  refine lv_iconst (v := 2) hx hb d_law_880 (by decide) ?_
  refine lv_iadd hx hb d_law_881 ?_
  refine va_sld hx hb hX hbl hbA hS h_in2 d_law_882 ?_
  refine lv_aload_n hx hb d_law_883 rfl (lv_at hl 0 rfl) ?_
  refine lv_iload_n hx hb d_law_884 rfl (lv_at hl 3 rfl) ?_
  refine lv_iconst (v := 3) hx hb d_law_885 (by decide) ?_
  refine lv_iadd hx hb d_law_886 ?_
  refine va_sld hx hb hX hbl hbA hS h_in3 d_law_887 ?_
  obtain ⟨r_83, z_84, w_85, e1_r_83, e2_r_83, hR2⟩ := hs_act z0 w0 (xs (x3 + 1).toNatClampNeg) (xs (x3 + 2).toNatClampNeg) (xs (x3 + 3).toNatClampNeg) hRl
  refine callWI (ws' := ws_OL g a1 z_84 ++ ws_Mo g a2 w0) (rest := []) (As := [.int (xs (x3 + 1).toNatClampNeg), .int (xs (x3 + 2).toNatClampNeg), .int (xs (x3 + 3).toNatClampNeg)]) hfit hx hb hml hown hg hK hP hD hS hA hCs hl.1 (c_OL_act l D g a1 (xs (x3 + 1).toNatClampNeg) (xs (x3 + 2).toNatClampNeg) (xs (x3 + 3).toNatClampNeg) z0 (r_83, z_84) e1_r_83) o_OL_act g_922 (ci := 0) (q0 := 0) rfl rfl (List.range' 0 83) (segC1 rfl rfl) (by decide) rfl (segP1 rfl rfl) rfl rfl (Nat.le_of_ble_eq_true rfl) ⟨rfl, rfl, Nat.le_of_ble_eq_true rfl, Nat.le_of_ble_eq_true rfl⟩ d_law_888 (fun H locs hP hD hS => ?_)
  refine lv_aload_n hx hb d_law_891 rfl (lv_at hl 2 rfl) ?_
  refine lv_aload_n hx hb d_law_892 rfl (lv_at hl 0 rfl) ?_
  refine lv_iload_n hx hb d_law_893 rfl (lv_at hl 3 rfl) ?_
  refine lv_iconst (v := 1) hx hb d_law_894 (by decide) ?_
  refine lv_iadd hx hb d_law_895 ?_
  refine va_sld hx hb hX hbl hbA hS h_in1 d_law_896 ?_
  refine lv_aload_n hx hb d_law_897 rfl (lv_at hl 0 rfl) ?_
  refine lv_iload_n hx hb d_law_898 rfl (lv_at hl 3 rfl) ?_
  refine lv_iconst (v := 2) hx hb d_law_899 (by decide) ?_
  refine lv_iadd hx hb d_law_900 ?_
  refine va_sld hx hb hX hbl hbA hS h_in2 d_law_901 ?_
  refine lv_aload_n hx hb d_law_902 rfl (lv_at hl 0 rfl) ?_
  refine lv_iload_n hx hb d_law_903 rfl (lv_at hl 3 rfl) ?_
  refine lv_iconst (v := 3) hx hb d_law_904 (by decide) ?_
  refine lv_iadd hx hb d_law_905 ?_
  refine va_sld hx hb hX hbl hbA hS h_in3 d_law_906 ?_
  refine callWI (ws' := ws_OL g a1 z_84 ++ ws_Mo g a2 w_85) (rest := [.int r_83]) (As := [.int (xs (x3 + 1).toNatClampNeg), .int (xs (x3 + 2).toNatClampNeg), .int (xs (x3 + 3).toNatClampNeg)]) hfit hx hb hml hown hg hK hP hD hS hA hCs hl.1 (c_Mo_act l D g a2 (xs (x3 + 1).toNatClampNeg) (xs (x3 + 2).toNatClampNeg) (xs (x3 + 3).toNatClampNeg) w0 (r_83, w_85) e2_r_83) o_Mo_act g_1343 (ci := 1) (q0 := 83) rfl rfl (List.range' 83 12) (segC1 rfl rfl) (by decide) rfl (segP1 rfl rfl) rfl rfl (Nat.le_of_ble_eq_true rfl) ⟨rfl, rfl, Nat.le_of_ble_eq_true rfl, Nat.le_of_ble_eq_true rfl⟩ d_law_907 (fun H locs hP hD hS => ?_)
  refine lv_icmp_eq (tgt := 1020) hx hb d_law_910 (by decide) (fun _ => ?_) (fun h9 => absurd rfl h9)
  exact hend _ _ H locs ls hR2 hP hD hS hl

set_option maxHeartbeats 8000000 in
set_option maxRecDepth 100000 in
theorem lawc_27 {p : Program} {l : Launch} {e : Env} {s : State} {m : MethodId} {below : List Frame} {meth : Method} {c : Code} {D : va_G} {g : Nat → ClassId} {b L : Nat} {xs : Nat → Int32} {a1 a2 : Nat → Nat} {Rl : T_OL → T_Mo → Prop} (C0 : lw_At p s m meth c b L xs) (hK : va_K D classes (TY g) s) (hCs : Cst g (fun q : Nat => s.heap.size ≤ q) s s.heap) (hs_trace : S_trace Rl) {x3 : Int32} (h_in0 : vp_in x3 L) (h_in1 : vp_in (x3 + 1) L) (h_in2 : vp_in (x3 + 2) L) (h_in3 : vp_in (x3 + 3) L) (h_in4 : vp_in (x3 + 4) L)
    (hend : ∀ (z : T_OL) (w : T_Mo) (H : Heap) (locs : List Loc) (ls : Array Slot), Rl z w → va_P D classes (ws_OL g a1 z ++ ws_Mo g a2 w) H → va_D (fun q : Nat => s.heap.size ≤ q) (ws_OL g a1 z ++ ws_Mo g a2 w) → va_S (fun q : Nat => s.heap.size ≤ q) s.heap H locs → lv_has ls 4 [(0, .ref b), (1, .ref (a1 0)), (2, .ref (a2 0)), (3, .int x3)] → W p l e room_1 s m #[Value.ref b] below meth c H locs 600000 7302250 (lw_Z below #[Value.ref b] s) (F0 m 1020 ls [])) {z0 : T_OL} {w0 : T_Mo} {H : Heap} {locs : List Loc} {ls : Array Slot} (hRl : Rl z0 w0) (hP : va_P D classes (ws_OL g a1 z0 ++ ws_Mo g a2 w0) H) (hD : va_D (fun q : Nat => s.heap.size ≤ q) (ws_OL g a1 z0 ++ ws_Mo g a2 w0)) (hS : va_S (fun q : Nat => s.heap.size ≤ q) s.heap H locs) (hl : lv_has ls 4 [(0, .ref b), (1, .ref (a1 0)), (2, .ref (a2 0)), (3, .int x3)]) :
    W p l e room_1 s m #[Value.ref b] below meth c H locs 600000 7302250 (lw_Z below #[Value.ref b] s) (F0 m 915 ls []) := by
  obtain ⟨hx, hb, hr, hml, hown, hts, hX, hbl, hlocks, hgv⟩ := C0
  have hg : ∀ w ∈ GW, w.before #[Value.ref b] s = true := fun w hw => hts w (List.mem_filter.mp hw).1
  have hA : ∀ q : Nat, s.heap.size ≤ q → (fun q : Nat => s.heap.size ≤ q) q := fun _ h => h
  have hbA : ¬ (fun q : Nat => s.heap.size ≤ q) b := Nat.not_le.mpr hbl
  have hfit : 600000 ≤ room_1.cells ∧ 7302250 ≤ room_1.slots := ⟨Nat.le_of_ble_eq_true rfl, Nat.le_of_ble_eq_true rfl⟩
  refine lv_aload_n hx hb d_law_915 rfl (lv_at hl 1 rfl) ?_
  refine lv_aload_n hx hb d_law_916 rfl (lv_at hl 0 rfl) ?_
  refine lv_iload_n hx hb d_law_917 rfl (lv_at hl 3 rfl) ?_
  refine lv_iconst (v := 1) hx hb d_law_918 (by decide) ?_
  refine lv_iadd hx hb d_law_919 ?_
  refine va_sld hx hb hX hbl hbA hS h_in1 d_law_920 ?_
  obtain ⟨r_86, z_87, w_88, e1_r_86, e2_r_86, hR2, q1_r_86, q2_r_86⟩ := hs_trace z0 w0 (xs (x3 + 1).toNatClampNeg) hRl
  rw [q1_r_86] at hR2
  rw [q2_r_86] at hR2
  refine callWI (ws' := ws_OL g a1 z0 ++ ws_Mo g a2 w0) (rest := []) (As := [.int (xs (x3 + 1).toNatClampNeg)]) hfit hx hb hml hown hg hK hP hD hS hA hCs hl.1 (c_OL_trace l D g a1 (xs (x3 + 1).toNatClampNeg) z0 r_86 e1_r_86) o_OL_trace g_950 (ci := 0) (q0 := 0) rfl rfl (List.range' 0 83) (segC1 rfl rfl) (by decide) rfl (segP1 rfl rfl) rfl rfl (Nat.le_of_ble_eq_true rfl) ⟨rfl, rfl, Nat.le_of_ble_eq_true rfl, Nat.le_of_ble_eq_true rfl⟩ d_law_921 (fun H locs hP hD hS => ?_)
  refine lv_aload_n hx hb d_law_924 rfl (lv_at hl 2 rfl) ?_
  refine lv_aload_n hx hb d_law_925 rfl (lv_at hl 0 rfl) ?_
  refine lv_iload_n hx hb d_law_926 rfl (lv_at hl 3 rfl) ?_
  refine lv_iconst (v := 1) hx hb d_law_927 (by decide) ?_
  refine lv_iadd hx hb d_law_928 ?_
  refine va_sld hx hb hX hbl hbA hS h_in1 d_law_929 ?_
  refine callWI (ws' := ws_OL g a1 z0 ++ ws_Mo g a2 w0) (rest := [.int r_86]) (As := [.int (xs (x3 + 1).toNatClampNeg)]) hfit hx hb hml hown hg hK hP hD hS hA hCs hl.1 (c_Mo_trace l D g a2 (xs (x3 + 1).toNatClampNeg) w0 r_86 e2_r_86) o_Mo_trace g_1378 (ci := 1) (q0 := 83) rfl rfl (List.range' 83 12) (segC1 rfl rfl) (by decide) rfl (segP1 rfl rfl) rfl rfl (Nat.le_of_ble_eq_true rfl) ⟨rfl, rfl, Nat.le_of_ble_eq_true rfl, Nat.le_of_ble_eq_true rfl⟩ d_law_930 (fun H locs hP hD hS => ?_)
  refine lv_icmp_eq (tgt := 1020) hx hb d_law_933 (by decide) (fun _ => ?_) (fun h9 => absurd rfl h9)
  exact hend _ _ H locs ls hR2 hP hD hS hl

set_option maxHeartbeats 8000000 in
set_option maxRecDepth 100000 in
theorem lawc_28 {p : Program} {l : Launch} {e : Env} {s : State} {m : MethodId} {below : List Frame} {meth : Method} {c : Code} {D : va_G} {g : Nat → ClassId} {b L : Nat} {xs : Nat → Int32} {a1 a2 : Nat → Nat} {Rl : T_OL → T_Mo → Prop} (C0 : lw_At p s m meth c b L xs) (hK : va_K D classes (TY g) s) (hCs : Cst g (fun q : Nat => s.heap.size ≤ q) s s.heap) (hs_as : S_as Rl) {x3 : Int32} (h_in0 : vp_in x3 L) (h_in1 : vp_in (x3 + 1) L) (h_in2 : vp_in (x3 + 2) L) (h_in3 : vp_in (x3 + 3) L) (h_in4 : vp_in (x3 + 4) L)
    (hend : ∀ (z : T_OL) (w : T_Mo) (H : Heap) (locs : List Loc) (ls : Array Slot), Rl z w → va_P D classes (ws_OL g a1 z ++ ws_Mo g a2 w) H → va_D (fun q : Nat => s.heap.size ≤ q) (ws_OL g a1 z ++ ws_Mo g a2 w) → va_S (fun q : Nat => s.heap.size ≤ q) s.heap H locs → lv_has ls 4 [(0, .ref b), (1, .ref (a1 0)), (2, .ref (a2 0)), (3, .int x3)] → W p l e room_1 s m #[Value.ref b] below meth c H locs 600000 7302250 (lw_Z below #[Value.ref b] s) (F0 m 1020 ls [])) {z0 : T_OL} {w0 : T_Mo} {H : Heap} {locs : List Loc} {ls : Array Slot} (hRl : Rl z0 w0) (hP : va_P D classes (ws_OL g a1 z0 ++ ws_Mo g a2 w0) H) (hD : va_D (fun q : Nat => s.heap.size ≤ q) (ws_OL g a1 z0 ++ ws_Mo g a2 w0)) (hS : va_S (fun q : Nat => s.heap.size ≤ q) s.heap H locs) (hl : lv_has ls 4 [(0, .ref b), (1, .ref (a1 0)), (2, .ref (a2 0)), (3, .int x3)]) :
    W p l e room_1 s m #[Value.ref b] below meth c H locs 600000 7302250 (lw_Z below #[Value.ref b] s) (F0 m 938 ls []) := by
  obtain ⟨hx, hb, hr, hml, hown, hts, hX, hbl, hlocks, hgv⟩ := C0
  have hg : ∀ w ∈ GW, w.before #[Value.ref b] s = true := fun w hw => hts w (List.mem_filter.mp hw).1
  have hA : ∀ q : Nat, s.heap.size ≤ q → (fun q : Nat => s.heap.size ≤ q) q := fun _ h => h
  have hbA : ¬ (fun q : Nat => s.heap.size ≤ q) b := Nat.not_le.mpr hbl
  have hfit : 600000 ≤ room_1.cells ∧ 7302250 ≤ room_1.slots := ⟨Nat.le_of_ble_eq_true rfl, Nat.le_of_ble_eq_true rfl⟩
  refine lv_aload_n hx hb d_law_938 rfl (lv_at hl 1 rfl) ?_
  refine lv_aload_n hx hb d_law_939 rfl (lv_at hl 0 rfl) ?_
  refine lv_iload_n hx hb d_law_940 rfl (lv_at hl 3 rfl) ?_
  refine lv_iconst (v := 1) hx hb d_law_941 (by decide) ?_
  refine lv_iadd hx hb d_law_942 ?_
  refine va_sld hx hb hX hbl hbA hS h_in1 d_law_943 ?_
  refine lv_aload_n hx hb d_law_944 rfl (lv_at hl 0 rfl) ?_
  refine lv_iload_n hx hb d_law_945 rfl (lv_at hl 3 rfl) ?_
  refine lv_iconst (v := 2) hx hb d_law_946 (by decide) ?_
  refine lv_iadd hx hb d_law_947 ?_
  refine va_sld hx hb hX hbl hbA hS h_in2 d_law_948 ?_
  obtain ⟨r_89, z_90, w_91, e1_r_89, e2_r_89, hR2, q1_r_89, q2_r_89⟩ := hs_as z0 w0 (xs (x3 + 1).toNatClampNeg) (xs (x3 + 2).toNatClampNeg) hRl
  rw [q1_r_89] at hR2
  rw [q2_r_89] at hR2
  refine callWI (ws' := ws_OL g a1 z0 ++ ws_Mo g a2 w0) (rest := []) (As := [.int (xs (x3 + 1).toNatClampNeg), .int (xs (x3 + 2).toNatClampNeg)]) hfit hx hb hml hown hg hK hP hD hS hA hCs hl.1 (c_OL_as l D g a1 (xs (x3 + 1).toNatClampNeg) (xs (x3 + 2).toNatClampNeg) z0 r_89 e1_r_89) o_OL_as g_954 (ci := 0) (q0 := 0) rfl rfl (List.range' 0 83) (segC1 rfl rfl) (by decide) rfl (segP1 rfl rfl) rfl rfl (Nat.le_of_ble_eq_true rfl) ⟨rfl, rfl, Nat.le_of_ble_eq_true rfl, Nat.le_of_ble_eq_true rfl⟩ d_law_949 (fun H locs hP hD hS => ?_)
  refine lv_aload_n hx hb d_law_952 rfl (lv_at hl 2 rfl) ?_
  refine lv_aload_n hx hb d_law_953 rfl (lv_at hl 0 rfl) ?_
  refine lv_iload_n hx hb d_law_954 rfl (lv_at hl 3 rfl) ?_
  refine lv_iconst (v := 1) hx hb d_law_955 (by decide) ?_
  refine lv_iadd hx hb d_law_956 ?_
  refine va_sld hx hb hX hbl hbA hS h_in1 d_law_957 ?_
  refine lv_aload_n hx hb d_law_958 rfl (lv_at hl 0 rfl) ?_
  refine lv_iload_n hx hb d_law_959 rfl (lv_at hl 3 rfl) ?_
  refine lv_iconst (v := 2) hx hb d_law_960 (by decide) ?_
  refine lv_iadd hx hb d_law_961 ?_
  refine va_sld hx hb hX hbl hbA hS h_in2 d_law_962 ?_
  refine callWI (ws' := ws_OL g a1 z0 ++ ws_Mo g a2 w0) (rest := [.int r_89]) (As := [.int (xs (x3 + 1).toNatClampNeg), .int (xs (x3 + 2).toNatClampNeg)]) hfit hx hb hml hown hg hK hP hD hS hA hCs hl.1 (c_Mo_as l D g a2 (xs (x3 + 1).toNatClampNeg) (xs (x3 + 2).toNatClampNeg) w0 r_89 e2_r_89) o_Mo_as g_1382 (ci := 1) (q0 := 83) rfl rfl (List.range' 83 12) (segC1 rfl rfl) (by decide) rfl (segP1 rfl rfl) rfl rfl (Nat.le_of_ble_eq_true rfl) ⟨rfl, rfl, Nat.le_of_ble_eq_true rfl, Nat.le_of_ble_eq_true rfl⟩ d_law_963 (fun H locs hP hD hS => ?_)
  refine lv_icmp_eq (tgt := 1020) hx hb d_law_966 (by decide) (fun _ => ?_) (fun h9 => absurd rfl h9)
  exact hend _ _ H locs ls hR2 hP hD hS hl

set_option maxHeartbeats 8000000 in
set_option maxRecDepth 100000 in
theorem lawc_29 {p : Program} {l : Launch} {e : Env} {s : State} {m : MethodId} {below : List Frame} {meth : Method} {c : Code} {D : va_G} {g : Nat → ClassId} {b L : Nat} {xs : Nat → Int32} {a1 a2 : Nat → Nat} {Rl : T_OL → T_Mo → Prop} (C0 : lw_At p s m meth c b L xs) (hK : va_K D classes (TY g) s) (hCs : Cst g (fun q : Nat => s.heap.size ≤ q) s s.heap) (hs_image : S_image Rl) {x3 : Int32} (h_in0 : vp_in x3 L) (h_in1 : vp_in (x3 + 1) L) (h_in2 : vp_in (x3 + 2) L) (h_in3 : vp_in (x3 + 3) L) (h_in4 : vp_in (x3 + 4) L)
    (hend : ∀ (z : T_OL) (w : T_Mo) (H : Heap) (locs : List Loc) (ls : Array Slot), Rl z w → va_P D classes (ws_OL g a1 z ++ ws_Mo g a2 w) H → va_D (fun q : Nat => s.heap.size ≤ q) (ws_OL g a1 z ++ ws_Mo g a2 w) → va_S (fun q : Nat => s.heap.size ≤ q) s.heap H locs → lv_has ls 4 [(0, .ref b), (1, .ref (a1 0)), (2, .ref (a2 0)), (3, .int x3)] → W p l e room_1 s m #[Value.ref b] below meth c H locs 600000 7302250 (lw_Z below #[Value.ref b] s) (F0 m 1020 ls [])) {z0 : T_OL} {w0 : T_Mo} {H : Heap} {locs : List Loc} {ls : Array Slot} (hRl : Rl z0 w0) (hP : va_P D classes (ws_OL g a1 z0 ++ ws_Mo g a2 w0) H) (hD : va_D (fun q : Nat => s.heap.size ≤ q) (ws_OL g a1 z0 ++ ws_Mo g a2 w0)) (hS : va_S (fun q : Nat => s.heap.size ≤ q) s.heap H locs) (hl : lv_has ls 4 [(0, .ref b), (1, .ref (a1 0)), (2, .ref (a2 0)), (3, .int x3)]) :
    W p l e room_1 s m #[Value.ref b] below meth c H locs 600000 7302250 (lw_Z below #[Value.ref b] s) (F0 m 971 ls []) := by
  obtain ⟨hx, hb, hr, hml, hown, hts, hX, hbl, hlocks, hgv⟩ := C0
  have hg : ∀ w ∈ GW, w.before #[Value.ref b] s = true := fun w hw => hts w (List.mem_filter.mp hw).1
  have hA : ∀ q : Nat, s.heap.size ≤ q → (fun q : Nat => s.heap.size ≤ q) q := fun _ h => h
  have hbA : ¬ (fun q : Nat => s.heap.size ≤ q) b := Nat.not_le.mpr hbl
  have hfit : 600000 ≤ room_1.cells ∧ 7302250 ≤ room_1.slots := ⟨Nat.le_of_ble_eq_true rfl, Nat.le_of_ble_eq_true rfl⟩
  refine lv_aload_n hx hb d_law_971 rfl (lv_at hl 1 rfl) ?_
  obtain ⟨r_92, z_93, w_94, e1_r_92, e2_r_92, hR2⟩ := hs_image z0 w0  hRl
  refine callWI (ws' := ws_OL g a1 z_93 ++ ws_Mo g a2 w0) (rest := []) (As := []) hfit hx hb hml hown hg hK hP hD hS hA hCs hl.1 (c_OL_image l D g a1  z0 (r_92, z_93) e1_r_92) o_OL_image g_959 (ci := 0) (q0 := 0) rfl rfl (List.range' 0 83) (segC1 rfl rfl) (by decide) rfl (segP1 rfl rfl) rfl rfl (Nat.le_of_ble_eq_true rfl) ⟨rfl, rfl, Nat.le_of_ble_eq_true rfl, Nat.le_of_ble_eq_true rfl⟩ d_law_972 (fun H locs hP hD hS => ?_)
  refine lv_aload_n hx hb d_law_975 rfl (lv_at hl 2 rfl) ?_
  refine callWI (ws' := ws_OL g a1 z_93 ++ ws_Mo g a2 w_94) (rest := [.int r_92]) (As := []) hfit hx hb hml hown hg hK hP hD hS hA hCs hl.1 (c_Mo_image l D g a2  w0 (r_92, w_94) e2_r_92) o_Mo_image g_1386 (ci := 1) (q0 := 83) rfl rfl (List.range' 83 12) (segC1 rfl rfl) (by decide) rfl (segP1 rfl rfl) rfl rfl (Nat.le_of_ble_eq_true rfl) ⟨rfl, rfl, Nat.le_of_ble_eq_true rfl, Nat.le_of_ble_eq_true rfl⟩ d_law_976 (fun H locs hP hD hS => ?_)
  refine lv_icmp_eq (tgt := 1020) hx hb d_law_979 (by decide) (fun _ => ?_) (fun h9 => absurd rfl h9)
  exact hend _ _ H locs ls hR2 hP hD hS hl

set_option maxHeartbeats 8000000 in
set_option maxRecDepth 100000 in
theorem lawc_30 {p : Program} {l : Launch} {e : Env} {s : State} {m : MethodId} {below : List Frame} {meth : Method} {c : Code} {D : va_G} {g : Nat → ClassId} {b L : Nat} {xs : Nat → Int32} {a1 a2 : Nat → Nat} {Rl : T_OL → T_Mo → Prop} (C0 : lw_At p s m meth c b L xs) (hK : va_K D classes (TY g) s) (hCs : Cst g (fun q : Nat => s.heap.size ≤ q) s s.heap) (hs_undo : S_undo Rl) {x3 : Int32} (h_in0 : vp_in x3 L) (h_in1 : vp_in (x3 + 1) L) (h_in2 : vp_in (x3 + 2) L) (h_in3 : vp_in (x3 + 3) L) (h_in4 : vp_in (x3 + 4) L)
    (hend : ∀ (z : T_OL) (w : T_Mo) (H : Heap) (locs : List Loc) (ls : Array Slot), Rl z w → va_P D classes (ws_OL g a1 z ++ ws_Mo g a2 w) H → va_D (fun q : Nat => s.heap.size ≤ q) (ws_OL g a1 z ++ ws_Mo g a2 w) → va_S (fun q : Nat => s.heap.size ≤ q) s.heap H locs → lv_has ls 4 [(0, .ref b), (1, .ref (a1 0)), (2, .ref (a2 0)), (3, .int x3)] → W p l e room_1 s m #[Value.ref b] below meth c H locs 600000 7302250 (lw_Z below #[Value.ref b] s) (F0 m 1020 ls [])) {z0 : T_OL} {w0 : T_Mo} {H : Heap} {locs : List Loc} {ls : Array Slot} (hRl : Rl z0 w0) (hP : va_P D classes (ws_OL g a1 z0 ++ ws_Mo g a2 w0) H) (hD : va_D (fun q : Nat => s.heap.size ≤ q) (ws_OL g a1 z0 ++ ws_Mo g a2 w0)) (hS : va_S (fun q : Nat => s.heap.size ≤ q) s.heap H locs) (hl : lv_has ls 4 [(0, .ref b), (1, .ref (a1 0)), (2, .ref (a2 0)), (3, .int x3)]) :
    W p l e room_1 s m #[Value.ref b] below meth c H locs 600000 7302250 (lw_Z below #[Value.ref b] s) (F0 m 984 ls []) := by
  obtain ⟨hx, hb, hr, hml, hown, hts, hX, hbl, hlocks, hgv⟩ := C0
  have hg : ∀ w ∈ GW, w.before #[Value.ref b] s = true := fun w hw => hts w (List.mem_filter.mp hw).1
  have hA : ∀ q : Nat, s.heap.size ≤ q → (fun q : Nat => s.heap.size ≤ q) q := fun _ h => h
  have hbA : ¬ (fun q : Nat => s.heap.size ≤ q) b := Nat.not_le.mpr hbl
  have hfit : 600000 ≤ room_1.cells ∧ 7302250 ≤ room_1.slots := ⟨Nat.le_of_ble_eq_true rfl, Nat.le_of_ble_eq_true rfl⟩
  refine lv_aload_n hx hb d_law_984 rfl (lv_at hl 1 rfl) ?_
  obtain ⟨r_95, z_96, w_97, e1_r_95, e2_r_95, hR2⟩ := hs_undo z0 w0  hRl
  refine callWI (ws' := ws_OL g a1 z_96 ++ ws_Mo g a2 w0) (rest := []) (As := []) hfit hx hb hml hown hg hK hP hD hS hA hCs hl.1 (c_OL_undo l D g a1  z0 (r_95, z_96) e1_r_95) o_OL_undo g_979 (ci := 0) (q0 := 0) rfl rfl (List.range' 0 83) (segC1 rfl rfl) (by decide) rfl (segP1 rfl rfl) rfl rfl (Nat.le_of_ble_eq_true rfl) ⟨rfl, rfl, Nat.le_of_ble_eq_true rfl, Nat.le_of_ble_eq_true rfl⟩ d_law_985 (fun H locs hP hD hS => ?_)
  refine lv_aload_n hx hb d_law_988 rfl (lv_at hl 2 rfl) ?_
  refine callWI (ws' := ws_OL g a1 z_96 ++ ws_Mo g a2 w_97) (rest := [.int r_95]) (As := []) hfit hx hb hml hown hg hK hP hD hS hA hCs hl.1 (c_Mo_undo l D g a2  w0 (r_95, w_97) e2_r_95) o_Mo_undo g_1390 (ci := 1) (q0 := 83) rfl rfl (List.range' 83 12) (segC1 rfl rfl) (by decide) rfl (segP1 rfl rfl) rfl rfl (Nat.le_of_ble_eq_true rfl) ⟨rfl, rfl, Nat.le_of_ble_eq_true rfl, Nat.le_of_ble_eq_true rfl⟩ d_law_989 (fun H locs hP hD hS => ?_)
  refine lv_icmp_eq (tgt := 1020) hx hb d_law_992 (by decide) (fun _ => ?_) (fun h9 => absurd rfl h9)
  exact hend _ _ H locs ls hR2 hP hD hS hl

set_option maxHeartbeats 8000000 in
set_option maxRecDepth 100000 in
theorem lawc_31 {p : Program} {l : Launch} {e : Env} {s : State} {m : MethodId} {below : List Frame} {meth : Method} {c : Code} {D : va_G} {g : Nat → ClassId} {b L : Nat} {xs : Nat → Int32} {a1 a2 : Nat → Nat} {Rl : T_OL → T_Mo → Prop} (C0 : lw_At p s m meth c b L xs) (hK : va_K D classes (TY g) s) (hCs : Cst g (fun q : Nat => s.heap.size ≤ q) s s.heap) (hs_count : S_count Rl) {x3 : Int32} (h_in0 : vp_in x3 L) (h_in1 : vp_in (x3 + 1) L) (h_in2 : vp_in (x3 + 2) L) (h_in3 : vp_in (x3 + 3) L) (h_in4 : vp_in (x3 + 4) L)
    (hend : ∀ (z : T_OL) (w : T_Mo) (H : Heap) (locs : List Loc) (ls : Array Slot), Rl z w → va_P D classes (ws_OL g a1 z ++ ws_Mo g a2 w) H → va_D (fun q : Nat => s.heap.size ≤ q) (ws_OL g a1 z ++ ws_Mo g a2 w) → va_S (fun q : Nat => s.heap.size ≤ q) s.heap H locs → lv_has ls 4 [(0, .ref b), (1, .ref (a1 0)), (2, .ref (a2 0)), (3, .int x3)] → W p l e room_1 s m #[Value.ref b] below meth c H locs 600000 7302250 (lw_Z below #[Value.ref b] s) (F0 m 1020 ls [])) {z0 : T_OL} {w0 : T_Mo} {H : Heap} {locs : List Loc} {ls : Array Slot} (hRl : Rl z0 w0) (hP : va_P D classes (ws_OL g a1 z0 ++ ws_Mo g a2 w0) H) (hD : va_D (fun q : Nat => s.heap.size ≤ q) (ws_OL g a1 z0 ++ ws_Mo g a2 w0)) (hS : va_S (fun q : Nat => s.heap.size ≤ q) s.heap H locs) (hl : lv_has ls 4 [(0, .ref b), (1, .ref (a1 0)), (2, .ref (a2 0)), (3, .int x3)]) :
    W p l e room_1 s m #[Value.ref b] below meth c H locs 600000 7302250 (lw_Z below #[Value.ref b] s) (F0 m 997 ls []) := by
  obtain ⟨hx, hb, hr, hml, hown, hts, hX, hbl, hlocks, hgv⟩ := C0
  have hg : ∀ w ∈ GW, w.before #[Value.ref b] s = true := fun w hw => hts w (List.mem_filter.mp hw).1
  have hA : ∀ q : Nat, s.heap.size ≤ q → (fun q : Nat => s.heap.size ≤ q) q := fun _ h => h
  have hbA : ¬ (fun q : Nat => s.heap.size ≤ q) b := Nat.not_le.mpr hbl
  have hfit : 600000 ≤ room_1.cells ∧ 7302250 ≤ room_1.slots := ⟨Nat.le_of_ble_eq_true rfl, Nat.le_of_ble_eq_true rfl⟩
  refine lv_aload_n hx hb d_law_997 rfl (lv_at hl 1 rfl) ?_
  refine lv_aload_n hx hb d_law_998 rfl (lv_at hl 0 rfl) ?_
  refine lv_iload_n hx hb d_law_999 rfl (lv_at hl 3 rfl) ?_
  refine lv_iconst (v := 1) hx hb d_law_1000 (by decide) ?_
  refine lv_iadd hx hb d_law_1001 ?_
  refine va_sld hx hb hX hbl hbA hS h_in1 d_law_1002 ?_
  obtain ⟨r_98, z_99, w_100, e1_r_98, e2_r_98, hR2, q1_r_98, q2_r_98⟩ := hs_count z0 w0 (xs (x3 + 1).toNatClampNeg) hRl
  rw [q1_r_98] at hR2
  rw [q2_r_98] at hR2
  refine callWI (ws' := ws_OL g a1 z0 ++ ws_Mo g a2 w0) (rest := []) (As := [.int (xs (x3 + 1).toNatClampNeg)]) hfit hx hb hml hown hg hK hP hD hS hA hCs hl.1 (c_OL_count l D g a1 (xs (x3 + 1).toNatClampNeg) z0 r_98 e1_r_98) o_OL_count g_983 (ci := 0) (q0 := 0) rfl rfl (List.range' 0 83) (segC1 rfl rfl) (by decide) rfl (segP1 rfl rfl) rfl rfl (Nat.le_of_ble_eq_true rfl) ⟨rfl, rfl, Nat.le_of_ble_eq_true rfl, Nat.le_of_ble_eq_true rfl⟩ d_law_1003 (fun H locs hP hD hS => ?_)
  refine lv_aload_n hx hb d_law_1006 rfl (lv_at hl 2 rfl) ?_
  refine lv_aload_n hx hb d_law_1007 rfl (lv_at hl 0 rfl) ?_
  refine lv_iload_n hx hb d_law_1008 rfl (lv_at hl 3 rfl) ?_
  refine lv_iconst (v := 1) hx hb d_law_1009 (by decide) ?_
  refine lv_iadd hx hb d_law_1010 ?_
  refine va_sld hx hb hX hbl hbA hS h_in1 d_law_1011 ?_
  refine callWI (ws' := ws_OL g a1 z0 ++ ws_Mo g a2 w0) (rest := [.int r_98]) (As := [.int (xs (x3 + 1).toNatClampNeg)]) hfit hx hb hml hown hg hK hP hD hS hA hCs hl.1 (c_Mo_count l D g a2 (xs (x3 + 1).toNatClampNeg) w0 r_98 e2_r_98) o_Mo_count g_1394 (ci := 1) (q0 := 83) rfl rfl (List.range' 83 12) (segC1 rfl rfl) (by decide) rfl (segP1 rfl rfl) rfl rfl (Nat.le_of_ble_eq_true rfl) ⟨rfl, rfl, Nat.le_of_ble_eq_true rfl, Nat.le_of_ble_eq_true rfl⟩ d_law_1012 (fun H locs hP hD hS => ?_)
  refine lv_icmp_eq (tgt := 1020) hx hb d_law_1015 (by decide) (fun _ => ?_) (fun h9 => absurd rfl h9)
  exact hend _ _ H locs ls hR2 hP hD hS hl
