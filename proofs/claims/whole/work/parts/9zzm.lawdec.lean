/-! the law's bytes -/
theorem dL_law_0 : decode code 0 = .ok (.new 7, 3) := by decide +kernel
theorem dL_law_3 : decode code 3 = .ok (.dup, 1) := by decide +kernel
theorem dL_law_4 : decode code 4 = .ok (.invokespecial 9, 3) := by decide +kernel
theorem dL_law_7 : decode code 7 = .ok (.astore_n 1, 1) := by decide +kernel
theorem dL_law_8 : decode code 8 = .ok (.new 10, 3) := by decide +kernel
theorem dL_law_11 : decode code 11 = .ok (.dup, 1) := by decide +kernel
theorem dL_law_12 : decode code 12 = .ok (.invokespecial 12, 3) := by decide +kernel
theorem dL_law_15 : decode code 15 = .ok (.astore_n 2, 1) := by decide +kernel
theorem dL_law_16 : decode code 16 = .ok (.iconst 0, 1) := by decide +kernel
theorem dL_law_17 : decode code 17 = .ok (.istore_n 3, 1) := by decide +kernel
theorem dL_law_18 : decode code 18 = .ok (.iload_n 3, 1) := by decide +kernel
theorem dL_law_19 : decode code 19 = .ok (.aload_n 0, 1) := by decide +kernel
theorem dL_law_20 : decode code 20 = .ok (.arraylength, 1) := by decide +kernel
theorem dL_law_21 : decode code 21 = .ok (.bipush 6, 2) := by decide +kernel
theorem dL_law_23 : decode code 23 = .ok (.isub, 1) := by decide +kernel
theorem dL_law_24 : decode code 24 = .ok (.if_icmp .gt 1051, 3) := by decide +kernel
theorem dL_law_27 : decode code 27 = .ok (.aload_n 0, 1) := by decide +kernel
theorem dL_law_28 : decode code 28 = .ok (.iload_n 3, 1) := by decide +kernel
theorem dL_law_29 : decode code 29 = .ok (.iaload, 1) := by decide +kernel
theorem dL_law_30 : decode code 30 = .ok (.bipush 63, 2) := by decide +kernel
theorem dL_law_32 : decode code 32 = .ok (.iand, 1) := by decide +kernel
theorem dL_law_33 : decode code 33 = .ok (.tableswitch 1036 0 32 #[147, 210, 233, 246, 269, 292, 335, 368, 401, 434, 467, 510, 543, 566, 589, 612, 645, 668, 701, 724, 747, 770, 793, 816, 849, 872, 895, 908, 931, 964, 977, 1000, 1013], 147) := by decide +kernel
theorem dL_law_180 : decode code 180 = .ok (.aload_n 1, 1) := by decide +kernel
theorem dL_law_181 : decode code 181 = .ok (.aload_n 0, 1) := by decide +kernel
theorem dL_law_182 : decode code 182 = .ok (.iload_n 3, 1) := by decide +kernel
theorem dL_law_183 : decode code 183 = .ok (.iconst 1, 1) := by decide +kernel
theorem dL_law_184 : decode code 184 = .ok (.iadd, 1) := by decide +kernel
theorem dL_law_185 : decode code 185 = .ok (.iaload, 1) := by decide +kernel
theorem dL_law_186 : decode code 186 = .ok (.aload_n 0, 1) := by decide +kernel
theorem dL_law_187 : decode code 187 = .ok (.iload_n 3, 1) := by decide +kernel
theorem dL_law_188 : decode code 188 = .ok (.iconst 2, 1) := by decide +kernel
theorem dL_law_189 : decode code 189 = .ok (.iadd, 1) := by decide +kernel
theorem dL_law_190 : decode code 190 = .ok (.iaload, 1) := by decide +kernel
theorem dL_law_191 : decode code 191 = .ok (.aload_n 0, 1) := by decide +kernel
theorem dL_law_192 : decode code 192 = .ok (.iload_n 3, 1) := by decide +kernel
theorem dL_law_193 : decode code 193 = .ok (.iconst 3, 1) := by decide +kernel
theorem dL_law_194 : decode code 194 = .ok (.iadd, 1) := by decide +kernel
theorem dL_law_195 : decode code 195 = .ok (.iaload, 1) := by decide +kernel
theorem dL_law_196 : decode code 196 = .ok (.aload_n 0, 1) := by decide +kernel
theorem dL_law_197 : decode code 197 = .ok (.iload_n 3, 1) := by decide +kernel
theorem dL_law_198 : decode code 198 = .ok (.iconst 4, 1) := by decide +kernel
theorem dL_law_199 : decode code 199 = .ok (.iadd, 1) := by decide +kernel
theorem dL_law_200 : decode code 200 = .ok (.iaload, 1) := by decide +kernel
theorem dL_law_201 : decode code 201 = .ok (.aload_n 0, 1) := by decide +kernel
theorem dL_law_202 : decode code 202 = .ok (.iload_n 3, 1) := by decide +kernel
theorem dL_law_203 : decode code 203 = .ok (.iconst 5, 1) := by decide +kernel
theorem dL_law_204 : decode code 204 = .ok (.iadd, 1) := by decide +kernel
theorem dL_law_205 : decode code 205 = .ok (.iaload, 1) := by decide +kernel
theorem dL_law_206 : decode code 206 = .ok (.invokevirtual 13, 3) := by decide +kernel
theorem dL_law_209 : decode code 209 = .ok (.aload_n 2, 1) := by decide +kernel
theorem dL_law_210 : decode code 210 = .ok (.aload_n 0, 1) := by decide +kernel
theorem dL_law_211 : decode code 211 = .ok (.iload_n 3, 1) := by decide +kernel
theorem dL_law_212 : decode code 212 = .ok (.iconst 1, 1) := by decide +kernel
theorem dL_law_213 : decode code 213 = .ok (.iadd, 1) := by decide +kernel
theorem dL_law_214 : decode code 214 = .ok (.iaload, 1) := by decide +kernel
theorem dL_law_215 : decode code 215 = .ok (.aload_n 0, 1) := by decide +kernel
theorem dL_law_216 : decode code 216 = .ok (.iload_n 3, 1) := by decide +kernel
theorem dL_law_217 : decode code 217 = .ok (.iconst 2, 1) := by decide +kernel
theorem dL_law_218 : decode code 218 = .ok (.iadd, 1) := by decide +kernel
theorem dL_law_219 : decode code 219 = .ok (.iaload, 1) := by decide +kernel
theorem dL_law_220 : decode code 220 = .ok (.aload_n 0, 1) := by decide +kernel
theorem dL_law_221 : decode code 221 = .ok (.iload_n 3, 1) := by decide +kernel
theorem dL_law_222 : decode code 222 = .ok (.iconst 3, 1) := by decide +kernel
theorem dL_law_223 : decode code 223 = .ok (.iadd, 1) := by decide +kernel
theorem dL_law_224 : decode code 224 = .ok (.iaload, 1) := by decide +kernel
theorem dL_law_225 : decode code 225 = .ok (.aload_n 0, 1) := by decide +kernel
theorem dL_law_226 : decode code 226 = .ok (.iload_n 3, 1) := by decide +kernel
theorem dL_law_227 : decode code 227 = .ok (.iconst 4, 1) := by decide +kernel
theorem dL_law_228 : decode code 228 = .ok (.iadd, 1) := by decide +kernel
theorem dL_law_229 : decode code 229 = .ok (.iaload, 1) := by decide +kernel
theorem dL_law_230 : decode code 230 = .ok (.aload_n 0, 1) := by decide +kernel
theorem dL_law_231 : decode code 231 = .ok (.iload_n 3, 1) := by decide +kernel
theorem dL_law_232 : decode code 232 = .ok (.iconst 5, 1) := by decide +kernel
theorem dL_law_233 : decode code 233 = .ok (.iadd, 1) := by decide +kernel
theorem dL_law_234 : decode code 234 = .ok (.iaload, 1) := by decide +kernel
theorem dL_law_235 : decode code 235 = .ok (.invokevirtual 17, 3) := by decide +kernel
theorem dL_law_238 : decode code 238 = .ok (.if_icmp .eq 831, 3) := by decide +kernel
theorem dL_law_241 : decode code 241 = .ok (.iconst 0, 1) := by decide +kernel
theorem dL_law_242 : decode code 242 = .ok (.ireturn, 1) := by decide +kernel
theorem dL_law_243 : decode code 243 = .ok (.aload_n 1, 1) := by decide +kernel
theorem dL_law_244 : decode code 244 = .ok (.aload_n 0, 1) := by decide +kernel
theorem dL_law_245 : decode code 245 = .ok (.iload_n 3, 1) := by decide +kernel
theorem dL_law_246 : decode code 246 = .ok (.iconst 1, 1) := by decide +kernel
theorem dL_law_247 : decode code 247 = .ok (.iadd, 1) := by decide +kernel
theorem dL_law_248 : decode code 248 = .ok (.iaload, 1) := by decide +kernel
theorem dL_law_249 : decode code 249 = .ok (.invokevirtual 18, 3) := by decide +kernel
theorem dL_law_252 : decode code 252 = .ok (.aload_n 2, 1) := by decide +kernel
theorem dL_law_253 : decode code 253 = .ok (.aload_n 0, 1) := by decide +kernel
theorem dL_law_254 : decode code 254 = .ok (.iload_n 3, 1) := by decide +kernel
theorem dL_law_255 : decode code 255 = .ok (.iconst 1, 1) := by decide +kernel
theorem dL_law_256 : decode code 256 = .ok (.iadd, 1) := by decide +kernel
theorem dL_law_257 : decode code 257 = .ok (.iaload, 1) := by decide +kernel
theorem dL_law_258 : decode code 258 = .ok (.invokevirtual 22, 3) := by decide +kernel
theorem dL_law_261 : decode code 261 = .ok (.if_icmp .eq 808, 3) := by decide +kernel
theorem dL_law_264 : decode code 264 = .ok (.iconst 0, 1) := by decide +kernel
theorem dL_law_265 : decode code 265 = .ok (.ireturn, 1) := by decide +kernel
theorem dL_law_266 : decode code 266 = .ok (.aload_n 1, 1) := by decide +kernel
theorem dL_law_267 : decode code 267 = .ok (.invokevirtual 23, 3) := by decide +kernel
theorem dL_law_270 : decode code 270 = .ok (.aload_n 2, 1) := by decide +kernel
theorem dL_law_271 : decode code 271 = .ok (.invokevirtual 27, 3) := by decide +kernel
theorem dL_law_274 : decode code 274 = .ok (.if_icmp .eq 795, 3) := by decide +kernel
theorem dL_law_277 : decode code 277 = .ok (.iconst 0, 1) := by decide +kernel
theorem dL_law_278 : decode code 278 = .ok (.ireturn, 1) := by decide +kernel
theorem dL_law_279 : decode code 279 = .ok (.aload_n 1, 1) := by decide +kernel
theorem dL_law_280 : decode code 280 = .ok (.aload_n 0, 1) := by decide +kernel
theorem dL_law_281 : decode code 281 = .ok (.iload_n 3, 1) := by decide +kernel
theorem dL_law_282 : decode code 282 = .ok (.iconst 1, 1) := by decide +kernel
theorem dL_law_283 : decode code 283 = .ok (.iadd, 1) := by decide +kernel
theorem dL_law_284 : decode code 284 = .ok (.iaload, 1) := by decide +kernel
theorem dL_law_285 : decode code 285 = .ok (.invokevirtual 28, 3) := by decide +kernel
theorem dL_law_288 : decode code 288 = .ok (.aload_n 2, 1) := by decide +kernel
theorem dL_law_289 : decode code 289 = .ok (.aload_n 0, 1) := by decide +kernel
theorem dL_law_290 : decode code 290 = .ok (.iload_n 3, 1) := by decide +kernel
theorem dL_law_291 : decode code 291 = .ok (.iconst 1, 1) := by decide +kernel
theorem dL_law_292 : decode code 292 = .ok (.iadd, 1) := by decide +kernel
theorem dL_law_293 : decode code 293 = .ok (.iaload, 1) := by decide +kernel
theorem dL_law_294 : decode code 294 = .ok (.invokevirtual 32, 3) := by decide +kernel
theorem dL_law_297 : decode code 297 = .ok (.if_icmp .eq 772, 3) := by decide +kernel
theorem dL_law_300 : decode code 300 = .ok (.iconst 0, 1) := by decide +kernel
theorem dL_law_301 : decode code 301 = .ok (.ireturn, 1) := by decide +kernel
theorem dL_law_302 : decode code 302 = .ok (.aload_n 1, 1) := by decide +kernel
theorem dL_law_303 : decode code 303 = .ok (.aload_n 0, 1) := by decide +kernel
theorem dL_law_304 : decode code 304 = .ok (.iload_n 3, 1) := by decide +kernel
theorem dL_law_305 : decode code 305 = .ok (.iconst 1, 1) := by decide +kernel
theorem dL_law_306 : decode code 306 = .ok (.iadd, 1) := by decide +kernel
theorem dL_law_307 : decode code 307 = .ok (.iaload, 1) := by decide +kernel
theorem dL_law_308 : decode code 308 = .ok (.invokevirtual 33, 3) := by decide +kernel
theorem dL_law_311 : decode code 311 = .ok (.aload_n 2, 1) := by decide +kernel
theorem dL_law_312 : decode code 312 = .ok (.aload_n 0, 1) := by decide +kernel
theorem dL_law_313 : decode code 313 = .ok (.iload_n 3, 1) := by decide +kernel
theorem dL_law_314 : decode code 314 = .ok (.iconst 1, 1) := by decide +kernel
theorem dL_law_315 : decode code 315 = .ok (.iadd, 1) := by decide +kernel
theorem dL_law_316 : decode code 316 = .ok (.iaload, 1) := by decide +kernel
theorem dL_law_317 : decode code 317 = .ok (.invokevirtual 36, 3) := by decide +kernel
theorem dL_law_320 : decode code 320 = .ok (.if_icmp .eq 749, 3) := by decide +kernel
theorem dL_law_323 : decode code 323 = .ok (.iconst 0, 1) := by decide +kernel
theorem dL_law_324 : decode code 324 = .ok (.ireturn, 1) := by decide +kernel
theorem dL_law_325 : decode code 325 = .ok (.aload_n 1, 1) := by decide +kernel
theorem dL_law_326 : decode code 326 = .ok (.aload_n 0, 1) := by decide +kernel
theorem dL_law_327 : decode code 327 = .ok (.iload_n 3, 1) := by decide +kernel
theorem dL_law_328 : decode code 328 = .ok (.iconst 1, 1) := by decide +kernel
theorem dL_law_329 : decode code 329 = .ok (.iadd, 1) := by decide +kernel
theorem dL_law_330 : decode code 330 = .ok (.iaload, 1) := by decide +kernel
theorem dL_law_331 : decode code 331 = .ok (.aload_n 0, 1) := by decide +kernel
theorem dL_law_332 : decode code 332 = .ok (.iload_n 3, 1) := by decide +kernel
theorem dL_law_333 : decode code 333 = .ok (.iconst 2, 1) := by decide +kernel
theorem dL_law_334 : decode code 334 = .ok (.iadd, 1) := by decide +kernel
theorem dL_law_335 : decode code 335 = .ok (.iaload, 1) := by decide +kernel
theorem dL_law_336 : decode code 336 = .ok (.aload_n 0, 1) := by decide +kernel
theorem dL_law_337 : decode code 337 = .ok (.iload_n 3, 1) := by decide +kernel
theorem dL_law_338 : decode code 338 = .ok (.iconst 3, 1) := by decide +kernel
theorem dL_law_339 : decode code 339 = .ok (.iadd, 1) := by decide +kernel
theorem dL_law_340 : decode code 340 = .ok (.iaload, 1) := by decide +kernel
theorem dL_law_341 : decode code 341 = .ok (.invokevirtual 37, 3) := by decide +kernel
theorem dL_law_344 : decode code 344 = .ok (.aload_n 2, 1) := by decide +kernel
theorem dL_law_345 : decode code 345 = .ok (.aload_n 0, 1) := by decide +kernel
theorem dL_law_346 : decode code 346 = .ok (.iload_n 3, 1) := by decide +kernel
theorem dL_law_347 : decode code 347 = .ok (.iconst 1, 1) := by decide +kernel
theorem dL_law_348 : decode code 348 = .ok (.iadd, 1) := by decide +kernel
theorem dL_law_349 : decode code 349 = .ok (.iaload, 1) := by decide +kernel
theorem dL_law_350 : decode code 350 = .ok (.aload_n 0, 1) := by decide +kernel
theorem dL_law_351 : decode code 351 = .ok (.iload_n 3, 1) := by decide +kernel
theorem dL_law_352 : decode code 352 = .ok (.iconst 2, 1) := by decide +kernel
theorem dL_law_353 : decode code 353 = .ok (.iadd, 1) := by decide +kernel
theorem dL_law_354 : decode code 354 = .ok (.iaload, 1) := by decide +kernel
theorem dL_law_355 : decode code 355 = .ok (.aload_n 0, 1) := by decide +kernel
theorem dL_law_356 : decode code 356 = .ok (.iload_n 3, 1) := by decide +kernel
theorem dL_law_357 : decode code 357 = .ok (.iconst 3, 1) := by decide +kernel
theorem dL_law_358 : decode code 358 = .ok (.iadd, 1) := by decide +kernel
theorem dL_law_359 : decode code 359 = .ok (.iaload, 1) := by decide +kernel
theorem dL_law_360 : decode code 360 = .ok (.invokevirtual 41, 3) := by decide +kernel
theorem dL_law_363 : decode code 363 = .ok (.if_icmp .eq 706, 3) := by decide +kernel
theorem dL_law_366 : decode code 366 = .ok (.iconst 0, 1) := by decide +kernel
theorem dL_law_367 : decode code 367 = .ok (.ireturn, 1) := by decide +kernel
theorem dL_law_368 : decode code 368 = .ok (.aload_n 1, 1) := by decide +kernel
theorem dL_law_369 : decode code 369 = .ok (.aload_n 0, 1) := by decide +kernel
theorem dL_law_370 : decode code 370 = .ok (.iload_n 3, 1) := by decide +kernel
theorem dL_law_371 : decode code 371 = .ok (.iconst 1, 1) := by decide +kernel
theorem dL_law_372 : decode code 372 = .ok (.iadd, 1) := by decide +kernel
theorem dL_law_373 : decode code 373 = .ok (.iaload, 1) := by decide +kernel
theorem dL_law_374 : decode code 374 = .ok (.aload_n 0, 1) := by decide +kernel
theorem dL_law_375 : decode code 375 = .ok (.iload_n 3, 1) := by decide +kernel
theorem dL_law_376 : decode code 376 = .ok (.iconst 2, 1) := by decide +kernel
theorem dL_law_377 : decode code 377 = .ok (.iadd, 1) := by decide +kernel
theorem dL_law_378 : decode code 378 = .ok (.iaload, 1) := by decide +kernel
theorem dL_law_379 : decode code 379 = .ok (.invokevirtual 42, 3) := by decide +kernel
theorem dL_law_382 : decode code 382 = .ok (.aload_n 2, 1) := by decide +kernel
theorem dL_law_383 : decode code 383 = .ok (.aload_n 0, 1) := by decide +kernel
theorem dL_law_384 : decode code 384 = .ok (.iload_n 3, 1) := by decide +kernel
theorem dL_law_385 : decode code 385 = .ok (.iconst 1, 1) := by decide +kernel
theorem dL_law_386 : decode code 386 = .ok (.iadd, 1) := by decide +kernel
theorem dL_law_387 : decode code 387 = .ok (.iaload, 1) := by decide +kernel
theorem dL_law_388 : decode code 388 = .ok (.aload_n 0, 1) := by decide +kernel
theorem dL_law_389 : decode code 389 = .ok (.iload_n 3, 1) := by decide +kernel
theorem dL_law_390 : decode code 390 = .ok (.iconst 2, 1) := by decide +kernel
theorem dL_law_391 : decode code 391 = .ok (.iadd, 1) := by decide +kernel
theorem dL_law_392 : decode code 392 = .ok (.iaload, 1) := by decide +kernel
theorem dL_law_393 : decode code 393 = .ok (.invokevirtual 46, 3) := by decide +kernel
theorem dL_law_396 : decode code 396 = .ok (.if_icmp .eq 673, 3) := by decide +kernel
theorem dL_law_399 : decode code 399 = .ok (.iconst 0, 1) := by decide +kernel
theorem dL_law_400 : decode code 400 = .ok (.ireturn, 1) := by decide +kernel
theorem dL_law_401 : decode code 401 = .ok (.aload_n 1, 1) := by decide +kernel
theorem dL_law_402 : decode code 402 = .ok (.aload_n 0, 1) := by decide +kernel
theorem dL_law_403 : decode code 403 = .ok (.iload_n 3, 1) := by decide +kernel
theorem dL_law_404 : decode code 404 = .ok (.iconst 1, 1) := by decide +kernel
theorem dL_law_405 : decode code 405 = .ok (.iadd, 1) := by decide +kernel
theorem dL_law_406 : decode code 406 = .ok (.iaload, 1) := by decide +kernel
theorem dL_law_407 : decode code 407 = .ok (.aload_n 0, 1) := by decide +kernel
theorem dL_law_408 : decode code 408 = .ok (.iload_n 3, 1) := by decide +kernel
theorem dL_law_409 : decode code 409 = .ok (.iconst 2, 1) := by decide +kernel
theorem dL_law_410 : decode code 410 = .ok (.iadd, 1) := by decide +kernel
theorem dL_law_411 : decode code 411 = .ok (.iaload, 1) := by decide +kernel
theorem dL_law_412 : decode code 412 = .ok (.invokevirtual 47, 3) := by decide +kernel
theorem dL_law_415 : decode code 415 = .ok (.aload_n 2, 1) := by decide +kernel
theorem dL_law_416 : decode code 416 = .ok (.aload_n 0, 1) := by decide +kernel
theorem dL_law_417 : decode code 417 = .ok (.iload_n 3, 1) := by decide +kernel
theorem dL_law_418 : decode code 418 = .ok (.iconst 1, 1) := by decide +kernel
theorem dL_law_419 : decode code 419 = .ok (.iadd, 1) := by decide +kernel
theorem dL_law_420 : decode code 420 = .ok (.iaload, 1) := by decide +kernel
theorem dL_law_421 : decode code 421 = .ok (.aload_n 0, 1) := by decide +kernel
theorem dL_law_422 : decode code 422 = .ok (.iload_n 3, 1) := by decide +kernel
theorem dL_law_423 : decode code 423 = .ok (.iconst 2, 1) := by decide +kernel
theorem dL_law_424 : decode code 424 = .ok (.iadd, 1) := by decide +kernel
theorem dL_law_425 : decode code 425 = .ok (.iaload, 1) := by decide +kernel
theorem dL_law_426 : decode code 426 = .ok (.invokevirtual 50, 3) := by decide +kernel
theorem dL_law_429 : decode code 429 = .ok (.if_icmp .eq 640, 3) := by decide +kernel
theorem dL_law_432 : decode code 432 = .ok (.iconst 0, 1) := by decide +kernel
theorem dL_law_433 : decode code 433 = .ok (.ireturn, 1) := by decide +kernel
theorem dL_law_434 : decode code 434 = .ok (.aload_n 1, 1) := by decide +kernel
theorem dL_law_435 : decode code 435 = .ok (.aload_n 0, 1) := by decide +kernel
theorem dL_law_436 : decode code 436 = .ok (.iload_n 3, 1) := by decide +kernel
theorem dL_law_437 : decode code 437 = .ok (.iconst 1, 1) := by decide +kernel
theorem dL_law_438 : decode code 438 = .ok (.iadd, 1) := by decide +kernel
theorem dL_law_439 : decode code 439 = .ok (.iaload, 1) := by decide +kernel
theorem dL_law_440 : decode code 440 = .ok (.aload_n 0, 1) := by decide +kernel
theorem dL_law_441 : decode code 441 = .ok (.iload_n 3, 1) := by decide +kernel
theorem dL_law_442 : decode code 442 = .ok (.iconst 2, 1) := by decide +kernel
theorem dL_law_443 : decode code 443 = .ok (.iadd, 1) := by decide +kernel
theorem dL_law_444 : decode code 444 = .ok (.iaload, 1) := by decide +kernel
theorem dL_law_445 : decode code 445 = .ok (.invokevirtual 51, 3) := by decide +kernel
theorem dL_law_448 : decode code 448 = .ok (.aload_n 2, 1) := by decide +kernel
theorem dL_law_449 : decode code 449 = .ok (.aload_n 0, 1) := by decide +kernel
theorem dL_law_450 : decode code 450 = .ok (.iload_n 3, 1) := by decide +kernel
theorem dL_law_451 : decode code 451 = .ok (.iconst 1, 1) := by decide +kernel
theorem dL_law_452 : decode code 452 = .ok (.iadd, 1) := by decide +kernel
theorem dL_law_453 : decode code 453 = .ok (.iaload, 1) := by decide +kernel
theorem dL_law_454 : decode code 454 = .ok (.aload_n 0, 1) := by decide +kernel
theorem dL_law_455 : decode code 455 = .ok (.iload_n 3, 1) := by decide +kernel
theorem dL_law_456 : decode code 456 = .ok (.iconst 2, 1) := by decide +kernel
theorem dL_law_457 : decode code 457 = .ok (.iadd, 1) := by decide +kernel
theorem dL_law_458 : decode code 458 = .ok (.iaload, 1) := by decide +kernel
theorem dL_law_459 : decode code 459 = .ok (.invokevirtual 54, 3) := by decide +kernel
theorem dL_law_462 : decode code 462 = .ok (.if_icmp .eq 607, 3) := by decide +kernel
theorem dL_law_465 : decode code 465 = .ok (.iconst 0, 1) := by decide +kernel
theorem dL_law_466 : decode code 466 = .ok (.ireturn, 1) := by decide +kernel
theorem dL_law_467 : decode code 467 = .ok (.aload_n 1, 1) := by decide +kernel
theorem dL_law_468 : decode code 468 = .ok (.aload_n 0, 1) := by decide +kernel
theorem dL_law_469 : decode code 469 = .ok (.iload_n 3, 1) := by decide +kernel
theorem dL_law_470 : decode code 470 = .ok (.iconst 1, 1) := by decide +kernel
theorem dL_law_471 : decode code 471 = .ok (.iadd, 1) := by decide +kernel
theorem dL_law_472 : decode code 472 = .ok (.iaload, 1) := by decide +kernel
theorem dL_law_473 : decode code 473 = .ok (.aload_n 0, 1) := by decide +kernel
theorem dL_law_474 : decode code 474 = .ok (.iload_n 3, 1) := by decide +kernel
theorem dL_law_475 : decode code 475 = .ok (.iconst 2, 1) := by decide +kernel
theorem dL_law_476 : decode code 476 = .ok (.iadd, 1) := by decide +kernel
theorem dL_law_477 : decode code 477 = .ok (.iaload, 1) := by decide +kernel
theorem dL_law_478 : decode code 478 = .ok (.invokevirtual 55, 3) := by decide +kernel
theorem dL_law_481 : decode code 481 = .ok (.aload_n 2, 1) := by decide +kernel
theorem dL_law_482 : decode code 482 = .ok (.aload_n 0, 1) := by decide +kernel
theorem dL_law_483 : decode code 483 = .ok (.iload_n 3, 1) := by decide +kernel
theorem dL_law_484 : decode code 484 = .ok (.iconst 1, 1) := by decide +kernel
theorem dL_law_485 : decode code 485 = .ok (.iadd, 1) := by decide +kernel
theorem dL_law_486 : decode code 486 = .ok (.iaload, 1) := by decide +kernel
theorem dL_law_487 : decode code 487 = .ok (.aload_n 0, 1) := by decide +kernel
theorem dL_law_488 : decode code 488 = .ok (.iload_n 3, 1) := by decide +kernel
theorem dL_law_489 : decode code 489 = .ok (.iconst 2, 1) := by decide +kernel
theorem dL_law_490 : decode code 490 = .ok (.iadd, 1) := by decide +kernel
theorem dL_law_491 : decode code 491 = .ok (.iaload, 1) := by decide +kernel
theorem dL_law_492 : decode code 492 = .ok (.invokevirtual 58, 3) := by decide +kernel
theorem dL_law_495 : decode code 495 = .ok (.if_icmp .eq 574, 3) := by decide +kernel
theorem dL_law_498 : decode code 498 = .ok (.iconst 0, 1) := by decide +kernel
theorem dL_law_499 : decode code 499 = .ok (.ireturn, 1) := by decide +kernel
theorem dL_law_500 : decode code 500 = .ok (.aload_n 1, 1) := by decide +kernel
theorem dL_law_501 : decode code 501 = .ok (.aload_n 0, 1) := by decide +kernel
theorem dL_law_502 : decode code 502 = .ok (.iload_n 3, 1) := by decide +kernel
theorem dL_law_503 : decode code 503 = .ok (.iconst 1, 1) := by decide +kernel
theorem dL_law_504 : decode code 504 = .ok (.iadd, 1) := by decide +kernel
theorem dL_law_505 : decode code 505 = .ok (.iaload, 1) := by decide +kernel
theorem dL_law_506 : decode code 506 = .ok (.aload_n 0, 1) := by decide +kernel
theorem dL_law_507 : decode code 507 = .ok (.iload_n 3, 1) := by decide +kernel
theorem dL_law_508 : decode code 508 = .ok (.iconst 2, 1) := by decide +kernel
theorem dL_law_509 : decode code 509 = .ok (.iadd, 1) := by decide +kernel
theorem dL_law_510 : decode code 510 = .ok (.iaload, 1) := by decide +kernel
theorem dL_law_511 : decode code 511 = .ok (.aload_n 0, 1) := by decide +kernel
theorem dL_law_512 : decode code 512 = .ok (.iload_n 3, 1) := by decide +kernel
theorem dL_law_513 : decode code 513 = .ok (.iconst 3, 1) := by decide +kernel
theorem dL_law_514 : decode code 514 = .ok (.iadd, 1) := by decide +kernel
theorem dL_law_515 : decode code 515 = .ok (.iaload, 1) := by decide +kernel
theorem dL_law_516 : decode code 516 = .ok (.invokevirtual 59, 3) := by decide +kernel
theorem dL_law_519 : decode code 519 = .ok (.aload_n 2, 1) := by decide +kernel
theorem dL_law_520 : decode code 520 = .ok (.aload_n 0, 1) := by decide +kernel
theorem dL_law_521 : decode code 521 = .ok (.iload_n 3, 1) := by decide +kernel
theorem dL_law_522 : decode code 522 = .ok (.iconst 1, 1) := by decide +kernel
theorem dL_law_523 : decode code 523 = .ok (.iadd, 1) := by decide +kernel
theorem dL_law_524 : decode code 524 = .ok (.iaload, 1) := by decide +kernel
theorem dL_law_525 : decode code 525 = .ok (.aload_n 0, 1) := by decide +kernel
theorem dL_law_526 : decode code 526 = .ok (.iload_n 3, 1) := by decide +kernel
theorem dL_law_527 : decode code 527 = .ok (.iconst 2, 1) := by decide +kernel
theorem dL_law_528 : decode code 528 = .ok (.iadd, 1) := by decide +kernel
theorem dL_law_529 : decode code 529 = .ok (.iaload, 1) := by decide +kernel
theorem dL_law_530 : decode code 530 = .ok (.aload_n 0, 1) := by decide +kernel
theorem dL_law_531 : decode code 531 = .ok (.iload_n 3, 1) := by decide +kernel
theorem dL_law_532 : decode code 532 = .ok (.iconst 3, 1) := by decide +kernel
theorem dL_law_533 : decode code 533 = .ok (.iadd, 1) := by decide +kernel
theorem dL_law_534 : decode code 534 = .ok (.iaload, 1) := by decide +kernel
theorem dL_law_535 : decode code 535 = .ok (.invokevirtual 62, 3) := by decide +kernel
theorem dL_law_538 : decode code 538 = .ok (.if_icmp .eq 531, 3) := by decide +kernel
theorem dL_law_541 : decode code 541 = .ok (.iconst 0, 1) := by decide +kernel
theorem dL_law_542 : decode code 542 = .ok (.ireturn, 1) := by decide +kernel
theorem dL_law_543 : decode code 543 = .ok (.aload_n 1, 1) := by decide +kernel
theorem dL_law_544 : decode code 544 = .ok (.aload_n 0, 1) := by decide +kernel
theorem dL_law_545 : decode code 545 = .ok (.iload_n 3, 1) := by decide +kernel
theorem dL_law_546 : decode code 546 = .ok (.iconst 1, 1) := by decide +kernel
theorem dL_law_547 : decode code 547 = .ok (.iadd, 1) := by decide +kernel
theorem dL_law_548 : decode code 548 = .ok (.iaload, 1) := by decide +kernel
theorem dL_law_549 : decode code 549 = .ok (.aload_n 0, 1) := by decide +kernel
theorem dL_law_550 : decode code 550 = .ok (.iload_n 3, 1) := by decide +kernel
theorem dL_law_551 : decode code 551 = .ok (.iconst 2, 1) := by decide +kernel
theorem dL_law_552 : decode code 552 = .ok (.iadd, 1) := by decide +kernel
theorem dL_law_553 : decode code 553 = .ok (.iaload, 1) := by decide +kernel
theorem dL_law_554 : decode code 554 = .ok (.invokevirtual 63, 3) := by decide +kernel
theorem dL_law_557 : decode code 557 = .ok (.aload_n 2, 1) := by decide +kernel
theorem dL_law_558 : decode code 558 = .ok (.aload_n 0, 1) := by decide +kernel
theorem dL_law_559 : decode code 559 = .ok (.iload_n 3, 1) := by decide +kernel
theorem dL_law_560 : decode code 560 = .ok (.iconst 1, 1) := by decide +kernel
theorem dL_law_561 : decode code 561 = .ok (.iadd, 1) := by decide +kernel
theorem dL_law_562 : decode code 562 = .ok (.iaload, 1) := by decide +kernel
theorem dL_law_563 : decode code 563 = .ok (.aload_n 0, 1) := by decide +kernel
theorem dL_law_564 : decode code 564 = .ok (.iload_n 3, 1) := by decide +kernel
theorem dL_law_565 : decode code 565 = .ok (.iconst 2, 1) := by decide +kernel
theorem dL_law_566 : decode code 566 = .ok (.iadd, 1) := by decide +kernel
theorem dL_law_567 : decode code 567 = .ok (.iaload, 1) := by decide +kernel
theorem dL_law_568 : decode code 568 = .ok (.invokevirtual 66, 3) := by decide +kernel
theorem dL_law_571 : decode code 571 = .ok (.if_icmp .eq 498, 3) := by decide +kernel
theorem dL_law_574 : decode code 574 = .ok (.iconst 0, 1) := by decide +kernel
theorem dL_law_575 : decode code 575 = .ok (.ireturn, 1) := by decide +kernel
theorem dL_law_576 : decode code 576 = .ok (.aload_n 1, 1) := by decide +kernel
theorem dL_law_577 : decode code 577 = .ok (.aload_n 0, 1) := by decide +kernel
theorem dL_law_578 : decode code 578 = .ok (.iload_n 3, 1) := by decide +kernel
theorem dL_law_579 : decode code 579 = .ok (.iconst 1, 1) := by decide +kernel
theorem dL_law_580 : decode code 580 = .ok (.iadd, 1) := by decide +kernel
theorem dL_law_581 : decode code 581 = .ok (.iaload, 1) := by decide +kernel
theorem dL_law_582 : decode code 582 = .ok (.invokevirtual 67, 3) := by decide +kernel
theorem dL_law_585 : decode code 585 = .ok (.aload_n 2, 1) := by decide +kernel
theorem dL_law_586 : decode code 586 = .ok (.aload_n 0, 1) := by decide +kernel
theorem dL_law_587 : decode code 587 = .ok (.iload_n 3, 1) := by decide +kernel
theorem dL_law_588 : decode code 588 = .ok (.iconst 1, 1) := by decide +kernel
theorem dL_law_589 : decode code 589 = .ok (.iadd, 1) := by decide +kernel
theorem dL_law_590 : decode code 590 = .ok (.iaload, 1) := by decide +kernel
theorem dL_law_591 : decode code 591 = .ok (.invokevirtual 70, 3) := by decide +kernel
theorem dL_law_594 : decode code 594 = .ok (.if_icmp .eq 475, 3) := by decide +kernel
theorem dL_law_597 : decode code 597 = .ok (.iconst 0, 1) := by decide +kernel
theorem dL_law_598 : decode code 598 = .ok (.ireturn, 1) := by decide +kernel
theorem dL_law_599 : decode code 599 = .ok (.aload_n 1, 1) := by decide +kernel
theorem dL_law_600 : decode code 600 = .ok (.aload_n 0, 1) := by decide +kernel
theorem dL_law_601 : decode code 601 = .ok (.iload_n 3, 1) := by decide +kernel
theorem dL_law_602 : decode code 602 = .ok (.iconst 1, 1) := by decide +kernel
theorem dL_law_603 : decode code 603 = .ok (.iadd, 1) := by decide +kernel
theorem dL_law_604 : decode code 604 = .ok (.iaload, 1) := by decide +kernel
theorem dL_law_605 : decode code 605 = .ok (.invokevirtual 71, 3) := by decide +kernel
theorem dL_law_608 : decode code 608 = .ok (.aload_n 2, 1) := by decide +kernel
theorem dL_law_609 : decode code 609 = .ok (.aload_n 0, 1) := by decide +kernel
theorem dL_law_610 : decode code 610 = .ok (.iload_n 3, 1) := by decide +kernel
theorem dL_law_611 : decode code 611 = .ok (.iconst 1, 1) := by decide +kernel
theorem dL_law_612 : decode code 612 = .ok (.iadd, 1) := by decide +kernel
theorem dL_law_613 : decode code 613 = .ok (.iaload, 1) := by decide +kernel
theorem dL_law_614 : decode code 614 = .ok (.invokevirtual 74, 3) := by decide +kernel
theorem dL_law_617 : decode code 617 = .ok (.if_icmp .eq 452, 3) := by decide +kernel
theorem dL_law_620 : decode code 620 = .ok (.iconst 0, 1) := by decide +kernel
theorem dL_law_621 : decode code 621 = .ok (.ireturn, 1) := by decide +kernel
theorem dL_law_622 : decode code 622 = .ok (.aload_n 1, 1) := by decide +kernel
theorem dL_law_623 : decode code 623 = .ok (.aload_n 0, 1) := by decide +kernel
theorem dL_law_624 : decode code 624 = .ok (.iload_n 3, 1) := by decide +kernel
theorem dL_law_625 : decode code 625 = .ok (.iconst 1, 1) := by decide +kernel
theorem dL_law_626 : decode code 626 = .ok (.iadd, 1) := by decide +kernel
theorem dL_law_627 : decode code 627 = .ok (.iaload, 1) := by decide +kernel
theorem dL_law_628 : decode code 628 = .ok (.invokevirtual 75, 3) := by decide +kernel
theorem dL_law_631 : decode code 631 = .ok (.aload_n 2, 1) := by decide +kernel
theorem dL_law_632 : decode code 632 = .ok (.aload_n 0, 1) := by decide +kernel
theorem dL_law_633 : decode code 633 = .ok (.iload_n 3, 1) := by decide +kernel
theorem dL_law_634 : decode code 634 = .ok (.iconst 1, 1) := by decide +kernel
theorem dL_law_635 : decode code 635 = .ok (.iadd, 1) := by decide +kernel
theorem dL_law_636 : decode code 636 = .ok (.iaload, 1) := by decide +kernel
theorem dL_law_637 : decode code 637 = .ok (.invokevirtual 78, 3) := by decide +kernel
theorem dL_law_640 : decode code 640 = .ok (.if_icmp .eq 429, 3) := by decide +kernel
theorem dL_law_643 : decode code 643 = .ok (.iconst 0, 1) := by decide +kernel
theorem dL_law_644 : decode code 644 = .ok (.ireturn, 1) := by decide +kernel
theorem dL_law_645 : decode code 645 = .ok (.aload_n 1, 1) := by decide +kernel
theorem dL_law_646 : decode code 646 = .ok (.aload_n 0, 1) := by decide +kernel
theorem dL_law_647 : decode code 647 = .ok (.iload_n 3, 1) := by decide +kernel
theorem dL_law_648 : decode code 648 = .ok (.iconst 1, 1) := by decide +kernel
theorem dL_law_649 : decode code 649 = .ok (.iadd, 1) := by decide +kernel
theorem dL_law_650 : decode code 650 = .ok (.iaload, 1) := by decide +kernel
theorem dL_law_651 : decode code 651 = .ok (.aload_n 0, 1) := by decide +kernel
theorem dL_law_652 : decode code 652 = .ok (.iload_n 3, 1) := by decide +kernel
theorem dL_law_653 : decode code 653 = .ok (.iconst 2, 1) := by decide +kernel
theorem dL_law_654 : decode code 654 = .ok (.iadd, 1) := by decide +kernel
theorem dL_law_655 : decode code 655 = .ok (.iaload, 1) := by decide +kernel
theorem dL_law_656 : decode code 656 = .ok (.invokevirtual 79, 3) := by decide +kernel
theorem dL_law_659 : decode code 659 = .ok (.aload_n 2, 1) := by decide +kernel
theorem dL_law_660 : decode code 660 = .ok (.aload_n 0, 1) := by decide +kernel
theorem dL_law_661 : decode code 661 = .ok (.iload_n 3, 1) := by decide +kernel
theorem dL_law_662 : decode code 662 = .ok (.iconst 1, 1) := by decide +kernel
theorem dL_law_663 : decode code 663 = .ok (.iadd, 1) := by decide +kernel
theorem dL_law_664 : decode code 664 = .ok (.iaload, 1) := by decide +kernel
theorem dL_law_665 : decode code 665 = .ok (.aload_n 0, 1) := by decide +kernel
theorem dL_law_666 : decode code 666 = .ok (.iload_n 3, 1) := by decide +kernel
theorem dL_law_667 : decode code 667 = .ok (.iconst 2, 1) := by decide +kernel
theorem dL_law_668 : decode code 668 = .ok (.iadd, 1) := by decide +kernel
theorem dL_law_669 : decode code 669 = .ok (.iaload, 1) := by decide +kernel
theorem dL_law_670 : decode code 670 = .ok (.invokevirtual 82, 3) := by decide +kernel
theorem dL_law_673 : decode code 673 = .ok (.if_icmp .eq 396, 3) := by decide +kernel
theorem dL_law_676 : decode code 676 = .ok (.iconst 0, 1) := by decide +kernel
theorem dL_law_677 : decode code 677 = .ok (.ireturn, 1) := by decide +kernel
theorem dL_law_678 : decode code 678 = .ok (.aload_n 1, 1) := by decide +kernel
theorem dL_law_679 : decode code 679 = .ok (.aload_n 0, 1) := by decide +kernel
theorem dL_law_680 : decode code 680 = .ok (.iload_n 3, 1) := by decide +kernel
theorem dL_law_681 : decode code 681 = .ok (.iconst 1, 1) := by decide +kernel
theorem dL_law_682 : decode code 682 = .ok (.iadd, 1) := by decide +kernel
theorem dL_law_683 : decode code 683 = .ok (.iaload, 1) := by decide +kernel
theorem dL_law_684 : decode code 684 = .ok (.invokevirtual 83, 3) := by decide +kernel
theorem dL_law_687 : decode code 687 = .ok (.aload_n 2, 1) := by decide +kernel
theorem dL_law_688 : decode code 688 = .ok (.aload_n 0, 1) := by decide +kernel
theorem dL_law_689 : decode code 689 = .ok (.iload_n 3, 1) := by decide +kernel
theorem dL_law_690 : decode code 690 = .ok (.iconst 1, 1) := by decide +kernel
theorem dL_law_691 : decode code 691 = .ok (.iadd, 1) := by decide +kernel
theorem dL_law_692 : decode code 692 = .ok (.iaload, 1) := by decide +kernel
theorem dL_law_693 : decode code 693 = .ok (.invokevirtual 86, 3) := by decide +kernel
theorem dL_law_696 : decode code 696 = .ok (.if_icmp .eq 373, 3) := by decide +kernel
theorem dL_law_699 : decode code 699 = .ok (.iconst 0, 1) := by decide +kernel
theorem dL_law_700 : decode code 700 = .ok (.ireturn, 1) := by decide +kernel
theorem dL_law_701 : decode code 701 = .ok (.aload_n 1, 1) := by decide +kernel
theorem dL_law_702 : decode code 702 = .ok (.aload_n 0, 1) := by decide +kernel
theorem dL_law_703 : decode code 703 = .ok (.iload_n 3, 1) := by decide +kernel
theorem dL_law_704 : decode code 704 = .ok (.iconst 1, 1) := by decide +kernel
theorem dL_law_705 : decode code 705 = .ok (.iadd, 1) := by decide +kernel
theorem dL_law_706 : decode code 706 = .ok (.iaload, 1) := by decide +kernel
theorem dL_law_707 : decode code 707 = .ok (.aload_n 0, 1) := by decide +kernel
theorem dL_law_708 : decode code 708 = .ok (.iload_n 3, 1) := by decide +kernel
theorem dL_law_709 : decode code 709 = .ok (.iconst 2, 1) := by decide +kernel
theorem dL_law_710 : decode code 710 = .ok (.iadd, 1) := by decide +kernel
theorem dL_law_711 : decode code 711 = .ok (.iaload, 1) := by decide +kernel
theorem dL_law_712 : decode code 712 = .ok (.invokevirtual 87, 3) := by decide +kernel
theorem dL_law_715 : decode code 715 = .ok (.aload_n 2, 1) := by decide +kernel
theorem dL_law_716 : decode code 716 = .ok (.aload_n 0, 1) := by decide +kernel
theorem dL_law_717 : decode code 717 = .ok (.iload_n 3, 1) := by decide +kernel
theorem dL_law_718 : decode code 718 = .ok (.iconst 1, 1) := by decide +kernel
theorem dL_law_719 : decode code 719 = .ok (.iadd, 1) := by decide +kernel
theorem dL_law_720 : decode code 720 = .ok (.iaload, 1) := by decide +kernel
theorem dL_law_721 : decode code 721 = .ok (.aload_n 0, 1) := by decide +kernel
theorem dL_law_722 : decode code 722 = .ok (.iload_n 3, 1) := by decide +kernel
theorem dL_law_723 : decode code 723 = .ok (.iconst 2, 1) := by decide +kernel
theorem dL_law_724 : decode code 724 = .ok (.iadd, 1) := by decide +kernel
theorem dL_law_725 : decode code 725 = .ok (.iaload, 1) := by decide +kernel
theorem dL_law_726 : decode code 726 = .ok (.invokevirtual 90, 3) := by decide +kernel
theorem dL_law_729 : decode code 729 = .ok (.if_icmp .eq 340, 3) := by decide +kernel
theorem dL_law_732 : decode code 732 = .ok (.iconst 0, 1) := by decide +kernel
theorem dL_law_733 : decode code 733 = .ok (.ireturn, 1) := by decide +kernel
theorem dL_law_734 : decode code 734 = .ok (.aload_n 1, 1) := by decide +kernel
theorem dL_law_735 : decode code 735 = .ok (.aload_n 0, 1) := by decide +kernel
theorem dL_law_736 : decode code 736 = .ok (.iload_n 3, 1) := by decide +kernel
theorem dL_law_737 : decode code 737 = .ok (.iconst 1, 1) := by decide +kernel
theorem dL_law_738 : decode code 738 = .ok (.iadd, 1) := by decide +kernel
theorem dL_law_739 : decode code 739 = .ok (.iaload, 1) := by decide +kernel
theorem dL_law_740 : decode code 740 = .ok (.invokevirtual 91, 3) := by decide +kernel
theorem dL_law_743 : decode code 743 = .ok (.aload_n 2, 1) := by decide +kernel
theorem dL_law_744 : decode code 744 = .ok (.aload_n 0, 1) := by decide +kernel
theorem dL_law_745 : decode code 745 = .ok (.iload_n 3, 1) := by decide +kernel
theorem dL_law_746 : decode code 746 = .ok (.iconst 1, 1) := by decide +kernel
theorem dL_law_747 : decode code 747 = .ok (.iadd, 1) := by decide +kernel
theorem dL_law_748 : decode code 748 = .ok (.iaload, 1) := by decide +kernel
theorem dL_law_749 : decode code 749 = .ok (.invokevirtual 94, 3) := by decide +kernel
theorem dL_law_752 : decode code 752 = .ok (.if_icmp .eq 317, 3) := by decide +kernel
theorem dL_law_755 : decode code 755 = .ok (.iconst 0, 1) := by decide +kernel
theorem dL_law_756 : decode code 756 = .ok (.ireturn, 1) := by decide +kernel
theorem dL_law_757 : decode code 757 = .ok (.aload_n 1, 1) := by decide +kernel
theorem dL_law_758 : decode code 758 = .ok (.aload_n 0, 1) := by decide +kernel
theorem dL_law_759 : decode code 759 = .ok (.iload_n 3, 1) := by decide +kernel
theorem dL_law_760 : decode code 760 = .ok (.iconst 1, 1) := by decide +kernel
theorem dL_law_761 : decode code 761 = .ok (.iadd, 1) := by decide +kernel
theorem dL_law_762 : decode code 762 = .ok (.iaload, 1) := by decide +kernel
theorem dL_law_763 : decode code 763 = .ok (.invokevirtual 95, 3) := by decide +kernel
theorem dL_law_766 : decode code 766 = .ok (.aload_n 2, 1) := by decide +kernel
theorem dL_law_767 : decode code 767 = .ok (.aload_n 0, 1) := by decide +kernel
theorem dL_law_768 : decode code 768 = .ok (.iload_n 3, 1) := by decide +kernel
theorem dL_law_769 : decode code 769 = .ok (.iconst 1, 1) := by decide +kernel
theorem dL_law_770 : decode code 770 = .ok (.iadd, 1) := by decide +kernel
theorem dL_law_771 : decode code 771 = .ok (.iaload, 1) := by decide +kernel
theorem dL_law_772 : decode code 772 = .ok (.invokevirtual 98, 3) := by decide +kernel
theorem dL_law_775 : decode code 775 = .ok (.if_icmp .eq 294, 3) := by decide +kernel
theorem dL_law_778 : decode code 778 = .ok (.iconst 0, 1) := by decide +kernel
theorem dL_law_779 : decode code 779 = .ok (.ireturn, 1) := by decide +kernel
theorem dL_law_780 : decode code 780 = .ok (.aload_n 1, 1) := by decide +kernel
theorem dL_law_781 : decode code 781 = .ok (.aload_n 0, 1) := by decide +kernel
theorem dL_law_782 : decode code 782 = .ok (.iload_n 3, 1) := by decide +kernel
theorem dL_law_783 : decode code 783 = .ok (.iconst 1, 1) := by decide +kernel
theorem dL_law_784 : decode code 784 = .ok (.iadd, 1) := by decide +kernel
theorem dL_law_785 : decode code 785 = .ok (.iaload, 1) := by decide +kernel
theorem dL_law_786 : decode code 786 = .ok (.invokevirtual 99, 3) := by decide +kernel
theorem dL_law_789 : decode code 789 = .ok (.aload_n 2, 1) := by decide +kernel
theorem dL_law_790 : decode code 790 = .ok (.aload_n 0, 1) := by decide +kernel
theorem dL_law_791 : decode code 791 = .ok (.iload_n 3, 1) := by decide +kernel
theorem dL_law_792 : decode code 792 = .ok (.iconst 1, 1) := by decide +kernel
theorem dL_law_793 : decode code 793 = .ok (.iadd, 1) := by decide +kernel
theorem dL_law_794 : decode code 794 = .ok (.iaload, 1) := by decide +kernel
theorem dL_law_795 : decode code 795 = .ok (.invokevirtual 102, 3) := by decide +kernel
theorem dL_law_798 : decode code 798 = .ok (.if_icmp .eq 271, 3) := by decide +kernel
theorem dL_law_801 : decode code 801 = .ok (.iconst 0, 1) := by decide +kernel
theorem dL_law_802 : decode code 802 = .ok (.ireturn, 1) := by decide +kernel
theorem dL_law_803 : decode code 803 = .ok (.aload_n 1, 1) := by decide +kernel
theorem dL_law_804 : decode code 804 = .ok (.aload_n 0, 1) := by decide +kernel
theorem dL_law_805 : decode code 805 = .ok (.iload_n 3, 1) := by decide +kernel
theorem dL_law_806 : decode code 806 = .ok (.iconst 1, 1) := by decide +kernel
theorem dL_law_807 : decode code 807 = .ok (.iadd, 1) := by decide +kernel
theorem dL_law_808 : decode code 808 = .ok (.iaload, 1) := by decide +kernel
theorem dL_law_809 : decode code 809 = .ok (.invokevirtual 103, 3) := by decide +kernel
theorem dL_law_812 : decode code 812 = .ok (.aload_n 2, 1) := by decide +kernel
theorem dL_law_813 : decode code 813 = .ok (.aload_n 0, 1) := by decide +kernel
theorem dL_law_814 : decode code 814 = .ok (.iload_n 3, 1) := by decide +kernel
theorem dL_law_815 : decode code 815 = .ok (.iconst 1, 1) := by decide +kernel
theorem dL_law_816 : decode code 816 = .ok (.iadd, 1) := by decide +kernel
theorem dL_law_817 : decode code 817 = .ok (.iaload, 1) := by decide +kernel
theorem dL_law_818 : decode code 818 = .ok (.invokevirtual 106, 3) := by decide +kernel
theorem dL_law_821 : decode code 821 = .ok (.if_icmp .eq 248, 3) := by decide +kernel
theorem dL_law_824 : decode code 824 = .ok (.iconst 0, 1) := by decide +kernel
theorem dL_law_825 : decode code 825 = .ok (.ireturn, 1) := by decide +kernel
theorem dL_law_826 : decode code 826 = .ok (.aload_n 1, 1) := by decide +kernel
theorem dL_law_827 : decode code 827 = .ok (.aload_n 0, 1) := by decide +kernel
theorem dL_law_828 : decode code 828 = .ok (.iload_n 3, 1) := by decide +kernel
theorem dL_law_829 : decode code 829 = .ok (.iconst 1, 1) := by decide +kernel
theorem dL_law_830 : decode code 830 = .ok (.iadd, 1) := by decide +kernel
theorem dL_law_831 : decode code 831 = .ok (.iaload, 1) := by decide +kernel
theorem dL_law_832 : decode code 832 = .ok (.invokevirtual 107, 3) := by decide +kernel
theorem dL_law_835 : decode code 835 = .ok (.aload_n 2, 1) := by decide +kernel
theorem dL_law_836 : decode code 836 = .ok (.aload_n 0, 1) := by decide +kernel
theorem dL_law_837 : decode code 837 = .ok (.iload_n 3, 1) := by decide +kernel
theorem dL_law_838 : decode code 838 = .ok (.iconst 1, 1) := by decide +kernel
theorem dL_law_839 : decode code 839 = .ok (.iadd, 1) := by decide +kernel
theorem dL_law_840 : decode code 840 = .ok (.iaload, 1) := by decide +kernel
theorem dL_law_841 : decode code 841 = .ok (.invokevirtual 110, 3) := by decide +kernel
theorem dL_law_844 : decode code 844 = .ok (.if_icmp .eq 225, 3) := by decide +kernel
theorem dL_law_847 : decode code 847 = .ok (.iconst 0, 1) := by decide +kernel
theorem dL_law_848 : decode code 848 = .ok (.ireturn, 1) := by decide +kernel
theorem dL_law_849 : decode code 849 = .ok (.aload_n 1, 1) := by decide +kernel
theorem dL_law_850 : decode code 850 = .ok (.aload_n 0, 1) := by decide +kernel
theorem dL_law_851 : decode code 851 = .ok (.iload_n 3, 1) := by decide +kernel
theorem dL_law_852 : decode code 852 = .ok (.iconst 1, 1) := by decide +kernel
theorem dL_law_853 : decode code 853 = .ok (.iadd, 1) := by decide +kernel
theorem dL_law_854 : decode code 854 = .ok (.iaload, 1) := by decide +kernel
theorem dL_law_855 : decode code 855 = .ok (.aload_n 0, 1) := by decide +kernel
theorem dL_law_856 : decode code 856 = .ok (.iload_n 3, 1) := by decide +kernel
theorem dL_law_857 : decode code 857 = .ok (.iconst 2, 1) := by decide +kernel
theorem dL_law_858 : decode code 858 = .ok (.iadd, 1) := by decide +kernel
theorem dL_law_859 : decode code 859 = .ok (.iaload, 1) := by decide +kernel
theorem dL_law_860 : decode code 860 = .ok (.invokevirtual 111, 3) := by decide +kernel
theorem dL_law_863 : decode code 863 = .ok (.aload_n 2, 1) := by decide +kernel
theorem dL_law_864 : decode code 864 = .ok (.aload_n 0, 1) := by decide +kernel
theorem dL_law_865 : decode code 865 = .ok (.iload_n 3, 1) := by decide +kernel
theorem dL_law_866 : decode code 866 = .ok (.iconst 1, 1) := by decide +kernel
theorem dL_law_867 : decode code 867 = .ok (.iadd, 1) := by decide +kernel
theorem dL_law_868 : decode code 868 = .ok (.iaload, 1) := by decide +kernel
theorem dL_law_869 : decode code 869 = .ok (.aload_n 0, 1) := by decide +kernel
theorem dL_law_870 : decode code 870 = .ok (.iload_n 3, 1) := by decide +kernel
theorem dL_law_871 : decode code 871 = .ok (.iconst 2, 1) := by decide +kernel
theorem dL_law_872 : decode code 872 = .ok (.iadd, 1) := by decide +kernel
theorem dL_law_873 : decode code 873 = .ok (.iaload, 1) := by decide +kernel
theorem dL_law_874 : decode code 874 = .ok (.invokevirtual 115, 3) := by decide +kernel
theorem dL_law_877 : decode code 877 = .ok (.if_icmp .eq 192, 3) := by decide +kernel
theorem dL_law_880 : decode code 880 = .ok (.iconst 0, 1) := by decide +kernel
theorem dL_law_881 : decode code 881 = .ok (.ireturn, 1) := by decide +kernel
theorem dL_law_882 : decode code 882 = .ok (.aload_n 1, 1) := by decide +kernel
theorem dL_law_883 : decode code 883 = .ok (.aload_n 0, 1) := by decide +kernel
theorem dL_law_884 : decode code 884 = .ok (.iload_n 3, 1) := by decide +kernel
theorem dL_law_885 : decode code 885 = .ok (.iconst 1, 1) := by decide +kernel
theorem dL_law_886 : decode code 886 = .ok (.iadd, 1) := by decide +kernel
theorem dL_law_887 : decode code 887 = .ok (.iaload, 1) := by decide +kernel
theorem dL_law_888 : decode code 888 = .ok (.invokevirtual 116, 3) := by decide +kernel
theorem dL_law_891 : decode code 891 = .ok (.aload_n 2, 1) := by decide +kernel
theorem dL_law_892 : decode code 892 = .ok (.aload_n 0, 1) := by decide +kernel
theorem dL_law_893 : decode code 893 = .ok (.iload_n 3, 1) := by decide +kernel
theorem dL_law_894 : decode code 894 = .ok (.iconst 1, 1) := by decide +kernel
theorem dL_law_895 : decode code 895 = .ok (.iadd, 1) := by decide +kernel
theorem dL_law_896 : decode code 896 = .ok (.iaload, 1) := by decide +kernel
theorem dL_law_897 : decode code 897 = .ok (.invokevirtual 119, 3) := by decide +kernel
theorem dL_law_900 : decode code 900 = .ok (.if_icmp .eq 169, 3) := by decide +kernel
theorem dL_law_903 : decode code 903 = .ok (.iconst 0, 1) := by decide +kernel
theorem dL_law_904 : decode code 904 = .ok (.ireturn, 1) := by decide +kernel
theorem dL_law_905 : decode code 905 = .ok (.aload_n 1, 1) := by decide +kernel
theorem dL_law_906 : decode code 906 = .ok (.aload_n 0, 1) := by decide +kernel
theorem dL_law_907 : decode code 907 = .ok (.iload_n 3, 1) := by decide +kernel
theorem dL_law_908 : decode code 908 = .ok (.iconst 1, 1) := by decide +kernel
theorem dL_law_909 : decode code 909 = .ok (.iadd, 1) := by decide +kernel
theorem dL_law_910 : decode code 910 = .ok (.iaload, 1) := by decide +kernel
theorem dL_law_911 : decode code 911 = .ok (.invokevirtual 120, 3) := by decide +kernel
theorem dL_law_914 : decode code 914 = .ok (.aload_n 2, 1) := by decide +kernel
theorem dL_law_915 : decode code 915 = .ok (.aload_n 0, 1) := by decide +kernel
theorem dL_law_916 : decode code 916 = .ok (.iload_n 3, 1) := by decide +kernel
theorem dL_law_917 : decode code 917 = .ok (.iconst 1, 1) := by decide +kernel
theorem dL_law_918 : decode code 918 = .ok (.iadd, 1) := by decide +kernel
theorem dL_law_919 : decode code 919 = .ok (.iaload, 1) := by decide +kernel
theorem dL_law_920 : decode code 920 = .ok (.invokevirtual 123, 3) := by decide +kernel
theorem dL_law_923 : decode code 923 = .ok (.if_icmp .eq 146, 3) := by decide +kernel
theorem dL_law_926 : decode code 926 = .ok (.iconst 0, 1) := by decide +kernel
theorem dL_law_927 : decode code 927 = .ok (.ireturn, 1) := by decide +kernel
theorem dL_law_928 : decode code 928 = .ok (.aload_n 1, 1) := by decide +kernel
theorem dL_law_929 : decode code 929 = .ok (.invokevirtual 124, 3) := by decide +kernel
theorem dL_law_932 : decode code 932 = .ok (.aload_n 2, 1) := by decide +kernel
theorem dL_law_933 : decode code 933 = .ok (.invokevirtual 128, 3) := by decide +kernel
theorem dL_law_936 : decode code 936 = .ok (.if_icmp .eq 133, 3) := by decide +kernel
theorem dL_law_939 : decode code 939 = .ok (.iconst 0, 1) := by decide +kernel
theorem dL_law_940 : decode code 940 = .ok (.ireturn, 1) := by decide +kernel
theorem dL_law_941 : decode code 941 = .ok (.aload_n 1, 1) := by decide +kernel
theorem dL_law_942 : decode code 942 = .ok (.aload_n 0, 1) := by decide +kernel
theorem dL_law_943 : decode code 943 = .ok (.iload_n 3, 1) := by decide +kernel
theorem dL_law_944 : decode code 944 = .ok (.iconst 1, 1) := by decide +kernel
theorem dL_law_945 : decode code 945 = .ok (.iadd, 1) := by decide +kernel
theorem dL_law_946 : decode code 946 = .ok (.iaload, 1) := by decide +kernel
theorem dL_law_947 : decode code 947 = .ok (.invokevirtual 129, 3) := by decide +kernel
theorem dL_law_950 : decode code 950 = .ok (.aload_n 2, 1) := by decide +kernel
theorem dL_law_951 : decode code 951 = .ok (.aload_n 0, 1) := by decide +kernel
theorem dL_law_952 : decode code 952 = .ok (.iload_n 3, 1) := by decide +kernel
theorem dL_law_953 : decode code 953 = .ok (.iconst 1, 1) := by decide +kernel
theorem dL_law_954 : decode code 954 = .ok (.iadd, 1) := by decide +kernel
theorem dL_law_955 : decode code 955 = .ok (.iaload, 1) := by decide +kernel
theorem dL_law_956 : decode code 956 = .ok (.invokevirtual 132, 3) := by decide +kernel
theorem dL_law_959 : decode code 959 = .ok (.if_icmp .eq 110, 3) := by decide +kernel
theorem dL_law_962 : decode code 962 = .ok (.iconst 0, 1) := by decide +kernel
theorem dL_law_963 : decode code 963 = .ok (.ireturn, 1) := by decide +kernel
theorem dL_law_964 : decode code 964 = .ok (.aload_n 1, 1) := by decide +kernel
theorem dL_law_965 : decode code 965 = .ok (.aload_n 0, 1) := by decide +kernel
theorem dL_law_966 : decode code 966 = .ok (.iload_n 3, 1) := by decide +kernel
theorem dL_law_967 : decode code 967 = .ok (.iconst 1, 1) := by decide +kernel
theorem dL_law_968 : decode code 968 = .ok (.iadd, 1) := by decide +kernel
theorem dL_law_969 : decode code 969 = .ok (.iaload, 1) := by decide +kernel
theorem dL_law_970 : decode code 970 = .ok (.aload_n 0, 1) := by decide +kernel
theorem dL_law_971 : decode code 971 = .ok (.iload_n 3, 1) := by decide +kernel
theorem dL_law_972 : decode code 972 = .ok (.iconst 2, 1) := by decide +kernel
theorem dL_law_973 : decode code 973 = .ok (.iadd, 1) := by decide +kernel
theorem dL_law_974 : decode code 974 = .ok (.iaload, 1) := by decide +kernel
theorem dL_law_975 : decode code 975 = .ok (.invokevirtual 133, 3) := by decide +kernel
theorem dL_law_978 : decode code 978 = .ok (.aload_n 2, 1) := by decide +kernel
theorem dL_law_979 : decode code 979 = .ok (.aload_n 0, 1) := by decide +kernel
theorem dL_law_980 : decode code 980 = .ok (.iload_n 3, 1) := by decide +kernel
theorem dL_law_981 : decode code 981 = .ok (.iconst 1, 1) := by decide +kernel
theorem dL_law_982 : decode code 982 = .ok (.iadd, 1) := by decide +kernel
theorem dL_law_983 : decode code 983 = .ok (.iaload, 1) := by decide +kernel
theorem dL_law_984 : decode code 984 = .ok (.aload_n 0, 1) := by decide +kernel
theorem dL_law_985 : decode code 985 = .ok (.iload_n 3, 1) := by decide +kernel
theorem dL_law_986 : decode code 986 = .ok (.iconst 2, 1) := by decide +kernel
theorem dL_law_987 : decode code 987 = .ok (.iadd, 1) := by decide +kernel
theorem dL_law_988 : decode code 988 = .ok (.iaload, 1) := by decide +kernel
theorem dL_law_989 : decode code 989 = .ok (.invokevirtual 136, 3) := by decide +kernel
theorem dL_law_992 : decode code 992 = .ok (.if_icmp .eq 77, 3) := by decide +kernel
theorem dL_law_995 : decode code 995 = .ok (.iconst 0, 1) := by decide +kernel
theorem dL_law_996 : decode code 996 = .ok (.ireturn, 1) := by decide +kernel
theorem dL_law_997 : decode code 997 = .ok (.aload_n 1, 1) := by decide +kernel
theorem dL_law_998 : decode code 998 = .ok (.invokevirtual 137, 3) := by decide +kernel
theorem dL_law_1001 : decode code 1001 = .ok (.aload_n 2, 1) := by decide +kernel
theorem dL_law_1002 : decode code 1002 = .ok (.invokevirtual 140, 3) := by decide +kernel
theorem dL_law_1005 : decode code 1005 = .ok (.if_icmp .eq 64, 3) := by decide +kernel
theorem dL_law_1008 : decode code 1008 = .ok (.iconst 0, 1) := by decide +kernel
theorem dL_law_1009 : decode code 1009 = .ok (.ireturn, 1) := by decide +kernel
theorem dL_law_1010 : decode code 1010 = .ok (.aload_n 1, 1) := by decide +kernel
theorem dL_law_1011 : decode code 1011 = .ok (.aload_n 0, 1) := by decide +kernel
theorem dL_law_1012 : decode code 1012 = .ok (.iload_n 3, 1) := by decide +kernel
theorem dL_law_1013 : decode code 1013 = .ok (.iconst 1, 1) := by decide +kernel
theorem dL_law_1014 : decode code 1014 = .ok (.iadd, 1) := by decide +kernel
theorem dL_law_1015 : decode code 1015 = .ok (.iaload, 1) := by decide +kernel
theorem dL_law_1016 : decode code 1016 = .ok (.invokevirtual 141, 3) := by decide +kernel
theorem dL_law_1019 : decode code 1019 = .ok (.aload_n 2, 1) := by decide +kernel
theorem dL_law_1020 : decode code 1020 = .ok (.aload_n 0, 1) := by decide +kernel
theorem dL_law_1021 : decode code 1021 = .ok (.iload_n 3, 1) := by decide +kernel
theorem dL_law_1022 : decode code 1022 = .ok (.iconst 1, 1) := by decide +kernel
theorem dL_law_1023 : decode code 1023 = .ok (.iadd, 1) := by decide +kernel
theorem dL_law_1024 : decode code 1024 = .ok (.iaload, 1) := by decide +kernel
theorem dL_law_1025 : decode code 1025 = .ok (.invokevirtual 144, 3) := by decide +kernel
theorem dL_law_1028 : decode code 1028 = .ok (.if_icmp .eq 41, 3) := by decide +kernel
theorem dL_law_1031 : decode code 1031 = .ok (.iconst 0, 1) := by decide +kernel
theorem dL_law_1032 : decode code 1032 = .ok (.ireturn, 1) := by decide +kernel
theorem dL_law_1033 : decode code 1033 = .ok (.aload_n 1, 1) := by decide +kernel
theorem dL_law_1034 : decode code 1034 = .ok (.invokevirtual 145, 3) := by decide +kernel
theorem dL_law_1037 : decode code 1037 = .ok (.aload_n 2, 1) := by decide +kernel
theorem dL_law_1038 : decode code 1038 = .ok (.invokevirtual 148, 3) := by decide +kernel
theorem dL_law_1041 : decode code 1041 = .ok (.if_icmp .eq 28, 3) := by decide +kernel
theorem dL_law_1044 : decode code 1044 = .ok (.iconst 0, 1) := by decide +kernel
theorem dL_law_1045 : decode code 1045 = .ok (.ireturn, 1) := by decide +kernel
theorem dL_law_1046 : decode code 1046 = .ok (.aload_n 1, 1) := by decide +kernel
theorem dL_law_1047 : decode code 1047 = .ok (.aload_n 0, 1) := by decide +kernel
theorem dL_law_1048 : decode code 1048 = .ok (.iload_n 3, 1) := by decide +kernel
theorem dL_law_1049 : decode code 1049 = .ok (.iconst 1, 1) := by decide +kernel
theorem dL_law_1050 : decode code 1050 = .ok (.iadd, 1) := by decide +kernel
theorem dL_law_1051 : decode code 1051 = .ok (.iaload, 1) := by decide +kernel
theorem dL_law_1052 : decode code 1052 = .ok (.invokevirtual 149, 3) := by decide +kernel
theorem dL_law_1055 : decode code 1055 = .ok (.aload_n 2, 1) := by decide +kernel
theorem dL_law_1056 : decode code 1056 = .ok (.aload_n 0, 1) := by decide +kernel
theorem dL_law_1057 : decode code 1057 = .ok (.iload_n 3, 1) := by decide +kernel
theorem dL_law_1058 : decode code 1058 = .ok (.iconst 1, 1) := by decide +kernel
theorem dL_law_1059 : decode code 1059 = .ok (.iadd, 1) := by decide +kernel
theorem dL_law_1060 : decode code 1060 = .ok (.iaload, 1) := by decide +kernel
theorem dL_law_1061 : decode code 1061 = .ok (.invokevirtual 152, 3) := by decide +kernel
theorem dL_law_1064 : decode code 1064 = .ok (.if_icmp .eq 5, 3) := by decide +kernel
theorem dL_law_1067 : decode code 1067 = .ok (.iconst 0, 1) := by decide +kernel
theorem dL_law_1068 : decode code 1068 = .ok (.ireturn, 1) := by decide +kernel
theorem dL_law_1069 : decode code 1069 = .ok (.iinc 3 6, 3) := by decide +kernel
theorem dL_law_1072 : decode code 1072 = .ok (.goto (-1054), 3) := by decide +kernel
theorem dL_law_1075 : decode code 1075 = .ok (.iconst 1, 1) := by decide +kernel
theorem dL_law_1076 : decode code 1076 = .ok (.ireturn, 1) := by decide +kernel
