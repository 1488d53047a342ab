theorem d_L_law_0 : decode cL_law 0 = .ok (.new 7, 3) := by decide +kernel
theorem d_L_law_3 : decode cL_law 3 = .ok (.dup, 1) := by decide +kernel
theorem d_L_law_4 : decode cL_law 4 = .ok (.invokespecial 9, 3) := by decide +kernel
theorem d_L_law_7 : decode cL_law 7 = .ok (.astore_n 1, 1) := by decide +kernel
theorem d_L_law_8 : decode cL_law 8 = .ok (.new 10, 3) := by decide +kernel
theorem d_L_law_11 : decode cL_law 11 = .ok (.dup, 1) := by decide +kernel
theorem d_L_law_12 : decode cL_law 12 = .ok (.invokespecial 12, 3) := by decide +kernel
theorem d_L_law_15 : decode cL_law 15 = .ok (.astore_n 2, 1) := by decide +kernel
theorem d_L_law_16 : decode cL_law 16 = .ok (.iconst 0, 1) := by decide +kernel
theorem d_L_law_17 : decode cL_law 17 = .ok (.istore_n 3, 1) := by decide +kernel
theorem d_L_law_18 : decode cL_law 18 = .ok (.iload_n 3, 1) := by decide +kernel
theorem d_L_law_19 : decode cL_law 19 = .ok (.aload_n 0, 1) := by decide +kernel
theorem d_L_law_20 : decode cL_law 20 = .ok (.arraylength, 1) := by decide +kernel
theorem d_L_law_21 : decode cL_law 21 = .ok (.bipush 6, 2) := by decide +kernel
theorem d_L_law_23 : decode cL_law 23 = .ok (.isub, 1) := by decide +kernel
theorem d_L_law_24 : decode cL_law 24 = .ok (.if_icmp .gt 1357, 3) := by decide +kernel
theorem d_L_law_27 : decode cL_law 27 = .ok (.aload_n 0, 1) := by decide +kernel
theorem d_L_law_28 : decode cL_law 28 = .ok (.iload_n 3, 1) := by decide +kernel
theorem d_L_law_29 : decode cL_law 29 = .ok (.iaload, 1) := by decide +kernel
theorem d_L_law_30 : decode cL_law 30 = .ok (.bipush 63, 2) := by decide +kernel
theorem d_L_law_32 : decode cL_law 32 = .ok (.iand, 1) := by decide +kernel
theorem d_L_law_33 : decode cL_law 33 = .ok (.tableswitch 1342 0 37 #[167, 210, 243, 286, 309, 322, 345, 378, 421, 434, 457, 490, 503, 526, 559, 602, 635, 668, 691, 734, 777, 810, 843, 876, 899, 912, 925, 938, 951, 974, 1017, 1040, 1073, 1116, 1189, 1223, 1286, 1319], 167) := by decide +kernel
theorem d_L_law_200 : decode cL_law 200 = .ok (.aload_n 1, 1) := by decide +kernel
theorem d_L_law_201 : decode cL_law 201 = .ok (.aload_n 0, 1) := by decide +kernel
theorem d_L_law_202 : decode cL_law 202 = .ok (.iload_n 3, 1) := by decide +kernel
theorem d_L_law_203 : decode cL_law 203 = .ok (.iconst 1, 1) := by decide +kernel
theorem d_L_law_204 : decode cL_law 204 = .ok (.iadd, 1) := by decide +kernel
theorem d_L_law_205 : decode cL_law 205 = .ok (.iaload, 1) := by decide +kernel
theorem d_L_law_206 : decode cL_law 206 = .ok (.aload_n 0, 1) := by decide +kernel
theorem d_L_law_207 : decode cL_law 207 = .ok (.iload_n 3, 1) := by decide +kernel
theorem d_L_law_208 : decode cL_law 208 = .ok (.iconst 2, 1) := by decide +kernel
theorem d_L_law_209 : decode cL_law 209 = .ok (.iadd, 1) := by decide +kernel
theorem d_L_law_210 : decode cL_law 210 = .ok (.iaload, 1) := by decide +kernel
theorem d_L_law_211 : decode cL_law 211 = .ok (.aload_n 0, 1) := by decide +kernel
theorem d_L_law_212 : decode cL_law 212 = .ok (.iload_n 3, 1) := by decide +kernel
theorem d_L_law_213 : decode cL_law 213 = .ok (.iconst 3, 1) := by decide +kernel
theorem d_L_law_214 : decode cL_law 214 = .ok (.iadd, 1) := by decide +kernel
theorem d_L_law_215 : decode cL_law 215 = .ok (.iaload, 1) := by decide +kernel
theorem d_L_law_216 : decode cL_law 216 = .ok (.invokevirtual 13, 3) := by decide +kernel
theorem d_L_law_219 : decode cL_law 219 = .ok (.aload_n 2, 1) := by decide +kernel
theorem d_L_law_220 : decode cL_law 220 = .ok (.aload_n 0, 1) := by decide +kernel
theorem d_L_law_221 : decode cL_law 221 = .ok (.iload_n 3, 1) := by decide +kernel
theorem d_L_law_222 : decode cL_law 222 = .ok (.iconst 1, 1) := by decide +kernel
theorem d_L_law_223 : decode cL_law 223 = .ok (.iadd, 1) := by decide +kernel
theorem d_L_law_224 : decode cL_law 224 = .ok (.iaload, 1) := by decide +kernel
theorem d_L_law_225 : decode cL_law 225 = .ok (.aload_n 0, 1) := by decide +kernel
theorem d_L_law_226 : decode cL_law 226 = .ok (.iload_n 3, 1) := by decide +kernel
theorem d_L_law_227 : decode cL_law 227 = .ok (.iconst 2, 1) := by decide +kernel
theorem d_L_law_228 : decode cL_law 228 = .ok (.iadd, 1) := by decide +kernel
theorem d_L_law_229 : decode cL_law 229 = .ok (.iaload, 1) := by decide +kernel
theorem d_L_law_230 : decode cL_law 230 = .ok (.aload_n 0, 1) := by decide +kernel
theorem d_L_law_231 : decode cL_law 231 = .ok (.iload_n 3, 1) := by decide +kernel
theorem d_L_law_232 : decode cL_law 232 = .ok (.iconst 3, 1) := by decide +kernel
theorem d_L_law_233 : decode cL_law 233 = .ok (.iadd, 1) := by decide +kernel
theorem d_L_law_234 : decode cL_law 234 = .ok (.iaload, 1) := by decide +kernel
theorem d_L_law_235 : decode cL_law 235 = .ok (.invokevirtual 17, 3) := by decide +kernel
theorem d_L_law_238 : decode cL_law 238 = .ok (.if_icmp .eq 1137, 3) := by decide +kernel
theorem d_L_law_241 : decode cL_law 241 = .ok (.iconst 0, 1) := by decide +kernel
theorem d_L_law_242 : decode cL_law 242 = .ok (.ireturn, 1) := by decide +kernel
theorem d_L_law_243 : decode cL_law 243 = .ok (.aload_n 1, 1) := by decide +kernel
theorem d_L_law_244 : decode cL_law 244 = .ok (.aload_n 0, 1) := by decide +kernel
theorem d_L_law_245 : decode cL_law 245 = .ok (.iload_n 3, 1) := by decide +kernel
theorem d_L_law_246 : decode cL_law 246 = .ok (.iconst 1, 1) := by decide +kernel
theorem d_L_law_247 : decode cL_law 247 = .ok (.iadd, 1) := by decide +kernel
theorem d_L_law_248 : decode cL_law 248 = .ok (.iaload, 1) := by decide +kernel
theorem d_L_law_249 : decode cL_law 249 = .ok (.aload_n 0, 1) := by decide +kernel
theorem d_L_law_250 : decode cL_law 250 = .ok (.iload_n 3, 1) := by decide +kernel
theorem d_L_law_251 : decode cL_law 251 = .ok (.iconst 2, 1) := by decide +kernel
theorem d_L_law_252 : decode cL_law 252 = .ok (.iadd, 1) := by decide +kernel
theorem d_L_law_253 : decode cL_law 253 = .ok (.iaload, 1) := by decide +kernel
theorem d_L_law_254 : decode cL_law 254 = .ok (.invokevirtual 18, 3) := by decide +kernel
theorem d_L_law_257 : decode cL_law 257 = .ok (.aload_n 2, 1) := by decide +kernel
theorem d_L_law_258 : decode cL_law 258 = .ok (.aload_n 0, 1) := by decide +kernel
theorem d_L_law_259 : decode cL_law 259 = .ok (.iload_n 3, 1) := by decide +kernel
theorem d_L_law_260 : decode cL_law 260 = .ok (.iconst 1, 1) := by decide +kernel
theorem d_L_law_261 : decode cL_law 261 = .ok (.iadd, 1) := by decide +kernel
theorem d_L_law_262 : decode cL_law 262 = .ok (.iaload, 1) := by decide +kernel
theorem d_L_law_263 : decode cL_law 263 = .ok (.aload_n 0, 1) := by decide +kernel
theorem d_L_law_264 : decode cL_law 264 = .ok (.iload_n 3, 1) := by decide +kernel
theorem d_L_law_265 : decode cL_law 265 = .ok (.iconst 2, 1) := by decide +kernel
theorem d_L_law_266 : decode cL_law 266 = .ok (.iadd, 1) := by decide +kernel
theorem d_L_law_267 : decode cL_law 267 = .ok (.iaload, 1) := by decide +kernel
theorem d_L_law_268 : decode cL_law 268 = .ok (.invokevirtual 22, 3) := by decide +kernel
theorem d_L_law_271 : decode cL_law 271 = .ok (.if_icmp .eq 1104, 3) := by decide +kernel
theorem d_L_law_274 : decode cL_law 274 = .ok (.iconst 0, 1) := by decide +kernel
theorem d_L_law_275 : decode cL_law 275 = .ok (.ireturn, 1) := by decide +kernel
theorem d_L_law_276 : decode cL_law 276 = .ok (.aload_n 1, 1) := by decide +kernel
theorem d_L_law_277 : decode cL_law 277 = .ok (.aload_n 0, 1) := by decide +kernel
theorem d_L_law_278 : decode cL_law 278 = .ok (.iload_n 3, 1) := by decide +kernel
theorem d_L_law_279 : decode cL_law 279 = .ok (.iconst 1, 1) := by decide +kernel
theorem d_L_law_280 : decode cL_law 280 = .ok (.iadd, 1) := by decide +kernel
theorem d_L_law_281 : decode cL_law 281 = .ok (.iaload, 1) := by decide +kernel
theorem d_L_law_282 : decode cL_law 282 = .ok (.aload_n 0, 1) := by decide +kernel
theorem d_L_law_283 : decode cL_law 283 = .ok (.iload_n 3, 1) := by decide +kernel
theorem d_L_law_284 : decode cL_law 284 = .ok (.iconst 2, 1) := by decide +kernel
theorem d_L_law_285 : decode cL_law 285 = .ok (.iadd, 1) := by decide +kernel
theorem d_L_law_286 : decode cL_law 286 = .ok (.iaload, 1) := by decide +kernel
theorem d_L_law_287 : decode cL_law 287 = .ok (.aload_n 0, 1) := by decide +kernel
theorem d_L_law_288 : decode cL_law 288 = .ok (.iload_n 3, 1) := by decide +kernel
theorem d_L_law_289 : decode cL_law 289 = .ok (.iconst 3, 1) := by decide +kernel
theorem d_L_law_290 : decode cL_law 290 = .ok (.iadd, 1) := by decide +kernel
theorem d_L_law_291 : decode cL_law 291 = .ok (.iaload, 1) := by decide +kernel
theorem d_L_law_292 : decode cL_law 292 = .ok (.invokevirtual 23, 3) := by decide +kernel
theorem d_L_law_295 : decode cL_law 295 = .ok (.aload_n 2, 1) := by decide +kernel
theorem d_L_law_296 : decode cL_law 296 = .ok (.aload_n 0, 1) := by decide +kernel
theorem d_L_law_297 : decode cL_law 297 = .ok (.iload_n 3, 1) := by decide +kernel
theorem d_L_law_298 : decode cL_law 298 = .ok (.iconst 1, 1) := by decide +kernel
theorem d_L_law_299 : decode cL_law 299 = .ok (.iadd, 1) := by decide +kernel
theorem d_L_law_300 : decode cL_law 300 = .ok (.iaload, 1) := by decide +kernel
theorem d_L_law_301 : decode cL_law 301 = .ok (.aload_n 0, 1) := by decide +kernel
theorem d_L_law_302 : decode cL_law 302 = .ok (.iload_n 3, 1) := by decide +kernel
theorem d_L_law_303 : decode cL_law 303 = .ok (.iconst 2, 1) := by decide +kernel
theorem d_L_law_304 : decode cL_law 304 = .ok (.iadd, 1) := by decide +kernel
theorem d_L_law_305 : decode cL_law 305 = .ok (.iaload, 1) := by decide +kernel
theorem d_L_law_306 : decode cL_law 306 = .ok (.aload_n 0, 1) := by decide +kernel
theorem d_L_law_307 : decode cL_law 307 = .ok (.iload_n 3, 1) := by decide +kernel
theorem d_L_law_308 : decode cL_law 308 = .ok (.iconst 3, 1) := by decide +kernel
theorem d_L_law_309 : decode cL_law 309 = .ok (.iadd, 1) := by decide +kernel
theorem d_L_law_310 : decode cL_law 310 = .ok (.iaload, 1) := by decide +kernel
theorem d_L_law_311 : decode cL_law 311 = .ok (.invokevirtual 26, 3) := by decide +kernel
theorem d_L_law_314 : decode cL_law 314 = .ok (.if_icmp .eq 1061, 3) := by decide +kernel
theorem d_L_law_317 : decode cL_law 317 = .ok (.iconst 0, 1) := by decide +kernel
theorem d_L_law_318 : decode cL_law 318 = .ok (.ireturn, 1) := by decide +kernel
theorem d_L_law_319 : decode cL_law 319 = .ok (.aload_n 1, 1) := by decide +kernel
theorem d_L_law_320 : decode cL_law 320 = .ok (.aload_n 0, 1) := by decide +kernel
theorem d_L_law_321 : decode cL_law 321 = .ok (.iload_n 3, 1) := by decide +kernel
theorem d_L_law_322 : decode cL_law 322 = .ok (.iconst 1, 1) := by decide +kernel
theorem d_L_law_323 : decode cL_law 323 = .ok (.iadd, 1) := by decide +kernel
theorem d_L_law_324 : decode cL_law 324 = .ok (.iaload, 1) := by decide +kernel
theorem d_L_law_325 : decode cL_law 325 = .ok (.invokevirtual 27, 3) := by decide +kernel
theorem d_L_law_328 : decode cL_law 328 = .ok (.aload_n 2, 1) := by decide +kernel
theorem d_L_law_329 : decode cL_law 329 = .ok (.aload_n 0, 1) := by decide +kernel
theorem d_L_law_330 : decode cL_law 330 = .ok (.iload_n 3, 1) := by decide +kernel
theorem d_L_law_331 : decode cL_law 331 = .ok (.iconst 1, 1) := by decide +kernel
theorem d_L_law_332 : decode cL_law 332 = .ok (.iadd, 1) := by decide +kernel
theorem d_L_law_333 : decode cL_law 333 = .ok (.iaload, 1) := by decide +kernel
theorem d_L_law_334 : decode cL_law 334 = .ok (.invokevirtual 31, 3) := by decide +kernel
theorem d_L_law_337 : decode cL_law 337 = .ok (.if_icmp .eq 1038, 3) := by decide +kernel
theorem d_L_law_340 : decode cL_law 340 = .ok (.iconst 0, 1) := by decide +kernel
theorem d_L_law_341 : decode cL_law 341 = .ok (.ireturn, 1) := by decide +kernel
theorem d_L_law_342 : decode cL_law 342 = .ok (.aload_n 1, 1) := by decide +kernel
theorem d_L_law_343 : decode cL_law 343 = .ok (.invokevirtual 32, 3) := by decide +kernel
theorem d_L_law_346 : decode cL_law 346 = .ok (.aload_n 2, 1) := by decide +kernel
theorem d_L_law_347 : decode cL_law 347 = .ok (.invokevirtual 36, 3) := by decide +kernel
theorem d_L_law_350 : decode cL_law 350 = .ok (.if_icmp .eq 1025, 3) := by decide +kernel
theorem d_L_law_353 : decode cL_law 353 = .ok (.iconst 0, 1) := by decide +kernel
theorem d_L_law_354 : decode cL_law 354 = .ok (.ireturn, 1) := by decide +kernel
theorem d_L_law_355 : decode cL_law 355 = .ok (.aload_n 1, 1) := by decide +kernel
theorem d_L_law_356 : decode cL_law 356 = .ok (.aload_n 0, 1) := by decide +kernel
theorem d_L_law_357 : decode cL_law 357 = .ok (.iload_n 3, 1) := by decide +kernel
theorem d_L_law_358 : decode cL_law 358 = .ok (.iconst 1, 1) := by decide +kernel
theorem d_L_law_359 : decode cL_law 359 = .ok (.iadd, 1) := by decide +kernel
theorem d_L_law_360 : decode cL_law 360 = .ok (.iaload, 1) := by decide +kernel
theorem d_L_law_361 : decode cL_law 361 = .ok (.invokevirtual 37, 3) := by decide +kernel
theorem d_L_law_364 : decode cL_law 364 = .ok (.aload_n 2, 1) := by decide +kernel
theorem d_L_law_365 : decode cL_law 365 = .ok (.aload_n 0, 1) := by decide +kernel
theorem d_L_law_366 : decode cL_law 366 = .ok (.iload_n 3, 1) := by decide +kernel
theorem d_L_law_367 : decode cL_law 367 = .ok (.iconst 1, 1) := by decide +kernel
theorem d_L_law_368 : decode cL_law 368 = .ok (.iadd, 1) := by decide +kernel
theorem d_L_law_369 : decode cL_law 369 = .ok (.iaload, 1) := by decide +kernel
theorem d_L_law_370 : decode cL_law 370 = .ok (.invokevirtual 40, 3) := by decide +kernel
theorem d_L_law_373 : decode cL_law 373 = .ok (.if_icmp .eq 1002, 3) := by decide +kernel
theorem d_L_law_376 : decode cL_law 376 = .ok (.iconst 0, 1) := by decide +kernel
theorem d_L_law_377 : decode cL_law 377 = .ok (.ireturn, 1) := by decide +kernel
theorem d_L_law_378 : decode cL_law 378 = .ok (.aload_n 1, 1) := by decide +kernel
theorem d_L_law_379 : decode cL_law 379 = .ok (.aload_n 0, 1) := by decide +kernel
theorem d_L_law_380 : decode cL_law 380 = .ok (.iload_n 3, 1) := by decide +kernel
theorem d_L_law_381 : decode cL_law 381 = .ok (.iconst 1, 1) := by decide +kernel
theorem d_L_law_382 : decode cL_law 382 = .ok (.iadd, 1) := by decide +kernel
theorem d_L_law_383 : decode cL_law 383 = .ok (.iaload, 1) := by decide +kernel
theorem d_L_law_384 : decode cL_law 384 = .ok (.aload_n 0, 1) := by decide +kernel
theorem d_L_law_385 : decode cL_law 385 = .ok (.iload_n 3, 1) := by decide +kernel
theorem d_L_law_386 : decode cL_law 386 = .ok (.iconst 2, 1) := by decide +kernel
theorem d_L_law_387 : decode cL_law 387 = .ok (.iadd, 1) := by decide +kernel
theorem d_L_law_388 : decode cL_law 388 = .ok (.iaload, 1) := by decide +kernel
theorem d_L_law_389 : decode cL_law 389 = .ok (.invokevirtual 41, 3) := by decide +kernel
theorem d_L_law_392 : decode cL_law 392 = .ok (.aload_n 2, 1) := by decide +kernel
theorem d_L_law_393 : decode cL_law 393 = .ok (.aload_n 0, 1) := by decide +kernel
theorem d_L_law_394 : decode cL_law 394 = .ok (.iload_n 3, 1) := by decide +kernel
theorem d_L_law_395 : decode cL_law 395 = .ok (.iconst 1, 1) := by decide +kernel
theorem d_L_law_396 : decode cL_law 396 = .ok (.iadd, 1) := by decide +kernel
theorem d_L_law_397 : decode cL_law 397 = .ok (.iaload, 1) := by decide +kernel
theorem d_L_law_398 : decode cL_law 398 = .ok (.aload_n 0, 1) := by decide +kernel
theorem d_L_law_399 : decode cL_law 399 = .ok (.iload_n 3, 1) := by decide +kernel
theorem d_L_law_400 : decode cL_law 400 = .ok (.iconst 2, 1) := by decide +kernel
theorem d_L_law_401 : decode cL_law 401 = .ok (.iadd, 1) := by decide +kernel
theorem d_L_law_402 : decode cL_law 402 = .ok (.iaload, 1) := by decide +kernel
theorem d_L_law_403 : decode cL_law 403 = .ok (.invokevirtual 44, 3) := by decide +kernel
theorem d_L_law_406 : decode cL_law 406 = .ok (.if_icmp .eq 969, 3) := by decide +kernel
theorem d_L_law_409 : decode cL_law 409 = .ok (.iconst 0, 1) := by decide +kernel
theorem d_L_law_410 : decode cL_law 410 = .ok (.ireturn, 1) := by decide +kernel
theorem d_L_law_411 : decode cL_law 411 = .ok (.aload_n 1, 1) := by decide +kernel
theorem d_L_law_412 : decode cL_law 412 = .ok (.aload_n 0, 1) := by decide +kernel
theorem d_L_law_413 : decode cL_law 413 = .ok (.iload_n 3, 1) := by decide +kernel
theorem d_L_law_414 : decode cL_law 414 = .ok (.iconst 1, 1) := by decide +kernel
theorem d_L_law_415 : decode cL_law 415 = .ok (.iadd, 1) := by decide +kernel
theorem d_L_law_416 : decode cL_law 416 = .ok (.iaload, 1) := by decide +kernel
theorem d_L_law_417 : decode cL_law 417 = .ok (.aload_n 0, 1) := by decide +kernel
theorem d_L_law_418 : decode cL_law 418 = .ok (.iload_n 3, 1) := by decide +kernel
theorem d_L_law_419 : decode cL_law 419 = .ok (.iconst 2, 1) := by decide +kernel
theorem d_L_law_420 : decode cL_law 420 = .ok (.iadd, 1) := by decide +kernel
theorem d_L_law_421 : decode cL_law 421 = .ok (.iaload, 1) := by decide +kernel
theorem d_L_law_422 : decode cL_law 422 = .ok (.aload_n 0, 1) := by decide +kernel
theorem d_L_law_423 : decode cL_law 423 = .ok (.iload_n 3, 1) := by decide +kernel
theorem d_L_law_424 : decode cL_law 424 = .ok (.iconst 3, 1) := by decide +kernel
theorem d_L_law_425 : decode cL_law 425 = .ok (.iadd, 1) := by decide +kernel
theorem d_L_law_426 : decode cL_law 426 = .ok (.iaload, 1) := by decide +kernel
theorem d_L_law_427 : decode cL_law 427 = .ok (.invokevirtual 45, 3) := by decide +kernel
theorem d_L_law_430 : decode cL_law 430 = .ok (.aload_n 2, 1) := by decide +kernel
theorem d_L_law_431 : decode cL_law 431 = .ok (.aload_n 0, 1) := by decide +kernel
theorem d_L_law_432 : decode cL_law 432 = .ok (.iload_n 3, 1) := by decide +kernel
theorem d_L_law_433 : decode cL_law 433 = .ok (.iconst 1, 1) := by decide +kernel
theorem d_L_law_434 : decode cL_law 434 = .ok (.iadd, 1) := by decide +kernel
theorem d_L_law_435 : decode cL_law 435 = .ok (.iaload, 1) := by decide +kernel
theorem d_L_law_436 : decode cL_law 436 = .ok (.aload_n 0, 1) := by decide +kernel
theorem d_L_law_437 : decode cL_law 437 = .ok (.iload_n 3, 1) := by decide +kernel
theorem d_L_law_438 : decode cL_law 438 = .ok (.iconst 2, 1) := by decide +kernel
theorem d_L_law_439 : decode cL_law 439 = .ok (.iadd, 1) := by decide +kernel
theorem d_L_law_440 : decode cL_law 440 = .ok (.iaload, 1) := by decide +kernel
theorem d_L_law_441 : decode cL_law 441 = .ok (.aload_n 0, 1) := by decide +kernel
theorem d_L_law_442 : decode cL_law 442 = .ok (.iload_n 3, 1) := by decide +kernel
theorem d_L_law_443 : decode cL_law 443 = .ok (.iconst 3, 1) := by decide +kernel
theorem d_L_law_444 : decode cL_law 444 = .ok (.iadd, 1) := by decide +kernel
theorem d_L_law_445 : decode cL_law 445 = .ok (.iaload, 1) := by decide +kernel
theorem d_L_law_446 : decode cL_law 446 = .ok (.invokevirtual 48, 3) := by decide +kernel
theorem d_L_law_449 : decode cL_law 449 = .ok (.if_icmp .eq 926, 3) := by decide +kernel
theorem d_L_law_452 : decode cL_law 452 = .ok (.iconst 0, 1) := by decide +kernel
theorem d_L_law_453 : decode cL_law 453 = .ok (.ireturn, 1) := by decide +kernel
theorem d_L_law_454 : decode cL_law 454 = .ok (.aload_n 1, 1) := by decide +kernel
theorem d_L_law_455 : decode cL_law 455 = .ok (.invokevirtual 49, 3) := by decide +kernel
theorem d_L_law_458 : decode cL_law 458 = .ok (.aload_n 2, 1) := by decide +kernel
theorem d_L_law_459 : decode cL_law 459 = .ok (.invokevirtual 52, 3) := by decide +kernel
theorem d_L_law_462 : decode cL_law 462 = .ok (.if_icmp .eq 913, 3) := by decide +kernel
theorem d_L_law_465 : decode cL_law 465 = .ok (.iconst 0, 1) := by decide +kernel
theorem d_L_law_466 : decode cL_law 466 = .ok (.ireturn, 1) := by decide +kernel
theorem d_L_law_467 : decode cL_law 467 = .ok (.aload_n 1, 1) := by decide +kernel
theorem d_L_law_468 : decode cL_law 468 = .ok (.aload_n 0, 1) := by decide +kernel
theorem d_L_law_469 : decode cL_law 469 = .ok (.iload_n 3, 1) := by decide +kernel
theorem d_L_law_470 : decode cL_law 470 = .ok (.iconst 1, 1) := by decide +kernel
theorem d_L_law_471 : decode cL_law 471 = .ok (.iadd, 1) := by decide +kernel
theorem d_L_law_472 : decode cL_law 472 = .ok (.iaload, 1) := by decide +kernel
theorem d_L_law_473 : decode cL_law 473 = .ok (.invokevirtual 53, 3) := by decide +kernel
theorem d_L_law_476 : decode cL_law 476 = .ok (.aload_n 2, 1) := by decide +kernel
theorem d_L_law_477 : decode cL_law 477 = .ok (.aload_n 0, 1) := by decide +kernel
theorem d_L_law_478 : decode cL_law 478 = .ok (.iload_n 3, 1) := by decide +kernel
theorem d_L_law_479 : decode cL_law 479 = .ok (.iconst 1, 1) := by decide +kernel
theorem d_L_law_480 : decode cL_law 480 = .ok (.iadd, 1) := by decide +kernel
theorem d_L_law_481 : decode cL_law 481 = .ok (.iaload, 1) := by decide +kernel
theorem d_L_law_482 : decode cL_law 482 = .ok (.invokevirtual 56, 3) := by decide +kernel
theorem d_L_law_485 : decode cL_law 485 = .ok (.if_icmp .eq 890, 3) := by decide +kernel
theorem d_L_law_488 : decode cL_law 488 = .ok (.iconst 0, 1) := by decide +kernel
theorem d_L_law_489 : decode cL_law 489 = .ok (.ireturn, 1) := by decide +kernel
theorem d_L_law_490 : decode cL_law 490 = .ok (.aload_n 1, 1) := by decide +kernel
theorem d_L_law_491 : decode cL_law 491 = .ok (.aload_n 0, 1) := by decide +kernel
theorem d_L_law_492 : decode cL_law 492 = .ok (.iload_n 3, 1) := by decide +kernel
theorem d_L_law_493 : decode cL_law 493 = .ok (.iconst 1, 1) := by decide +kernel
theorem d_L_law_494 : decode cL_law 494 = .ok (.iadd, 1) := by decide +kernel
theorem d_L_law_495 : decode cL_law 495 = .ok (.iaload, 1) := by decide +kernel
theorem d_L_law_496 : decode cL_law 496 = .ok (.aload_n 0, 1) := by decide +kernel
theorem d_L_law_497 : decode cL_law 497 = .ok (.iload_n 3, 1) := by decide +kernel
theorem d_L_law_498 : decode cL_law 498 = .ok (.iconst 2, 1) := by decide +kernel
theorem d_L_law_499 : decode cL_law 499 = .ok (.iadd, 1) := by decide +kernel
theorem d_L_law_500 : decode cL_law 500 = .ok (.iaload, 1) := by decide +kernel
theorem d_L_law_501 : decode cL_law 501 = .ok (.invokevirtual 57, 3) := by decide +kernel
theorem d_L_law_504 : decode cL_law 504 = .ok (.aload_n 2, 1) := by decide +kernel
theorem d_L_law_505 : decode cL_law 505 = .ok (.aload_n 0, 1) := by decide +kernel
theorem d_L_law_506 : decode cL_law 506 = .ok (.iload_n 3, 1) := by decide +kernel
theorem d_L_law_507 : decode cL_law 507 = .ok (.iconst 1, 1) := by decide +kernel
theorem d_L_law_508 : decode cL_law 508 = .ok (.iadd, 1) := by decide +kernel
theorem d_L_law_509 : decode cL_law 509 = .ok (.iaload, 1) := by decide +kernel
theorem d_L_law_510 : decode cL_law 510 = .ok (.aload_n 0, 1) := by decide +kernel
theorem d_L_law_511 : decode cL_law 511 = .ok (.iload_n 3, 1) := by decide +kernel
theorem d_L_law_512 : decode cL_law 512 = .ok (.iconst 2, 1) := by decide +kernel
theorem d_L_law_513 : decode cL_law 513 = .ok (.iadd, 1) := by decide +kernel
theorem d_L_law_514 : decode cL_law 514 = .ok (.iaload, 1) := by decide +kernel
theorem d_L_law_515 : decode cL_law 515 = .ok (.invokevirtual 60, 3) := by decide +kernel
theorem d_L_law_518 : decode cL_law 518 = .ok (.if_icmp .eq 857, 3) := by decide +kernel
theorem d_L_law_521 : decode cL_law 521 = .ok (.iconst 0, 1) := by decide +kernel
theorem d_L_law_522 : decode cL_law 522 = .ok (.ireturn, 1) := by decide +kernel
theorem d_L_law_523 : decode cL_law 523 = .ok (.aload_n 1, 1) := by decide +kernel
theorem d_L_law_524 : decode cL_law 524 = .ok (.invokevirtual 61, 3) := by decide +kernel
theorem d_L_law_527 : decode cL_law 527 = .ok (.aload_n 2, 1) := by decide +kernel
theorem d_L_law_528 : decode cL_law 528 = .ok (.invokevirtual 64, 3) := by decide +kernel
theorem d_L_law_531 : decode cL_law 531 = .ok (.if_icmp .eq 844, 3) := by decide +kernel
theorem d_L_law_534 : decode cL_law 534 = .ok (.iconst 0, 1) := by decide +kernel
theorem d_L_law_535 : decode cL_law 535 = .ok (.ireturn, 1) := by decide +kernel
theorem d_L_law_536 : decode cL_law 536 = .ok (.aload_n 1, 1) := by decide +kernel
theorem d_L_law_537 : decode cL_law 537 = .ok (.aload_n 0, 1) := by decide +kernel
theorem d_L_law_538 : decode cL_law 538 = .ok (.iload_n 3, 1) := by decide +kernel
theorem d_L_law_539 : decode cL_law 539 = .ok (.iconst 1, 1) := by decide +kernel
theorem d_L_law_540 : decode cL_law 540 = .ok (.iadd, 1) := by decide +kernel
theorem d_L_law_541 : decode cL_law 541 = .ok (.iaload, 1) := by decide +kernel
theorem d_L_law_542 : decode cL_law 542 = .ok (.invokevirtual 65, 3) := by decide +kernel
theorem d_L_law_545 : decode cL_law 545 = .ok (.aload_n 2, 1) := by decide +kernel
theorem d_L_law_546 : decode cL_law 546 = .ok (.aload_n 0, 1) := by decide +kernel
theorem d_L_law_547 : decode cL_law 547 = .ok (.iload_n 3, 1) := by decide +kernel
theorem d_L_law_548 : decode cL_law 548 = .ok (.iconst 1, 1) := by decide +kernel
theorem d_L_law_549 : decode cL_law 549 = .ok (.iadd, 1) := by decide +kernel
theorem d_L_law_550 : decode cL_law 550 = .ok (.iaload, 1) := by decide +kernel
theorem d_L_law_551 : decode cL_law 551 = .ok (.invokevirtual 68, 3) := by decide +kernel
theorem d_L_law_554 : decode cL_law 554 = .ok (.if_icmp .eq 821, 3) := by decide +kernel
theorem d_L_law_557 : decode cL_law 557 = .ok (.iconst 0, 1) := by decide +kernel
theorem d_L_law_558 : decode cL_law 558 = .ok (.ireturn, 1) := by decide +kernel
theorem d_L_law_559 : decode cL_law 559 = .ok (.aload_n 1, 1) := by decide +kernel
theorem d_L_law_560 : decode cL_law 560 = .ok (.aload_n 0, 1) := by decide +kernel
theorem d_L_law_561 : decode cL_law 561 = .ok (.iload_n 3, 1) := by decide +kernel
theorem d_L_law_562 : decode cL_law 562 = .ok (.iconst 1, 1) := by decide +kernel
theorem d_L_law_563 : decode cL_law 563 = .ok (.iadd, 1) := by decide +kernel
theorem d_L_law_564 : decode cL_law 564 = .ok (.iaload, 1) := by decide +kernel
theorem d_L_law_565 : decode cL_law 565 = .ok (.aload_n 0, 1) := by decide +kernel
theorem d_L_law_566 : decode cL_law 566 = .ok (.iload_n 3, 1) := by decide +kernel
theorem d_L_law_567 : decode cL_law 567 = .ok (.iconst 2, 1) := by decide +kernel
theorem d_L_law_568 : decode cL_law 568 = .ok (.iadd, 1) := by decide +kernel
theorem d_L_law_569 : decode cL_law 569 = .ok (.iaload, 1) := by decide +kernel
theorem d_L_law_570 : decode cL_law 570 = .ok (.invokevirtual 69, 3) := by decide +kernel
theorem d_L_law_573 : decode cL_law 573 = .ok (.aload_n 2, 1) := by decide +kernel
theorem d_L_law_574 : decode cL_law 574 = .ok (.aload_n 0, 1) := by decide +kernel
theorem d_L_law_575 : decode cL_law 575 = .ok (.iload_n 3, 1) := by decide +kernel
theorem d_L_law_576 : decode cL_law 576 = .ok (.iconst 1, 1) := by decide +kernel
theorem d_L_law_577 : decode cL_law 577 = .ok (.iadd, 1) := by decide +kernel
theorem d_L_law_578 : decode cL_law 578 = .ok (.iaload, 1) := by decide +kernel
theorem d_L_law_579 : decode cL_law 579 = .ok (.aload_n 0, 1) := by decide +kernel
theorem d_L_law_580 : decode cL_law 580 = .ok (.iload_n 3, 1) := by decide +kernel
theorem d_L_law_581 : decode cL_law 581 = .ok (.iconst 2, 1) := by decide +kernel
theorem d_L_law_582 : decode cL_law 582 = .ok (.iadd, 1) := by decide +kernel
theorem d_L_law_583 : decode cL_law 583 = .ok (.iaload, 1) := by decide +kernel
theorem d_L_law_584 : decode cL_law 584 = .ok (.invokevirtual 72, 3) := by decide +kernel
theorem d_L_law_587 : decode cL_law 587 = .ok (.if_icmp .eq 788, 3) := by decide +kernel
theorem d_L_law_590 : decode cL_law 590 = .ok (.iconst 0, 1) := by decide +kernel
theorem d_L_law_591 : decode cL_law 591 = .ok (.ireturn, 1) := by decide +kernel
theorem d_L_law_592 : decode cL_law 592 = .ok (.aload_n 1, 1) := by decide +kernel
theorem d_L_law_593 : decode cL_law 593 = .ok (.aload_n 0, 1) := by decide +kernel
theorem d_L_law_594 : decode cL_law 594 = .ok (.iload_n 3, 1) := by decide +kernel
theorem d_L_law_595 : decode cL_law 595 = .ok (.iconst 1, 1) := by decide +kernel
theorem d_L_law_596 : decode cL_law 596 = .ok (.iadd, 1) := by decide +kernel
theorem d_L_law_597 : decode cL_law 597 = .ok (.iaload, 1) := by decide +kernel
theorem d_L_law_598 : decode cL_law 598 = .ok (.aload_n 0, 1) := by decide +kernel
theorem d_L_law_599 : decode cL_law 599 = .ok (.iload_n 3, 1) := by decide +kernel
theorem d_L_law_600 : decode cL_law 600 = .ok (.iconst 2, 1) := by decide +kernel
theorem d_L_law_601 : decode cL_law 601 = .ok (.iadd, 1) := by decide +kernel
theorem d_L_law_602 : decode cL_law 602 = .ok (.iaload, 1) := by decide +kernel
theorem d_L_law_603 : decode cL_law 603 = .ok (.aload_n 0, 1) := by decide +kernel
theorem d_L_law_604 : decode cL_law 604 = .ok (.iload_n 3, 1) := by decide +kernel
theorem d_L_law_605 : decode cL_law 605 = .ok (.iconst 3, 1) := by decide +kernel
theorem d_L_law_606 : decode cL_law 606 = .ok (.iadd, 1) := by decide +kernel
theorem d_L_law_607 : decode cL_law 607 = .ok (.iaload, 1) := by decide +kernel
theorem d_L_law_608 : decode cL_law 608 = .ok (.invokevirtual 73, 3) := by decide +kernel
theorem d_L_law_611 : decode cL_law 611 = .ok (.aload_n 2, 1) := by decide +kernel
theorem d_L_law_612 : decode cL_law 612 = .ok (.aload_n 0, 1) := by decide +kernel
theorem d_L_law_613 : decode cL_law 613 = .ok (.iload_n 3, 1) := by decide +kernel
theorem d_L_law_614 : decode cL_law 614 = .ok (.iconst 1, 1) := by decide +kernel
theorem d_L_law_615 : decode cL_law 615 = .ok (.iadd, 1) := by decide +kernel
theorem d_L_law_616 : decode cL_law 616 = .ok (.iaload, 1) := by decide +kernel
theorem d_L_law_617 : decode cL_law 617 = .ok (.aload_n 0, 1) := by decide +kernel
theorem d_L_law_618 : decode cL_law 618 = .ok (.iload_n 3, 1) := by decide +kernel
theorem d_L_law_619 : decode cL_law 619 = .ok (.iconst 2, 1) := by decide +kernel
theorem d_L_law_620 : decode cL_law 620 = .ok (.iadd, 1) := by decide +kernel
theorem d_L_law_621 : decode cL_law 621 = .ok (.iaload, 1) := by decide +kernel
theorem d_L_law_622 : decode cL_law 622 = .ok (.aload_n 0, 1) := by decide +kernel
theorem d_L_law_623 : decode cL_law 623 = .ok (.iload_n 3, 1) := by decide +kernel
theorem d_L_law_624 : decode cL_law 624 = .ok (.iconst 3, 1) := by decide +kernel
theorem d_L_law_625 : decode cL_law 625 = .ok (.iadd, 1) := by decide +kernel
theorem d_L_law_626 : decode cL_law 626 = .ok (.iaload, 1) := by decide +kernel
theorem d_L_law_627 : decode cL_law 627 = .ok (.invokevirtual 76, 3) := by decide +kernel
theorem d_L_law_630 : decode cL_law 630 = .ok (.if_icmp .eq 745, 3) := by decide +kernel
theorem d_L_law_633 : decode cL_law 633 = .ok (.iconst 0, 1) := by decide +kernel
theorem d_L_law_634 : decode cL_law 634 = .ok (.ireturn, 1) := by decide +kernel
theorem d_L_law_635 : decode cL_law 635 = .ok (.aload_n 1, 1) := by decide +kernel
theorem d_L_law_636 : decode cL_law 636 = .ok (.aload_n 0, 1) := by decide +kernel
theorem d_L_law_637 : decode cL_law 637 = .ok (.iload_n 3, 1) := by decide +kernel
theorem d_L_law_638 : decode cL_law 638 = .ok (.iconst 1, 1) := by decide +kernel
theorem d_L_law_639 : decode cL_law 639 = .ok (.iadd, 1) := by decide +kernel
theorem d_L_law_640 : decode cL_law 640 = .ok (.iaload, 1) := by decide +kernel
theorem d_L_law_641 : decode cL_law 641 = .ok (.aload_n 0, 1) := by decide +kernel
theorem d_L_law_642 : decode cL_law 642 = .ok (.iload_n 3, 1) := by decide +kernel
theorem d_L_law_643 : decode cL_law 643 = .ok (.iconst 2, 1) := by decide +kernel
theorem d_L_law_644 : decode cL_law 644 = .ok (.iadd, 1) := by decide +kernel
theorem d_L_law_645 : decode cL_law 645 = .ok (.iaload, 1) := by decide +kernel
theorem d_L_law_646 : decode cL_law 646 = .ok (.invokevirtual 77, 3) := by decide +kernel
theorem d_L_law_649 : decode cL_law 649 = .ok (.aload_n 2, 1) := by decide +kernel
theorem d_L_law_650 : decode cL_law 650 = .ok (.aload_n 0, 1) := by decide +kernel
theorem d_L_law_651 : decode cL_law 651 = .ok (.iload_n 3, 1) := by decide +kernel
theorem d_L_law_652 : decode cL_law 652 = .ok (.iconst 1, 1) := by decide +kernel
theorem d_L_law_653 : decode cL_law 653 = .ok (.iadd, 1) := by decide +kernel
theorem d_L_law_654 : decode cL_law 654 = .ok (.iaload, 1) := by decide +kernel
theorem d_L_law_655 : decode cL_law 655 = .ok (.aload_n 0, 1) := by decide +kernel
theorem d_L_law_656 : decode cL_law 656 = .ok (.iload_n 3, 1) := by decide +kernel
theorem d_L_law_657 : decode cL_law 657 = .ok (.iconst 2, 1) := by decide +kernel
theorem d_L_law_658 : decode cL_law 658 = .ok (.iadd, 1) := by decide +kernel
theorem d_L_law_659 : decode cL_law 659 = .ok (.iaload, 1) := by decide +kernel
theorem d_L_law_660 : decode cL_law 660 = .ok (.invokevirtual 80, 3) := by decide +kernel
theorem d_L_law_663 : decode cL_law 663 = .ok (.if_icmp .eq 712, 3) := by decide +kernel
theorem d_L_law_666 : decode cL_law 666 = .ok (.iconst 0, 1) := by decide +kernel
theorem d_L_law_667 : decode cL_law 667 = .ok (.ireturn, 1) := by decide +kernel
theorem d_L_law_668 : decode cL_law 668 = .ok (.aload_n 1, 1) := by decide +kernel
theorem d_L_law_669 : decode cL_law 669 = .ok (.aload_n 0, 1) := by decide +kernel
theorem d_L_law_670 : decode cL_law 670 = .ok (.iload_n 3, 1) := by decide +kernel
theorem d_L_law_671 : decode cL_law 671 = .ok (.iconst 1, 1) := by decide +kernel
theorem d_L_law_672 : decode cL_law 672 = .ok (.iadd, 1) := by decide +kernel
theorem d_L_law_673 : decode cL_law 673 = .ok (.iaload, 1) := by decide +kernel
theorem d_L_law_674 : decode cL_law 674 = .ok (.aload_n 0, 1) := by decide +kernel
theorem d_L_law_675 : decode cL_law 675 = .ok (.iload_n 3, 1) := by decide +kernel
theorem d_L_law_676 : decode cL_law 676 = .ok (.iconst 2, 1) := by decide +kernel
theorem d_L_law_677 : decode cL_law 677 = .ok (.iadd, 1) := by decide +kernel
theorem d_L_law_678 : decode cL_law 678 = .ok (.iaload, 1) := by decide +kernel
theorem d_L_law_679 : decode cL_law 679 = .ok (.invokevirtual 81, 3) := by decide +kernel
theorem d_L_law_682 : decode cL_law 682 = .ok (.aload_n 2, 1) := by decide +kernel
theorem d_L_law_683 : decode cL_law 683 = .ok (.aload_n 0, 1) := by decide +kernel
theorem d_L_law_684 : decode cL_law 684 = .ok (.iload_n 3, 1) := by decide +kernel
theorem d_L_law_685 : decode cL_law 685 = .ok (.iconst 1, 1) := by decide +kernel
theorem d_L_law_686 : decode cL_law 686 = .ok (.iadd, 1) := by decide +kernel
theorem d_L_law_687 : decode cL_law 687 = .ok (.iaload, 1) := by decide +kernel
theorem d_L_law_688 : decode cL_law 688 = .ok (.aload_n 0, 1) := by decide +kernel
theorem d_L_law_689 : decode cL_law 689 = .ok (.iload_n 3, 1) := by decide +kernel
theorem d_L_law_690 : decode cL_law 690 = .ok (.iconst 2, 1) := by decide +kernel
theorem d_L_law_691 : decode cL_law 691 = .ok (.iadd, 1) := by decide +kernel
theorem d_L_law_692 : decode cL_law 692 = .ok (.iaload, 1) := by decide +kernel
theorem d_L_law_693 : decode cL_law 693 = .ok (.invokevirtual 84, 3) := by decide +kernel
theorem d_L_law_696 : decode cL_law 696 = .ok (.if_icmp .eq 679, 3) := by decide +kernel
theorem d_L_law_699 : decode cL_law 699 = .ok (.iconst 0, 1) := by decide +kernel
theorem d_L_law_700 : decode cL_law 700 = .ok (.ireturn, 1) := by decide +kernel
theorem d_L_law_701 : decode cL_law 701 = .ok (.aload_n 1, 1) := by decide +kernel
theorem d_L_law_702 : decode cL_law 702 = .ok (.aload_n 0, 1) := by decide +kernel
theorem d_L_law_703 : decode cL_law 703 = .ok (.iload_n 3, 1) := by decide +kernel
theorem d_L_law_704 : decode cL_law 704 = .ok (.iconst 1, 1) := by decide +kernel
theorem d_L_law_705 : decode cL_law 705 = .ok (.iadd, 1) := by decide +kernel
theorem d_L_law_706 : decode cL_law 706 = .ok (.iaload, 1) := by decide +kernel
theorem d_L_law_707 : decode cL_law 707 = .ok (.invokevirtual 85, 3) := by decide +kernel
theorem d_L_law_710 : decode cL_law 710 = .ok (.aload_n 2, 1) := by decide +kernel
theorem d_L_law_711 : decode cL_law 711 = .ok (.aload_n 0, 1) := by decide +kernel
theorem d_L_law_712 : decode cL_law 712 = .ok (.iload_n 3, 1) := by decide +kernel
theorem d_L_law_713 : decode cL_law 713 = .ok (.iconst 1, 1) := by decide +kernel
theorem d_L_law_714 : decode cL_law 714 = .ok (.iadd, 1) := by decide +kernel
theorem d_L_law_715 : decode cL_law 715 = .ok (.iaload, 1) := by decide +kernel
theorem d_L_law_716 : decode cL_law 716 = .ok (.invokevirtual 88, 3) := by decide +kernel
theorem d_L_law_719 : decode cL_law 719 = .ok (.if_icmp .eq 656, 3) := by decide +kernel
theorem d_L_law_722 : decode cL_law 722 = .ok (.iconst 0, 1) := by decide +kernel
theorem d_L_law_723 : decode cL_law 723 = .ok (.ireturn, 1) := by decide +kernel
theorem d_L_law_724 : decode cL_law 724 = .ok (.aload_n 1, 1) := by decide +kernel
theorem d_L_law_725 : decode cL_law 725 = .ok (.aload_n 0, 1) := by decide +kernel
theorem d_L_law_726 : decode cL_law 726 = .ok (.iload_n 3, 1) := by decide +kernel
theorem d_L_law_727 : decode cL_law 727 = .ok (.iconst 1, 1) := by decide +kernel
theorem d_L_law_728 : decode cL_law 728 = .ok (.iadd, 1) := by decide +kernel
theorem d_L_law_729 : decode cL_law 729 = .ok (.iaload, 1) := by decide +kernel
theorem d_L_law_730 : decode cL_law 730 = .ok (.aload_n 0, 1) := by decide +kernel
theorem d_L_law_731 : decode cL_law 731 = .ok (.iload_n 3, 1) := by decide +kernel
theorem d_L_law_732 : decode cL_law 732 = .ok (.iconst 2, 1) := by decide +kernel
theorem d_L_law_733 : decode cL_law 733 = .ok (.iadd, 1) := by decide +kernel
theorem d_L_law_734 : decode cL_law 734 = .ok (.iaload, 1) := by decide +kernel
theorem d_L_law_735 : decode cL_law 735 = .ok (.aload_n 0, 1) := by decide +kernel
theorem d_L_law_736 : decode cL_law 736 = .ok (.iload_n 3, 1) := by decide +kernel
theorem d_L_law_737 : decode cL_law 737 = .ok (.iconst 3, 1) := by decide +kernel
theorem d_L_law_738 : decode cL_law 738 = .ok (.iadd, 1) := by decide +kernel
theorem d_L_law_739 : decode cL_law 739 = .ok (.iaload, 1) := by decide +kernel
theorem d_L_law_740 : decode cL_law 740 = .ok (.invokevirtual 89, 3) := by decide +kernel
theorem d_L_law_743 : decode cL_law 743 = .ok (.aload_n 2, 1) := by decide +kernel
theorem d_L_law_744 : decode cL_law 744 = .ok (.aload_n 0, 1) := by decide +kernel
theorem d_L_law_745 : decode cL_law 745 = .ok (.iload_n 3, 1) := by decide +kernel
theorem d_L_law_746 : decode cL_law 746 = .ok (.iconst 1, 1) := by decide +kernel
theorem d_L_law_747 : decode cL_law 747 = .ok (.iadd, 1) := by decide +kernel
theorem d_L_law_748 : decode cL_law 748 = .ok (.iaload, 1) := by decide +kernel
theorem d_L_law_749 : decode cL_law 749 = .ok (.aload_n 0, 1) := by decide +kernel
theorem d_L_law_750 : decode cL_law 750 = .ok (.iload_n 3, 1) := by decide +kernel
theorem d_L_law_751 : decode cL_law 751 = .ok (.iconst 2, 1) := by decide +kernel
theorem d_L_law_752 : decode cL_law 752 = .ok (.iadd, 1) := by decide +kernel
theorem d_L_law_753 : decode cL_law 753 = .ok (.iaload, 1) := by decide +kernel
theorem d_L_law_754 : decode cL_law 754 = .ok (.aload_n 0, 1) := by decide +kernel
theorem d_L_law_755 : decode cL_law 755 = .ok (.iload_n 3, 1) := by decide +kernel
theorem d_L_law_756 : decode cL_law 756 = .ok (.iconst 3, 1) := by decide +kernel
theorem d_L_law_757 : decode cL_law 757 = .ok (.iadd, 1) := by decide +kernel
theorem d_L_law_758 : decode cL_law 758 = .ok (.iaload, 1) := by decide +kernel
theorem d_L_law_759 : decode cL_law 759 = .ok (.invokevirtual 92, 3) := by decide +kernel
theorem d_L_law_762 : decode cL_law 762 = .ok (.if_icmp .eq 613, 3) := by decide +kernel
theorem d_L_law_765 : decode cL_law 765 = .ok (.iconst 0, 1) := by decide +kernel
theorem d_L_law_766 : decode cL_law 766 = .ok (.ireturn, 1) := by decide +kernel
theorem d_L_law_767 : decode cL_law 767 = .ok (.aload_n 1, 1) := by decide +kernel
theorem d_L_law_768 : decode cL_law 768 = .ok (.aload_n 0, 1) := by decide +kernel
theorem d_L_law_769 : decode cL_law 769 = .ok (.iload_n 3, 1) := by decide +kernel
theorem d_L_law_770 : decode cL_law 770 = .ok (.iconst 1, 1) := by decide +kernel
theorem d_L_law_771 : decode cL_law 771 = .ok (.iadd, 1) := by decide +kernel
theorem d_L_law_772 : decode cL_law 772 = .ok (.iaload, 1) := by decide +kernel
theorem d_L_law_773 : decode cL_law 773 = .ok (.aload_n 0, 1) := by decide +kernel
theorem d_L_law_774 : decode cL_law 774 = .ok (.iload_n 3, 1) := by decide +kernel
theorem d_L_law_775 : decode cL_law 775 = .ok (.iconst 2, 1) := by decide +kernel
theorem d_L_law_776 : decode cL_law 776 = .ok (.iadd, 1) := by decide +kernel
theorem d_L_law_777 : decode cL_law 777 = .ok (.iaload, 1) := by decide +kernel
theorem d_L_law_778 : decode cL_law 778 = .ok (.aload_n 0, 1) := by decide +kernel
theorem d_L_law_779 : decode cL_law 779 = .ok (.iload_n 3, 1) := by decide +kernel
theorem d_L_law_780 : decode cL_law 780 = .ok (.iconst 3, 1) := by decide +kernel
theorem d_L_law_781 : decode cL_law 781 = .ok (.iadd, 1) := by decide +kernel
theorem d_L_law_782 : decode cL_law 782 = .ok (.iaload, 1) := by decide +kernel
theorem d_L_law_783 : decode cL_law 783 = .ok (.invokevirtual 93, 3) := by decide +kernel
theorem d_L_law_786 : decode cL_law 786 = .ok (.aload_n 2, 1) := by decide +kernel
theorem d_L_law_787 : decode cL_law 787 = .ok (.aload_n 0, 1) := by decide +kernel
theorem d_L_law_788 : decode cL_law 788 = .ok (.iload_n 3, 1) := by decide +kernel
theorem d_L_law_789 : decode cL_law 789 = .ok (.iconst 1, 1) := by decide +kernel
theorem d_L_law_790 : decode cL_law 790 = .ok (.iadd, 1) := by decide +kernel
theorem d_L_law_791 : decode cL_law 791 = .ok (.iaload, 1) := by decide +kernel
theorem d_L_law_792 : decode cL_law 792 = .ok (.aload_n 0, 1) := by decide +kernel
theorem d_L_law_793 : decode cL_law 793 = .ok (.iload_n 3, 1) := by decide +kernel
theorem d_L_law_794 : decode cL_law 794 = .ok (.iconst 2, 1) := by decide +kernel
theorem d_L_law_795 : decode cL_law 795 = .ok (.iadd, 1) := by decide +kernel
theorem d_L_law_796 : decode cL_law 796 = .ok (.iaload, 1) := by decide +kernel
theorem d_L_law_797 : decode cL_law 797 = .ok (.aload_n 0, 1) := by decide +kernel
theorem d_L_law_798 : decode cL_law 798 = .ok (.iload_n 3, 1) := by decide +kernel
theorem d_L_law_799 : decode cL_law 799 = .ok (.iconst 3, 1) := by decide +kernel
theorem d_L_law_800 : decode cL_law 800 = .ok (.iadd, 1) := by decide +kernel
theorem d_L_law_801 : decode cL_law 801 = .ok (.iaload, 1) := by decide +kernel
theorem d_L_law_802 : decode cL_law 802 = .ok (.invokevirtual 96, 3) := by decide +kernel
theorem d_L_law_805 : decode cL_law 805 = .ok (.if_icmp .eq 570, 3) := by decide +kernel
theorem d_L_law_808 : decode cL_law 808 = .ok (.iconst 0, 1) := by decide +kernel
theorem d_L_law_809 : decode cL_law 809 = .ok (.ireturn, 1) := by decide +kernel
theorem d_L_law_810 : decode cL_law 810 = .ok (.aload_n 1, 1) := by decide +kernel
theorem d_L_law_811 : decode cL_law 811 = .ok (.aload_n 0, 1) := by decide +kernel
theorem d_L_law_812 : decode cL_law 812 = .ok (.iload_n 3, 1) := by decide +kernel
theorem d_L_law_813 : decode cL_law 813 = .ok (.iconst 1, 1) := by decide +kernel
theorem d_L_law_814 : decode cL_law 814 = .ok (.iadd, 1) := by decide +kernel
theorem d_L_law_815 : decode cL_law 815 = .ok (.iaload, 1) := by decide +kernel
theorem d_L_law_816 : decode cL_law 816 = .ok (.aload_n 0, 1) := by decide +kernel
theorem d_L_law_817 : decode cL_law 817 = .ok (.iload_n 3, 1) := by decide +kernel
theorem d_L_law_818 : decode cL_law 818 = .ok (.iconst 2, 1) := by decide +kernel
theorem d_L_law_819 : decode cL_law 819 = .ok (.iadd, 1) := by decide +kernel
theorem d_L_law_820 : decode cL_law 820 = .ok (.iaload, 1) := by decide +kernel
theorem d_L_law_821 : decode cL_law 821 = .ok (.invokevirtual 97, 3) := by decide +kernel
theorem d_L_law_824 : decode cL_law 824 = .ok (.aload_n 2, 1) := by decide +kernel
theorem d_L_law_825 : decode cL_law 825 = .ok (.aload_n 0, 1) := by decide +kernel
theorem d_L_law_826 : decode cL_law 826 = .ok (.iload_n 3, 1) := by decide +kernel
theorem d_L_law_827 : decode cL_law 827 = .ok (.iconst 1, 1) := by decide +kernel
theorem d_L_law_828 : decode cL_law 828 = .ok (.iadd, 1) := by decide +kernel
theorem d_L_law_829 : decode cL_law 829 = .ok (.iaload, 1) := by decide +kernel
theorem d_L_law_830 : decode cL_law 830 = .ok (.aload_n 0, 1) := by decide +kernel
theorem d_L_law_831 : decode cL_law 831 = .ok (.iload_n 3, 1) := by decide +kernel
theorem d_L_law_832 : decode cL_law 832 = .ok (.iconst 2, 1) := by decide +kernel
theorem d_L_law_833 : decode cL_law 833 = .ok (.iadd, 1) := by decide +kernel
theorem d_L_law_834 : decode cL_law 834 = .ok (.iaload, 1) := by decide +kernel
theorem d_L_law_835 : decode cL_law 835 = .ok (.invokevirtual 100, 3) := by decide +kernel
theorem d_L_law_838 : decode cL_law 838 = .ok (.if_icmp .eq 537, 3) := by decide +kernel
theorem d_L_law_841 : decode cL_law 841 = .ok (.iconst 0, 1) := by decide +kernel
theorem d_L_law_842 : decode cL_law 842 = .ok (.ireturn, 1) := by decide +kernel
theorem d_L_law_843 : decode cL_law 843 = .ok (.aload_n 1, 1) := by decide +kernel
theorem d_L_law_844 : decode cL_law 844 = .ok (.aload_n 0, 1) := by decide +kernel
theorem d_L_law_845 : decode cL_law 845 = .ok (.iload_n 3, 1) := by decide +kernel
theorem d_L_law_846 : decode cL_law 846 = .ok (.iconst 1, 1) := by decide +kernel
theorem d_L_law_847 : decode cL_law 847 = .ok (.iadd, 1) := by decide +kernel
theorem d_L_law_848 : decode cL_law 848 = .ok (.iaload, 1) := by decide +kernel
theorem d_L_law_849 : decode cL_law 849 = .ok (.aload_n 0, 1) := by decide +kernel
theorem d_L_law_850 : decode cL_law 850 = .ok (.iload_n 3, 1) := by decide +kernel
theorem d_L_law_851 : decode cL_law 851 = .ok (.iconst 2, 1) := by decide +kernel
theorem d_L_law_852 : decode cL_law 852 = .ok (.iadd, 1) := by decide +kernel
theorem d_L_law_853 : decode cL_law 853 = .ok (.iaload, 1) := by decide +kernel
theorem d_L_law_854 : decode cL_law 854 = .ok (.invokevirtual 101, 3) := by decide +kernel
theorem d_L_law_857 : decode cL_law 857 = .ok (.aload_n 2, 1) := by decide +kernel
theorem d_L_law_858 : decode cL_law 858 = .ok (.aload_n 0, 1) := by decide +kernel
theorem d_L_law_859 : decode cL_law 859 = .ok (.iload_n 3, 1) := by decide +kernel
theorem d_L_law_860 : decode cL_law 860 = .ok (.iconst 1, 1) := by decide +kernel
theorem d_L_law_861 : decode cL_law 861 = .ok (.iadd, 1) := by decide +kernel
theorem d_L_law_862 : decode cL_law 862 = .ok (.iaload, 1) := by decide +kernel
theorem d_L_law_863 : decode cL_law 863 = .ok (.aload_n 0, 1) := by decide +kernel
theorem d_L_law_864 : decode cL_law 864 = .ok (.iload_n 3, 1) := by decide +kernel
theorem d_L_law_865 : decode cL_law 865 = .ok (.iconst 2, 1) := by decide +kernel
theorem d_L_law_866 : decode cL_law 866 = .ok (.iadd, 1) := by decide +kernel
theorem d_L_law_867 : decode cL_law 867 = .ok (.iaload, 1) := by decide +kernel
theorem d_L_law_868 : decode cL_law 868 = .ok (.invokevirtual 104, 3) := by decide +kernel
theorem d_L_law_871 : decode cL_law 871 = .ok (.if_icmp .eq 504, 3) := by decide +kernel
theorem d_L_law_874 : decode cL_law 874 = .ok (.iconst 0, 1) := by decide +kernel
theorem d_L_law_875 : decode cL_law 875 = .ok (.ireturn, 1) := by decide +kernel
theorem d_L_law_876 : decode cL_law 876 = .ok (.aload_n 1, 1) := by decide +kernel
theorem d_L_law_877 : decode cL_law 877 = .ok (.aload_n 0, 1) := by decide +kernel
theorem d_L_law_878 : decode cL_law 878 = .ok (.iload_n 3, 1) := by decide +kernel
theorem d_L_law_879 : decode cL_law 879 = .ok (.iconst 1, 1) := by decide +kernel
theorem d_L_law_880 : decode cL_law 880 = .ok (.iadd, 1) := by decide +kernel
theorem d_L_law_881 : decode cL_law 881 = .ok (.iaload, 1) := by decide +kernel
theorem d_L_law_882 : decode cL_law 882 = .ok (.aload_n 0, 1) := by decide +kernel
theorem d_L_law_883 : decode cL_law 883 = .ok (.iload_n 3, 1) := by decide +kernel
theorem d_L_law_884 : decode cL_law 884 = .ok (.iconst 2, 1) := by decide +kernel
theorem d_L_law_885 : decode cL_law 885 = .ok (.iadd, 1) := by decide +kernel
theorem d_L_law_886 : decode cL_law 886 = .ok (.iaload, 1) := by decide +kernel
theorem d_L_law_887 : decode cL_law 887 = .ok (.invokevirtual 105, 3) := by decide +kernel
theorem d_L_law_890 : decode cL_law 890 = .ok (.aload_n 2, 1) := by decide +kernel
theorem d_L_law_891 : decode cL_law 891 = .ok (.aload_n 0, 1) := by decide +kernel
theorem d_L_law_892 : decode cL_law 892 = .ok (.iload_n 3, 1) := by decide +kernel
theorem d_L_law_893 : decode cL_law 893 = .ok (.iconst 1, 1) := by decide +kernel
theorem d_L_law_894 : decode cL_law 894 = .ok (.iadd, 1) := by decide +kernel
theorem d_L_law_895 : decode cL_law 895 = .ok (.iaload, 1) := by decide +kernel
theorem d_L_law_896 : decode cL_law 896 = .ok (.aload_n 0, 1) := by decide +kernel
theorem d_L_law_897 : decode cL_law 897 = .ok (.iload_n 3, 1) := by decide +kernel
theorem d_L_law_898 : decode cL_law 898 = .ok (.iconst 2, 1) := by decide +kernel
theorem d_L_law_899 : decode cL_law 899 = .ok (.iadd, 1) := by decide +kernel
theorem d_L_law_900 : decode cL_law 900 = .ok (.iaload, 1) := by decide +kernel
theorem d_L_law_901 : decode cL_law 901 = .ok (.invokevirtual 108, 3) := by decide +kernel
theorem d_L_law_904 : decode cL_law 904 = .ok (.if_icmp .eq 471, 3) := by decide +kernel
theorem d_L_law_907 : decode cL_law 907 = .ok (.iconst 0, 1) := by decide +kernel
theorem d_L_law_908 : decode cL_law 908 = .ok (.ireturn, 1) := by decide +kernel
theorem d_L_law_909 : decode cL_law 909 = .ok (.aload_n 1, 1) := by decide +kernel
theorem d_L_law_910 : decode cL_law 910 = .ok (.aload_n 0, 1) := by decide +kernel
theorem d_L_law_911 : decode cL_law 911 = .ok (.iload_n 3, 1) := by decide +kernel
theorem d_L_law_912 : decode cL_law 912 = .ok (.iconst 1, 1) := by decide +kernel
theorem d_L_law_913 : decode cL_law 913 = .ok (.iadd, 1) := by decide +kernel
theorem d_L_law_914 : decode cL_law 914 = .ok (.iaload, 1) := by decide +kernel
theorem d_L_law_915 : decode cL_law 915 = .ok (.invokevirtual 109, 3) := by decide +kernel
theorem d_L_law_918 : decode cL_law 918 = .ok (.aload_n 2, 1) := by decide +kernel
theorem d_L_law_919 : decode cL_law 919 = .ok (.aload_n 0, 1) := by decide +kernel
theorem d_L_law_920 : decode cL_law 920 = .ok (.iload_n 3, 1) := by decide +kernel
theorem d_L_law_921 : decode cL_law 921 = .ok (.iconst 1, 1) := by decide +kernel
theorem d_L_law_922 : decode cL_law 922 = .ok (.iadd, 1) := by decide +kernel
theorem d_L_law_923 : decode cL_law 923 = .ok (.iaload, 1) := by decide +kernel
theorem d_L_law_924 : decode cL_law 924 = .ok (.invokevirtual 112, 3) := by decide +kernel
theorem d_L_law_927 : decode cL_law 927 = .ok (.if_icmp .eq 448, 3) := by decide +kernel
theorem d_L_law_930 : decode cL_law 930 = .ok (.iconst 0, 1) := by decide +kernel
theorem d_L_law_931 : decode cL_law 931 = .ok (.ireturn, 1) := by decide +kernel
theorem d_L_law_932 : decode cL_law 932 = .ok (.aload_n 1, 1) := by decide +kernel
theorem d_L_law_933 : decode cL_law 933 = .ok (.invokevirtual 113, 3) := by decide +kernel
theorem d_L_law_936 : decode cL_law 936 = .ok (.aload_n 2, 1) := by decide +kernel
theorem d_L_law_937 : decode cL_law 937 = .ok (.invokevirtual 116, 3) := by decide +kernel
theorem d_L_law_940 : decode cL_law 940 = .ok (.if_icmp .eq 435, 3) := by decide +kernel
theorem d_L_law_943 : decode cL_law 943 = .ok (.iconst 0, 1) := by decide +kernel
theorem d_L_law_944 : decode cL_law 944 = .ok (.ireturn, 1) := by decide +kernel
theorem d_L_law_945 : decode cL_law 945 = .ok (.aload_n 1, 1) := by decide +kernel
theorem d_L_law_946 : decode cL_law 946 = .ok (.invokevirtual 117, 3) := by decide +kernel
theorem d_L_law_949 : decode cL_law 949 = .ok (.aload_n 2, 1) := by decide +kernel
theorem d_L_law_950 : decode cL_law 950 = .ok (.invokevirtual 120, 3) := by decide +kernel
theorem d_L_law_953 : decode cL_law 953 = .ok (.if_icmp .eq 422, 3) := by decide +kernel
theorem d_L_law_956 : decode cL_law 956 = .ok (.iconst 0, 1) := by decide +kernel
theorem d_L_law_957 : decode cL_law 957 = .ok (.ireturn, 1) := by decide +kernel
theorem d_L_law_958 : decode cL_law 958 = .ok (.aload_n 1, 1) := by decide +kernel
theorem d_L_law_959 : decode cL_law 959 = .ok (.invokevirtual 121, 3) := by decide +kernel
theorem d_L_law_962 : decode cL_law 962 = .ok (.aload_n 2, 1) := by decide +kernel
theorem d_L_law_963 : decode cL_law 963 = .ok (.invokevirtual 124, 3) := by decide +kernel
theorem d_L_law_966 : decode cL_law 966 = .ok (.if_icmp .eq 409, 3) := by decide +kernel
theorem d_L_law_969 : decode cL_law 969 = .ok (.iconst 0, 1) := by decide +kernel
theorem d_L_law_970 : decode cL_law 970 = .ok (.ireturn, 1) := by decide +kernel
theorem d_L_law_971 : decode cL_law 971 = .ok (.aload_n 1, 1) := by decide +kernel
theorem d_L_law_972 : decode cL_law 972 = .ok (.invokevirtual 125, 3) := by decide +kernel
theorem d_L_law_975 : decode cL_law 975 = .ok (.aload_n 2, 1) := by decide +kernel
theorem d_L_law_976 : decode cL_law 976 = .ok (.invokevirtual 128, 3) := by decide +kernel
theorem d_L_law_979 : decode cL_law 979 = .ok (.if_icmp .eq 396, 3) := by decide +kernel
theorem d_L_law_982 : decode cL_law 982 = .ok (.iconst 0, 1) := by decide +kernel
theorem d_L_law_983 : decode cL_law 983 = .ok (.ireturn, 1) := by decide +kernel
theorem d_L_law_984 : decode cL_law 984 = .ok (.aload_n 1, 1) := by decide +kernel
theorem d_L_law_985 : decode cL_law 985 = .ok (.aload_n 0, 1) := by decide +kernel
theorem d_L_law_986 : decode cL_law 986 = .ok (.iload_n 3, 1) := by decide +kernel
theorem d_L_law_987 : decode cL_law 987 = .ok (.iconst 1, 1) := by decide +kernel
theorem d_L_law_988 : decode cL_law 988 = .ok (.iadd, 1) := by decide +kernel
theorem d_L_law_989 : decode cL_law 989 = .ok (.iaload, 1) := by decide +kernel
theorem d_L_law_990 : decode cL_law 990 = .ok (.invokevirtual 129, 3) := by decide +kernel
theorem d_L_law_993 : decode cL_law 993 = .ok (.aload_n 2, 1) := by decide +kernel
theorem d_L_law_994 : decode cL_law 994 = .ok (.aload_n 0, 1) := by decide +kernel
theorem d_L_law_995 : decode cL_law 995 = .ok (.iload_n 3, 1) := by decide +kernel
theorem d_L_law_996 : decode cL_law 996 = .ok (.iconst 1, 1) := by decide +kernel
theorem d_L_law_997 : decode cL_law 997 = .ok (.iadd, 1) := by decide +kernel
theorem d_L_law_998 : decode cL_law 998 = .ok (.iaload, 1) := by decide +kernel
theorem d_L_law_999 : decode cL_law 999 = .ok (.invokevirtual 132, 3) := by decide +kernel
theorem d_L_law_1002 : decode cL_law 1002 = .ok (.if_icmp .eq 373, 3) := by decide +kernel
theorem d_L_law_1005 : decode cL_law 1005 = .ok (.iconst 0, 1) := by decide +kernel
theorem d_L_law_1006 : decode cL_law 1006 = .ok (.ireturn, 1) := by decide +kernel
theorem d_L_law_1007 : decode cL_law 1007 = .ok (.aload_n 1, 1) := by decide +kernel
theorem d_L_law_1008 : decode cL_law 1008 = .ok (.aload_n 0, 1) := by decide +kernel
theorem d_L_law_1009 : decode cL_law 1009 = .ok (.iload_n 3, 1) := by decide +kernel
theorem d_L_law_1010 : decode cL_law 1010 = .ok (.iconst 1, 1) := by decide +kernel
theorem d_L_law_1011 : decode cL_law 1011 = .ok (.iadd, 1) := by decide +kernel
theorem d_L_law_1012 : decode cL_law 1012 = .ok (.iaload, 1) := by decide +kernel
theorem d_L_law_1013 : decode cL_law 1013 = .ok (.aload_n 0, 1) := by decide +kernel
theorem d_L_law_1014 : decode cL_law 1014 = .ok (.iload_n 3, 1) := by decide +kernel
theorem d_L_law_1015 : decode cL_law 1015 = .ok (.iconst 2, 1) := by decide +kernel
theorem d_L_law_1016 : decode cL_law 1016 = .ok (.iadd, 1) := by decide +kernel
theorem d_L_law_1017 : decode cL_law 1017 = .ok (.iaload, 1) := by decide +kernel
theorem d_L_law_1018 : decode cL_law 1018 = .ok (.aload_n 0, 1) := by decide +kernel
theorem d_L_law_1019 : decode cL_law 1019 = .ok (.iload_n 3, 1) := by decide +kernel
theorem d_L_law_1020 : decode cL_law 1020 = .ok (.iconst 3, 1) := by decide +kernel
theorem d_L_law_1021 : decode cL_law 1021 = .ok (.iadd, 1) := by decide +kernel
theorem d_L_law_1022 : decode cL_law 1022 = .ok (.iaload, 1) := by decide +kernel
theorem d_L_law_1023 : decode cL_law 1023 = .ok (.invokevirtual 133, 3) := by decide +kernel
theorem d_L_law_1026 : decode cL_law 1026 = .ok (.aload_n 2, 1) := by decide +kernel
theorem d_L_law_1027 : decode cL_law 1027 = .ok (.aload_n 0, 1) := by decide +kernel
theorem d_L_law_1028 : decode cL_law 1028 = .ok (.iload_n 3, 1) := by decide +kernel
theorem d_L_law_1029 : decode cL_law 1029 = .ok (.iconst 1, 1) := by decide +kernel
theorem d_L_law_1030 : decode cL_law 1030 = .ok (.iadd, 1) := by decide +kernel
theorem d_L_law_1031 : decode cL_law 1031 = .ok (.iaload, 1) := by decide +kernel
theorem d_L_law_1032 : decode cL_law 1032 = .ok (.aload_n 0, 1) := by decide +kernel
theorem d_L_law_1033 : decode cL_law 1033 = .ok (.iload_n 3, 1) := by decide +kernel
theorem d_L_law_1034 : decode cL_law 1034 = .ok (.iconst 2, 1) := by decide +kernel
theorem d_L_law_1035 : decode cL_law 1035 = .ok (.iadd, 1) := by decide +kernel
theorem d_L_law_1036 : decode cL_law 1036 = .ok (.iaload, 1) := by decide +kernel
theorem d_L_law_1037 : decode cL_law 1037 = .ok (.aload_n 0, 1) := by decide +kernel
theorem d_L_law_1038 : decode cL_law 1038 = .ok (.iload_n 3, 1) := by decide +kernel
theorem d_L_law_1039 : decode cL_law 1039 = .ok (.iconst 3, 1) := by decide +kernel
theorem d_L_law_1040 : decode cL_law 1040 = .ok (.iadd, 1) := by decide +kernel
theorem d_L_law_1041 : decode cL_law 1041 = .ok (.iaload, 1) := by decide +kernel
theorem d_L_law_1042 : decode cL_law 1042 = .ok (.invokevirtual 136, 3) := by decide +kernel
theorem d_L_law_1045 : decode cL_law 1045 = .ok (.if_icmp .eq 330, 3) := by decide +kernel
theorem d_L_law_1048 : decode cL_law 1048 = .ok (.iconst 0, 1) := by decide +kernel
theorem d_L_law_1049 : decode cL_law 1049 = .ok (.ireturn, 1) := by decide +kernel
theorem d_L_law_1050 : decode cL_law 1050 = .ok (.aload_n 1, 1) := by decide +kernel
theorem d_L_law_1051 : decode cL_law 1051 = .ok (.aload_n 0, 1) := by decide +kernel
theorem d_L_law_1052 : decode cL_law 1052 = .ok (.iload_n 3, 1) := by decide +kernel
theorem d_L_law_1053 : decode cL_law 1053 = .ok (.iconst 1, 1) := by decide +kernel
theorem d_L_law_1054 : decode cL_law 1054 = .ok (.iadd, 1) := by decide +kernel
theorem d_L_law_1055 : decode cL_law 1055 = .ok (.iaload, 1) := by decide +kernel
theorem d_L_law_1056 : decode cL_law 1056 = .ok (.invokevirtual 137, 3) := by decide +kernel
theorem d_L_law_1059 : decode cL_law 1059 = .ok (.aload_n 2, 1) := by decide +kernel
theorem d_L_law_1060 : decode cL_law 1060 = .ok (.aload_n 0, 1) := by decide +kernel
theorem d_L_law_1061 : decode cL_law 1061 = .ok (.iload_n 3, 1) := by decide +kernel
theorem d_L_law_1062 : decode cL_law 1062 = .ok (.iconst 1, 1) := by decide +kernel
theorem d_L_law_1063 : decode cL_law 1063 = .ok (.iadd, 1) := by decide +kernel
theorem d_L_law_1064 : decode cL_law 1064 = .ok (.iaload, 1) := by decide +kernel
theorem d_L_law_1065 : decode cL_law 1065 = .ok (.invokevirtual 140, 3) := by decide +kernel
theorem d_L_law_1068 : decode cL_law 1068 = .ok (.if_icmp .eq 307, 3) := by decide +kernel
theorem d_L_law_1071 : decode cL_law 1071 = .ok (.iconst 0, 1) := by decide +kernel
theorem d_L_law_1072 : decode cL_law 1072 = .ok (.ireturn, 1) := by decide +kernel
theorem d_L_law_1073 : decode cL_law 1073 = .ok (.aload_n 1, 1) := by decide +kernel
theorem d_L_law_1074 : decode cL_law 1074 = .ok (.aload_n 0, 1) := by decide +kernel
theorem d_L_law_1075 : decode cL_law 1075 = .ok (.iload_n 3, 1) := by decide +kernel
theorem d_L_law_1076 : decode cL_law 1076 = .ok (.iconst 1, 1) := by decide +kernel
theorem d_L_law_1077 : decode cL_law 1077 = .ok (.iadd, 1) := by decide +kernel
theorem d_L_law_1078 : decode cL_law 1078 = .ok (.iaload, 1) := by decide +kernel
theorem d_L_law_1079 : decode cL_law 1079 = .ok (.aload_n 0, 1) := by decide +kernel
theorem d_L_law_1080 : decode cL_law 1080 = .ok (.iload_n 3, 1) := by decide +kernel
theorem d_L_law_1081 : decode cL_law 1081 = .ok (.iconst 2, 1) := by decide +kernel
theorem d_L_law_1082 : decode cL_law 1082 = .ok (.iadd, 1) := by decide +kernel
theorem d_L_law_1083 : decode cL_law 1083 = .ok (.iaload, 1) := by decide +kernel
theorem d_L_law_1084 : decode cL_law 1084 = .ok (.invokevirtual 141, 3) := by decide +kernel
theorem d_L_law_1087 : decode cL_law 1087 = .ok (.aload_n 2, 1) := by decide +kernel
theorem d_L_law_1088 : decode cL_law 1088 = .ok (.aload_n 0, 1) := by decide +kernel
theorem d_L_law_1089 : decode cL_law 1089 = .ok (.iload_n 3, 1) := by decide +kernel
theorem d_L_law_1090 : decode cL_law 1090 = .ok (.iconst 1, 1) := by decide +kernel
theorem d_L_law_1091 : decode cL_law 1091 = .ok (.iadd, 1) := by decide +kernel
theorem d_L_law_1092 : decode cL_law 1092 = .ok (.iaload, 1) := by decide +kernel
theorem d_L_law_1093 : decode cL_law 1093 = .ok (.aload_n 0, 1) := by decide +kernel
theorem d_L_law_1094 : decode cL_law 1094 = .ok (.iload_n 3, 1) := by decide +kernel
theorem d_L_law_1095 : decode cL_law 1095 = .ok (.iconst 2, 1) := by decide +kernel
theorem d_L_law_1096 : decode cL_law 1096 = .ok (.iadd, 1) := by decide +kernel
theorem d_L_law_1097 : decode cL_law 1097 = .ok (.iaload, 1) := by decide +kernel
theorem d_L_law_1098 : decode cL_law 1098 = .ok (.invokevirtual 144, 3) := by decide +kernel
theorem d_L_law_1101 : decode cL_law 1101 = .ok (.if_icmp .eq 274, 3) := by decide +kernel
theorem d_L_law_1104 : decode cL_law 1104 = .ok (.iconst 0, 1) := by decide +kernel
theorem d_L_law_1105 : decode cL_law 1105 = .ok (.ireturn, 1) := by decide +kernel
theorem d_L_law_1106 : decode cL_law 1106 = .ok (.aload_n 1, 1) := by decide +kernel
theorem d_L_law_1107 : decode cL_law 1107 = .ok (.aload_n 0, 1) := by decide +kernel
theorem d_L_law_1108 : decode cL_law 1108 = .ok (.iload_n 3, 1) := by decide +kernel
theorem d_L_law_1109 : decode cL_law 1109 = .ok (.iconst 1, 1) := by decide +kernel
theorem d_L_law_1110 : decode cL_law 1110 = .ok (.iadd, 1) := by decide +kernel
theorem d_L_law_1111 : decode cL_law 1111 = .ok (.iaload, 1) := by decide +kernel
theorem d_L_law_1112 : decode cL_law 1112 = .ok (.aload_n 0, 1) := by decide +kernel
theorem d_L_law_1113 : decode cL_law 1113 = .ok (.iload_n 3, 1) := by decide +kernel
theorem d_L_law_1114 : decode cL_law 1114 = .ok (.iconst 2, 1) := by decide +kernel
theorem d_L_law_1115 : decode cL_law 1115 = .ok (.iadd, 1) := by decide +kernel
theorem d_L_law_1116 : decode cL_law 1116 = .ok (.iaload, 1) := by decide +kernel
theorem d_L_law_1117 : decode cL_law 1117 = .ok (.aload_n 0, 1) := by decide +kernel
theorem d_L_law_1118 : decode cL_law 1118 = .ok (.iload_n 3, 1) := by decide +kernel
theorem d_L_law_1119 : decode cL_law 1119 = .ok (.iconst 3, 1) := by decide +kernel
theorem d_L_law_1120 : decode cL_law 1120 = .ok (.iadd, 1) := by decide +kernel
theorem d_L_law_1121 : decode cL_law 1121 = .ok (.iaload, 1) := by decide +kernel
theorem d_L_law_1122 : decode cL_law 1122 = .ok (.invokevirtual 145, 3) := by decide +kernel
theorem d_L_law_1125 : decode cL_law 1125 = .ok (.aload_n 2, 1) := by decide +kernel
theorem d_L_law_1126 : decode cL_law 1126 = .ok (.aload_n 0, 1) := by decide +kernel
theorem d_L_law_1127 : decode cL_law 1127 = .ok (.iload_n 3, 1) := by decide +kernel
theorem d_L_law_1128 : decode cL_law 1128 = .ok (.iconst 1, 1) := by decide +kernel
theorem d_L_law_1129 : decode cL_law 1129 = .ok (.iadd, 1) := by decide +kernel
theorem d_L_law_1130 : decode cL_law 1130 = .ok (.iaload, 1) := by decide +kernel
theorem d_L_law_1131 : decode cL_law 1131 = .ok (.aload_n 0, 1) := by decide +kernel
theorem d_L_law_1132 : decode cL_law 1132 = .ok (.iload_n 3, 1) := by decide +kernel
theorem d_L_law_1133 : decode cL_law 1133 = .ok (.iconst 2, 1) := by decide +kernel
theorem d_L_law_1134 : decode cL_law 1134 = .ok (.iadd, 1) := by decide +kernel
theorem d_L_law_1135 : decode cL_law 1135 = .ok (.iaload, 1) := by decide +kernel
theorem d_L_law_1136 : decode cL_law 1136 = .ok (.aload_n 0, 1) := by decide +kernel
theorem d_L_law_1137 : decode cL_law 1137 = .ok (.iload_n 3, 1) := by decide +kernel
theorem d_L_law_1138 : decode cL_law 1138 = .ok (.iconst 3, 1) := by decide +kernel
theorem d_L_law_1139 : decode cL_law 1139 = .ok (.iadd, 1) := by decide +kernel
theorem d_L_law_1140 : decode cL_law 1140 = .ok (.iaload, 1) := by decide +kernel
theorem d_L_law_1141 : decode cL_law 1141 = .ok (.invokevirtual 148, 3) := by decide +kernel
theorem d_L_law_1144 : decode cL_law 1144 = .ok (.if_icmp .eq 231, 3) := by decide +kernel
theorem d_L_law_1147 : decode cL_law 1147 = .ok (.iconst 0, 1) := by decide +kernel
theorem d_L_law_1148 : decode cL_law 1148 = .ok (.ireturn, 1) := by decide +kernel
theorem d_L_law_1149 : decode cL_law 1149 = .ok (.aload_n 1, 1) := by decide +kernel
theorem d_L_law_1150 : decode cL_law 1150 = .ok (.aload_n 0, 1) := by decide +kernel
theorem d_L_law_1151 : decode cL_law 1151 = .ok (.iload_n 3, 1) := by decide +kernel
theorem d_L_law_1152 : decode cL_law 1152 = .ok (.iconst 1, 1) := by decide +kernel
theorem d_L_law_1153 : decode cL_law 1153 = .ok (.iadd, 1) := by decide +kernel
theorem d_L_law_1154 : decode cL_law 1154 = .ok (.iaload, 1) := by decide +kernel
theorem d_L_law_1155 : decode cL_law 1155 = .ok (.aload_n 0, 1) := by decide +kernel
theorem d_L_law_1156 : decode cL_law 1156 = .ok (.iload_n 3, 1) := by decide +kernel
theorem d_L_law_1157 : decode cL_law 1157 = .ok (.iconst 2, 1) := by decide +kernel
theorem d_L_law_1158 : decode cL_law 1158 = .ok (.iadd, 1) := by decide +kernel
theorem d_L_law_1159 : decode cL_law 1159 = .ok (.iaload, 1) := by decide +kernel
theorem d_L_law_1160 : decode cL_law 1160 = .ok (.aload_n 0, 1) := by decide +kernel
theorem d_L_law_1161 : decode cL_law 1161 = .ok (.iload_n 3, 1) := by decide +kernel
theorem d_L_law_1162 : decode cL_law 1162 = .ok (.iconst 3, 1) := by decide +kernel
theorem d_L_law_1163 : decode cL_law 1163 = .ok (.iadd, 1) := by decide +kernel
theorem d_L_law_1164 : decode cL_law 1164 = .ok (.iaload, 1) := by decide +kernel
theorem d_L_law_1165 : decode cL_law 1165 = .ok (.i2l, 1) := by decide +kernel
theorem d_L_law_1166 : decode cL_law 1166 = .ok (.bipush 32, 2) := by decide +kernel
theorem d_L_law_1168 : decode cL_law 1168 = .ok (.lshl, 1) := by decide +kernel
theorem d_L_law_1169 : decode cL_law 1169 = .ok (.aload_n 0, 1) := by decide +kernel
theorem d_L_law_1170 : decode cL_law 1170 = .ok (.iload_n 3, 1) := by decide +kernel
theorem d_L_law_1171 : decode cL_law 1171 = .ok (.iconst 4, 1) := by decide +kernel
theorem d_L_law_1172 : decode cL_law 1172 = .ok (.iadd, 1) := by decide +kernel
theorem d_L_law_1173 : decode cL_law 1173 = .ok (.iaload, 1) := by decide +kernel
theorem d_L_law_1174 : decode cL_law 1174 = .ok (.i2l, 1) := by decide +kernel
theorem d_L_law_1175 : decode cL_law 1175 = .ok (.ldc2_w 149, 3) := by decide +kernel
theorem d_L_law_1178 : decode cL_law 1178 = .ok (.land, 1) := by decide +kernel
theorem d_L_law_1179 : decode cL_law 1179 = .ok (.lor, 1) := by decide +kernel
theorem d_L_law_1180 : decode cL_law 1180 = .ok (.invokevirtual 151, 3) := by decide +kernel
theorem d_L_law_1183 : decode cL_law 1183 = .ok (.aload_n 2, 1) := by decide +kernel
theorem d_L_law_1184 : decode cL_law 1184 = .ok (.aload_n 0, 1) := by decide +kernel
theorem d_L_law_1185 : decode cL_law 1185 = .ok (.iload_n 3, 1) := by decide +kernel
theorem d_L_law_1186 : decode cL_law 1186 = .ok (.iconst 1, 1) := by decide +kernel
theorem d_L_law_1187 : decode cL_law 1187 = .ok (.iadd, 1) := by decide +kernel
theorem d_L_law_1188 : decode cL_law 1188 = .ok (.iaload, 1) := by decide +kernel
theorem d_L_law_1189 : decode cL_law 1189 = .ok (.aload_n 0, 1) := by decide +kernel
theorem d_L_law_1190 : decode cL_law 1190 = .ok (.iload_n 3, 1) := by decide +kernel
theorem d_L_law_1191 : decode cL_law 1191 = .ok (.iconst 2, 1) := by decide +kernel
theorem d_L_law_1192 : decode cL_law 1192 = .ok (.iadd, 1) := by decide +kernel
theorem d_L_law_1193 : decode cL_law 1193 = .ok (.iaload, 1) := by decide +kernel
theorem d_L_law_1194 : decode cL_law 1194 = .ok (.aload_n 0, 1) := by decide +kernel
theorem d_L_law_1195 : decode cL_law 1195 = .ok (.iload_n 3, 1) := by decide +kernel
theorem d_L_law_1196 : decode cL_law 1196 = .ok (.iconst 3, 1) := by decide +kernel
theorem d_L_law_1197 : decode cL_law 1197 = .ok (.iadd, 1) := by decide +kernel
theorem d_L_law_1198 : decode cL_law 1198 = .ok (.iaload, 1) := by decide +kernel
theorem d_L_law_1199 : decode cL_law 1199 = .ok (.i2l, 1) := by decide +kernel
theorem d_L_law_1200 : decode cL_law 1200 = .ok (.bipush 32, 2) := by decide +kernel
theorem d_L_law_1202 : decode cL_law 1202 = .ok (.lshl, 1) := by decide +kernel
theorem d_L_law_1203 : decode cL_law 1203 = .ok (.aload_n 0, 1) := by decide +kernel
theorem d_L_law_1204 : decode cL_law 1204 = .ok (.iload_n 3, 1) := by decide +kernel
theorem d_L_law_1205 : decode cL_law 1205 = .ok (.iconst 4, 1) := by decide +kernel
theorem d_L_law_1206 : decode cL_law 1206 = .ok (.iadd, 1) := by decide +kernel
theorem d_L_law_1207 : decode cL_law 1207 = .ok (.iaload, 1) := by decide +kernel
theorem d_L_law_1208 : decode cL_law 1208 = .ok (.i2l, 1) := by decide +kernel
theorem d_L_law_1209 : decode cL_law 1209 = .ok (.ldc2_w 149, 3) := by decide +kernel
theorem d_L_law_1212 : decode cL_law 1212 = .ok (.land, 1) := by decide +kernel
theorem d_L_law_1213 : decode cL_law 1213 = .ok (.lor, 1) := by decide +kernel
theorem d_L_law_1214 : decode cL_law 1214 = .ok (.invokevirtual 155, 3) := by decide +kernel
theorem d_L_law_1217 : decode cL_law 1217 = .ok (.if_icmp .eq 158, 3) := by decide +kernel
theorem d_L_law_1220 : decode cL_law 1220 = .ok (.iconst 0, 1) := by decide +kernel
theorem d_L_law_1221 : decode cL_law 1221 = .ok (.ireturn, 1) := by decide +kernel
theorem d_L_law_1222 : decode cL_law 1222 = .ok (.aload_n 1, 1) := by decide +kernel
theorem d_L_law_1223 : decode cL_law 1223 = .ok (.aload_n 0, 1) := by decide +kernel
theorem d_L_law_1224 : decode cL_law 1224 = .ok (.iload_n 3, 1) := by decide +kernel
theorem d_L_law_1225 : decode cL_law 1225 = .ok (.iconst 1, 1) := by decide +kernel
theorem d_L_law_1226 : decode cL_law 1226 = .ok (.iadd, 1) := by decide +kernel
theorem d_L_law_1227 : decode cL_law 1227 = .ok (.iaload, 1) := by decide +kernel
theorem d_L_law_1228 : decode cL_law 1228 = .ok (.aload_n 0, 1) := by decide +kernel
theorem d_L_law_1229 : decode cL_law 1229 = .ok (.iload_n 3, 1) := by decide +kernel
theorem d_L_law_1230 : decode cL_law 1230 = .ok (.iconst 2, 1) := by decide +kernel
theorem d_L_law_1231 : decode cL_law 1231 = .ok (.iadd, 1) := by decide +kernel
theorem d_L_law_1232 : decode cL_law 1232 = .ok (.iaload, 1) := by decide +kernel
theorem d_L_law_1233 : decode cL_law 1233 = .ok (.invokevirtual 156, 3) := by decide +kernel
theorem d_L_law_1236 : decode cL_law 1236 = .ok (.aload_n 2, 1) := by decide +kernel
theorem d_L_law_1237 : decode cL_law 1237 = .ok (.aload_n 0, 1) := by decide +kernel
theorem d_L_law_1238 : decode cL_law 1238 = .ok (.iload_n 3, 1) := by decide +kernel
theorem d_L_law_1239 : decode cL_law 1239 = .ok (.iconst 1, 1) := by decide +kernel
theorem d_L_law_1240 : decode cL_law 1240 = .ok (.iadd, 1) := by decide +kernel
theorem d_L_law_1241 : decode cL_law 1241 = .ok (.iaload, 1) := by decide +kernel
theorem d_L_law_1242 : decode cL_law 1242 = .ok (.aload_n 0, 1) := by decide +kernel
theorem d_L_law_1243 : decode cL_law 1243 = .ok (.iload_n 3, 1) := by decide +kernel
theorem d_L_law_1244 : decode cL_law 1244 = .ok (.iconst 2, 1) := by decide +kernel
theorem d_L_law_1245 : decode cL_law 1245 = .ok (.iadd, 1) := by decide +kernel
theorem d_L_law_1246 : decode cL_law 1246 = .ok (.iaload, 1) := by decide +kernel
theorem d_L_law_1247 : decode cL_law 1247 = .ok (.invokevirtual 160, 3) := by decide +kernel
theorem d_L_law_1250 : decode cL_law 1250 = .ok (.lcmp, 1) := by decide +kernel
theorem d_L_law_1251 : decode cL_law 1251 = .ok (.ifCond .eq 124, 3) := by decide +kernel
theorem d_L_law_1254 : decode cL_law 1254 = .ok (.iconst 0, 1) := by decide +kernel
theorem d_L_law_1255 : decode cL_law 1255 = .ok (.ireturn, 1) := by decide +kernel
theorem d_L_law_1256 : decode cL_law 1256 = .ok (.aload_n 1, 1) := by decide +kernel
theorem d_L_law_1257 : decode cL_law 1257 = .ok (.aload_n 0, 1) := by decide +kernel
theorem d_L_law_1258 : decode cL_law 1258 = .ok (.iload_n 3, 1) := by decide +kernel
theorem d_L_law_1259 : decode cL_law 1259 = .ok (.iconst 1, 1) := by decide +kernel
theorem d_L_law_1260 : decode cL_law 1260 = .ok (.iadd, 1) := by decide +kernel
theorem d_L_law_1261 : decode cL_law 1261 = .ok (.iaload, 1) := by decide +kernel
theorem d_L_law_1262 : decode cL_law 1262 = .ok (.aload_n 0, 1) := by decide +kernel
theorem d_L_law_1263 : decode cL_law 1263 = .ok (.iload_n 3, 1) := by decide +kernel
theorem d_L_law_1264 : decode cL_law 1264 = .ok (.iconst 2, 1) := by decide +kernel
theorem d_L_law_1265 : decode cL_law 1265 = .ok (.iadd, 1) := by decide +kernel
theorem d_L_law_1266 : decode cL_law 1266 = .ok (.iaload, 1) := by decide +kernel
theorem d_L_law_1267 : decode cL_law 1267 = .ok (.aload_n 0, 1) := by decide +kernel
theorem d_L_law_1268 : decode cL_law 1268 = .ok (.iload_n 3, 1) := by decide +kernel
theorem d_L_law_1269 : decode cL_law 1269 = .ok (.iconst 3, 1) := by decide +kernel
theorem d_L_law_1270 : decode cL_law 1270 = .ok (.iadd, 1) := by decide +kernel
theorem d_L_law_1271 : decode cL_law 1271 = .ok (.iaload, 1) := by decide +kernel
theorem d_L_law_1272 : decode cL_law 1272 = .ok (.aload_n 0, 1) := by decide +kernel
theorem d_L_law_1273 : decode cL_law 1273 = .ok (.iload_n 3, 1) := by decide +kernel
theorem d_L_law_1274 : decode cL_law 1274 = .ok (.iconst 4, 1) := by decide +kernel
theorem d_L_law_1275 : decode cL_law 1275 = .ok (.iadd, 1) := by decide +kernel
theorem d_L_law_1276 : decode cL_law 1276 = .ok (.iaload, 1) := by decide +kernel
theorem d_L_law_1277 : decode cL_law 1277 = .ok (.aload_n 0, 1) := by decide +kernel
theorem d_L_law_1278 : decode cL_law 1278 = .ok (.iload_n 3, 1) := by decide +kernel
theorem d_L_law_1279 : decode cL_law 1279 = .ok (.iconst 5, 1) := by decide +kernel
theorem d_L_law_1280 : decode cL_law 1280 = .ok (.iadd, 1) := by decide +kernel
theorem d_L_law_1281 : decode cL_law 1281 = .ok (.iaload, 1) := by decide +kernel
theorem d_L_law_1282 : decode cL_law 1282 = .ok (.invokevirtual 161, 3) := by decide +kernel
theorem d_L_law_1285 : decode cL_law 1285 = .ok (.aload_n 2, 1) := by decide +kernel
theorem d_L_law_1286 : decode cL_law 1286 = .ok (.aload_n 0, 1) := by decide +kernel
theorem d_L_law_1287 : decode cL_law 1287 = .ok (.iload_n 3, 1) := by decide +kernel
theorem d_L_law_1288 : decode cL_law 1288 = .ok (.iconst 1, 1) := by decide +kernel
theorem d_L_law_1289 : decode cL_law 1289 = .ok (.iadd, 1) := by decide +kernel
theorem d_L_law_1290 : decode cL_law 1290 = .ok (.iaload, 1) := by decide +kernel
theorem d_L_law_1291 : decode cL_law 1291 = .ok (.aload_n 0, 1) := by decide +kernel
theorem d_L_law_1292 : decode cL_law 1292 = .ok (.iload_n 3, 1) := by decide +kernel
theorem d_L_law_1293 : decode cL_law 1293 = .ok (.iconst 2, 1) := by decide +kernel
theorem d_L_law_1294 : decode cL_law 1294 = .ok (.iadd, 1) := by decide +kernel
theorem d_L_law_1295 : decode cL_law 1295 = .ok (.iaload, 1) := by decide +kernel
theorem d_L_law_1296 : decode cL_law 1296 = .ok (.aload_n 0, 1) := by decide +kernel
theorem d_L_law_1297 : decode cL_law 1297 = .ok (.iload_n 3, 1) := by decide +kernel
theorem d_L_law_1298 : decode cL_law 1298 = .ok (.iconst 3, 1) := by decide +kernel
theorem d_L_law_1299 : decode cL_law 1299 = .ok (.iadd, 1) := by decide +kernel
theorem d_L_law_1300 : decode cL_law 1300 = .ok (.iaload, 1) := by decide +kernel
theorem d_L_law_1301 : decode cL_law 1301 = .ok (.aload_n 0, 1) := by decide +kernel
theorem d_L_law_1302 : decode cL_law 1302 = .ok (.iload_n 3, 1) := by decide +kernel
theorem d_L_law_1303 : decode cL_law 1303 = .ok (.iconst 4, 1) := by decide +kernel
theorem d_L_law_1304 : decode cL_law 1304 = .ok (.iadd, 1) := by decide +kernel
theorem d_L_law_1305 : decode cL_law 1305 = .ok (.iaload, 1) := by decide +kernel
theorem d_L_law_1306 : decode cL_law 1306 = .ok (.aload_n 0, 1) := by decide +kernel
theorem d_L_law_1307 : decode cL_law 1307 = .ok (.iload_n 3, 1) := by decide +kernel
theorem d_L_law_1308 : decode cL_law 1308 = .ok (.iconst 5, 1) := by decide +kernel
theorem d_L_law_1309 : decode cL_law 1309 = .ok (.iadd, 1) := by decide +kernel
theorem d_L_law_1310 : decode cL_law 1310 = .ok (.iaload, 1) := by decide +kernel
theorem d_L_law_1311 : decode cL_law 1311 = .ok (.invokevirtual 165, 3) := by decide +kernel
theorem d_L_law_1314 : decode cL_law 1314 = .ok (.if_icmp .eq 61, 3) := by decide +kernel
theorem d_L_law_1317 : decode cL_law 1317 = .ok (.iconst 0, 1) := by decide +kernel
theorem d_L_law_1318 : decode cL_law 1318 = .ok (.ireturn, 1) := by decide +kernel
theorem d_L_law_1319 : decode cL_law 1319 = .ok (.aload_n 1, 1) := by decide +kernel
theorem d_L_law_1320 : decode cL_law 1320 = .ok (.aload_n 0, 1) := by decide +kernel
theorem d_L_law_1321 : decode cL_law 1321 = .ok (.iload_n 3, 1) := by decide +kernel
theorem d_L_law_1322 : decode cL_law 1322 = .ok (.iconst 1, 1) := by decide +kernel
theorem d_L_law_1323 : decode cL_law 1323 = .ok (.iadd, 1) := by decide +kernel
theorem d_L_law_1324 : decode cL_law 1324 = .ok (.iaload, 1) := by decide +kernel
theorem d_L_law_1325 : decode cL_law 1325 = .ok (.aload_n 0, 1) := by decide +kernel
theorem d_L_law_1326 : decode cL_law 1326 = .ok (.iload_n 3, 1) := by decide +kernel
theorem d_L_law_1327 : decode cL_law 1327 = .ok (.iconst 2, 1) := by decide +kernel
theorem d_L_law_1328 : decode cL_law 1328 = .ok (.iadd, 1) := by decide +kernel
theorem d_L_law_1329 : decode cL_law 1329 = .ok (.iaload, 1) := by decide +kernel
theorem d_L_law_1330 : decode cL_law 1330 = .ok (.invokevirtual 166, 3) := by decide +kernel
theorem d_L_law_1333 : decode cL_law 1333 = .ok (.aload_n 2, 1) := by decide +kernel
theorem d_L_law_1334 : decode cL_law 1334 = .ok (.aload_n 0, 1) := by decide +kernel
theorem d_L_law_1335 : decode cL_law 1335 = .ok (.iload_n 3, 1) := by decide +kernel
theorem d_L_law_1336 : decode cL_law 1336 = .ok (.iconst 1, 1) := by decide +kernel
theorem d_L_law_1337 : decode cL_law 1337 = .ok (.iadd, 1) := by decide +kernel
theorem d_L_law_1338 : decode cL_law 1338 = .ok (.iaload, 1) := by decide +kernel
theorem d_L_law_1339 : decode cL_law 1339 = .ok (.aload_n 0, 1) := by decide +kernel
theorem d_L_law_1340 : decode cL_law 1340 = .ok (.iload_n 3, 1) := by decide +kernel
theorem d_L_law_1341 : decode cL_law 1341 = .ok (.iconst 2, 1) := by decide +kernel
theorem d_L_law_1342 : decode cL_law 1342 = .ok (.iadd, 1) := by decide +kernel
theorem d_L_law_1343 : decode cL_law 1343 = .ok (.iaload, 1) := by decide +kernel
theorem d_L_law_1344 : decode cL_law 1344 = .ok (.invokevirtual 169, 3) := by decide +kernel
theorem d_L_law_1347 : decode cL_law 1347 = .ok (.if_icmp .eq 28, 3) := by decide +kernel
theorem d_L_law_1350 : decode cL_law 1350 = .ok (.iconst 0, 1) := by decide +kernel
theorem d_L_law_1351 : decode cL_law 1351 = .ok (.ireturn, 1) := by decide +kernel
theorem d_L_law_1352 : decode cL_law 1352 = .ok (.aload_n 1, 1) := by decide +kernel
theorem d_L_law_1353 : decode cL_law 1353 = .ok (.aload_n 0, 1) := by decide +kernel
theorem d_L_law_1354 : decode cL_law 1354 = .ok (.iload_n 3, 1) := by decide +kernel
theorem d_L_law_1355 : decode cL_law 1355 = .ok (.iconst 1, 1) := by decide +kernel
theorem d_L_law_1356 : decode cL_law 1356 = .ok (.iadd, 1) := by decide +kernel
theorem d_L_law_1357 : decode cL_law 1357 = .ok (.iaload, 1) := by decide +kernel
theorem d_L_law_1358 : decode cL_law 1358 = .ok (.invokevirtual 170, 3) := by decide +kernel
theorem d_L_law_1361 : decode cL_law 1361 = .ok (.aload_n 2, 1) := by decide +kernel
theorem d_L_law_1362 : decode cL_law 1362 = .ok (.aload_n 0, 1) := by decide +kernel
theorem d_L_law_1363 : decode cL_law 1363 = .ok (.iload_n 3, 1) := by decide +kernel
theorem d_L_law_1364 : decode cL_law 1364 = .ok (.iconst 1, 1) := by decide +kernel
theorem d_L_law_1365 : decode cL_law 1365 = .ok (.iadd, 1) := by decide +kernel
theorem d_L_law_1366 : decode cL_law 1366 = .ok (.iaload, 1) := by decide +kernel
theorem d_L_law_1367 : decode cL_law 1367 = .ok (.invokevirtual 173, 3) := by decide +kernel
theorem d_L_law_1370 : decode cL_law 1370 = .ok (.if_icmp .eq 5, 3) := by decide +kernel
theorem d_L_law_1373 : decode cL_law 1373 = .ok (.iconst 0, 1) := by decide +kernel
theorem d_L_law_1374 : decode cL_law 1374 = .ok (.ireturn, 1) := by decide +kernel
theorem d_L_law_1375 : decode cL_law 1375 = .ok (.iinc 3 6, 3) := by decide +kernel
theorem d_L_law_1378 : decode cL_law 1378 = .ok (.goto (-1360), 3) := by decide +kernel
theorem d_L_law_1381 : decode cL_law 1381 = .ok (.iconst 1, 1) := by decide +kernel
theorem d_L_law_1382 : decode cL_law 1382 = .ok (.ireturn, 1) := by decide +kernel
def e_L0 : mEn := (m_s0, (cL_law, 4, (some .boolean), "OneHandEachLaw", false), 72, 0, 90)
def e_L1 : mEn := (m_sr, (cL_law, 4, (some .boolean), "OneHandEachLaw", false), 72, 0, 90)
def w_L_law_L18 (L : Nat) (xs : Nat → Int32) (K1381 : mH → Prop) (Q : Int32 → mH → Prop) : Nat → Int32 → mH → Prop
  | 0, _, _ => False
  | n + 1, l3, h => (((nI L) - 6 < l3 → K1381 h) ∧ (¬ (nI L) - 6 < l3 → vp_in l3 L ∧ ∀ x1 : Int32, x1 = (xs l3.toNatClampNeg) &&& 63 → ((x1 = 0 → vp_in (l3 + 1) L ∧ vp_in (l3 + 2) L ∧ vp_in (l3 + 3) L ∧ w_X11_mend (xs (l3 + 1).toNatClampNeg) (xs (l3 + 2).toNatClampNeg) (xs (l3 + 3).toNatClampNeg) h (fun v3 h2 => vp_in (l3 + 1) L ∧ vp_in (l3 + 2) L ∧ vp_in (l3 + 3) L ∧ w_X12_mend (xs (l3 + 1).toNatClampNeg) (xs (l3 + 2).toNatClampNeg) (xs (l3 + 3).toNatClampNeg) h2 (fun v5 h4 => ((v3 = v5 → (w_L_law_L18 L xs K1381 Q n) (l3 + 6) h4) ∧ (¬ v3 = v5 → Q 0 h4))))) ∧ (x1 = 1 → vp_in (l3 + 1) L ∧ vp_in (l3 + 2) L ∧ w_X11_of (xs (l3 + 1).toNatClampNeg) (xs (l3 + 2).toNatClampNeg) h (fun v8 h7 => vp_in (l3 + 1) L ∧ vp_in (l3 + 2) L ∧ w_X12_of (xs (l3 + 1).toNatClampNeg) (xs (l3 + 2).toNatClampNeg) h7 (fun v10 h9 => ((v8 = v10 → (w_L_law_L18 L xs K1381 Q n) (l3 + 6) h9) ∧ (¬ v8 = v10 → Q 0 h9))))) ∧ (x1 = 2 → vp_in (l3 + 1) L ∧ vp_in (l3 + 2) L ∧ vp_in (l3 + 3) L ∧ w_X11_shown (xs (l3 + 1).toNatClampNeg) (xs (l3 + 2).toNatClampNeg) (xs (l3 + 3).toNatClampNeg) h (fun v13 h12 => vp_in (l3 + 1) L ∧ vp_in (l3 + 2) L ∧ vp_in (l3 + 3) L ∧ w_X12_shown (xs (l3 + 1).toNatClampNeg) (xs (l3 + 2).toNatClampNeg) (xs (l3 + 3).toNatClampNeg) h12 (fun v15 h14 => ((v13 = v15 → (w_L_law_L18 L xs K1381 Q n) (l3 + 6) h14) ∧ (¬ v13 = v15 → Q 0 h14))))) ∧ (x1 = 3 → vp_in (l3 + 1) L ∧ w_X11_feed (xs (l3 + 1).toNatClampNeg) h (fun v18 h17 => vp_in (l3 + 1) L ∧ w_X12_feed (xs (l3 + 1).toNatClampNeg) h17 (fun v20 h19 => ((v18 = v20 → (w_L_law_L18 L xs K1381 Q n) (l3 + 6) h19) ∧ (¬ v18 = v20 → Q 0 h19))))) ∧ (x1 = 4 → w_X11_law h (fun v23 h22 => w_X12_law h22 (fun v25 h24 => ((v23 = v25 → (w_L_law_L18 L xs K1381 Q n) (l3 + 6) h24) ∧ (¬ v23 = v25 → Q 0 h24))))) ∧ (x1 = 5 → vp_in (l3 + 1) L ∧ w_X11_weight (xs (l3 + 1).toNatClampNeg) h (fun v28 h27 => vp_in (l3 + 1) L ∧ w_X12_weight (xs (l3 + 1).toNatClampNeg) h27 (fun v30 h29 => ((v28 = v30 → (w_L_law_L18 L xs K1381 Q n) (l3 + 6) h29) ∧ (¬ v28 = v30 → Q 0 h29))))) ∧ (x1 = 6 → vp_in (l3 + 1) L ∧ vp_in (l3 + 2) L ∧ w_X11_sight (xs (l3 + 1).toNatClampNeg) (xs (l3 + 2).toNatClampNeg) h (fun v33 h32 => vp_in (l3 + 1) L ∧ vp_in (l3 + 2) L ∧ w_X12_sight (xs (l3 + 1).toNatClampNeg) (xs (l3 + 2).toNatClampNeg) h32 (fun v35 h34 => ((v33 = v35 → (w_L_law_L18 L xs K1381 Q n) (l3 + 6) h34) ∧ (¬ v33 = v35 → Q 0 h34))))) ∧ (x1 = 7 → vp_in (l3 + 1) L ∧ vp_in (l3 + 2) L ∧ vp_in (l3 + 3) L ∧ w_X11_sights (xs (l3 + 1).toNatClampNeg) (xs (l3 + 2).toNatClampNeg) (xs (l3 + 3).toNatClampNeg) h (fun v38 h37 => vp_in (l3 + 1) L ∧ vp_in (l3 + 2) L ∧ vp_in (l3 + 3) L ∧ w_X12_sights (xs (l3 + 1).toNatClampNeg) (xs (l3 + 2).toNatClampNeg) (xs (l3 + 3).toNatClampNeg) h37 (fun v40 h39 => ((v38 = v40 → (w_L_law_L18 L xs K1381 Q n) (l3 + 6) h39) ∧ (¬ v38 = v40 → Q 0 h39))))) ∧ (x1 = 8 → w_X11_forget h (fun v43 h42 => w_X12_forget h42 (fun v45 h44 => ((v43 = v45 → (w_L_law_L18 L xs K1381 Q n) (l3 + 6) h44) ∧ (¬ v43 = v45 → Q 0 h44))))) ∧ (x1 = 9 → vp_in (l3 + 1) L ∧ w_X11_fits (xs (l3 + 1).toNatClampNeg) h (fun v48 h47 => vp_in (l3 + 1) L ∧ w_X12_fits (xs (l3 + 1).toNatClampNeg) h47 (fun v50 h49 => ((v48 = v50 → (w_L_law_L18 L xs K1381 Q n) (l3 + 6) h49) ∧ (¬ v48 = v50 → Q 0 h49))))) ∧ (x1 = 10 → vp_in (l3 + 1) L ∧ vp_in (l3 + 2) L ∧ w_X11_chance (xs (l3 + 1).toNatClampNeg) (xs (l3 + 2).toNatClampNeg) h (fun v53 h52 => vp_in (l3 + 1) L ∧ vp_in (l3 + 2) L ∧ w_X12_chance (xs (l3 + 1).toNatClampNeg) (xs (l3 + 2).toNatClampNeg) h52 (fun v55 h54 => ((v53 = v55 → (w_L_law_L18 L xs K1381 Q n) (l3 + 6) h54) ∧ (¬ v53 = v55 → Q 0 h54))))) ∧ (x1 = 11 → w_X11_likely h (fun v58 h57 => w_X12_likely h57 (fun v60 h59 => ((v58 = v60 → (w_L_law_L18 L xs K1381 Q n) (l3 + 6) h59) ∧ (¬ v58 = v60 → Q 0 h59))))) ∧ (x1 = 12 → vp_in (l3 + 1) L ∧ w_X11_tells (xs (l3 + 1).toNatClampNeg) h (fun v63 h62 => vp_in (l3 + 1) L ∧ w_X12_tells (xs (l3 + 1).toNatClampNeg) h62 (fun v65 h64 => ((v63 = v65 → (w_L_law_L18 L xs K1381 Q n) (l3 + 6) h64) ∧ (¬ v63 = v65 → Q 0 h64))))) ∧ (x1 = 13 → vp_in (l3 + 1) L ∧ vp_in (l3 + 2) L ∧ w_X11_next (xs (l3 + 1).toNatClampNeg) (xs (l3 + 2).toNatClampNeg) h (fun v68 h67 => vp_in (l3 + 1) L ∧ vp_in (l3 + 2) L ∧ w_X12_next (xs (l3 + 1).toNatClampNeg) (xs (l3 + 2).toNatClampNeg) h67 (fun v70 h69 => ((v68 = v70 → (w_L_law_L18 L xs K1381 Q n) (l3 + 6) h69) ∧ (¬ v68 = v70 → Q 0 h69))))) ∧ (x1 = 14 → vp_in (l3 + 1) L ∧ vp_in (l3 + 2) L ∧ vp_in (l3 + 3) L ∧ w_X11_lot (xs (l3 + 1).toNatClampNeg) (xs (l3 + 2).toNatClampNeg) (xs (l3 + 3).toNatClampNeg) h (fun v73 h72 => vp_in (l3 + 1) L ∧ vp_in (l3 + 2) L ∧ vp_in (l3 + 3) L ∧ w_X12_lot (xs (l3 + 1).toNatClampNeg) (xs (l3 + 2).toNatClampNeg) (xs (l3 + 3).toNatClampNeg) h72 (fun v75 h74 => ((v73 = v75 → (w_L_law_L18 L xs K1381 Q n) (l3 + 6) h74) ∧ (¬ v73 = v75 → Q 0 h74))))) ∧ (x1 = 15 → vp_in (l3 + 1) L ∧ vp_in (l3 + 2) L ∧ w_X11_gun (xs (l3 + 1).toNatClampNeg) (xs (l3 + 2).toNatClampNeg) h (fun v78 h77 => vp_in (l3 + 1) L ∧ vp_in (l3 + 2) L ∧ w_X12_gun (xs (l3 + 1).toNatClampNeg) (xs (l3 + 2).toNatClampNeg) h77 (fun v80 h79 => ((v78 = v80 → (w_L_law_L18 L xs K1381 Q n) (l3 + 6) h79) ∧ (¬ v78 = v80 → Q 0 h79))))) ∧ (x1 = 16 → vp_in (l3 + 1) L ∧ vp_in (l3 + 2) L ∧ w_X11_guess (xs (l3 + 1).toNatClampNeg) (xs (l3 + 2).toNatClampNeg) h (fun v83 h82 => vp_in (l3 + 1) L ∧ vp_in (l3 + 2) L ∧ w_X12_guess (xs (l3 + 1).toNatClampNeg) (xs (l3 + 2).toNatClampNeg) h82 (fun v85 h84 => ((v83 = v85 → (w_L_law_L18 L xs K1381 Q n) (l3 + 6) h84) ∧ (¬ v83 = v85 → Q 0 h84))))) ∧ (x1 = 17 → vp_in (l3 + 1) L ∧ w_X11_liars (xs (l3 + 1).toNatClampNeg) h (fun v88 h87 => vp_in (l3 + 1) L ∧ w_X12_liars (xs (l3 + 1).toNatClampNeg) h87 (fun v90 h89 => ((v88 = v90 → (w_L_law_L18 L xs K1381 Q n) (l3 + 6) h89) ∧ (¬ v88 = v90 → Q 0 h89))))) ∧ (x1 = 18 → vp_in (l3 + 1) L ∧ vp_in (l3 + 2) L ∧ vp_in (l3 + 3) L ∧ w_X11_agree (xs (l3 + 1).toNatClampNeg) (xs (l3 + 2).toNatClampNeg) (xs (l3 + 3).toNatClampNeg) h (fun v93 h92 => vp_in (l3 + 1) L ∧ vp_in (l3 + 2) L ∧ vp_in (l3 + 3) L ∧ w_X12_agree (xs (l3 + 1).toNatClampNeg) (xs (l3 + 2).toNatClampNeg) (xs (l3 + 3).toNatClampNeg) h92 (fun v95 h94 => ((v93 = v95 → (w_L_law_L18 L xs K1381 Q n) (l3 + 6) h94) ∧ (¬ v93 = v95 → Q 0 h94))))) ∧ (x1 = 19 → vp_in (l3 + 1) L ∧ vp_in (l3 + 2) L ∧ vp_in (l3 + 3) L ∧ w_X11_meet (xs (l3 + 1).toNatClampNeg) (xs (l3 + 2).toNatClampNeg) (xs (l3 + 3).toNatClampNeg) h (fun v98 h97 => vp_in (l3 + 1) L ∧ vp_in (l3 + 2) L ∧ vp_in (l3 + 3) L ∧ w_X12_meet (xs (l3 + 1).toNatClampNeg) (xs (l3 + 2).toNatClampNeg) (xs (l3 + 3).toNatClampNeg) h97 (fun v100 h99 => ((v98 = v100 → (w_L_law_L18 L xs K1381 Q n) (l3 + 6) h99) ∧ (¬ v98 = v100 → Q 0 h99))))) ∧ (x1 = 20 → vp_in (l3 + 1) L ∧ vp_in (l3 + 2) L ∧ w_X11_round (xs (l3 + 1).toNatClampNeg) (xs (l3 + 2).toNatClampNeg) h (fun v103 h102 => vp_in (l3 + 1) L ∧ vp_in (l3 + 2) L ∧ w_X12_round (xs (l3 + 1).toNatClampNeg) (xs (l3 + 2).toNatClampNeg) h102 (fun v105 h104 => ((v103 = v105 → (w_L_law_L18 L xs K1381 Q n) (l3 + 6) h104) ∧ (¬ v103 = v105 → Q 0 h104))))) ∧ (x1 = 21 → vp_in (l3 + 1) L ∧ vp_in (l3 + 2) L ∧ w_X11_set (xs (l3 + 1).toNatClampNeg) (xs (l3 + 2).toNatClampNeg) h (fun v108 h107 => vp_in (l3 + 1) L ∧ vp_in (l3 + 2) L ∧ w_X12_set (xs (l3 + 1).toNatClampNeg) (xs (l3 + 2).toNatClampNeg) h107 (fun v110 h109 => ((v108 = v110 → (w_L_law_L18 L xs K1381 Q n) (l3 + 6) h109) ∧ (¬ v108 = v110 → Q 0 h109))))) ∧ (x1 = 22 → vp_in (l3 + 1) L ∧ vp_in (l3 + 2) L ∧ w_X11_led (xs (l3 + 1).toNatClampNeg) (xs (l3 + 2).toNatClampNeg) h (fun v113 h112 => vp_in (l3 + 1) L ∧ vp_in (l3 + 2) L ∧ w_X12_led (xs (l3 + 1).toNatClampNeg) (xs (l3 + 2).toNatClampNeg) h112 (fun v115 h114 => ((v113 = v115 → (w_L_law_L18 L xs K1381 Q n) (l3 + 6) h114) ∧ (¬ v113 = v115 → Q 0 h114))))) ∧ (x1 = 23 → vp_in (l3 + 1) L ∧ w_X11_judge (xs (l3 + 1).toNatClampNeg) h (fun v118 h117 => vp_in (l3 + 1) L ∧ w_X12_judge (xs (l3 + 1).toNatClampNeg) h117 (fun v120 h119 => ((v118 = v120 → (w_L_law_L18 L xs K1381 Q n) (l3 + 6) h119) ∧ (¬ v118 = v120 → Q 0 h119))))) ∧ (x1 = 24 → w_X11_image h (fun v123 h122 => w_X12_image h122 (fun v125 h124 => ((v123 = v125 → (w_L_law_L18 L xs K1381 Q n) (l3 + 6) h124) ∧ (¬ v123 = v125 → Q 0 h124))))) ∧ (x1 = 25 → w_X11_back h (fun v128 h127 => w_X12_back h127 (fun v130 h129 => ((v128 = v130 → (w_L_law_L18 L xs K1381 Q n) (l3 + 6) h129) ∧ (¬ v128 = v130 → Q 0 h129))))) ∧ (x1 = 26 → w_X11_undo h (fun v133 h132 => w_X12_undo h132 (fun v135 h134 => ((v133 = v135 → (w_L_law_L18 L xs K1381 Q n) (l3 + 6) h134) ∧ (¬ v133 = v135 → Q 0 h134))))) ∧ (x1 = 27 → w_X11_redo h (fun v138 h137 => w_X12_redo h137 (fun v140 h139 => ((v138 = v140 → (w_L_law_L18 L xs K1381 Q n) (l3 + 6) h139) ∧ (¬ v138 = v140 → Q 0 h139))))) ∧ (x1 = 28 → vp_in (l3 + 1) L ∧ w_X11_body (xs (l3 + 1).toNatClampNeg) h (fun v143 h142 => vp_in (l3 + 1) L ∧ w_X12_body (xs (l3 + 1).toNatClampNeg) h142 (fun v145 h144 => ((v143 = v145 → (w_L_law_L18 L xs K1381 Q n) (l3 + 6) h144) ∧ (¬ v143 = v145 → Q 0 h144))))) ∧ (x1 = 29 → vp_in (l3 + 1) L ∧ vp_in (l3 + 2) L ∧ vp_in (l3 + 3) L ∧ w_X11_act (xs (l3 + 1).toNatClampNeg) (xs (l3 + 2).toNatClampNeg) (xs (l3 + 3).toNatClampNeg) h (fun v148 h147 => vp_in (l3 + 1) L ∧ vp_in (l3 + 2) L ∧ vp_in (l3 + 3) L ∧ w_X12_act (xs (l3 + 1).toNatClampNeg) (xs (l3 + 2).toNatClampNeg) (xs (l3 + 3).toNatClampNeg) h147 (fun v150 h149 => ((v148 = v150 → (w_L_law_L18 L xs K1381 Q n) (l3 + 6) h149) ∧ (¬ v148 = v150 → Q 0 h149))))) ∧ (x1 = 30 → vp_in (l3 + 1) L ∧ w_X11_trace (xs (l3 + 1).toNatClampNeg) h (fun v153 h152 => vp_in (l3 + 1) L ∧ w_X12_trace (xs (l3 + 1).toNatClampNeg) h152 (fun v155 h154 => ((v153 = v155 → (w_L_law_L18 L xs K1381 Q n) (l3 + 6) h154) ∧ (¬ v153 = v155 → Q 0 h154))))) ∧ (x1 = 31 → vp_in (l3 + 1) L ∧ vp_in (l3 + 2) L ∧ w_X11_keep (xs (l3 + 1).toNatClampNeg) (xs (l3 + 2).toNatClampNeg) h (fun v158 h157 => vp_in (l3 + 1) L ∧ vp_in (l3 + 2) L ∧ w_X12_keep (xs (l3 + 1).toNatClampNeg) (xs (l3 + 2).toNatClampNeg) h157 (fun v160 h159 => ((v158 = v160 → (w_L_law_L18 L xs K1381 Q n) (l3 + 6) h159) ∧ (¬ v158 = v160 → Q 0 h159))))) ∧ (x1 = 32 → vp_in (l3 + 1) L ∧ vp_in (l3 + 2) L ∧ vp_in (l3 + 3) L ∧ w_X11_row (xs (l3 + 1).toNatClampNeg) (xs (l3 + 2).toNatClampNeg) (xs (l3 + 3).toNatClampNeg) h (fun v163 h162 => vp_in (l3 + 1) L ∧ vp_in (l3 + 2) L ∧ vp_in (l3 + 3) L ∧ w_X12_row (xs (l3 + 1).toNatClampNeg) (xs (l3 + 2).toNatClampNeg) (xs (l3 + 3).toNatClampNeg) h162 (fun v165 h164 => ((v163 = v165 → (w_L_law_L18 L xs K1381 Q n) (l3 + 6) h164) ∧ (¬ v163 = v165 → Q 0 h164))))) ∧ (x1 = 33 → vp_in (l3 + 1) L ∧ vp_in (l3 + 2) L ∧ vp_in (l3 + 3) L ∧ vp_in (l3 + 4) L ∧ w_X11_put (xs (l3 + 1).toNatClampNeg) (xs (l3 + 2).toNatClampNeg) ((lshl ((xs (l3 + 3).toNatClampNeg).toInt64) 32) ||| (((xs (l3 + 4).toNatClampNeg).toInt64) &&& 4294967295)) h (fun v168 h167 => vp_in (l3 + 1) L ∧ vp_in (l3 + 2) L ∧ vp_in (l3 + 3) L ∧ vp_in (l3 + 4) L ∧ w_X12_put (xs (l3 + 1).toNatClampNeg) (xs (l3 + 2).toNatClampNeg) ((lshl ((xs (l3 + 3).toNatClampNeg).toInt64) 32) ||| (((xs (l3 + 4).toNatClampNeg).toInt64) &&& 4294967295)) h167 (fun v170 h169 => ((v168 = v170 → (w_L_law_L18 L xs K1381 Q n) (l3 + 6) h169) ∧ (¬ v168 = v170 → Q 0 h169))))) ∧ (x1 = 34 → vp_in (l3 + 1) L ∧ vp_in (l3 + 2) L ∧ w_X11_element (xs (l3 + 1).toNatClampNeg) (xs (l3 + 2).toNatClampNeg) h (fun v173 h172 => vp_in (l3 + 1) L ∧ vp_in (l3 + 2) L ∧ w_X12_element (xs (l3 + 1).toNatClampNeg) (xs (l3 + 2).toNatClampNeg) h172 (fun v175 h174 => ((lg_cmp v173 v175 = 0 → (w_L_law_L18 L xs K1381 Q n) (l3 + 6) h174) ∧ (¬ lg_cmp v173 v175 = 0 → Q 0 h174))))) ∧ (x1 = 35 → vp_in (l3 + 1) L ∧ vp_in (l3 + 2) L ∧ vp_in (l3 + 3) L ∧ vp_in (l3 + 4) L ∧ vp_in (l3 + 5) L ∧ w_X11_shift (xs (l3 + 1).toNatClampNeg) (xs (l3 + 2).toNatClampNeg) (xs (l3 + 3).toNatClampNeg) (xs (l3 + 4).toNatClampNeg) (xs (l3 + 5).toNatClampNeg) h (fun v178 h177 => vp_in (l3 + 1) L ∧ vp_in (l3 + 2) L ∧ vp_in (l3 + 3) L ∧ vp_in (l3 + 4) L ∧ vp_in (l3 + 5) L ∧ w_X12_shift (xs (l3 + 1).toNatClampNeg) (xs (l3 + 2).toNatClampNeg) (xs (l3 + 3).toNatClampNeg) (xs (l3 + 4).toNatClampNeg) (xs (l3 + 5).toNatClampNeg) h177 (fun v180 h179 => ((v178 = v180 → (w_L_law_L18 L xs K1381 Q n) (l3 + 6) h179) ∧ (¬ v178 = v180 → Q 0 h179))))) ∧ (x1 = 36 → vp_in (l3 + 1) L ∧ vp_in (l3 + 2) L ∧ w_X11_taken (xs (l3 + 1).toNatClampNeg) (xs (l3 + 2).toNatClampNeg) h (fun v183 h182 => vp_in (l3 + 1) L ∧ vp_in (l3 + 2) L ∧ w_X12_taken (xs (l3 + 1).toNatClampNeg) (xs (l3 + 2).toNatClampNeg) h182 (fun v185 h184 => ((v183 = v185 → (w_L_law_L18 L xs K1381 Q n) (l3 + 6) h184) ∧ (¬ v183 = v185 → Q 0 h184))))) ∧ (x1 = 37 → vp_in (l3 + 1) L ∧ w_X11_count (xs (l3 + 1).toNatClampNeg) h (fun v188 h187 => vp_in (l3 + 1) L ∧ w_X12_count (xs (l3 + 1).toNatClampNeg) h187 (fun v190 h189 => ((v188 = v190 → (w_L_law_L18 L xs K1381 Q n) (l3 + 6) h189) ∧ (¬ v188 = v190 → Q 0 h189))))) ∧ ((∀ k ∈ ([0, 1, 2, 3, 4, 5, 6, 7, 8, 9, 10, 11, 12, 13, 14, 15, 16, 17, 18, 19, 20, 21, 22, 23, 24, 25, 26, 27, 28, 29, 30, 31, 32, 33, 34, 35, 36, 37] : List Int32), ¬ x1 = k) → (w_L_law_L18 L xs K1381 Q n) (l3 + 6) h))))
def w_L_main (L : Nat) (xs : Nat → Int32) (h : mH) (Q : Int32 → mH → Prop) : Prop :=
  ∃ n193 : Nat, w_L_law_L18 L xs (fun h192 => Q 1 h192) Q n193 0 h
def w_L_pre (h : mH) (K : mH → Prop) : Prop :=
  ∀ h1 : mH, h1 = zo h 0 → w_X11_init_1 h1 (fun h2 => ∀ h3 : mH, h3 = zo h2 53 → w_X12_init_54 h3 (fun h4 => K h4))
set_option maxRecDepth 100000 in
theorem s_L_law_L18 {G : mG} {L : Nat} {xs : Nat → Int32} {Q : Int32 → mH → Prop} {K1381 : mH → Prop} (hL : G.2.2.2.2.2.2.1 = L) (hxs : G.2.2.2.2.2.2.2 = xs) (hK1381 : ∀ (h : mH), K1381 h → Sat G e_L1 (mQi Q) 90 1381 [none, none, none, none] [] h) : ∀ (n : Nat) (l3 : Int32) (h : mH), w_L_law_L18 L xs K1381 Q n l3 h → Sat G e_L1 (mQi Q) 90 18 [some (.ref 1000), some (.ref 0), some (.ref 53), some (.int l3)] [] h := by
  intro n
  induction n with
  | zero => intro l3 h hw; exact hw.elim
  | succ n ih =>
    intro l3 h hw
    unfold w_L_law_L18 at hw
    refine r_iload_n 19 d_L_law_18 rfl rfl ?_
    refine r_aload_n 20 d_L_law_19 rfl rfl ?_
    refine r_slen 21 hL d_L_law_20 rfl ?_
    refine r_bipush (v := 6) 23 d_L_law_21 rfl (by decide) ?_
    refine r_isub 24 d_L_law_23 rfl ?_
    refine r_icmp_gt 1381 27 d_L_law_24 (by decide) rfl (fun z => ?_) (fun z => ?_)
    · have hw := hw.1 z
      refine m_keep [false, false, false, false] (ls1 := [none, none, none, none]) rfl ?_
      exact hK1381 _ hw
    · have hw := hw.2 z
      refine r_aload_n 28 d_L_law_27 rfl rfl ?_
      refine r_iload_n 29 d_L_law_28 rfl rfl ?_
      obtain ⟨hg, hw⟩ := hw
      refine r_scr 30 hL hxs d_L_law_29 rfl hg ?_
      refine r_bipush (v := 63) 32 d_L_law_30 rfl (by decide) ?_
      refine r_iand 33 d_L_law_32 rfl ?_
      refine m_nmi (fun x1 ex1 => ?_)
      have hw := hw x1 ex1
      by_cases z0 : x1 = 0
      · have hw := hw.1 z0
        have hJ6 : Sat G e_L1 (mQi Q) 90 200 [some (.ref 1000), some (.ref 0), some (.ref 53), some (.int l3)] [] h := by
          refine r_aload_n 201 d_L_law_200 rfl rfl ?_
          refine r_aload_n 202 d_L_law_201 rfl rfl ?_
          refine r_iload_n 203 d_L_law_202 rfl rfl ?_
          refine r_iconst (v := 1) 204 d_L_law_203 rfl (by decide) ?_
          refine r_iadd 205 d_L_law_204 rfl ?_
          obtain ⟨hg, hw⟩ := hw
          refine r_scr 206 hL hxs d_L_law_205 rfl hg ?_
          refine r_aload_n 207 d_L_law_206 rfl rfl ?_
          refine r_iload_n 208 d_L_law_207 rfl rfl ?_
          refine r_iconst (v := 2) 209 d_L_law_208 rfl (by decide) ?_
          refine r_iadd 210 d_L_law_209 rfl ?_
          obtain ⟨hg, hw⟩ := hw
          refine r_scr 211 hL hxs d_L_law_210 rfl hg ?_
          refine r_aload_n 212 d_L_law_211 rfl rfl ?_
          refine r_iload_n 213 d_L_law_212 rfl rfl ?_
          refine r_iconst (v := 3) 214 d_L_law_213 rfl (by decide) ?_
          refine r_iadd 215 d_L_law_214 rfl ?_
          obtain ⟨hg, hw⟩ := hw
          refine r_scr 216 hL hxs d_L_law_215 rfl hg ?_
          refine r_callVi (E2 := e_X11_mend) (As := [.int (xs (l3 + 1).toNatClampNeg), .int (xs (l3 + 2).toNatClampNeg), .int (xs (l3 + 3).toNatClampNeg)]) 219 sh_0 rfl (by decide) (show 0 < 90 by decide) d_L_law_216 rfl q_367 k_X11_mend rfl rfl (Nat.le_of_ble_eq_true rfl) (Nat.le_of_ble_eq_true rfl) rfl rfl (Nat.le_refl _) (Nat.le_refl _) (s_X11_mend hw) ?_
          intro v3 h2 hw
          refine r_aload_n 220 d_L_law_219 rfl rfl ?_
          refine r_aload_n 221 d_L_law_220 rfl rfl ?_
          refine r_iload_n 222 d_L_law_221 rfl rfl ?_
          refine r_iconst (v := 1) 223 d_L_law_222 rfl (by decide) ?_
          refine r_iadd 224 d_L_law_223 rfl ?_
          obtain ⟨hg, hw⟩ := hw
          refine r_scr 225 hL hxs d_L_law_224 rfl hg ?_
          refine r_aload_n 226 d_L_law_225 rfl rfl ?_
          refine r_iload_n 227 d_L_law_226 rfl rfl ?_
          refine r_iconst (v := 2) 228 d_L_law_227 rfl (by decide) ?_
          refine r_iadd 229 d_L_law_228 rfl ?_
          obtain ⟨hg, hw⟩ := hw
          refine r_scr 230 hL hxs d_L_law_229 rfl hg ?_
          refine r_aload_n 231 d_L_law_230 rfl rfl ?_
          refine r_iload_n 232 d_L_law_231 rfl rfl ?_
          refine r_iconst (v := 3) 233 d_L_law_232 rfl (by decide) ?_
          refine r_iadd 234 d_L_law_233 rfl ?_
          obtain ⟨hg, hw⟩ := hw
          refine r_scr 235 hL hxs d_L_law_234 rfl hg ?_
          refine r_callVi (E2 := e_X12_mend) (As := [.int (xs (l3 + 1).toNatClampNeg), .int (xs (l3 + 2).toNatClampNeg), .int (xs (l3 + 3).toNatClampNeg)]) 238 sh_53 rfl (by decide) (show 53 < 90 by decide) d_L_law_235 rfl q_1093 k_X12_mend rfl rfl (Nat.le_of_ble_eq_true rfl) (Nat.le_of_ble_eq_true rfl) rfl rfl (Nat.le_refl _) (Nat.le_refl _) (s_X12_mend hw) ?_
          intro v5 h4 hw
          refine r_icmp_eq 1375 241 d_L_law_238 (by decide) rfl (fun z => ?_) (fun z => ?_)
          · have hw := hw.1 z
            refine r_iinc (v := l3 + 6) 1378 [some (.ref 1000), some (.ref 0), some (.ref 53), some (.int (l3 + 6))] d_L_law_1375 rfl rfl rfl (Nat.le_of_ble_eq_true rfl) rfl rfl ?_
            refine r_goto 18 d_L_law_1378 (by decide) ?_
            exact ih _ _ hw
          · have hw := hw.2 z
            refine r_iconst (v := 0) 242 d_L_law_241 rfl (by decide) ?_
            exact r_ireturn d_L_law_242 rfl rfl (by decide) hw
        exact r_tabK (off := 167) 0 200 z0 d_L_law_33 (by decide) (by decide) (by decide) (by decide) hJ6
      by_cases z1 : x1 = 1
      · have hw := hw.2.1 z1
        have hJ11 : Sat G e_L1 (mQi Q) 90 243 [some (.ref 1000), some (.ref 0), some (.ref 53), some (.int l3)] [] h := by
          refine r_aload_n 244 d_L_law_243 rfl rfl ?_
          refine r_aload_n 245 d_L_law_244 rfl rfl ?_
          refine r_iload_n 246 d_L_law_245 rfl rfl ?_
          refine r_iconst (v := 1) 247 d_L_law_246 rfl (by decide) ?_
          refine r_iadd 248 d_L_law_247 rfl ?_
          obtain ⟨hg, hw⟩ := hw
          refine r_scr 249 hL hxs d_L_law_248 rfl hg ?_
          refine r_aload_n 250 d_L_law_249 rfl rfl ?_
          refine r_iload_n 251 d_L_law_250 rfl rfl ?_
          refine r_iconst (v := 2) 252 d_L_law_251 rfl (by decide) ?_
          refine r_iadd 253 d_L_law_252 rfl ?_
          obtain ⟨hg, hw⟩ := hw
          refine r_scr 254 hL hxs d_L_law_253 rfl hg ?_
          refine r_callVi (E2 := e_X11_of) (As := [.int (xs (l3 + 1).toNatClampNeg), .int (xs (l3 + 2).toNatClampNeg)]) 257 sh_0 rfl (by decide) (show 0 < 90 by decide) d_L_law_254 rfl q_390 k_X11_of rfl rfl (Nat.le_of_ble_eq_true rfl) (Nat.le_of_ble_eq_true rfl) rfl rfl (Nat.le_refl _) (Nat.le_refl _) (s_X11_of hw) ?_
          intro v8 h7 hw
          refine r_aload_n 258 d_L_law_257 rfl rfl ?_
          refine r_aload_n 259 d_L_law_258 rfl rfl ?_
          refine r_iload_n 260 d_L_law_259 rfl rfl ?_
          refine r_iconst (v := 1) 261 d_L_law_260 rfl (by decide) ?_
          refine r_iadd 262 d_L_law_261 rfl ?_
          obtain ⟨hg, hw⟩ := hw
          refine r_scr 263 hL hxs d_L_law_262 rfl hg ?_
          refine r_aload_n 264 d_L_law_263 rfl rfl ?_
          refine r_iload_n 265 d_L_law_264 rfl rfl ?_
          refine r_iconst (v := 2) 266 d_L_law_265 rfl (by decide) ?_
          refine r_iadd 267 d_L_law_266 rfl ?_
          obtain ⟨hg, hw⟩ := hw
          refine r_scr 268 hL hxs d_L_law_267 rfl hg ?_
          refine r_callVi (E2 := e_X12_of) (As := [.int (xs (l3 + 1).toNatClampNeg), .int (xs (l3 + 2).toNatClampNeg)]) 271 sh_53 rfl (by decide) (show 53 < 90 by decide) d_L_law_268 rfl q_1106 k_X12_of rfl rfl (Nat.le_of_ble_eq_true rfl) (Nat.le_of_ble_eq_true rfl) rfl rfl (Nat.le_refl _) (Nat.le_refl _) (s_X12_of hw) ?_
          intro v10 h9 hw
          refine r_icmp_eq 1375 274 d_L_law_271 (by decide) rfl (fun z => ?_) (fun z => ?_)
          · have hw := hw.1 z
            refine r_iinc (v := l3 + 6) 1378 [some (.ref 1000), some (.ref 0), some (.ref 53), some (.int (l3 + 6))] d_L_law_1375 rfl rfl rfl (Nat.le_of_ble_eq_true rfl) rfl rfl ?_
            refine r_goto 18 d_L_law_1378 (by decide) ?_
            exact ih _ _ hw
          · have hw := hw.2 z
            refine r_iconst (v := 0) 275 d_L_law_274 rfl (by decide) ?_
            exact r_ireturn d_L_law_275 rfl rfl (by decide) hw
        exact r_tabK (off := 210) 1 243 z1 d_L_law_33 (by decide) (by decide) (by decide) (by decide) hJ11
      by_cases z2 : x1 = 2
      · have hw := hw.2.2.1 z2
        have hJ16 : Sat G e_L1 (mQi Q) 90 276 [some (.ref 1000), some (.ref 0), some (.ref 53), some (.int l3)] [] h := by
          refine r_aload_n 277 d_L_law_276 rfl rfl ?_
          refine r_aload_n 278 d_L_law_277 rfl rfl ?_
          refine r_iload_n 279 d_L_law_278 rfl rfl ?_
          refine r_iconst (v := 1) 280 d_L_law_279 rfl (by decide) ?_
          refine r_iadd 281 d_L_law_280 rfl ?_
          obtain ⟨hg, hw⟩ := hw
          refine r_scr 282 hL hxs d_L_law_281 rfl hg ?_
          refine r_aload_n 283 d_L_law_282 rfl rfl ?_
          refine r_iload_n 284 d_L_law_283 rfl rfl ?_
          refine r_iconst (v := 2) 285 d_L_law_284 rfl (by decide) ?_
          refine r_iadd 286 d_L_law_285 rfl ?_
          obtain ⟨hg, hw⟩ := hw
          refine r_scr 287 hL hxs d_L_law_286 rfl hg ?_
          refine r_aload_n 288 d_L_law_287 rfl rfl ?_
          refine r_iload_n 289 d_L_law_288 rfl rfl ?_
          refine r_iconst (v := 3) 290 d_L_law_289 rfl (by decide) ?_
          refine r_iadd 291 d_L_law_290 rfl ?_
          obtain ⟨hg, hw⟩ := hw
          refine r_scr 292 hL hxs d_L_law_291 rfl hg ?_
          refine r_callVi (E2 := e_X11_shown) (As := [.int (xs (l3 + 1).toNatClampNeg), .int (xs (l3 + 2).toNatClampNeg), .int (xs (l3 + 3).toNatClampNeg)]) 295 sh_0 rfl (by decide) (show 0 < 90 by decide) d_L_law_292 rfl q_402 k_X11_shown rfl rfl (Nat.le_of_ble_eq_true rfl) (Nat.le_of_ble_eq_true rfl) rfl rfl (Nat.le_refl _) (Nat.le_refl _) (s_X11_shown hw) ?_
          intro v13 h12 hw
          refine r_aload_n 296 d_L_law_295 rfl rfl ?_
          refine r_aload_n 297 d_L_law_296 rfl rfl ?_
          refine r_iload_n 298 d_L_law_297 rfl rfl ?_
          refine r_iconst (v := 1) 299 d_L_law_298 rfl (by decide) ?_
          refine r_iadd 300 d_L_law_299 rfl ?_
          obtain ⟨hg, hw⟩ := hw
          refine r_scr 301 hL hxs d_L_law_300 rfl hg ?_
          refine r_aload_n 302 d_L_law_301 rfl rfl ?_
          refine r_iload_n 303 d_L_law_302 rfl rfl ?_
          refine r_iconst (v := 2) 304 d_L_law_303 rfl (by decide) ?_
          refine r_iadd 305 d_L_law_304 rfl ?_
          obtain ⟨hg, hw⟩ := hw
          refine r_scr 306 hL hxs d_L_law_305 rfl hg ?_
          refine r_aload_n 307 d_L_law_306 rfl rfl ?_
          refine r_iload_n 308 d_L_law_307 rfl rfl ?_
          refine r_iconst (v := 3) 309 d_L_law_308 rfl (by decide) ?_
          refine r_iadd 310 d_L_law_309 rfl ?_
          obtain ⟨hg, hw⟩ := hw
          refine r_scr 311 hL hxs d_L_law_310 rfl hg ?_
          refine r_callVi (E2 := e_X12_shown) (As := [.int (xs (l3 + 1).toNatClampNeg), .int (xs (l3 + 2).toNatClampNeg), .int (xs (l3 + 3).toNatClampNeg)]) 314 sh_53 rfl (by decide) (show 53 < 90 by decide) d_L_law_311 rfl q_1053 k_X12_shown rfl rfl (Nat.le_of_ble_eq_true rfl) (Nat.le_of_ble_eq_true rfl) rfl rfl (Nat.le_refl _) (Nat.le_refl _) (s_X12_shown hw) ?_
          intro v15 h14 hw
          refine r_icmp_eq 1375 317 d_L_law_314 (by decide) rfl (fun z => ?_) (fun z => ?_)
          · have hw := hw.1 z
            refine r_iinc (v := l3 + 6) 1378 [some (.ref 1000), some (.ref 0), some (.ref 53), some (.int (l3 + 6))] d_L_law_1375 rfl rfl rfl (Nat.le_of_ble_eq_true rfl) rfl rfl ?_
            refine r_goto 18 d_L_law_1378 (by decide) ?_
            exact ih _ _ hw
          · have hw := hw.2 z
            refine r_iconst (v := 0) 318 d_L_law_317 rfl (by decide) ?_
            exact r_ireturn d_L_law_318 rfl rfl (by decide) hw
        exact r_tabK (off := 243) 2 276 z2 d_L_law_33 (by decide) (by decide) (by decide) (by decide) hJ16
      by_cases z3 : x1 = 3
      · have hw := hw.2.2.2.1 z3
        have hJ21 : Sat G e_L1 (mQi Q) 90 319 [some (.ref 1000), some (.ref 0), some (.ref 53), some (.int l3)] [] h := by
          refine r_aload_n 320 d_L_law_319 rfl rfl ?_
          refine r_aload_n 321 d_L_law_320 rfl rfl ?_
          refine r_iload_n 322 d_L_law_321 rfl rfl ?_
          refine r_iconst (v := 1) 323 d_L_law_322 rfl (by decide) ?_
          refine r_iadd 324 d_L_law_323 rfl ?_
          obtain ⟨hg, hw⟩ := hw
          refine r_scr 325 hL hxs d_L_law_324 rfl hg ?_
          refine r_callVi (E2 := e_X11_feed) (As := [.int (xs (l3 + 1).toNatClampNeg)]) 328 sh_0 rfl (by decide) (show 0 < 90 by decide) d_L_law_325 rfl q_438 k_X11_feed rfl rfl (Nat.le_of_ble_eq_true rfl) (Nat.le_of_ble_eq_true rfl) rfl rfl (Nat.le_refl _) (Nat.le_refl _) (s_X11_feed hw) ?_
          intro v18 h17 hw
          refine r_aload_n 329 d_L_law_328 rfl rfl ?_
          refine r_aload_n 330 d_L_law_329 rfl rfl ?_
          refine r_iload_n 331 d_L_law_330 rfl rfl ?_
          refine r_iconst (v := 1) 332 d_L_law_331 rfl (by decide) ?_
          refine r_iadd 333 d_L_law_332 rfl ?_
          obtain ⟨hg, hw⟩ := hw
          refine r_scr 334 hL hxs d_L_law_333 rfl hg ?_
          refine r_callVi (E2 := e_X12_feed) (As := [.int (xs (l3 + 1).toNatClampNeg)]) 337 sh_53 rfl (by decide) (show 53 < 90 by decide) d_L_law_334 rfl q_1137 k_X12_feed rfl rfl (Nat.le_of_ble_eq_true rfl) (Nat.le_of_ble_eq_true rfl) rfl rfl (Nat.le_refl _) (Nat.le_refl _) (s_X12_feed hw) ?_
          intro v20 h19 hw
          refine r_icmp_eq 1375 340 d_L_law_337 (by decide) rfl (fun z => ?_) (fun z => ?_)
          · have hw := hw.1 z
            refine r_iinc (v := l3 + 6) 1378 [some (.ref 1000), some (.ref 0), some (.ref 53), some (.int (l3 + 6))] d_L_law_1375 rfl rfl rfl (Nat.le_of_ble_eq_true rfl) rfl rfl ?_
            refine r_goto 18 d_L_law_1378 (by decide) ?_
            exact ih _ _ hw
          · have hw := hw.2 z
            refine r_iconst (v := 0) 341 d_L_law_340 rfl (by decide) ?_
            exact r_ireturn d_L_law_341 rfl rfl (by decide) hw
        exact r_tabK (off := 286) 3 319 z3 d_L_law_33 (by decide) (by decide) (by decide) (by decide) hJ21
      by_cases z4 : x1 = 4
      · have hw := hw.2.2.2.2.1 z4
        have hJ26 : Sat G e_L1 (mQi Q) 90 342 [some (.ref 1000), some (.ref 0), some (.ref 53), some (.int l3)] [] h := by
          refine r_aload_n 343 d_L_law_342 rfl rfl ?_
          refine r_callVi (E2 := e_X11_law) (As := []) 346 sh_0 rfl (by decide) (show 0 < 90 by decide) d_L_law_343 rfl q_450 k_X11_law rfl rfl (Nat.le_of_ble_eq_true rfl) (Nat.le_of_ble_eq_true rfl) rfl rfl (Nat.le_refl _) (Nat.le_refl _) (s_X11_law hw) ?_
          intro v23 h22 hw
          refine r_aload_n 347 d_L_law_346 rfl rfl ?_
          refine r_callVi (E2 := e_X12_law) (As := []) 350 sh_53 rfl (by decide) (show 53 < 90 by decide) d_L_law_347 rfl q_1141 k_X12_law rfl rfl (Nat.le_of_ble_eq_true rfl) (Nat.le_of_ble_eq_true rfl) rfl rfl (Nat.le_refl _) (Nat.le_refl _) (s_X12_law hw) ?_
          intro v25 h24 hw
          refine r_icmp_eq 1375 353 d_L_law_350 (by decide) rfl (fun z => ?_) (fun z => ?_)
          · have hw := hw.1 z
            refine r_iinc (v := l3 + 6) 1378 [some (.ref 1000), some (.ref 0), some (.ref 53), some (.int (l3 + 6))] d_L_law_1375 rfl rfl rfl (Nat.le_of_ble_eq_true rfl) rfl rfl ?_
            refine r_goto 18 d_L_law_1378 (by decide) ?_
            exact ih _ _ hw
          · have hw := hw.2 z
            refine r_iconst (v := 0) 354 d_L_law_353 rfl (by decide) ?_
            exact r_ireturn d_L_law_354 rfl rfl (by decide) hw
        exact r_tabK (off := 309) 4 342 z4 d_L_law_33 (by decide) (by decide) (by decide) (by decide) hJ26
      by_cases z5 : x1 = 5
      · have hw := hw.2.2.2.2.2.1 z5
        have hJ31 : Sat G e_L1 (mQi Q) 90 355 [some (.ref 1000), some (.ref 0), some (.ref 53), some (.int l3)] [] h := by
          refine r_aload_n 356 d_L_law_355 rfl rfl ?_
          refine r_aload_n 357 d_L_law_356 rfl rfl ?_
          refine r_iload_n 358 d_L_law_357 rfl rfl ?_
          refine r_iconst (v := 1) 359 d_L_law_358 rfl (by decide) ?_
          refine r_iadd 360 d_L_law_359 rfl ?_
          obtain ⟨hg, hw⟩ := hw
          refine r_scr 361 hL hxs d_L_law_360 rfl hg ?_
          refine r_callVi (E2 := e_X11_weight) (As := [.int (xs (l3 + 1).toNatClampNeg)]) 364 sh_0 rfl (by decide) (show 0 < 90 by decide) d_L_law_361 rfl q_497 k_X11_weight rfl rfl (Nat.le_of_ble_eq_true rfl) (Nat.le_of_ble_eq_true rfl) rfl rfl (Nat.le_refl _) (Nat.le_refl _) (s_X11_weight hw) ?_
          intro v28 h27 hw
          refine r_aload_n 365 d_L_law_364 rfl rfl ?_
          refine r_aload_n 366 d_L_law_365 rfl rfl ?_
          refine r_iload_n 367 d_L_law_366 rfl rfl ?_
          refine r_iconst (v := 1) 368 d_L_law_367 rfl (by decide) ?_
          refine r_iadd 369 d_L_law_368 rfl ?_
          obtain ⟨hg, hw⟩ := hw
          refine r_scr 370 hL hxs d_L_law_369 rfl hg ?_
          refine r_callVi (E2 := e_X12_weight) (As := [.int (xs (l3 + 1).toNatClampNeg)]) 373 sh_53 rfl (by decide) (show 53 < 90 by decide) d_L_law_370 rfl q_1200 k_X12_weight rfl rfl (Nat.le_of_ble_eq_true rfl) (Nat.le_of_ble_eq_true rfl) rfl rfl (Nat.le_refl _) (Nat.le_refl _) (s_X12_weight hw) ?_
          intro v30 h29 hw
          refine r_icmp_eq 1375 376 d_L_law_373 (by decide) rfl (fun z => ?_) (fun z => ?_)
          · have hw := hw.1 z
            refine r_iinc (v := l3 + 6) 1378 [some (.ref 1000), some (.ref 0), some (.ref 53), some (.int (l3 + 6))] d_L_law_1375 rfl rfl rfl (Nat.le_of_ble_eq_true rfl) rfl rfl ?_
            refine r_goto 18 d_L_law_1378 (by decide) ?_
            exact ih _ _ hw
          · have hw := hw.2 z
            refine r_iconst (v := 0) 377 d_L_law_376 rfl (by decide) ?_
            exact r_ireturn d_L_law_377 rfl rfl (by decide) hw
        exact r_tabK (off := 322) 5 355 z5 d_L_law_33 (by decide) (by decide) (by decide) (by decide) hJ31
      by_cases z6 : x1 = 6
      · have hw := hw.2.2.2.2.2.2.1 z6
        have hJ36 : Sat G e_L1 (mQi Q) 90 378 [some (.ref 1000), some (.ref 0), some (.ref 53), some (.int l3)] [] h := by
          refine r_aload_n 379 d_L_law_378 rfl rfl ?_
          refine r_aload_n 380 d_L_law_379 rfl rfl ?_
          refine r_iload_n 381 d_L_law_380 rfl rfl ?_
          refine r_iconst (v := 1) 382 d_L_law_381 rfl (by decide) ?_
          refine r_iadd 383 d_L_law_382 rfl ?_
          obtain ⟨hg, hw⟩ := hw
          refine r_scr 384 hL hxs d_L_law_383 rfl hg ?_
          refine r_aload_n 385 d_L_law_384 rfl rfl ?_
          refine r_iload_n 386 d_L_law_385 rfl rfl ?_
          refine r_iconst (v := 2) 387 d_L_law_386 rfl (by decide) ?_
          refine r_iadd 388 d_L_law_387 rfl ?_
          obtain ⟨hg, hw⟩ := hw
          refine r_scr 389 hL hxs d_L_law_388 rfl hg ?_
          refine r_callVi (E2 := e_X11_sight) (As := [.int (xs (l3 + 1).toNatClampNeg), .int (xs (l3 + 2).toNatClampNeg)]) 392 sh_0 rfl (by decide) (show 0 < 90 by decide) d_L_law_389 rfl q_543 k_X11_sight rfl rfl (Nat.le_of_ble_eq_true rfl) (Nat.le_of_ble_eq_true rfl) rfl rfl (Nat.le_refl _) (Nat.le_refl _) (s_X11_sight hw) ?_
          intro v33 h32 hw
          refine r_aload_n 393 d_L_law_392 rfl rfl ?_
          refine r_aload_n 394 d_L_law_393 rfl rfl ?_
          refine r_iload_n 395 d_L_law_394 rfl rfl ?_
          refine r_iconst (v := 1) 396 d_L_law_395 rfl (by decide) ?_
          refine r_iadd 397 d_L_law_396 rfl ?_
          obtain ⟨hg, hw⟩ := hw
          refine r_scr 398 hL hxs d_L_law_397 rfl hg ?_
          refine r_aload_n 399 d_L_law_398 rfl rfl ?_
          refine r_iload_n 400 d_L_law_399 rfl rfl ?_
          refine r_iconst (v := 2) 401 d_L_law_400 rfl (by decide) ?_
          refine r_iadd 402 d_L_law_401 rfl ?_
          obtain ⟨hg, hw⟩ := hw
          refine r_scr 403 hL hxs d_L_law_402 rfl hg ?_
          refine r_callVi (E2 := e_X12_sight) (As := [.int (xs (l3 + 1).toNatClampNeg), .int (xs (l3 + 2).toNatClampNeg)]) 406 sh_53 rfl (by decide) (show 53 < 90 by decide) d_L_law_403 rfl q_1110 k_X12_sight rfl rfl (Nat.le_of_ble_eq_true rfl) (Nat.le_of_ble_eq_true rfl) rfl rfl (Nat.le_refl _) (Nat.le_refl _) (s_X12_sight hw) ?_
          intro v35 h34 hw
          refine r_icmp_eq 1375 409 d_L_law_406 (by decide) rfl (fun z => ?_) (fun z => ?_)
          · have hw := hw.1 z
            refine r_iinc (v := l3 + 6) 1378 [some (.ref 1000), some (.ref 0), some (.ref 53), some (.int (l3 + 6))] d_L_law_1375 rfl rfl rfl (Nat.le_of_ble_eq_true rfl) rfl rfl ?_
            refine r_goto 18 d_L_law_1378 (by decide) ?_
            exact ih _ _ hw
          · have hw := hw.2 z
            refine r_iconst (v := 0) 410 d_L_law_409 rfl (by decide) ?_
            exact r_ireturn d_L_law_410 rfl rfl (by decide) hw
        exact r_tabK (off := 345) 6 378 z6 d_L_law_33 (by decide) (by decide) (by decide) (by decide) hJ36
      by_cases z7 : x1 = 7
      · have hw := hw.2.2.2.2.2.2.2.1 z7
        have hJ41 : Sat G e_L1 (mQi Q) 90 411 [some (.ref 1000), some (.ref 0), some (.ref 53), some (.int l3)] [] h := by
          refine r_aload_n 412 d_L_law_411 rfl rfl ?_
          refine r_aload_n 413 d_L_law_412 rfl rfl ?_
          refine r_iload_n 414 d_L_law_413 rfl rfl ?_
          refine r_iconst (v := 1) 415 d_L_law_414 rfl (by decide) ?_
          refine r_iadd 416 d_L_law_415 rfl ?_
          obtain ⟨hg, hw⟩ := hw
          refine r_scr 417 hL hxs d_L_law_416 rfl hg ?_
          refine r_aload_n 418 d_L_law_417 rfl rfl ?_
          refine r_iload_n 419 d_L_law_418 rfl rfl ?_
          refine r_iconst (v := 2) 420 d_L_law_419 rfl (by decide) ?_
          refine r_iadd 421 d_L_law_420 rfl ?_
          obtain ⟨hg, hw⟩ := hw
          refine r_scr 422 hL hxs d_L_law_421 rfl hg ?_
          refine r_aload_n 423 d_L_law_422 rfl rfl ?_
          refine r_iload_n 424 d_L_law_423 rfl rfl ?_
          refine r_iconst (v := 3) 425 d_L_law_424 rfl (by decide) ?_
          refine r_iadd 426 d_L_law_425 rfl ?_
          obtain ⟨hg, hw⟩ := hw
          refine r_scr 427 hL hxs d_L_law_426 rfl hg ?_
          refine r_callVi (E2 := e_X11_sights) (As := [.int (xs (l3 + 1).toNatClampNeg), .int (xs (l3 + 2).toNatClampNeg), .int (xs (l3 + 3).toNatClampNeg)]) 430 sh_0 rfl (by decide) (show 0 < 90 by decide) d_L_law_427 rfl q_566 k_X11_sights rfl rfl (Nat.le_of_ble_eq_true rfl) (Nat.le_of_ble_eq_true rfl) rfl rfl (Nat.le_refl _) (Nat.le_refl _) (s_X11_sights hw) ?_
          intro v38 h37 hw
          refine r_aload_n 431 d_L_law_430 rfl rfl ?_
          refine r_aload_n 432 d_L_law_431 rfl rfl ?_
          refine r_iload_n 433 d_L_law_432 rfl rfl ?_
          refine r_iconst (v := 1) 434 d_L_law_433 rfl (by decide) ?_
          refine r_iadd 435 d_L_law_434 rfl ?_
          obtain ⟨hg, hw⟩ := hw
          refine r_scr 436 hL hxs d_L_law_435 rfl hg ?_
          refine r_aload_n 437 d_L_law_436 rfl rfl ?_
          refine r_iload_n 438 d_L_law_437 rfl rfl ?_
          refine r_iconst (v := 2) 439 d_L_law_438 rfl (by decide) ?_
          refine r_iadd 440 d_L_law_439 rfl ?_
          obtain ⟨hg, hw⟩ := hw
          refine r_scr 441 hL hxs d_L_law_440 rfl hg ?_
          refine r_aload_n 442 d_L_law_441 rfl rfl ?_
          refine r_iload_n 443 d_L_law_442 rfl rfl ?_
          refine r_iconst (v := 3) 444 d_L_law_443 rfl (by decide) ?_
          refine r_iadd 445 d_L_law_444 rfl ?_
          obtain ⟨hg, hw⟩ := hw
          refine r_scr 446 hL hxs d_L_law_445 rfl hg ?_
          refine r_callVi (E2 := e_X12_sights) (As := [.int (xs (l3 + 1).toNatClampNeg), .int (xs (l3 + 2).toNatClampNeg), .int (xs (l3 + 3).toNatClampNeg)]) 449 sh_53 rfl (by decide) (show 53 < 90 by decide) d_L_law_446 rfl q_1121 k_X12_sights rfl rfl (Nat.le_of_ble_eq_true rfl) (Nat.le_of_ble_eq_true rfl) rfl rfl (Nat.le_refl _) (Nat.le_refl _) (s_X12_sights hw) ?_
          intro v40 h39 hw
          refine r_icmp_eq 1375 452 d_L_law_449 (by decide) rfl (fun z => ?_) (fun z => ?_)
          · have hw := hw.1 z
            refine r_iinc (v := l3 + 6) 1378 [some (.ref 1000), some (.ref 0), some (.ref 53), some (.int (l3 + 6))] d_L_law_1375 rfl rfl rfl (Nat.le_of_ble_eq_true rfl) rfl rfl ?_
            refine r_goto 18 d_L_law_1378 (by decide) ?_
            exact ih _ _ hw
          · have hw := hw.2 z
            refine r_iconst (v := 0) 453 d_L_law_452 rfl (by decide) ?_
            exact r_ireturn d_L_law_453 rfl rfl (by decide) hw
        exact r_tabK (off := 378) 7 411 z7 d_L_law_33 (by decide) (by decide) (by decide) (by decide) hJ41
      by_cases z8 : x1 = 8
      · have hw := hw.2.2.2.2.2.2.2.2.1 z8
        have hJ46 : Sat G e_L1 (mQi Q) 90 454 [some (.ref 1000), some (.ref 0), some (.ref 53), some (.int l3)] [] h := by
          refine r_aload_n 455 d_L_law_454 rfl rfl ?_
          refine r_callVi (E2 := e_X11_forget) (As := []) 458 sh_0 rfl (by decide) (show 0 < 90 by decide) d_L_law_455 rfl q_581 k_X11_forget rfl rfl (Nat.le_of_ble_eq_true rfl) (Nat.le_of_ble_eq_true rfl) rfl rfl (Nat.le_refl _) (Nat.le_refl _) (s_X11_forget hw) ?_
          intro v43 h42 hw
          refine r_aload_n 459 d_L_law_458 rfl rfl ?_
          refine r_callVi (E2 := e_X12_forget) (As := []) 462 sh_53 rfl (by decide) (show 53 < 90 by decide) d_L_law_459 rfl q_1129 k_X12_forget rfl rfl (Nat.le_of_ble_eq_true rfl) (Nat.le_of_ble_eq_true rfl) rfl rfl (Nat.le_refl _) (Nat.le_refl _) (s_X12_forget hw) ?_
          intro v45 h44 hw
          refine r_icmp_eq 1375 465 d_L_law_462 (by decide) rfl (fun z => ?_) (fun z => ?_)
          · have hw := hw.1 z
            refine r_iinc (v := l3 + 6) 1378 [some (.ref 1000), some (.ref 0), some (.ref 53), some (.int (l3 + 6))] d_L_law_1375 rfl rfl rfl (Nat.le_of_ble_eq_true rfl) rfl rfl ?_
            refine r_goto 18 d_L_law_1378 (by decide) ?_
            exact ih _ _ hw
          · have hw := hw.2 z
            refine r_iconst (v := 0) 466 d_L_law_465 rfl (by decide) ?_
            exact r_ireturn d_L_law_466 rfl rfl (by decide) hw
        exact r_tabK (off := 421) 8 454 z8 d_L_law_33 (by decide) (by decide) (by decide) (by decide) hJ46
      by_cases z9 : x1 = 9
      · have hw := hw.2.2.2.2.2.2.2.2.2.1 z9
        have hJ51 : Sat G e_L1 (mQi Q) 90 467 [some (.ref 1000), some (.ref 0), some (.ref 53), some (.int l3)] [] h := by
          refine r_aload_n 468 d_L_law_467 rfl rfl ?_
          refine r_aload_n 469 d_L_law_468 rfl rfl ?_
          refine r_iload_n 470 d_L_law_469 rfl rfl ?_
          refine r_iconst (v := 1) 471 d_L_law_470 rfl (by decide) ?_
          refine r_iadd 472 d_L_law_471 rfl ?_
          obtain ⟨hg, hw⟩ := hw
          refine r_scr 473 hL hxs d_L_law_472 rfl hg ?_
          refine r_callVi (E2 := e_X11_fits) (As := [.int (xs (l3 + 1).toNatClampNeg)]) 476 sh_0 rfl (by decide) (show 0 < 90 by decide) d_L_law_473 rfl q_585 k_X11_fits rfl rfl (Nat.le_of_ble_eq_true rfl) (Nat.le_of_ble_eq_true rfl) rfl rfl (Nat.le_refl _) (Nat.le_refl _) (s_X11_fits hw) ?_
          intro v48 h47 hw
          refine r_aload_n 477 d_L_law_476 rfl rfl ?_
          refine r_aload_n 478 d_L_law_477 rfl rfl ?_
          refine r_iload_n 479 d_L_law_478 rfl rfl ?_
          refine r_iconst (v := 1) 480 d_L_law_479 rfl (by decide) ?_
          refine r_iadd 481 d_L_law_480 rfl ?_
          obtain ⟨hg, hw⟩ := hw
          refine r_scr 482 hL hxs d_L_law_481 rfl hg ?_
          refine r_callVi (E2 := e_X12_fits) (As := [.int (xs (l3 + 1).toNatClampNeg)]) 485 sh_53 rfl (by decide) (show 53 < 90 by decide) d_L_law_482 rfl q_1219 k_X12_fits rfl rfl (Nat.le_of_ble_eq_true rfl) (Nat.le_of_ble_eq_true rfl) rfl rfl (Nat.le_refl _) (Nat.le_refl _) (s_X12_fits hw) ?_
          intro v50 h49 hw
          refine r_icmp_eq 1375 488 d_L_law_485 (by decide) rfl (fun z => ?_) (fun z => ?_)
          · have hw := hw.1 z
            refine r_iinc (v := l3 + 6) 1378 [some (.ref 1000), some (.ref 0), some (.ref 53), some (.int (l3 + 6))] d_L_law_1375 rfl rfl rfl (Nat.le_of_ble_eq_true rfl) rfl rfl ?_
            refine r_goto 18 d_L_law_1378 (by decide) ?_
            exact ih _ _ hw
          · have hw := hw.2 z
            refine r_iconst (v := 0) 489 d_L_law_488 rfl (by decide) ?_
            exact r_ireturn d_L_law_489 rfl rfl (by decide) hw
        exact r_tabK (off := 434) 9 467 z9 d_L_law_33 (by decide) (by decide) (by decide) (by decide) hJ51
      by_cases z10 : x1 = 10
      · have hw := hw.2.2.2.2.2.2.2.2.2.2.1 z10
        have hJ56 : Sat G e_L1 (mQi Q) 90 490 [some (.ref 1000), some (.ref 0), some (.ref 53), some (.int l3)] [] h := by
          refine r_aload_n 491 d_L_law_490 rfl rfl ?_
          refine r_aload_n 492 d_L_law_491 rfl rfl ?_
          refine r_iload_n 493 d_L_law_492 rfl rfl ?_
          refine r_iconst (v := 1) 494 d_L_law_493 rfl (by decide) ?_
          refine r_iadd 495 d_L_law_494 rfl ?_
          obtain ⟨hg, hw⟩ := hw
          refine r_scr 496 hL hxs d_L_law_495 rfl hg ?_
          refine r_aload_n 497 d_L_law_496 rfl rfl ?_
          refine r_iload_n 498 d_L_law_497 rfl rfl ?_
          refine r_iconst (v := 2) 499 d_L_law_498 rfl (by decide) ?_
          refine r_iadd 500 d_L_law_499 rfl ?_
          obtain ⟨hg, hw⟩ := hw
          refine r_scr 501 hL hxs d_L_law_500 rfl hg ?_
          refine r_callVi (E2 := e_X11_chance) (As := [.int (xs (l3 + 1).toNatClampNeg), .int (xs (l3 + 2).toNatClampNeg)]) 504 sh_0 rfl (by decide) (show 0 < 90 by decide) d_L_law_501 rfl q_620 k_X11_chance rfl rfl (Nat.le_of_ble_eq_true rfl) (Nat.le_of_ble_eq_true rfl) rfl rfl (Nat.le_refl _) (Nat.le_refl _) (s_X11_chance hw) ?_
          intro v53 h52 hw
          refine r_aload_n 505 d_L_law_504 rfl rfl ?_
          refine r_aload_n 506 d_L_law_505 rfl rfl ?_
          refine r_iload_n 507 d_L_law_506 rfl rfl ?_
          refine r_iconst (v := 1) 508 d_L_law_507 rfl (by decide) ?_
          refine r_iadd 509 d_L_law_508 rfl ?_
          obtain ⟨hg, hw⟩ := hw
          refine r_scr 510 hL hxs d_L_law_509 rfl hg ?_
          refine r_aload_n 511 d_L_law_510 rfl rfl ?_
          refine r_iload_n 512 d_L_law_511 rfl rfl ?_
          refine r_iconst (v := 2) 513 d_L_law_512 rfl (by decide) ?_
          refine r_iadd 514 d_L_law_513 rfl ?_
          obtain ⟨hg, hw⟩ := hw
          refine r_scr 515 hL hxs d_L_law_514 rfl hg ?_
          refine r_callVi (E2 := e_X12_chance) (As := [.int (xs (l3 + 1).toNatClampNeg), .int (xs (l3 + 2).toNatClampNeg)]) 518 sh_53 rfl (by decide) (show 53 < 90 by decide) d_L_law_515 rfl q_1235 k_X12_chance rfl rfl (Nat.le_of_ble_eq_true rfl) (Nat.le_of_ble_eq_true rfl) rfl rfl (Nat.le_refl _) (Nat.le_refl _) (s_X12_chance hw) ?_
          intro v55 h54 hw
          refine r_icmp_eq 1375 521 d_L_law_518 (by decide) rfl (fun z => ?_) (fun z => ?_)
          · have hw := hw.1 z
            refine r_iinc (v := l3 + 6) 1378 [some (.ref 1000), some (.ref 0), some (.ref 53), some (.int (l3 + 6))] d_L_law_1375 rfl rfl rfl (Nat.le_of_ble_eq_true rfl) rfl rfl ?_
            refine r_goto 18 d_L_law_1378 (by decide) ?_
            exact ih _ _ hw
          · have hw := hw.2 z
            refine r_iconst (v := 0) 522 d_L_law_521 rfl (by decide) ?_
            exact r_ireturn d_L_law_522 rfl rfl (by decide) hw
        exact r_tabK (off := 457) 10 490 z10 d_L_law_33 (by decide) (by decide) (by decide) (by decide) hJ56
      by_cases z11 : x1 = 11
      · have hw := hw.2.2.2.2.2.2.2.2.2.2.2.1 z11
        have hJ61 : Sat G e_L1 (mQi Q) 90 523 [some (.ref 1000), some (.ref 0), some (.ref 53), some (.int l3)] [] h := by
          refine r_aload_n 524 d_L_law_523 rfl rfl ?_
          refine r_callVi (E2 := e_X11_likely) (As := []) 527 sh_0 rfl (by decide) (show 0 < 90 by decide) d_L_law_524 rfl q_631 k_X11_likely rfl rfl (Nat.le_of_ble_eq_true rfl) (Nat.le_of_ble_eq_true rfl) rfl rfl (Nat.le_refl _) (Nat.le_refl _) (s_X11_likely hw) ?_
          intro v58 h57 hw
          refine r_aload_n 528 d_L_law_527 rfl rfl ?_
          refine r_callVi (E2 := e_X12_likely) (As := []) 531 sh_53 rfl (by decide) (show 53 < 90 by decide) d_L_law_528 rfl q_1242 k_X12_likely rfl rfl (Nat.le_of_ble_eq_true rfl) (Nat.le_of_ble_eq_true rfl) rfl rfl (Nat.le_refl _) (Nat.le_refl _) (s_X12_likely hw) ?_
          intro v60 h59 hw
          refine r_icmp_eq 1375 534 d_L_law_531 (by decide) rfl (fun z => ?_) (fun z => ?_)
          · have hw := hw.1 z
            refine r_iinc (v := l3 + 6) 1378 [some (.ref 1000), some (.ref 0), some (.ref 53), some (.int (l3 + 6))] d_L_law_1375 rfl rfl rfl (Nat.le_of_ble_eq_true rfl) rfl rfl ?_
            refine r_goto 18 d_L_law_1378 (by decide) ?_
            exact ih _ _ hw
          · have hw := hw.2 z
            refine r_iconst (v := 0) 535 d_L_law_534 rfl (by decide) ?_
            exact r_ireturn d_L_law_535 rfl rfl (by decide) hw
        exact r_tabK (off := 490) 11 523 z11 d_L_law_33 (by decide) (by decide) (by decide) (by decide) hJ61
      by_cases z12 : x1 = 12
      · have hw := hw.2.2.2.2.2.2.2.2.2.2.2.2.1 z12
        have hJ66 : Sat G e_L1 (mQi Q) 90 536 [some (.ref 1000), some (.ref 0), some (.ref 53), some (.int l3)] [] h := by
          refine r_aload_n 537 d_L_law_536 rfl rfl ?_
          refine r_aload_n 538 d_L_law_537 rfl rfl ?_
          refine r_iload_n 539 d_L_law_538 rfl rfl ?_
          refine r_iconst (v := 1) 540 d_L_law_539 rfl (by decide) ?_
          refine r_iadd 541 d_L_law_540 rfl ?_
          obtain ⟨hg, hw⟩ := hw
          refine r_scr 542 hL hxs d_L_law_541 rfl hg ?_
          refine r_callVi (E2 := e_X11_tells) (As := [.int (xs (l3 + 1).toNatClampNeg)]) 545 sh_0 rfl (by decide) (show 0 < 90 by decide) d_L_law_542 rfl q_635 k_X11_tells rfl rfl (Nat.le_of_ble_eq_true rfl) (Nat.le_of_ble_eq_true rfl) rfl rfl (Nat.le_refl _) (Nat.le_refl _) (s_X11_tells hw) ?_
          intro v63 h62 hw
          refine r_aload_n 546 d_L_law_545 rfl rfl ?_
          refine r_aload_n 547 d_L_law_546 rfl rfl ?_
          refine r_iload_n 548 d_L_law_547 rfl rfl ?_
          refine r_iconst (v := 1) 549 d_L_law_548 rfl (by decide) ?_
          refine r_iadd 550 d_L_law_549 rfl ?_
          obtain ⟨hg, hw⟩ := hw
          refine r_scr 551 hL hxs d_L_law_550 rfl hg ?_
          refine r_callVi (E2 := e_X12_tells) (As := [.int (xs (l3 + 1).toNatClampNeg)]) 554 sh_53 rfl (by decide) (show 53 < 90 by decide) d_L_law_551 rfl q_1246 k_X12_tells rfl rfl (Nat.le_of_ble_eq_true rfl) (Nat.le_of_ble_eq_true rfl) rfl rfl (Nat.le_refl _) (Nat.le_refl _) (s_X12_tells hw) ?_
          intro v65 h64 hw
          refine r_icmp_eq 1375 557 d_L_law_554 (by decide) rfl (fun z => ?_) (fun z => ?_)
          · have hw := hw.1 z
            refine r_iinc (v := l3 + 6) 1378 [some (.ref 1000), some (.ref 0), some (.ref 53), some (.int (l3 + 6))] d_L_law_1375 rfl rfl rfl (Nat.le_of_ble_eq_true rfl) rfl rfl ?_
            refine r_goto 18 d_L_law_1378 (by decide) ?_
            exact ih _ _ hw
          · have hw := hw.2 z
            refine r_iconst (v := 0) 558 d_L_law_557 rfl (by decide) ?_
            exact r_ireturn d_L_law_558 rfl rfl (by decide) hw
        exact r_tabK (off := 503) 12 536 z12 d_L_law_33 (by decide) (by decide) (by decide) (by decide) hJ66
      by_cases z13 : x1 = 13
      · have hw := hw.2.2.2.2.2.2.2.2.2.2.2.2.2.1 z13
        have hJ71 : Sat G e_L1 (mQi Q) 90 559 [some (.ref 1000), some (.ref 0), some (.ref 53), some (.int l3)] [] h := by
          refine r_aload_n 560 d_L_law_559 rfl rfl ?_
          refine r_aload_n 561 d_L_law_560 rfl rfl ?_
          refine r_iload_n 562 d_L_law_561 rfl rfl ?_
          refine r_iconst (v := 1) 563 d_L_law_562 rfl (by decide) ?_
          refine r_iadd 564 d_L_law_563 rfl ?_
          obtain ⟨hg, hw⟩ := hw
          refine r_scr 565 hL hxs d_L_law_564 rfl hg ?_
          refine r_aload_n 566 d_L_law_565 rfl rfl ?_
          refine r_iload_n 567 d_L_law_566 rfl rfl ?_
          refine r_iconst (v := 2) 568 d_L_law_567 rfl (by decide) ?_
          refine r_iadd 569 d_L_law_568 rfl ?_
          obtain ⟨hg, hw⟩ := hw
          refine r_scr 570 hL hxs d_L_law_569 rfl hg ?_
          refine r_callVi (E2 := e_X11_next) (As := [.int (xs (l3 + 1).toNatClampNeg), .int (xs (l3 + 2).toNatClampNeg)]) 573 sh_0 rfl (by decide) (show 0 < 90 by decide) d_L_law_570 rfl q_639 k_X11_next rfl rfl (Nat.le_of_ble_eq_true rfl) (Nat.le_of_ble_eq_true rfl) rfl rfl (Nat.le_refl _) (Nat.le_refl _) (s_X11_next hw) ?_
          intro v68 h67 hw
          refine r_aload_n 574 d_L_law_573 rfl rfl ?_
          refine r_aload_n 575 d_L_law_574 rfl rfl ?_
          refine r_iload_n 576 d_L_law_575 rfl rfl ?_
          refine r_iconst (v := 1) 577 d_L_law_576 rfl (by decide) ?_
          refine r_iadd 578 d_L_law_577 rfl ?_
          obtain ⟨hg, hw⟩ := hw
          refine r_scr 579 hL hxs d_L_law_578 rfl hg ?_
          refine r_aload_n 580 d_L_law_579 rfl rfl ?_
          refine r_iload_n 581 d_L_law_580 rfl rfl ?_
          refine r_iconst (v := 2) 582 d_L_law_581 rfl (by decide) ?_
          refine r_iadd 583 d_L_law_582 rfl ?_
          obtain ⟨hg, hw⟩ := hw
          refine r_scr 584 hL hxs d_L_law_583 rfl hg ?_
          refine r_callVi (E2 := e_X12_next) (As := [.int (xs (l3 + 1).toNatClampNeg), .int (xs (l3 + 2).toNatClampNeg)]) 587 sh_53 rfl (by decide) (show 53 < 90 by decide) d_L_law_584 rfl q_1250 k_X12_next rfl rfl (Nat.le_of_ble_eq_true rfl) (Nat.le_of_ble_eq_true rfl) rfl rfl (Nat.le_refl _) (Nat.le_refl _) (s_X12_next hw) ?_
          intro v70 h69 hw
          refine r_icmp_eq 1375 590 d_L_law_587 (by decide) rfl (fun z => ?_) (fun z => ?_)
          · have hw := hw.1 z
            refine r_iinc (v := l3 + 6) 1378 [some (.ref 1000), some (.ref 0), some (.ref 53), some (.int (l3 + 6))] d_L_law_1375 rfl rfl rfl (Nat.le_of_ble_eq_true rfl) rfl rfl ?_
            refine r_goto 18 d_L_law_1378 (by decide) ?_
            exact ih _ _ hw
          · have hw := hw.2 z
            refine r_iconst (v := 0) 591 d_L_law_590 rfl (by decide) ?_
            exact r_ireturn d_L_law_591 rfl rfl (by decide) hw
        exact r_tabK (off := 526) 13 559 z13 d_L_law_33 (by decide) (by decide) (by decide) (by decide) hJ71
      by_cases z14 : x1 = 14
      · have hw := hw.2.2.2.2.2.2.2.2.2.2.2.2.2.2.1 z14
        have hJ76 : Sat G e_L1 (mQi Q) 90 592 [some (.ref 1000), some (.ref 0), some (.ref 53), some (.int l3)] [] h := by
          refine r_aload_n 593 d_L_law_592 rfl rfl ?_
          refine r_aload_n 594 d_L_law_593 rfl rfl ?_
          refine r_iload_n 595 d_L_law_594 rfl rfl ?_
          refine r_iconst (v := 1) 596 d_L_law_595 rfl (by decide) ?_
          refine r_iadd 597 d_L_law_596 rfl ?_
          obtain ⟨hg, hw⟩ := hw
          refine r_scr 598 hL hxs d_L_law_597 rfl hg ?_
          refine r_aload_n 599 d_L_law_598 rfl rfl ?_
          refine r_iload_n 600 d_L_law_599 rfl rfl ?_
          refine r_iconst (v := 2) 601 d_L_law_600 rfl (by decide) ?_
          refine r_iadd 602 d_L_law_601 rfl ?_
          obtain ⟨hg, hw⟩ := hw
          refine r_scr 603 hL hxs d_L_law_602 rfl hg ?_
          refine r_aload_n 604 d_L_law_603 rfl rfl ?_
          refine r_iload_n 605 d_L_law_604 rfl rfl ?_
          refine r_iconst (v := 3) 606 d_L_law_605 rfl (by decide) ?_
          refine r_iadd 607 d_L_law_606 rfl ?_
          obtain ⟨hg, hw⟩ := hw
          refine r_scr 608 hL hxs d_L_law_607 rfl hg ?_
          refine r_callVi (E2 := e_X11_lot) (As := [.int (xs (l3 + 1).toNatClampNeg), .int (xs (l3 + 2).toNatClampNeg), .int (xs (l3 + 3).toNatClampNeg)]) 611 sh_0 rfl (by decide) (show 0 < 90 by decide) d_L_law_608 rfl q_650 k_X11_lot rfl rfl (Nat.le_of_ble_eq_true rfl) (Nat.le_of_ble_eq_true rfl) rfl rfl (Nat.le_refl _) (Nat.le_refl _) (s_X11_lot hw) ?_
          intro v73 h72 hw
          refine r_aload_n 612 d_L_law_611 rfl rfl ?_
          refine r_aload_n 613 d_L_law_612 rfl rfl ?_
          refine r_iload_n 614 d_L_law_613 rfl rfl ?_
          refine r_iconst (v := 1) 615 d_L_law_614 rfl (by decide) ?_
          refine r_iadd 616 d_L_law_615 rfl ?_
          obtain ⟨hg, hw⟩ := hw
          refine r_scr 617 hL hxs d_L_law_616 rfl hg ?_
          refine r_aload_n 618 d_L_law_617 rfl rfl ?_
          refine r_iload_n 619 d_L_law_618 rfl rfl ?_
          refine r_iconst (v := 2) 620 d_L_law_619 rfl (by decide) ?_
          refine r_iadd 621 d_L_law_620 rfl ?_
          obtain ⟨hg, hw⟩ := hw
          refine r_scr 622 hL hxs d_L_law_621 rfl hg ?_
          refine r_aload_n 623 d_L_law_622 rfl rfl ?_
          refine r_iload_n 624 d_L_law_623 rfl rfl ?_
          refine r_iconst (v := 3) 625 d_L_law_624 rfl (by decide) ?_
          refine r_iadd 626 d_L_law_625 rfl ?_
          obtain ⟨hg, hw⟩ := hw
          refine r_scr 627 hL hxs d_L_law_626 rfl hg ?_
          refine r_callVi (E2 := e_X12_lot) (As := [.int (xs (l3 + 1).toNatClampNeg), .int (xs (l3 + 2).toNatClampNeg), .int (xs (l3 + 3).toNatClampNeg)]) 630 sh_53 rfl (by decide) (show 53 < 90 by decide) d_L_law_627 rfl q_1258 k_X12_lot rfl rfl (Nat.le_of_ble_eq_true rfl) (Nat.le_of_ble_eq_true rfl) rfl rfl (Nat.le_refl _) (Nat.le_refl _) (s_X12_lot hw) ?_
          intro v75 h74 hw
          refine r_icmp_eq 1375 633 d_L_law_630 (by decide) rfl (fun z => ?_) (fun z => ?_)
          · have hw := hw.1 z
            refine r_iinc (v := l3 + 6) 1378 [some (.ref 1000), some (.ref 0), some (.ref 53), some (.int (l3 + 6))] d_L_law_1375 rfl rfl rfl (Nat.le_of_ble_eq_true rfl) rfl rfl ?_
            refine r_goto 18 d_L_law_1378 (by decide) ?_
            exact ih _ _ hw
          · have hw := hw.2 z
            refine r_iconst (v := 0) 634 d_L_law_633 rfl (by decide) ?_
            exact r_ireturn d_L_law_634 rfl rfl (by decide) hw
        exact r_tabK (off := 559) 14 592 z14 d_L_law_33 (by decide) (by decide) (by decide) (by decide) hJ76
      by_cases z15 : x1 = 15
      · have hw := hw.2.2.2.2.2.2.2.2.2.2.2.2.2.2.2.1 z15
        have hJ81 : Sat G e_L1 (mQi Q) 90 635 [some (.ref 1000), some (.ref 0), some (.ref 53), some (.int l3)] [] h := by
          refine r_aload_n 636 d_L_law_635 rfl rfl ?_
          refine r_aload_n 637 d_L_law_636 rfl rfl ?_
          refine r_iload_n 638 d_L_law_637 rfl rfl ?_
          refine r_iconst (v := 1) 639 d_L_law_638 rfl (by decide) ?_
          refine r_iadd 640 d_L_law_639 rfl ?_
          obtain ⟨hg, hw⟩ := hw
          refine r_scr 641 hL hxs d_L_law_640 rfl hg ?_
          refine r_aload_n 642 d_L_law_641 rfl rfl ?_
          refine r_iload_n 643 d_L_law_642 rfl rfl ?_
          refine r_iconst (v := 2) 644 d_L_law_643 rfl (by decide) ?_
          refine r_iadd 645 d_L_law_644 rfl ?_
          obtain ⟨hg, hw⟩ := hw
          refine r_scr 646 hL hxs d_L_law_645 rfl hg ?_
          refine r_callVi (E2 := e_X11_gun) (As := [.int (xs (l3 + 1).toNatClampNeg), .int (xs (l3 + 2).toNatClampNeg)]) 649 sh_0 rfl (by decide) (show 0 < 90 by decide) d_L_law_646 rfl q_667 k_X11_gun rfl rfl (Nat.le_of_ble_eq_true rfl) (Nat.le_of_ble_eq_true rfl) rfl rfl (Nat.le_refl _) (Nat.le_refl _) (s_X11_gun hw) ?_
          intro v78 h77 hw
          refine r_aload_n 650 d_L_law_649 rfl rfl ?_
          refine r_aload_n 651 d_L_law_650 rfl rfl ?_
          refine r_iload_n 652 d_L_law_651 rfl rfl ?_
          refine r_iconst (v := 1) 653 d_L_law_652 rfl (by decide) ?_
          refine r_iadd 654 d_L_law_653 rfl ?_
          obtain ⟨hg, hw⟩ := hw
          refine r_scr 655 hL hxs d_L_law_654 rfl hg ?_
          refine r_aload_n 656 d_L_law_655 rfl rfl ?_
          refine r_iload_n 657 d_L_law_656 rfl rfl ?_
          refine r_iconst (v := 2) 658 d_L_law_657 rfl (by decide) ?_
          refine r_iadd 659 d_L_law_658 rfl ?_
          obtain ⟨hg, hw⟩ := hw
          refine r_scr 660 hL hxs d_L_law_659 rfl hg ?_
          refine r_callVi (E2 := e_X12_gun) (As := [.int (xs (l3 + 1).toNatClampNeg), .int (xs (l3 + 2).toNatClampNeg)]) 663 sh_53 rfl (by decide) (show 53 < 90 by decide) d_L_law_660 rfl q_1133 k_X12_gun rfl rfl (Nat.le_of_ble_eq_true rfl) (Nat.le_of_ble_eq_true rfl) rfl rfl (Nat.le_refl _) (Nat.le_refl _) (s_X12_gun hw) ?_
          intro v80 h79 hw
          refine r_icmp_eq 1375 666 d_L_law_663 (by decide) rfl (fun z => ?_) (fun z => ?_)
          · have hw := hw.1 z
            refine r_iinc (v := l3 + 6) 1378 [some (.ref 1000), some (.ref 0), some (.ref 53), some (.int (l3 + 6))] d_L_law_1375 rfl rfl rfl (Nat.le_of_ble_eq_true rfl) rfl rfl ?_
            refine r_goto 18 d_L_law_1378 (by decide) ?_
            exact ih _ _ hw
          · have hw := hw.2 z
            refine r_iconst (v := 0) 667 d_L_law_666 rfl (by decide) ?_
            exact r_ireturn d_L_law_667 rfl rfl (by decide) hw
        exact r_tabK (off := 602) 15 635 z15 d_L_law_33 (by decide) (by decide) (by decide) (by decide) hJ81
      by_cases z16 : x1 = 16
      · have hw := hw.2.2.2.2.2.2.2.2.2.2.2.2.2.2.2.2.1 z16
        have hJ86 : Sat G e_L1 (mQi Q) 90 668 [some (.ref 1000), some (.ref 0), some (.ref 53), some (.int l3)] [] h := by
          refine r_aload_n 669 d_L_law_668 rfl rfl ?_
          refine r_aload_n 670 d_L_law_669 rfl rfl ?_
          refine r_iload_n 671 d_L_law_670 rfl rfl ?_
          refine r_iconst (v := 1) 672 d_L_law_671 rfl (by decide) ?_
          refine r_iadd 673 d_L_law_672 rfl ?_
          obtain ⟨hg, hw⟩ := hw
          refine r_scr 674 hL hxs d_L_law_673 rfl hg ?_
          refine r_aload_n 675 d_L_law_674 rfl rfl ?_
          refine r_iload_n 676 d_L_law_675 rfl rfl ?_
          refine r_iconst (v := 2) 677 d_L_law_676 rfl (by decide) ?_
          refine r_iadd 678 d_L_law_677 rfl ?_
          obtain ⟨hg, hw⟩ := hw
          refine r_scr 679 hL hxs d_L_law_678 rfl hg ?_
          refine r_callVi (E2 := e_X11_guess) (As := [.int (xs (l3 + 1).toNatClampNeg), .int (xs (l3 + 2).toNatClampNeg)]) 682 sh_0 rfl (by decide) (show 0 < 90 by decide) d_L_law_679 rfl q_671 k_X11_guess rfl rfl (Nat.le_of_ble_eq_true rfl) (Nat.le_of_ble_eq_true rfl) rfl rfl (Nat.le_refl _) (Nat.le_refl _) (s_X11_guess hw) ?_
          intro v83 h82 hw
          refine r_aload_n 683 d_L_law_682 rfl rfl ?_
          refine r_aload_n 684 d_L_law_683 rfl rfl ?_
          refine r_iload_n 685 d_L_law_684 rfl rfl ?_
          refine r_iconst (v := 1) 686 d_L_law_685 rfl (by decide) ?_
          refine r_iadd 687 d_L_law_686 rfl ?_
          obtain ⟨hg, hw⟩ := hw
          refine r_scr 688 hL hxs d_L_law_687 rfl hg ?_
          refine r_aload_n 689 d_L_law_688 rfl rfl ?_
          refine r_iload_n 690 d_L_law_689 rfl rfl ?_
          refine r_iconst (v := 2) 691 d_L_law_690 rfl (by decide) ?_
          refine r_iadd 692 d_L_law_691 rfl ?_
          obtain ⟨hg, hw⟩ := hw
          refine r_scr 693 hL hxs d_L_law_692 rfl hg ?_
          refine r_callVi (E2 := e_X12_guess) (As := [.int (xs (l3 + 1).toNatClampNeg), .int (xs (l3 + 2).toNatClampNeg)]) 696 sh_53 rfl (by decide) (show 53 < 90 by decide) d_L_law_693 rfl q_1271 k_X12_guess rfl rfl (Nat.le_of_ble_eq_true rfl) (Nat.le_of_ble_eq_true rfl) rfl rfl (Nat.le_refl _) (Nat.le_refl _) (s_X12_guess hw) ?_
          intro v85 h84 hw
          refine r_icmp_eq 1375 699 d_L_law_696 (by decide) rfl (fun z => ?_) (fun z => ?_)
          · have hw := hw.1 z
            refine r_iinc (v := l3 + 6) 1378 [some (.ref 1000), some (.ref 0), some (.ref 53), some (.int (l3 + 6))] d_L_law_1375 rfl rfl rfl (Nat.le_of_ble_eq_true rfl) rfl rfl ?_
            refine r_goto 18 d_L_law_1378 (by decide) ?_
            exact ih _ _ hw
          · have hw := hw.2 z
            refine r_iconst (v := 0) 700 d_L_law_699 rfl (by decide) ?_
            exact r_ireturn d_L_law_700 rfl rfl (by decide) hw
        exact r_tabK (off := 635) 16 668 z16 d_L_law_33 (by decide) (by decide) (by decide) (by decide) hJ86
      by_cases z17 : x1 = 17
      · have hw := hw.2.2.2.2.2.2.2.2.2.2.2.2.2.2.2.2.2.1 z17
        have hJ91 : Sat G e_L1 (mQi Q) 90 701 [some (.ref 1000), some (.ref 0), some (.ref 53), some (.int l3)] [] h := by
          refine r_aload_n 702 d_L_law_701 rfl rfl ?_
          refine r_aload_n 703 d_L_law_702 rfl rfl ?_
          refine r_iload_n 704 d_L_law_703 rfl rfl ?_
          refine r_iconst (v := 1) 705 d_L_law_704 rfl (by decide) ?_
          refine r_iadd 706 d_L_law_705 rfl ?_
          obtain ⟨hg, hw⟩ := hw
          refine r_scr 707 hL hxs d_L_law_706 rfl hg ?_
          refine r_callVi (E2 := e_X11_liars) (As := [.int (xs (l3 + 1).toNatClampNeg)]) 710 sh_0 rfl (by decide) (show 0 < 90 by decide) d_L_law_707 rfl q_692 k_X11_liars rfl rfl (Nat.le_of_ble_eq_true rfl) (Nat.le_of_ble_eq_true rfl) rfl rfl (Nat.le_refl _) (Nat.le_refl _) (s_X11_liars hw) ?_
          intro v88 h87 hw
          refine r_aload_n 711 d_L_law_710 rfl rfl ?_
          refine r_aload_n 712 d_L_law_711 rfl rfl ?_
          refine r_iload_n 713 d_L_law_712 rfl rfl ?_
          refine r_iconst (v := 1) 714 d_L_law_713 rfl (by decide) ?_
          refine r_iadd 715 d_L_law_714 rfl ?_
          obtain ⟨hg, hw⟩ := hw
          refine r_scr 716 hL hxs d_L_law_715 rfl hg ?_
          refine r_callVi (E2 := e_X12_liars) (As := [.int (xs (l3 + 1).toNatClampNeg)]) 719 sh_53 rfl (by decide) (show 53 < 90 by decide) d_L_law_716 rfl q_1279 k_X12_liars rfl rfl (Nat.le_of_ble_eq_true rfl) (Nat.le_of_ble_eq_true rfl) rfl rfl (Nat.le_refl _) (Nat.le_refl _) (s_X12_liars hw) ?_
          intro v90 h89 hw
          refine r_icmp_eq 1375 722 d_L_law_719 (by decide) rfl (fun z => ?_) (fun z => ?_)
          · have hw := hw.1 z
            refine r_iinc (v := l3 + 6) 1378 [some (.ref 1000), some (.ref 0), some (.ref 53), some (.int (l3 + 6))] d_L_law_1375 rfl rfl rfl (Nat.le_of_ble_eq_true rfl) rfl rfl ?_
            refine r_goto 18 d_L_law_1378 (by decide) ?_
            exact ih _ _ hw
          · have hw := hw.2 z
            refine r_iconst (v := 0) 723 d_L_law_722 rfl (by decide) ?_
            exact r_ireturn d_L_law_723 rfl rfl (by decide) hw
        exact r_tabK (off := 668) 17 701 z17 d_L_law_33 (by decide) (by decide) (by decide) (by decide) hJ91
      by_cases z18 : x1 = 18
      · have hw := hw.2.2.2.2.2.2.2.2.2.2.2.2.2.2.2.2.2.2.1 z18
        have hJ96 : Sat G e_L1 (mQi Q) 90 724 [some (.ref 1000), some (.ref 0), some (.ref 53), some (.int l3)] [] h := by
          refine r_aload_n 725 d_L_law_724 rfl rfl ?_
          refine r_aload_n 726 d_L_law_725 rfl rfl ?_
          refine r_iload_n 727 d_L_law_726 rfl rfl ?_
          refine r_iconst (v := 1) 728 d_L_law_727 rfl (by decide) ?_
          refine r_iadd 729 d_L_law_728 rfl ?_
          obtain ⟨hg, hw⟩ := hw
          refine r_scr 730 hL hxs d_L_law_729 rfl hg ?_
          refine r_aload_n 731 d_L_law_730 rfl rfl ?_
          refine r_iload_n 732 d_L_law_731 rfl rfl ?_
          refine r_iconst (v := 2) 733 d_L_law_732 rfl (by decide) ?_
          refine r_iadd 734 d_L_law_733 rfl ?_
          obtain ⟨hg, hw⟩ := hw
          refine r_scr 735 hL hxs d_L_law_734 rfl hg ?_
          refine r_aload_n 736 d_L_law_735 rfl rfl ?_
          refine r_iload_n 737 d_L_law_736 rfl rfl ?_
          refine r_iconst (v := 3) 738 d_L_law_737 rfl (by decide) ?_
          refine r_iadd 739 d_L_law_738 rfl ?_
          obtain ⟨hg, hw⟩ := hw
          refine r_scr 740 hL hxs d_L_law_739 rfl hg ?_
          refine r_callVi (E2 := e_X11_agree) (As := [.int (xs (l3 + 1).toNatClampNeg), .int (xs (l3 + 2).toNatClampNeg), .int (xs (l3 + 3).toNatClampNeg)]) 743 sh_0 rfl (by decide) (show 0 < 90 by decide) d_L_law_740 rfl q_705 k_X11_agree rfl rfl (Nat.le_of_ble_eq_true rfl) (Nat.le_of_ble_eq_true rfl) rfl rfl (Nat.le_refl _) (Nat.le_refl _) (s_X11_agree hw) ?_
          intro v93 h92 hw
          refine r_aload_n 744 d_L_law_743 rfl rfl ?_
          refine r_aload_n 745 d_L_law_744 rfl rfl ?_
          refine r_iload_n 746 d_L_law_745 rfl rfl ?_
          refine r_iconst (v := 1) 747 d_L_law_746 rfl (by decide) ?_
          refine r_iadd 748 d_L_law_747 rfl ?_
          obtain ⟨hg, hw⟩ := hw
          refine r_scr 749 hL hxs d_L_law_748 rfl hg ?_
          refine r_aload_n 750 d_L_law_749 rfl rfl ?_
          refine r_iload_n 751 d_L_law_750 rfl rfl ?_
          refine r_iconst (v := 2) 752 d_L_law_751 rfl (by decide) ?_
          refine r_iadd 753 d_L_law_752 rfl ?_
          obtain ⟨hg, hw⟩ := hw
          refine r_scr 754 hL hxs d_L_law_753 rfl hg ?_
          refine r_aload_n 755 d_L_law_754 rfl rfl ?_
          refine r_iload_n 756 d_L_law_755 rfl rfl ?_
          refine r_iconst (v := 3) 757 d_L_law_756 rfl (by decide) ?_
          refine r_iadd 758 d_L_law_757 rfl ?_
          obtain ⟨hg, hw⟩ := hw
          refine r_scr 759 hL hxs d_L_law_758 rfl hg ?_
          refine r_callVi (E2 := e_X12_agree) (As := [.int (xs (l3 + 1).toNatClampNeg), .int (xs (l3 + 2).toNatClampNeg), .int (xs (l3 + 3).toNatClampNeg)]) 762 sh_53 rfl (by decide) (show 53 < 90 by decide) d_L_law_759 rfl q_1286 k_X12_agree rfl rfl (Nat.le_of_ble_eq_true rfl) (Nat.le_of_ble_eq_true rfl) rfl rfl (Nat.le_refl _) (Nat.le_refl _) (s_X12_agree hw) ?_
          intro v95 h94 hw
          refine r_icmp_eq 1375 765 d_L_law_762 (by decide) rfl (fun z => ?_) (fun z => ?_)
          · have hw := hw.1 z
            refine r_iinc (v := l3 + 6) 1378 [some (.ref 1000), some (.ref 0), some (.ref 53), some (.int (l3 + 6))] d_L_law_1375 rfl rfl rfl (Nat.le_of_ble_eq_true rfl) rfl rfl ?_
            refine r_goto 18 d_L_law_1378 (by decide) ?_
            exact ih _ _ hw
          · have hw := hw.2 z
            refine r_iconst (v := 0) 766 d_L_law_765 rfl (by decide) ?_
            exact r_ireturn d_L_law_766 rfl rfl (by decide) hw
        exact r_tabK (off := 691) 18 724 z18 d_L_law_33 (by decide) (by decide) (by decide) (by decide) hJ96
      by_cases z19 : x1 = 19
      · have hw := hw.2.2.2.2.2.2.2.2.2.2.2.2.2.2.2.2.2.2.2.1 z19
        have hJ101 : Sat G e_L1 (mQi Q) 90 767 [some (.ref 1000), some (.ref 0), some (.ref 53), some (.int l3)] [] h := by
          refine r_aload_n 768 d_L_law_767 rfl rfl ?_
          refine r_aload_n 769 d_L_law_768 rfl rfl ?_
          refine r_iload_n 770 d_L_law_769 rfl rfl ?_
          refine r_iconst (v := 1) 771 d_L_law_770 rfl (by decide) ?_
          refine r_iadd 772 d_L_law_771 rfl ?_
          obtain ⟨hg, hw⟩ := hw
          refine r_scr 773 hL hxs d_L_law_772 rfl hg ?_
          refine r_aload_n 774 d_L_law_773 rfl rfl ?_
          refine r_iload_n 775 d_L_law_774 rfl rfl ?_
          refine r_iconst (v := 2) 776 d_L_law_775 rfl (by decide) ?_
          refine r_iadd 777 d_L_law_776 rfl ?_
          obtain ⟨hg, hw⟩ := hw
          refine r_scr 778 hL hxs d_L_law_777 rfl hg ?_
          refine r_aload_n 779 d_L_law_778 rfl rfl ?_
          refine r_iload_n 780 d_L_law_779 rfl rfl ?_
          refine r_iconst (v := 3) 781 d_L_law_780 rfl (by decide) ?_
          refine r_iadd 782 d_L_law_781 rfl ?_
          obtain ⟨hg, hw⟩ := hw
          refine r_scr 783 hL hxs d_L_law_782 rfl hg ?_
          refine r_callVi (E2 := e_X11_meet) (As := [.int (xs (l3 + 1).toNatClampNeg), .int (xs (l3 + 2).toNatClampNeg), .int (xs (l3 + 3).toNatClampNeg)]) 786 sh_0 rfl (by decide) (show 0 < 90 by decide) d_L_law_783 rfl q_709 k_X11_meet rfl rfl (Nat.le_of_ble_eq_true rfl) (Nat.le_of_ble_eq_true rfl) rfl rfl (Nat.le_refl _) (Nat.le_refl _) (s_X11_meet hw) ?_
          intro v98 h97 hw
          refine r_aload_n 787 d_L_law_786 rfl rfl ?_
          refine r_aload_n 788 d_L_law_787 rfl rfl ?_
          refine r_iload_n 789 d_L_law_788 rfl rfl ?_
          refine r_iconst (v := 1) 790 d_L_law_789 rfl (by decide) ?_
          refine r_iadd 791 d_L_law_790 rfl ?_
          obtain ⟨hg, hw⟩ := hw
          refine r_scr 792 hL hxs d_L_law_791 rfl hg ?_
          refine r_aload_n 793 d_L_law_792 rfl rfl ?_
          refine r_iload_n 794 d_L_law_793 rfl rfl ?_
          refine r_iconst (v := 2) 795 d_L_law_794 rfl (by decide) ?_
          refine r_iadd 796 d_L_law_795 rfl ?_
          obtain ⟨hg, hw⟩ := hw
          refine r_scr 797 hL hxs d_L_law_796 rfl hg ?_
          refine r_aload_n 798 d_L_law_797 rfl rfl ?_
          refine r_iload_n 799 d_L_law_798 rfl rfl ?_
          refine r_iconst (v := 3) 800 d_L_law_799 rfl (by decide) ?_
          refine r_iadd 801 d_L_law_800 rfl ?_
          obtain ⟨hg, hw⟩ := hw
          refine r_scr 802 hL hxs d_L_law_801 rfl hg ?_
          refine r_callVi (E2 := e_X12_meet) (As := [.int (xs (l3 + 1).toNatClampNeg), .int (xs (l3 + 2).toNatClampNeg), .int (xs (l3 + 3).toNatClampNeg)]) 805 sh_53 rfl (by decide) (show 53 < 90 by decide) d_L_law_802 rfl q_1290 k_X12_meet rfl rfl (Nat.le_of_ble_eq_true rfl) (Nat.le_of_ble_eq_true rfl) rfl rfl (Nat.le_refl _) (Nat.le_refl _) (s_X12_meet hw) ?_
          intro v100 h99 hw
          refine r_icmp_eq 1375 808 d_L_law_805 (by decide) rfl (fun z => ?_) (fun z => ?_)
          · have hw := hw.1 z
            refine r_iinc (v := l3 + 6) 1378 [some (.ref 1000), some (.ref 0), some (.ref 53), some (.int (l3 + 6))] d_L_law_1375 rfl rfl rfl (Nat.le_of_ble_eq_true rfl) rfl rfl ?_
            refine r_goto 18 d_L_law_1378 (by decide) ?_
            exact ih _ _ hw
          · have hw := hw.2 z
            refine r_iconst (v := 0) 809 d_L_law_808 rfl (by decide) ?_
            exact r_ireturn d_L_law_809 rfl rfl (by decide) hw
        exact r_tabK (off := 734) 19 767 z19 d_L_law_33 (by decide) (by decide) (by decide) (by decide) hJ101
      by_cases z20 : x1 = 20
      · have hw := hw.2.2.2.2.2.2.2.2.2.2.2.2.2.2.2.2.2.2.2.2.1 z20
        have hJ106 : Sat G e_L1 (mQi Q) 90 810 [some (.ref 1000), some (.ref 0), some (.ref 53), some (.int l3)] [] h := by
          refine r_aload_n 811 d_L_law_810 rfl rfl ?_
          refine r_aload_n 812 d_L_law_811 rfl rfl ?_
          refine r_iload_n 813 d_L_law_812 rfl rfl ?_
          refine r_iconst (v := 1) 814 d_L_law_813 rfl (by decide) ?_
          refine r_iadd 815 d_L_law_814 rfl ?_
          obtain ⟨hg, hw⟩ := hw
          refine r_scr 816 hL hxs d_L_law_815 rfl hg ?_
          refine r_aload_n 817 d_L_law_816 rfl rfl ?_
          refine r_iload_n 818 d_L_law_817 rfl rfl ?_
          refine r_iconst (v := 2) 819 d_L_law_818 rfl (by decide) ?_
          refine r_iadd 820 d_L_law_819 rfl ?_
          obtain ⟨hg, hw⟩ := hw
          refine r_scr 821 hL hxs d_L_law_820 rfl hg ?_
          refine r_callVi (E2 := e_X11_round) (As := [.int (xs (l3 + 1).toNatClampNeg), .int (xs (l3 + 2).toNatClampNeg)]) 824 sh_0 rfl (by decide) (show 0 < 90 by decide) d_L_law_821 rfl q_719 k_X11_round rfl rfl (Nat.le_of_ble_eq_true rfl) (Nat.le_of_ble_eq_true rfl) rfl rfl (Nat.le_refl _) (Nat.le_refl _) (s_X11_round hw) ?_
          intro v103 h102 hw
          refine r_aload_n 825 d_L_law_824 rfl rfl ?_
          refine r_aload_n 826 d_L_law_825 rfl rfl ?_
          refine r_iload_n 827 d_L_law_826 rfl rfl ?_
          refine r_iconst (v := 1) 828 d_L_law_827 rfl (by decide) ?_
          refine r_iadd 829 d_L_law_828 rfl ?_
          obtain ⟨hg, hw⟩ := hw
          refine r_scr 830 hL hxs d_L_law_829 rfl hg ?_
          refine r_aload_n 831 d_L_law_830 rfl rfl ?_
          refine r_iload_n 832 d_L_law_831 rfl rfl ?_
          refine r_iconst (v := 2) 833 d_L_law_832 rfl (by decide) ?_
          refine r_iadd 834 d_L_law_833 rfl ?_
          obtain ⟨hg, hw⟩ := hw
          refine r_scr 835 hL hxs d_L_law_834 rfl hg ?_
          refine r_callVi (E2 := e_X12_round) (As := [.int (xs (l3 + 1).toNatClampNeg), .int (xs (l3 + 2).toNatClampNeg)]) 838 sh_53 rfl (by decide) (show 53 < 90 by decide) d_L_law_835 rfl q_1298 k_X12_round rfl rfl (Nat.le_of_ble_eq_true rfl) (Nat.le_of_ble_eq_true rfl) rfl rfl (Nat.le_refl _) (Nat.le_refl _) (s_X12_round hw) ?_
          intro v105 h104 hw
          refine r_icmp_eq 1375 841 d_L_law_838 (by decide) rfl (fun z => ?_) (fun z => ?_)
          · have hw := hw.1 z
            refine r_iinc (v := l3 + 6) 1378 [some (.ref 1000), some (.ref 0), some (.ref 53), some (.int (l3 + 6))] d_L_law_1375 rfl rfl rfl (Nat.le_of_ble_eq_true rfl) rfl rfl ?_
            refine r_goto 18 d_L_law_1378 (by decide) ?_
            exact ih _ _ hw
          · have hw := hw.2 z
            refine r_iconst (v := 0) 842 d_L_law_841 rfl (by decide) ?_
            exact r_ireturn d_L_law_842 rfl rfl (by decide) hw
        exact r_tabK (off := 777) 20 810 z20 d_L_law_33 (by decide) (by decide) (by decide) (by decide) hJ106
      by_cases z21 : x1 = 21
      · have hw := hw.2.2.2.2.2.2.2.2.2.2.2.2.2.2.2.2.2.2.2.2.2.1 z21
        have hJ111 : Sat G e_L1 (mQi Q) 90 843 [some (.ref 1000), some (.ref 0), some (.ref 53), some (.int l3)] [] h := by
          refine r_aload_n 844 d_L_law_843 rfl rfl ?_
          refine r_aload_n 845 d_L_law_844 rfl rfl ?_
          refine r_iload_n 846 d_L_law_845 rfl rfl ?_
          refine r_iconst (v := 1) 847 d_L_law_846 rfl (by decide) ?_
          refine r_iadd 848 d_L_law_847 rfl ?_
          obtain ⟨hg, hw⟩ := hw
          refine r_scr 849 hL hxs d_L_law_848 rfl hg ?_
          refine r_aload_n 850 d_L_law_849 rfl rfl ?_
          refine r_iload_n 851 d_L_law_850 rfl rfl ?_
          refine r_iconst (v := 2) 852 d_L_law_851 rfl (by decide) ?_
          refine r_iadd 853 d_L_law_852 rfl ?_
          obtain ⟨hg, hw⟩ := hw
          refine r_scr 854 hL hxs d_L_law_853 rfl hg ?_
          refine r_callVi (E2 := e_X11_set) (As := [.int (xs (l3 + 1).toNatClampNeg), .int (xs (l3 + 2).toNatClampNeg)]) 857 sh_0 rfl (by decide) (show 0 < 90 by decide) d_L_law_854 rfl q_724 k_X11_set rfl rfl (Nat.le_of_ble_eq_true rfl) (Nat.le_of_ble_eq_true rfl) rfl rfl (Nat.le_refl _) (Nat.le_refl _) (s_X11_set hw) ?_
          intro v108 h107 hw
          refine r_aload_n 858 d_L_law_857 rfl rfl ?_
          refine r_aload_n 859 d_L_law_858 rfl rfl ?_
          refine r_iload_n 860 d_L_law_859 rfl rfl ?_
          refine r_iconst (v := 1) 861 d_L_law_860 rfl (by decide) ?_
          refine r_iadd 862 d_L_law_861 rfl ?_
          obtain ⟨hg, hw⟩ := hw
          refine r_scr 863 hL hxs d_L_law_862 rfl hg ?_
          refine r_aload_n 864 d_L_law_863 rfl rfl ?_
          refine r_iload_n 865 d_L_law_864 rfl rfl ?_
          refine r_iconst (v := 2) 866 d_L_law_865 rfl (by decide) ?_
          refine r_iadd 867 d_L_law_866 rfl ?_
          obtain ⟨hg, hw⟩ := hw
          refine r_scr 868 hL hxs d_L_law_867 rfl hg ?_
          refine r_callVi (E2 := e_X12_set) (As := [.int (xs (l3 + 1).toNatClampNeg), .int (xs (l3 + 2).toNatClampNeg)]) 871 sh_53 rfl (by decide) (show 53 < 90 by decide) d_L_law_868 rfl q_1302 k_X12_set rfl rfl (Nat.le_of_ble_eq_true rfl) (Nat.le_of_ble_eq_true rfl) rfl rfl (Nat.le_refl _) (Nat.le_refl _) (s_X12_set hw) ?_
          intro v110 h109 hw
          refine r_icmp_eq 1375 874 d_L_law_871 (by decide) rfl (fun z => ?_) (fun z => ?_)
          · have hw := hw.1 z
            refine r_iinc (v := l3 + 6) 1378 [some (.ref 1000), some (.ref 0), some (.ref 53), some (.int (l3 + 6))] d_L_law_1375 rfl rfl rfl (Nat.le_of_ble_eq_true rfl) rfl rfl ?_
            refine r_goto 18 d_L_law_1378 (by decide) ?_
            exact ih _ _ hw
          · have hw := hw.2 z
            refine r_iconst (v := 0) 875 d_L_law_874 rfl (by decide) ?_
            exact r_ireturn d_L_law_875 rfl rfl (by decide) hw
        exact r_tabK (off := 810) 21 843 z21 d_L_law_33 (by decide) (by decide) (by decide) (by decide) hJ111
      by_cases z22 : x1 = 22
      · have hw := hw.2.2.2.2.2.2.2.2.2.2.2.2.2.2.2.2.2.2.2.2.2.2.1 z22
        have hJ116 : Sat G e_L1 (mQi Q) 90 876 [some (.ref 1000), some (.ref 0), some (.ref 53), some (.int l3)] [] h := by
          refine r_aload_n 877 d_L_law_876 rfl rfl ?_
          refine r_aload_n 878 d_L_law_877 rfl rfl ?_
          refine r_iload_n 879 d_L_law_878 rfl rfl ?_
          refine r_iconst (v := 1) 880 d_L_law_879 rfl (by decide) ?_
          refine r_iadd 881 d_L_law_880 rfl ?_
          obtain ⟨hg, hw⟩ := hw
          refine r_scr 882 hL hxs d_L_law_881 rfl hg ?_
          refine r_aload_n 883 d_L_law_882 rfl rfl ?_
          refine r_iload_n 884 d_L_law_883 rfl rfl ?_
          refine r_iconst (v := 2) 885 d_L_law_884 rfl (by decide) ?_
          refine r_iadd 886 d_L_law_885 rfl ?_
          obtain ⟨hg, hw⟩ := hw
          refine r_scr 887 hL hxs d_L_law_886 rfl hg ?_
          refine r_callVi (E2 := e_X11_led) (As := [.int (xs (l3 + 1).toNatClampNeg), .int (xs (l3 + 2).toNatClampNeg)]) 890 sh_0 rfl (by decide) (show 0 < 90 by decide) d_L_law_887 rfl q_732 k_X11_led rfl rfl (Nat.le_of_ble_eq_true rfl) (Nat.le_of_ble_eq_true rfl) rfl rfl (Nat.le_refl _) (Nat.le_refl _) (s_X11_led hw) ?_
          intro v113 h112 hw
          refine r_aload_n 891 d_L_law_890 rfl rfl ?_
          refine r_aload_n 892 d_L_law_891 rfl rfl ?_
          refine r_iload_n 893 d_L_law_892 rfl rfl ?_
          refine r_iconst (v := 1) 894 d_L_law_893 rfl (by decide) ?_
          refine r_iadd 895 d_L_law_894 rfl ?_
          obtain ⟨hg, hw⟩ := hw
          refine r_scr 896 hL hxs d_L_law_895 rfl hg ?_
          refine r_aload_n 897 d_L_law_896 rfl rfl ?_
          refine r_iload_n 898 d_L_law_897 rfl rfl ?_
          refine r_iconst (v := 2) 899 d_L_law_898 rfl (by decide) ?_
          refine r_iadd 900 d_L_law_899 rfl ?_
          obtain ⟨hg, hw⟩ := hw
          refine r_scr 901 hL hxs d_L_law_900 rfl hg ?_
          refine r_callVi (E2 := e_X12_led) (As := [.int (xs (l3 + 1).toNatClampNeg), .int (xs (l3 + 2).toNatClampNeg)]) 904 sh_53 rfl (by decide) (show 53 < 90 by decide) d_L_law_901 rfl q_1306 k_X12_led rfl rfl (Nat.le_of_ble_eq_true rfl) (Nat.le_of_ble_eq_true rfl) rfl rfl (Nat.le_refl _) (Nat.le_refl _) (s_X12_led hw) ?_
          intro v115 h114 hw
          refine r_icmp_eq 1375 907 d_L_law_904 (by decide) rfl (fun z => ?_) (fun z => ?_)
          · have hw := hw.1 z
            refine r_iinc (v := l3 + 6) 1378 [some (.ref 1000), some (.ref 0), some (.ref 53), some (.int (l3 + 6))] d_L_law_1375 rfl rfl rfl (Nat.le_of_ble_eq_true rfl) rfl rfl ?_
            refine r_goto 18 d_L_law_1378 (by decide) ?_
            exact ih _ _ hw
          · have hw := hw.2 z
            refine r_iconst (v := 0) 908 d_L_law_907 rfl (by decide) ?_
            exact r_ireturn d_L_law_908 rfl rfl (by decide) hw
        exact r_tabK (off := 843) 22 876 z22 d_L_law_33 (by decide) (by decide) (by decide) (by decide) hJ116
      by_cases z23 : x1 = 23
      · have hw := hw.2.2.2.2.2.2.2.2.2.2.2.2.2.2.2.2.2.2.2.2.2.2.2.1 z23
        have hJ121 : Sat G e_L1 (mQi Q) 90 909 [some (.ref 1000), some (.ref 0), some (.ref 53), some (.int l3)] [] h := by
          refine r_aload_n 910 d_L_law_909 rfl rfl ?_
          refine r_aload_n 911 d_L_law_910 rfl rfl ?_
          refine r_iload_n 912 d_L_law_911 rfl rfl ?_
          refine r_iconst (v := 1) 913 d_L_law_912 rfl (by decide) ?_
          refine r_iadd 914 d_L_law_913 rfl ?_
          obtain ⟨hg, hw⟩ := hw
          refine r_scr 915 hL hxs d_L_law_914 rfl hg ?_
          refine r_callVi (E2 := e_X11_judge) (As := [.int (xs (l3 + 1).toNatClampNeg)]) 918 sh_0 rfl (by decide) (show 0 < 90 by decide) d_L_law_915 rfl q_736 k_X11_judge rfl rfl (Nat.le_of_ble_eq_true rfl) (Nat.le_of_ble_eq_true rfl) rfl rfl (Nat.le_refl _) (Nat.le_refl _) (s_X11_judge hw) ?_
          intro v118 h117 hw
          refine r_aload_n 919 d_L_law_918 rfl rfl ?_
          refine r_aload_n 920 d_L_law_919 rfl rfl ?_
          refine r_iload_n 921 d_L_law_920 rfl rfl ?_
          refine r_iconst (v := 1) 922 d_L_law_921 rfl (by decide) ?_
          refine r_iadd 923 d_L_law_922 rfl ?_
          obtain ⟨hg, hw⟩ := hw
          refine r_scr 924 hL hxs d_L_law_923 rfl hg ?_
          refine r_callVi (E2 := e_X12_judge) (As := [.int (xs (l3 + 1).toNatClampNeg)]) 927 sh_53 rfl (by decide) (show 53 < 90 by decide) d_L_law_924 rfl q_1310 k_X12_judge rfl rfl (Nat.le_of_ble_eq_true rfl) (Nat.le_of_ble_eq_true rfl) rfl rfl (Nat.le_refl _) (Nat.le_refl _) (s_X12_judge hw) ?_
          intro v120 h119 hw
          refine r_icmp_eq 1375 930 d_L_law_927 (by decide) rfl (fun z => ?_) (fun z => ?_)
          · have hw := hw.1 z
            refine r_iinc (v := l3 + 6) 1378 [some (.ref 1000), some (.ref 0), some (.ref 53), some (.int (l3 + 6))] d_L_law_1375 rfl rfl rfl (Nat.le_of_ble_eq_true rfl) rfl rfl ?_
            refine r_goto 18 d_L_law_1378 (by decide) ?_
            exact ih _ _ hw
          · have hw := hw.2 z
            refine r_iconst (v := 0) 931 d_L_law_930 rfl (by decide) ?_
            exact r_ireturn d_L_law_931 rfl rfl (by decide) hw
        exact r_tabK (off := 876) 23 909 z23 d_L_law_33 (by decide) (by decide) (by decide) (by decide) hJ121
      by_cases z24 : x1 = 24
      · have hw := hw.2.2.2.2.2.2.2.2.2.2.2.2.2.2.2.2.2.2.2.2.2.2.2.2.1 z24
        have hJ126 : Sat G e_L1 (mQi Q) 90 932 [some (.ref 1000), some (.ref 0), some (.ref 53), some (.int l3)] [] h := by
          refine r_aload_n 933 d_L_law_932 rfl rfl ?_
          refine r_callVi (E2 := e_X11_image) (As := []) 936 sh_0 rfl (by decide) (show 0 < 90 by decide) d_L_law_933 rfl q_748 k_X11_image rfl rfl (Nat.le_of_ble_eq_true rfl) (Nat.le_of_ble_eq_true rfl) rfl rfl (Nat.le_refl _) (Nat.le_refl _) (s_X11_image hw) ?_
          intro v123 h122 hw
          refine r_aload_n 937 d_L_law_936 rfl rfl ?_
          refine r_callVi (E2 := e_X12_image) (As := []) 940 sh_53 rfl (by decide) (show 53 < 90 by decide) d_L_law_937 rfl q_1314 k_X12_image rfl rfl (Nat.le_of_ble_eq_true rfl) (Nat.le_of_ble_eq_true rfl) rfl rfl (Nat.le_refl _) (Nat.le_refl _) (s_X12_image hw) ?_
          intro v125 h124 hw
          refine r_icmp_eq 1375 943 d_L_law_940 (by decide) rfl (fun z => ?_) (fun z => ?_)
          · have hw := hw.1 z
            refine r_iinc (v := l3 + 6) 1378 [some (.ref 1000), some (.ref 0), some (.ref 53), some (.int (l3 + 6))] d_L_law_1375 rfl rfl rfl (Nat.le_of_ble_eq_true rfl) rfl rfl ?_
            refine r_goto 18 d_L_law_1378 (by decide) ?_
            exact ih _ _ hw
          · have hw := hw.2 z
            refine r_iconst (v := 0) 944 d_L_law_943 rfl (by decide) ?_
            exact r_ireturn d_L_law_944 rfl rfl (by decide) hw
        exact r_tabK (off := 899) 24 932 z24 d_L_law_33 (by decide) (by decide) (by decide) (by decide) hJ126
      by_cases z25 : x1 = 25
      · have hw := hw.2.2.2.2.2.2.2.2.2.2.2.2.2.2.2.2.2.2.2.2.2.2.2.2.2.1 z25
        have hJ131 : Sat G e_L1 (mQi Q) 90 945 [some (.ref 1000), some (.ref 0), some (.ref 53), some (.int l3)] [] h := by
          refine r_aload_n 946 d_L_law_945 rfl rfl ?_
          refine r_callVi (E2 := e_X11_back) (As := []) 949 sh_0 rfl (by decide) (show 0 < 90 by decide) d_L_law_946 rfl q_760 k_X11_back rfl rfl (Nat.le_of_ble_eq_true rfl) (Nat.le_of_ble_eq_true rfl) rfl rfl (Nat.le_refl _) (Nat.le_refl _) (s_X11_back hw) ?_
          intro v128 h127 hw
          refine r_aload_n 950 d_L_law_949 rfl rfl ?_
          refine r_callVi (E2 := e_X12_back) (As := []) 953 sh_53 rfl (by decide) (show 53 < 90 by decide) d_L_law_950 rfl q_1318 k_X12_back rfl rfl (Nat.le_of_ble_eq_true rfl) (Nat.le_of_ble_eq_true rfl) rfl rfl (Nat.le_refl _) (Nat.le_refl _) (s_X12_back hw) ?_
          intro v130 h129 hw
          refine r_icmp_eq 1375 956 d_L_law_953 (by decide) rfl (fun z => ?_) (fun z => ?_)
          · have hw := hw.1 z
            refine r_iinc (v := l3 + 6) 1378 [some (.ref 1000), some (.ref 0), some (.ref 53), some (.int (l3 + 6))] d_L_law_1375 rfl rfl rfl (Nat.le_of_ble_eq_true rfl) rfl rfl ?_
            refine r_goto 18 d_L_law_1378 (by decide) ?_
            exact ih _ _ hw
          · have hw := hw.2 z
            refine r_iconst (v := 0) 957 d_L_law_956 rfl (by decide) ?_
            exact r_ireturn d_L_law_957 rfl rfl (by decide) hw
        exact r_tabK (off := 912) 25 945 z25 d_L_law_33 (by decide) (by decide) (by decide) (by decide) hJ131
      by_cases z26 : x1 = 26
      · have hw := hw.2.2.2.2.2.2.2.2.2.2.2.2.2.2.2.2.2.2.2.2.2.2.2.2.2.2.1 z26
        have hJ136 : Sat G e_L1 (mQi Q) 90 958 [some (.ref 1000), some (.ref 0), some (.ref 53), some (.int l3)] [] h := by
          refine r_aload_n 959 d_L_law_958 rfl rfl ?_
          refine r_callVi (E2 := e_X11_undo) (As := []) 962 sh_0 rfl (by decide) (show 0 < 90 by decide) d_L_law_959 rfl q_764 k_X11_undo rfl rfl (Nat.le_of_ble_eq_true rfl) (Nat.le_of_ble_eq_true rfl) rfl rfl (Nat.le_refl _) (Nat.le_refl _) (s_X11_undo hw) ?_
          intro v133 h132 hw
          refine r_aload_n 963 d_L_law_962 rfl rfl ?_
          refine r_callVi (E2 := e_X12_undo) (As := []) 966 sh_53 rfl (by decide) (show 53 < 90 by decide) d_L_law_963 rfl q_1081 k_X12_undo rfl rfl (Nat.le_of_ble_eq_true rfl) (Nat.le_of_ble_eq_true rfl) rfl rfl (Nat.le_refl _) (Nat.le_refl _) (s_X12_undo hw) ?_
          intro v135 h134 hw
          refine r_icmp_eq 1375 969 d_L_law_966 (by decide) rfl (fun z => ?_) (fun z => ?_)
          · have hw := hw.1 z
            refine r_iinc (v := l3 + 6) 1378 [some (.ref 1000), some (.ref 0), some (.ref 53), some (.int (l3 + 6))] d_L_law_1375 rfl rfl rfl (Nat.le_of_ble_eq_true rfl) rfl rfl ?_
            refine r_goto 18 d_L_law_1378 (by decide) ?_
            exact ih _ _ hw
          · have hw := hw.2 z
            refine r_iconst (v := 0) 970 d_L_law_969 rfl (by decide) ?_
            exact r_ireturn d_L_law_970 rfl rfl (by decide) hw
        exact r_tabK (off := 925) 26 958 z26 d_L_law_33 (by decide) (by decide) (by decide) (by decide) hJ136
      by_cases z27 : x1 = 27
      · have hw := hw.2.2.2.2.2.2.2.2.2.2.2.2.2.2.2.2.2.2.2.2.2.2.2.2.2.2.2.1 z27
        have hJ141 : Sat G e_L1 (mQi Q) 90 971 [some (.ref 1000), some (.ref 0), some (.ref 53), some (.int l3)] [] h := by
          refine r_aload_n 972 d_L_law_971 rfl rfl ?_
          refine r_callVi (E2 := e_X11_redo) (As := []) 975 sh_0 rfl (by decide) (show 0 < 90 by decide) d_L_law_972 rfl q_772 k_X11_redo rfl rfl (Nat.le_of_ble_eq_true rfl) (Nat.le_of_ble_eq_true rfl) rfl rfl (Nat.le_refl _) (Nat.le_refl _) (s_X11_redo hw) ?_
          intro v138 h137 hw
          refine r_aload_n 976 d_L_law_975 rfl rfl ?_
          refine r_callVi (E2 := e_X12_redo) (As := []) 979 sh_53 rfl (by decide) (show 53 < 90 by decide) d_L_law_976 rfl q_1089 k_X12_redo rfl rfl (Nat.le_of_ble_eq_true rfl) (Nat.le_of_ble_eq_true rfl) rfl rfl (Nat.le_refl _) (Nat.le_refl _) (s_X12_redo hw) ?_
          intro v140 h139 hw
          refine r_icmp_eq 1375 982 d_L_law_979 (by decide) rfl (fun z => ?_) (fun z => ?_)
          · have hw := hw.1 z
            refine r_iinc (v := l3 + 6) 1378 [some (.ref 1000), some (.ref 0), some (.ref 53), some (.int (l3 + 6))] d_L_law_1375 rfl rfl rfl (Nat.le_of_ble_eq_true rfl) rfl rfl ?_
            refine r_goto 18 d_L_law_1378 (by decide) ?_
            exact ih _ _ hw
          · have hw := hw.2 z
            refine r_iconst (v := 0) 983 d_L_law_982 rfl (by decide) ?_
            exact r_ireturn d_L_law_983 rfl rfl (by decide) hw
        exact r_tabK (off := 938) 27 971 z27 d_L_law_33 (by decide) (by decide) (by decide) (by decide) hJ141
      by_cases z28 : x1 = 28
      · have hw := hw.2.2.2.2.2.2.2.2.2.2.2.2.2.2.2.2.2.2.2.2.2.2.2.2.2.2.2.2.1 z28
        have hJ146 : Sat G e_L1 (mQi Q) 90 984 [some (.ref 1000), some (.ref 0), some (.ref 53), some (.int l3)] [] h := by
          refine r_aload_n 985 d_L_law_984 rfl rfl ?_
          refine r_aload_n 986 d_L_law_985 rfl rfl ?_
          refine r_iload_n 987 d_L_law_986 rfl rfl ?_
          refine r_iconst (v := 1) 988 d_L_law_987 rfl (by decide) ?_
          refine r_iadd 989 d_L_law_988 rfl ?_
          obtain ⟨hg, hw⟩ := hw
          refine r_scr 990 hL hxs d_L_law_989 rfl hg ?_
          refine r_callVi (E2 := e_X11_body) (As := [.int (xs (l3 + 1).toNatClampNeg)]) 993 sh_0 rfl (by decide) (show 0 < 90 by decide) d_L_law_990 rfl q_780 k_X11_body rfl rfl (Nat.le_of_ble_eq_true rfl) (Nat.le_of_ble_eq_true rfl) rfl rfl (Nat.le_refl _) (Nat.le_refl _) (s_X11_body hw) ?_
          intro v143 h142 hw
          refine r_aload_n 994 d_L_law_993 rfl rfl ?_
          refine r_aload_n 995 d_L_law_994 rfl rfl ?_
          refine r_iload_n 996 d_L_law_995 rfl rfl ?_
          refine r_iconst (v := 1) 997 d_L_law_996 rfl (by decide) ?_
          refine r_iadd 998 d_L_law_997 rfl ?_
          obtain ⟨hg, hw⟩ := hw
          refine r_scr 999 hL hxs d_L_law_998 rfl hg ?_
          refine r_callVi (E2 := e_X12_body) (As := [.int (xs (l3 + 1).toNatClampNeg)]) 1002 sh_53 rfl (by decide) (show 53 < 90 by decide) d_L_law_999 rfl q_1326 k_X12_body rfl rfl (Nat.le_of_ble_eq_true rfl) (Nat.le_of_ble_eq_true rfl) rfl rfl (Nat.le_refl _) (Nat.le_refl _) (s_X12_body hw) ?_
          intro v145 h144 hw
          refine r_icmp_eq 1375 1005 d_L_law_1002 (by decide) rfl (fun z => ?_) (fun z => ?_)
          · have hw := hw.1 z
            refine r_iinc (v := l3 + 6) 1378 [some (.ref 1000), some (.ref 0), some (.ref 53), some (.int (l3 + 6))] d_L_law_1375 rfl rfl rfl (Nat.le_of_ble_eq_true rfl) rfl rfl ?_
            refine r_goto 18 d_L_law_1378 (by decide) ?_
            exact ih _ _ hw
          · have hw := hw.2 z
            refine r_iconst (v := 0) 1006 d_L_law_1005 rfl (by decide) ?_
            exact r_ireturn d_L_law_1006 rfl rfl (by decide) hw
        exact r_tabK (off := 951) 28 984 z28 d_L_law_33 (by decide) (by decide) (by decide) (by decide) hJ146
      by_cases z29 : x1 = 29
      · have hw := hw.2.2.2.2.2.2.2.2.2.2.2.2.2.2.2.2.2.2.2.2.2.2.2.2.2.2.2.2.2.1 z29
        have hJ151 : Sat G e_L1 (mQi Q) 90 1007 [some (.ref 1000), some (.ref 0), some (.ref 53), some (.int l3)] [] h := by
          refine r_aload_n 1008 d_L_law_1007 rfl rfl ?_
          refine r_aload_n 1009 d_L_law_1008 rfl rfl ?_
          refine r_iload_n 1010 d_L_law_1009 rfl rfl ?_
          refine r_iconst (v := 1) 1011 d_L_law_1010 rfl (by decide) ?_
          refine r_iadd 1012 d_L_law_1011 rfl ?_
          obtain ⟨hg, hw⟩ := hw
          refine r_scr 1013 hL hxs d_L_law_1012 rfl hg ?_
          refine r_aload_n 1014 d_L_law_1013 rfl rfl ?_
          refine r_iload_n 1015 d_L_law_1014 rfl rfl ?_
          refine r_iconst (v := 2) 1016 d_L_law_1015 rfl (by decide) ?_
          refine r_iadd 1017 d_L_law_1016 rfl ?_
          obtain ⟨hg, hw⟩ := hw
          refine r_scr 1018 hL hxs d_L_law_1017 rfl hg ?_
          refine r_aload_n 1019 d_L_law_1018 rfl rfl ?_
          refine r_iload_n 1020 d_L_law_1019 rfl rfl ?_
          refine r_iconst (v := 3) 1021 d_L_law_1020 rfl (by decide) ?_
          refine r_iadd 1022 d_L_law_1021 rfl ?_
          obtain ⟨hg, hw⟩ := hw
          refine r_scr 1023 hL hxs d_L_law_1022 rfl hg ?_
          refine r_callVi (E2 := e_X11_act) (As := [.int (xs (l3 + 1).toNatClampNeg), .int (xs (l3 + 2).toNatClampNeg), .int (xs (l3 + 3).toNatClampNeg)]) 1026 sh_0 rfl (by decide) (show 0 < 90 by decide) d_L_law_1023 rfl q_791 k_X11_act rfl rfl (Nat.le_of_ble_eq_true rfl) (Nat.le_of_ble_eq_true rfl) rfl rfl (Nat.le_refl _) (Nat.le_refl _) (s_X11_act hw) ?_
          intro v148 h147 hw
          refine r_aload_n 1027 d_L_law_1026 rfl rfl ?_
          refine r_aload_n 1028 d_L_law_1027 rfl rfl ?_
          refine r_iload_n 1029 d_L_law_1028 rfl rfl ?_
          refine r_iconst (v := 1) 1030 d_L_law_1029 rfl (by decide) ?_
          refine r_iadd 1031 d_L_law_1030 rfl ?_
          obtain ⟨hg, hw⟩ := hw
          refine r_scr 1032 hL hxs d_L_law_1031 rfl hg ?_
          refine r_aload_n 1033 d_L_law_1032 rfl rfl ?_
          refine r_iload_n 1034 d_L_law_1033 rfl rfl ?_
          refine r_iconst (v := 2) 1035 d_L_law_1034 rfl (by decide) ?_
          refine r_iadd 1036 d_L_law_1035 rfl ?_
          obtain ⟨hg, hw⟩ := hw
          refine r_scr 1037 hL hxs d_L_law_1036 rfl hg ?_
          refine r_aload_n 1038 d_L_law_1037 rfl rfl ?_
          refine r_iload_n 1039 d_L_law_1038 rfl rfl ?_
          refine r_iconst (v := 3) 1040 d_L_law_1039 rfl (by decide) ?_
          refine r_iadd 1041 d_L_law_1040 rfl ?_
          obtain ⟨hg, hw⟩ := hw
          refine r_scr 1042 hL hxs d_L_law_1041 rfl hg ?_
          refine r_callVi (E2 := e_X12_act) (As := [.int (xs (l3 + 1).toNatClampNeg), .int (xs (l3 + 2).toNatClampNeg), .int (xs (l3 + 3).toNatClampNeg)]) 1045 sh_53 rfl (by decide) (show 53 < 90 by decide) d_L_law_1042 rfl q_1330 k_X12_act rfl rfl (Nat.le_of_ble_eq_true rfl) (Nat.le_of_ble_eq_true rfl) rfl rfl (Nat.le_refl _) (Nat.le_refl _) (s_X12_act hw) ?_
          intro v150 h149 hw
          refine r_icmp_eq 1375 1048 d_L_law_1045 (by decide) rfl (fun z => ?_) (fun z => ?_)
          · have hw := hw.1 z
            refine r_iinc (v := l3 + 6) 1378 [some (.ref 1000), some (.ref 0), some (.ref 53), some (.int (l3 + 6))] d_L_law_1375 rfl rfl rfl (Nat.le_of_ble_eq_true rfl) rfl rfl ?_
            refine r_goto 18 d_L_law_1378 (by decide) ?_
            exact ih _ _ hw
          · have hw := hw.2 z
            refine r_iconst (v := 0) 1049 d_L_law_1048 rfl (by decide) ?_
            exact r_ireturn d_L_law_1049 rfl rfl (by decide) hw
        exact r_tabK (off := 974) 29 1007 z29 d_L_law_33 (by decide) (by decide) (by decide) (by decide) hJ151
      by_cases z30 : x1 = 30
      · have hw := hw.2.2.2.2.2.2.2.2.2.2.2.2.2.2.2.2.2.2.2.2.2.2.2.2.2.2.2.2.2.2.1 z30
        have hJ156 : Sat G e_L1 (mQi Q) 90 1050 [some (.ref 1000), some (.ref 0), some (.ref 53), some (.int l3)] [] h := by
          refine r_aload_n 1051 d_L_law_1050 rfl rfl ?_
          refine r_aload_n 1052 d_L_law_1051 rfl rfl ?_
          refine r_iload_n 1053 d_L_law_1052 rfl rfl ?_
          refine r_iconst (v := 1) 1054 d_L_law_1053 rfl (by decide) ?_
          refine r_iadd 1055 d_L_law_1054 rfl ?_
          obtain ⟨hg, hw⟩ := hw
          refine r_scr 1056 hL hxs d_L_law_1055 rfl hg ?_
          refine r_callVi (E2 := e_X11_trace) (As := [.int (xs (l3 + 1).toNatClampNeg)]) 1059 sh_0 rfl (by decide) (show 0 < 90 by decide) d_L_law_1056 rfl q_820 k_X11_trace rfl rfl (Nat.le_of_ble_eq_true rfl) (Nat.le_of_ble_eq_true rfl) rfl rfl (Nat.le_refl _) (Nat.le_refl _) (s_X11_trace hw) ?_
          intro v153 h152 hw
          refine r_aload_n 1060 d_L_law_1059 rfl rfl ?_
          refine r_aload_n 1061 d_L_law_1060 rfl rfl ?_
          refine r_iload_n 1062 d_L_law_1061 rfl rfl ?_
          refine r_iconst (v := 1) 1063 d_L_law_1062 rfl (by decide) ?_
          refine r_iadd 1064 d_L_law_1063 rfl ?_
          obtain ⟨hg, hw⟩ := hw
          refine r_scr 1065 hL hxs d_L_law_1064 rfl hg ?_
          refine r_callVi (E2 := e_X12_trace) (As := [.int (xs (l3 + 1).toNatClampNeg)]) 1068 sh_53 rfl (by decide) (show 53 < 90 by decide) d_L_law_1065 rfl q_1322 k_X12_trace rfl rfl (Nat.le_of_ble_eq_true rfl) (Nat.le_of_ble_eq_true rfl) rfl rfl (Nat.le_refl _) (Nat.le_refl _) (s_X12_trace hw) ?_
          intro v155 h154 hw
          refine r_icmp_eq 1375 1071 d_L_law_1068 (by decide) rfl (fun z => ?_) (fun z => ?_)
          · have hw := hw.1 z
            refine r_iinc (v := l3 + 6) 1378 [some (.ref 1000), some (.ref 0), some (.ref 53), some (.int (l3 + 6))] d_L_law_1375 rfl rfl rfl (Nat.le_of_ble_eq_true rfl) rfl rfl ?_
            refine r_goto 18 d_L_law_1378 (by decide) ?_
            exact ih _ _ hw
          · have hw := hw.2 z
            refine r_iconst (v := 0) 1072 d_L_law_1071 rfl (by decide) ?_
            exact r_ireturn d_L_law_1072 rfl rfl (by decide) hw
        exact r_tabK (off := 1017) 30 1050 z30 d_L_law_33 (by decide) (by decide) (by decide) (by decide) hJ156
      by_cases z31 : x1 = 31
      · have hw := hw.2.2.2.2.2.2.2.2.2.2.2.2.2.2.2.2.2.2.2.2.2.2.2.2.2.2.2.2.2.2.2.1 z31
        have hJ161 : Sat G e_L1 (mQi Q) 90 1073 [some (.ref 1000), some (.ref 0), some (.ref 53), some (.int l3)] [] h := by
          refine r_aload_n 1074 d_L_law_1073 rfl rfl ?_
          refine r_aload_n 1075 d_L_law_1074 rfl rfl ?_
          refine r_iload_n 1076 d_L_law_1075 rfl rfl ?_
          refine r_iconst (v := 1) 1077 d_L_law_1076 rfl (by decide) ?_
          refine r_iadd 1078 d_L_law_1077 rfl ?_
          obtain ⟨hg, hw⟩ := hw
          refine r_scr 1079 hL hxs d_L_law_1078 rfl hg ?_
          refine r_aload_n 1080 d_L_law_1079 rfl rfl ?_
          refine r_iload_n 1081 d_L_law_1080 rfl rfl ?_
          refine r_iconst (v := 2) 1082 d_L_law_1081 rfl (by decide) ?_
          refine r_iadd 1083 d_L_law_1082 rfl ?_
          obtain ⟨hg, hw⟩ := hw
          refine r_scr 1084 hL hxs d_L_law_1083 rfl hg ?_
          refine r_callVi (E2 := e_X11_keep) (As := [.int (xs (l3 + 1).toNatClampNeg), .int (xs (l3 + 2).toNatClampNeg)]) 1087 sh_0 rfl (by decide) (show 0 < 90 by decide) d_L_law_1084 rfl q_824 k_X11_keep rfl rfl (Nat.le_of_ble_eq_true rfl) (Nat.le_of_ble_eq_true rfl) rfl rfl (Nat.le_refl _) (Nat.le_refl _) (s_X11_keep hw) ?_
          intro v158 h157 hw
          refine r_aload_n 1088 d_L_law_1087 rfl rfl ?_
          refine r_aload_n 1089 d_L_law_1088 rfl rfl ?_
          refine r_iload_n 1090 d_L_law_1089 rfl rfl ?_
          refine r_iconst (v := 1) 1091 d_L_law_1090 rfl (by decide) ?_
          refine r_iadd 1092 d_L_law_1091 rfl ?_
          obtain ⟨hg, hw⟩ := hw
          refine r_scr 1093 hL hxs d_L_law_1092 rfl hg ?_
          refine r_aload_n 1094 d_L_law_1093 rfl rfl ?_
          refine r_iload_n 1095 d_L_law_1094 rfl rfl ?_
          refine r_iconst (v := 2) 1096 d_L_law_1095 rfl (by decide) ?_
          refine r_iadd 1097 d_L_law_1096 rfl ?_
          obtain ⟨hg, hw⟩ := hw
          refine r_scr 1098 hL hxs d_L_law_1097 rfl hg ?_
          refine r_callVi (E2 := e_X12_keep) (As := [.int (xs (l3 + 1).toNatClampNeg), .int (xs (l3 + 2).toNatClampNeg)]) 1101 sh_53 rfl (by decide) (show 53 < 90 by decide) d_L_law_1098 rfl q_1393 k_X12_keep rfl rfl (Nat.le_of_ble_eq_true rfl) (Nat.le_of_ble_eq_true rfl) rfl rfl (Nat.le_refl _) (Nat.le_refl _) (s_X12_keep hw) ?_
          intro v160 h159 hw
          refine r_icmp_eq 1375 1104 d_L_law_1101 (by decide) rfl (fun z => ?_) (fun z => ?_)
          · have hw := hw.1 z
            refine r_iinc (v := l3 + 6) 1378 [some (.ref 1000), some (.ref 0), some (.ref 53), some (.int (l3 + 6))] d_L_law_1375 rfl rfl rfl (Nat.le_of_ble_eq_true rfl) rfl rfl ?_
            refine r_goto 18 d_L_law_1378 (by decide) ?_
            exact ih _ _ hw
          · have hw := hw.2 z
            refine r_iconst (v := 0) 1105 d_L_law_1104 rfl (by decide) ?_
            exact r_ireturn d_L_law_1105 rfl rfl (by decide) hw
        exact r_tabK (off := 1040) 31 1073 z31 d_L_law_33 (by decide) (by decide) (by decide) (by decide) hJ161
      by_cases z32 : x1 = 32
      · have hw := hw.2.2.2.2.2.2.2.2.2.2.2.2.2.2.2.2.2.2.2.2.2.2.2.2.2.2.2.2.2.2.2.2.1 z32
        have hJ166 : Sat G e_L1 (mQi Q) 90 1106 [some (.ref 1000), some (.ref 0), some (.ref 53), some (.int l3)] [] h := by
          refine r_aload_n 1107 d_L_law_1106 rfl rfl ?_
          refine r_aload_n 1108 d_L_law_1107 rfl rfl ?_
          refine r_iload_n 1109 d_L_law_1108 rfl rfl ?_
          refine r_iconst (v := 1) 1110 d_L_law_1109 rfl (by decide) ?_
          refine r_iadd 1111 d_L_law_1110 rfl ?_
          obtain ⟨hg, hw⟩ := hw
          refine r_scr 1112 hL hxs d_L_law_1111 rfl hg ?_
          refine r_aload_n 1113 d_L_law_1112 rfl rfl ?_
          refine r_iload_n 1114 d_L_law_1113 rfl rfl ?_
          refine r_iconst (v := 2) 1115 d_L_law_1114 rfl (by decide) ?_
          refine r_iadd 1116 d_L_law_1115 rfl ?_
          obtain ⟨hg, hw⟩ := hw
          refine r_scr 1117 hL hxs d_L_law_1116 rfl hg ?_
          refine r_aload_n 1118 d_L_law_1117 rfl rfl ?_
          refine r_iload_n 1119 d_L_law_1118 rfl rfl ?_
          refine r_iconst (v := 3) 1120 d_L_law_1119 rfl (by decide) ?_
          refine r_iadd 1121 d_L_law_1120 rfl ?_
          obtain ⟨hg, hw⟩ := hw
          refine r_scr 1122 hL hxs d_L_law_1121 rfl hg ?_
          refine r_callVi (E2 := e_X11_row) (As := [.int (xs (l3 + 1).toNatClampNeg), .int (xs (l3 + 2).toNatClampNeg), .int (xs (l3 + 3).toNatClampNeg)]) 1125 sh_0 rfl (by decide) (show 0 < 90 by decide) d_L_law_1122 rfl q_828 k_X11_row rfl rfl (Nat.le_of_ble_eq_true rfl) (Nat.le_of_ble_eq_true rfl) rfl rfl (Nat.le_refl _) (Nat.le_refl _) (s_X11_row hw) ?_
          intro v163 h162 hw
          refine r_aload_n 1126 d_L_law_1125 rfl rfl ?_
          refine r_aload_n 1127 d_L_law_1126 rfl rfl ?_
          refine r_iload_n 1128 d_L_law_1127 rfl rfl ?_
          refine r_iconst (v := 1) 1129 d_L_law_1128 rfl (by decide) ?_
          refine r_iadd 1130 d_L_law_1129 rfl ?_
          obtain ⟨hg, hw⟩ := hw
          refine r_scr 1131 hL hxs d_L_law_1130 rfl hg ?_
          refine r_aload_n 1132 d_L_law_1131 rfl rfl ?_
          refine r_iload_n 1133 d_L_law_1132 rfl rfl ?_
          refine r_iconst (v := 2) 1134 d_L_law_1133 rfl (by decide) ?_
          refine r_iadd 1135 d_L_law_1134 rfl ?_
          obtain ⟨hg, hw⟩ := hw
          refine r_scr 1136 hL hxs d_L_law_1135 rfl hg ?_
          refine r_aload_n 1137 d_L_law_1136 rfl rfl ?_
          refine r_iload_n 1138 d_L_law_1137 rfl rfl ?_
          refine r_iconst (v := 3) 1139 d_L_law_1138 rfl (by decide) ?_
          refine r_iadd 1140 d_L_law_1139 rfl ?_
          obtain ⟨hg, hw⟩ := hw
          refine r_scr 1141 hL hxs d_L_law_1140 rfl hg ?_
          refine r_callVi (E2 := e_X12_row) (As := [.int (xs (l3 + 1).toNatClampNeg), .int (xs (l3 + 2).toNatClampNeg), .int (xs (l3 + 3).toNatClampNeg)]) 1144 sh_53 rfl (by decide) (show 53 < 90 by decide) d_L_law_1141 rfl q_1397 k_X12_row rfl rfl (Nat.le_of_ble_eq_true rfl) (Nat.le_of_ble_eq_true rfl) rfl rfl (Nat.le_refl _) (Nat.le_refl _) (s_X12_row hw) ?_
          intro v165 h164 hw
          refine r_icmp_eq 1375 1147 d_L_law_1144 (by decide) rfl (fun z => ?_) (fun z => ?_)
          · have hw := hw.1 z
            refine r_iinc (v := l3 + 6) 1378 [some (.ref 1000), some (.ref 0), some (.ref 53), some (.int (l3 + 6))] d_L_law_1375 rfl rfl rfl (Nat.le_of_ble_eq_true rfl) rfl rfl ?_
            refine r_goto 18 d_L_law_1378 (by decide) ?_
            exact ih _ _ hw
          · have hw := hw.2 z
            refine r_iconst (v := 0) 1148 d_L_law_1147 rfl (by decide) ?_
            exact r_ireturn d_L_law_1148 rfl rfl (by decide) hw
        exact r_tabK (off := 1073) 32 1106 z32 d_L_law_33 (by decide) (by decide) (by decide) (by decide) hJ166
      by_cases z33 : x1 = 33
      · have hw := hw.2.2.2.2.2.2.2.2.2.2.2.2.2.2.2.2.2.2.2.2.2.2.2.2.2.2.2.2.2.2.2.2.2.1 z33
        have hJ171 : Sat G e_L1 (mQi Q) 90 1149 [some (.ref 1000), some (.ref 0), some (.ref 53), some (.int l3)] [] h := by
          refine r_aload_n 1150 d_L_law_1149 rfl rfl ?_
          refine r_aload_n 1151 d_L_law_1150 rfl rfl ?_
          refine r_iload_n 1152 d_L_law_1151 rfl rfl ?_
          refine r_iconst (v := 1) 1153 d_L_law_1152 rfl (by decide) ?_
          refine r_iadd 1154 d_L_law_1153 rfl ?_
          obtain ⟨hg, hw⟩ := hw
          refine r_scr 1155 hL hxs d_L_law_1154 rfl hg ?_
          refine r_aload_n 1156 d_L_law_1155 rfl rfl ?_
          refine r_iload_n 1157 d_L_law_1156 rfl rfl ?_
          refine r_iconst (v := 2) 1158 d_L_law_1157 rfl (by decide) ?_
          refine r_iadd 1159 d_L_law_1158 rfl ?_
          obtain ⟨hg, hw⟩ := hw
          refine r_scr 1160 hL hxs d_L_law_1159 rfl hg ?_
          refine r_aload_n 1161 d_L_law_1160 rfl rfl ?_
          refine r_iload_n 1162 d_L_law_1161 rfl rfl ?_
          refine r_iconst (v := 3) 1163 d_L_law_1162 rfl (by decide) ?_
          refine r_iadd 1164 d_L_law_1163 rfl ?_
          obtain ⟨hg, hw⟩ := hw
          refine r_scr 1165 hL hxs d_L_law_1164 rfl hg ?_
          refine r_i2l 1166 d_L_law_1165 rfl ?_
          refine r_bipush (v := 32) 1168 d_L_law_1166 rfl (by decide) ?_
          refine r_lsh 1169 d_L_law_1168 rfl ?_
          refine r_aload_n 1170 d_L_law_1169 rfl rfl ?_
          refine r_iload_n 1171 d_L_law_1170 rfl rfl ?_
          refine r_iconst (v := 4) 1172 d_L_law_1171 rfl (by decide) ?_
          refine r_iadd 1173 d_L_law_1172 rfl ?_
          obtain ⟨hg, hw⟩ := hw
          refine r_scr 1174 hL hxs d_L_law_1173 rfl hg ?_
          refine r_i2l 1175 d_L_law_1174 rfl ?_
          refine r_ldc2 (v := 4294967295) 1178 d_L_law_1175 rfl q_1422 ?_
          refine r_land 1179 d_L_law_1178 rfl ?_
          refine r_lor 1180 d_L_law_1179 rfl ?_
          refine r_callVi (E2 := e_X11_put) (As := [.int (xs (l3 + 1).toNatClampNeg), .int (xs (l3 + 2).toNatClampNeg), .long ((lshl ((xs (l3 + 3).toNatClampNeg).toInt64) 32) ||| (((xs (l3 + 4).toNatClampNeg).toInt64) &&& 4294967295))]) 1183 sh_0 rfl (by decide) (show 0 < 90 by decide) d_L_law_1180 rfl q_836 k_X11_put rfl rfl (Nat.le_of_ble_eq_true rfl) (Nat.le_of_ble_eq_true rfl) rfl rfl (Nat.le_refl _) (Nat.le_refl _) (s_X11_put hw) ?_
          intro v168 h167 hw
          refine r_aload_n 1184 d_L_law_1183 rfl rfl ?_
          refine r_aload_n 1185 d_L_law_1184 rfl rfl ?_
          refine r_iload_n 1186 d_L_law_1185 rfl rfl ?_
          refine r_iconst (v := 1) 1187 d_L_law_1186 rfl (by decide) ?_
          refine r_iadd 1188 d_L_law_1187 rfl ?_
          obtain ⟨hg, hw⟩ := hw
          refine r_scr 1189 hL hxs d_L_law_1188 rfl hg ?_
          refine r_aload_n 1190 d_L_law_1189 rfl rfl ?_
          refine r_iload_n 1191 d_L_law_1190 rfl rfl ?_
          refine r_iconst (v := 2) 1192 d_L_law_1191 rfl (by decide) ?_
          refine r_iadd 1193 d_L_law_1192 rfl ?_
          obtain ⟨hg, hw⟩ := hw
          refine r_scr 1194 hL hxs d_L_law_1193 rfl hg ?_
          refine r_aload_n 1195 d_L_law_1194 rfl rfl ?_
          refine r_iload_n 1196 d_L_law_1195 rfl rfl ?_
          refine r_iconst (v := 3) 1197 d_L_law_1196 rfl (by decide) ?_
          refine r_iadd 1198 d_L_law_1197 rfl ?_
          obtain ⟨hg, hw⟩ := hw
          refine r_scr 1199 hL hxs d_L_law_1198 rfl hg ?_
          refine r_i2l 1200 d_L_law_1199 rfl ?_
          refine r_bipush (v := 32) 1202 d_L_law_1200 rfl (by decide) ?_
          refine r_lsh 1203 d_L_law_1202 rfl ?_
          refine r_aload_n 1204 d_L_law_1203 rfl rfl ?_
          refine r_iload_n 1205 d_L_law_1204 rfl rfl ?_
          refine r_iconst (v := 4) 1206 d_L_law_1205 rfl (by decide) ?_
          refine r_iadd 1207 d_L_law_1206 rfl ?_
          obtain ⟨hg, hw⟩ := hw
          refine r_scr 1208 hL hxs d_L_law_1207 rfl hg ?_
          refine r_i2l 1209 d_L_law_1208 rfl ?_
          refine r_ldc2 (v := 4294967295) 1212 d_L_law_1209 rfl q_1422 ?_
          refine r_land 1213 d_L_law_1212 rfl ?_
          refine r_lor 1214 d_L_law_1213 rfl ?_
          refine r_callVi (E2 := e_X12_put) (As := [.int (xs (l3 + 1).toNatClampNeg), .int (xs (l3 + 2).toNatClampNeg), .long ((lshl ((xs (l3 + 3).toNatClampNeg).toInt64) 32) ||| (((xs (l3 + 4).toNatClampNeg).toInt64) &&& 4294967295))]) 1217 sh_53 rfl (by decide) (show 53 < 90 by decide) d_L_law_1214 rfl q_1401 k_X12_put rfl rfl (Nat.le_of_ble_eq_true rfl) (Nat.le_of_ble_eq_true rfl) rfl rfl (Nat.le_refl _) (Nat.le_refl _) (s_X12_put hw) ?_
          intro v170 h169 hw
          refine r_icmp_eq 1375 1220 d_L_law_1217 (by decide) rfl (fun z => ?_) (fun z => ?_)
          · have hw := hw.1 z
            refine r_iinc (v := l3 + 6) 1378 [some (.ref 1000), some (.ref 0), some (.ref 53), some (.int (l3 + 6))] d_L_law_1375 rfl rfl rfl (Nat.le_of_ble_eq_true rfl) rfl rfl ?_
            refine r_goto 18 d_L_law_1378 (by decide) ?_
            exact ih _ _ hw
          · have hw := hw.2 z
            refine r_iconst (v := 0) 1221 d_L_law_1220 rfl (by decide) ?_
            exact r_ireturn d_L_law_1221 rfl rfl (by decide) hw
        exact r_tabK (off := 1116) 33 1149 z33 d_L_law_33 (by decide) (by decide) (by decide) (by decide) hJ171
      by_cases z34 : x1 = 34
      · have hw := hw.2.2.2.2.2.2.2.2.2.2.2.2.2.2.2.2.2.2.2.2.2.2.2.2.2.2.2.2.2.2.2.2.2.2.1 z34
        have hJ176 : Sat G e_L1 (mQi Q) 90 1222 [some (.ref 1000), some (.ref 0), some (.ref 53), some (.int l3)] [] h := by
          refine r_aload_n 1223 d_L_law_1222 rfl rfl ?_
          refine r_aload_n 1224 d_L_law_1223 rfl rfl ?_
          refine r_iload_n 1225 d_L_law_1224 rfl rfl ?_
          refine r_iconst (v := 1) 1226 d_L_law_1225 rfl (by decide) ?_
          refine r_iadd 1227 d_L_law_1226 rfl ?_
          obtain ⟨hg, hw⟩ := hw
          refine r_scr 1228 hL hxs d_L_law_1227 rfl hg ?_
          refine r_aload_n 1229 d_L_law_1228 rfl rfl ?_
          refine r_iload_n 1230 d_L_law_1229 rfl rfl ?_
          refine r_iconst (v := 2) 1231 d_L_law_1230 rfl (by decide) ?_
          refine r_iadd 1232 d_L_law_1231 rfl ?_
          obtain ⟨hg, hw⟩ := hw
          refine r_scr 1233 hL hxs d_L_law_1232 rfl hg ?_
          refine r_callVl (E2 := e_X11_element) (As := [.int (xs (l3 + 1).toNatClampNeg), .int (xs (l3 + 2).toNatClampNeg)]) 1236 sh_0 rfl (by decide) (show 0 < 90 by decide) d_L_law_1233 rfl q_848 k_X11_element rfl rfl (Nat.le_of_ble_eq_true rfl) (Nat.le_of_ble_eq_true rfl) rfl rfl (Nat.le_refl _) (Nat.le_refl _) (s_X11_element hw) ?_
          intro v173 h172 hw
          refine r_aload_n 1237 d_L_law_1236 rfl rfl ?_
          refine r_aload_n 1238 d_L_law_1237 rfl rfl ?_
          refine r_iload_n 1239 d_L_law_1238 rfl rfl ?_
          refine r_iconst (v := 1) 1240 d_L_law_1239 rfl (by decide) ?_
          refine r_iadd 1241 d_L_law_1240 rfl ?_
          obtain ⟨hg, hw⟩ := hw
          refine r_scr 1242 hL hxs d_L_law_1241 rfl hg ?_
          refine r_aload_n 1243 d_L_law_1242 rfl rfl ?_
          refine r_iload_n 1244 d_L_law_1243 rfl rfl ?_
          refine r_iconst (v := 2) 1245 d_L_law_1244 rfl (by decide) ?_
          refine r_iadd 1246 d_L_law_1245 rfl ?_
          obtain ⟨hg, hw⟩ := hw
          refine r_scr 1247 hL hxs d_L_law_1246 rfl hg ?_
          refine r_callVl (E2 := e_X12_element) (As := [.int (xs (l3 + 1).toNatClampNeg), .int (xs (l3 + 2).toNatClampNeg)]) 1250 sh_53 rfl (by decide) (show 53 < 90 by decide) d_L_law_1247 rfl q_1409 k_X12_element rfl rfl (Nat.le_of_ble_eq_true rfl) (Nat.le_of_ble_eq_true rfl) rfl rfl (Nat.le_refl _) (Nat.le_refl _) (s_X12_element hw) ?_
          intro v175 h174 hw
          refine r_lcmp 1251 d_L_law_1250 rfl ?_
          refine r_if_eq 1375 1254 d_L_law_1251 (by decide) rfl (fun z => ?_) (fun z => ?_)
          · have hw := hw.1 z
            refine r_iinc (v := l3 + 6) 1378 [some (.ref 1000), some (.ref 0), some (.ref 53), some (.int (l3 + 6))] d_L_law_1375 rfl rfl rfl (Nat.le_of_ble_eq_true rfl) rfl rfl ?_
            refine r_goto 18 d_L_law_1378 (by decide) ?_
            exact ih _ _ hw
          · have hw := hw.2 z
            refine r_iconst (v := 0) 1255 d_L_law_1254 rfl (by decide) ?_
            exact r_ireturn d_L_law_1255 rfl rfl (by decide) hw
        exact r_tabK (off := 1189) 34 1222 z34 d_L_law_33 (by decide) (by decide) (by decide) (by decide) hJ176
      by_cases z35 : x1 = 35
      · have hw := hw.2.2.2.2.2.2.2.2.2.2.2.2.2.2.2.2.2.2.2.2.2.2.2.2.2.2.2.2.2.2.2.2.2.2.2.1 z35
        have hJ181 : Sat G e_L1 (mQi Q) 90 1256 [some (.ref 1000), some (.ref 0), some (.ref 53), some (.int l3)] [] h := by
          refine r_aload_n 1257 d_L_law_1256 rfl rfl ?_
          refine r_aload_n 1258 d_L_law_1257 rfl rfl ?_
          refine r_iload_n 1259 d_L_law_1258 rfl rfl ?_
          refine r_iconst (v := 1) 1260 d_L_law_1259 rfl (by decide) ?_
          refine r_iadd 1261 d_L_law_1260 rfl ?_
          obtain ⟨hg, hw⟩ := hw
          refine r_scr 1262 hL hxs d_L_law_1261 rfl hg ?_
          refine r_aload_n 1263 d_L_law_1262 rfl rfl ?_
          refine r_iload_n 1264 d_L_law_1263 rfl rfl ?_
          refine r_iconst (v := 2) 1265 d_L_law_1264 rfl (by decide) ?_
          refine r_iadd 1266 d_L_law_1265 rfl ?_
          obtain ⟨hg, hw⟩ := hw
          refine r_scr 1267 hL hxs d_L_law_1266 rfl hg ?_
          refine r_aload_n 1268 d_L_law_1267 rfl rfl ?_
          refine r_iload_n 1269 d_L_law_1268 rfl rfl ?_
          refine r_iconst (v := 3) 1270 d_L_law_1269 rfl (by decide) ?_
          refine r_iadd 1271 d_L_law_1270 rfl ?_
          obtain ⟨hg, hw⟩ := hw
          refine r_scr 1272 hL hxs d_L_law_1271 rfl hg ?_
          refine r_aload_n 1273 d_L_law_1272 rfl rfl ?_
          refine r_iload_n 1274 d_L_law_1273 rfl rfl ?_
          refine r_iconst (v := 4) 1275 d_L_law_1274 rfl (by decide) ?_
          refine r_iadd 1276 d_L_law_1275 rfl ?_
          obtain ⟨hg, hw⟩ := hw
          refine r_scr 1277 hL hxs d_L_law_1276 rfl hg ?_
          refine r_aload_n 1278 d_L_law_1277 rfl rfl ?_
          refine r_iload_n 1279 d_L_law_1278 rfl rfl ?_
          refine r_iconst (v := 5) 1280 d_L_law_1279 rfl (by decide) ?_
          refine r_iadd 1281 d_L_law_1280 rfl ?_
          obtain ⟨hg, hw⟩ := hw
          refine r_scr 1282 hL hxs d_L_law_1281 rfl hg ?_
          refine r_callVi (E2 := e_X11_shift) (As := [.int (xs (l3 + 1).toNatClampNeg), .int (xs (l3 + 2).toNatClampNeg), .int (xs (l3 + 3).toNatClampNeg), .int (xs (l3 + 4).toNatClampNeg), .int (xs (l3 + 5).toNatClampNeg)]) 1285 sh_0 rfl (by decide) (show 0 < 90 by decide) d_L_law_1282 rfl q_853 k_X11_shift rfl rfl (Nat.le_of_ble_eq_true rfl) (Nat.le_of_ble_eq_true rfl) rfl rfl (Nat.le_refl _) (Nat.le_refl _) (s_X11_shift hw) ?_
          intro v178 h177 hw
          refine r_aload_n 1286 d_L_law_1285 rfl rfl ?_
          refine r_aload_n 1287 d_L_law_1286 rfl rfl ?_
          refine r_iload_n 1288 d_L_law_1287 rfl rfl ?_
          refine r_iconst (v := 1) 1289 d_L_law_1288 rfl (by decide) ?_
          refine r_iadd 1290 d_L_law_1289 rfl ?_
          obtain ⟨hg, hw⟩ := hw
          refine r_scr 1291 hL hxs d_L_law_1290 rfl hg ?_
          refine r_aload_n 1292 d_L_law_1291 rfl rfl ?_
          refine r_iload_n 1293 d_L_law_1292 rfl rfl ?_
          refine r_iconst (v := 2) 1294 d_L_law_1293 rfl (by decide) ?_
          refine r_iadd 1295 d_L_law_1294 rfl ?_
          obtain ⟨hg, hw⟩ := hw
          refine r_scr 1296 hL hxs d_L_law_1295 rfl hg ?_
          refine r_aload_n 1297 d_L_law_1296 rfl rfl ?_
          refine r_iload_n 1298 d_L_law_1297 rfl rfl ?_
          refine r_iconst (v := 3) 1299 d_L_law_1298 rfl (by decide) ?_
          refine r_iadd 1300 d_L_law_1299 rfl ?_
          obtain ⟨hg, hw⟩ := hw
          refine r_scr 1301 hL hxs d_L_law_1300 rfl hg ?_
          refine r_aload_n 1302 d_L_law_1301 rfl rfl ?_
          refine r_iload_n 1303 d_L_law_1302 rfl rfl ?_
          refine r_iconst (v := 4) 1304 d_L_law_1303 rfl (by decide) ?_
          refine r_iadd 1305 d_L_law_1304 rfl ?_
          obtain ⟨hg, hw⟩ := hw
          refine r_scr 1306 hL hxs d_L_law_1305 rfl hg ?_
          refine r_aload_n 1307 d_L_law_1306 rfl rfl ?_
          refine r_iload_n 1308 d_L_law_1307 rfl rfl ?_
          refine r_iconst (v := 5) 1309 d_L_law_1308 rfl (by decide) ?_
          refine r_iadd 1310 d_L_law_1309 rfl ?_
          obtain ⟨hg, hw⟩ := hw
          refine r_scr 1311 hL hxs d_L_law_1310 rfl hg ?_
          refine r_callVi (E2 := e_X12_shift) (As := [.int (xs (l3 + 1).toNatClampNeg), .int (xs (l3 + 2).toNatClampNeg), .int (xs (l3 + 3).toNatClampNeg), .int (xs (l3 + 4).toNatClampNeg), .int (xs (l3 + 5).toNatClampNeg)]) 1314 sh_53 rfl (by decide) (show 53 < 90 by decide) d_L_law_1311 rfl q_1414 k_X12_shift rfl rfl (Nat.le_of_ble_eq_true rfl) (Nat.le_of_ble_eq_true rfl) rfl rfl (Nat.le_refl _) (Nat.le_refl _) (s_X12_shift hw) ?_
          intro v180 h179 hw
          refine r_icmp_eq 1375 1317 d_L_law_1314 (by decide) rfl (fun z => ?_) (fun z => ?_)
          · have hw := hw.1 z
            refine r_iinc (v := l3 + 6) 1378 [some (.ref 1000), some (.ref 0), some (.ref 53), some (.int (l3 + 6))] d_L_law_1375 rfl rfl rfl (Nat.le_of_ble_eq_true rfl) rfl rfl ?_
            refine r_goto 18 d_L_law_1378 (by decide) ?_
            exact ih _ _ hw
          · have hw := hw.2 z
            refine r_iconst (v := 0) 1318 d_L_law_1317 rfl (by decide) ?_
            exact r_ireturn d_L_law_1318 rfl rfl (by decide) hw
        exact r_tabK (off := 1223) 35 1256 z35 d_L_law_33 (by decide) (by decide) (by decide) (by decide) hJ181
      by_cases z36 : x1 = 36
      · have hw := hw.2.2.2.2.2.2.2.2.2.2.2.2.2.2.2.2.2.2.2.2.2.2.2.2.2.2.2.2.2.2.2.2.2.2.2.2.1 z36
        have hJ186 : Sat G e_L1 (mQi Q) 90 1319 [some (.ref 1000), some (.ref 0), some (.ref 53), some (.int l3)] [] h := by
          refine r_aload_n 1320 d_L_law_1319 rfl rfl ?_
          refine r_aload_n 1321 d_L_law_1320 rfl rfl ?_
          refine r_iload_n 1322 d_L_law_1321 rfl rfl ?_
          refine r_iconst (v := 1) 1323 d_L_law_1322 rfl (by decide) ?_
          refine r_iadd 1324 d_L_law_1323 rfl ?_
          obtain ⟨hg, hw⟩ := hw
          refine r_scr 1325 hL hxs d_L_law_1324 rfl hg ?_
          refine r_aload_n 1326 d_L_law_1325 rfl rfl ?_
          refine r_iload_n 1327 d_L_law_1326 rfl rfl ?_
          refine r_iconst (v := 2) 1328 d_L_law_1327 rfl (by decide) ?_
          refine r_iadd 1329 d_L_law_1328 rfl ?_
          obtain ⟨hg, hw⟩ := hw
          refine r_scr 1330 hL hxs d_L_law_1329 rfl hg ?_
          refine r_callVi (E2 := e_X11_taken) (As := [.int (xs (l3 + 1).toNatClampNeg), .int (xs (l3 + 2).toNatClampNeg)]) 1333 sh_0 rfl (by decide) (show 0 < 90 by decide) d_L_law_1330 rfl q_858 k_X11_taken rfl rfl (Nat.le_of_ble_eq_true rfl) (Nat.le_of_ble_eq_true rfl) rfl rfl (Nat.le_refl _) (Nat.le_refl _) (s_X11_taken hw) ?_
          intro v183 h182 hw
          refine r_aload_n 1334 d_L_law_1333 rfl rfl ?_
          refine r_aload_n 1335 d_L_law_1334 rfl rfl ?_
          refine r_iload_n 1336 d_L_law_1335 rfl rfl ?_
          refine r_iconst (v := 1) 1337 d_L_law_1336 rfl (by decide) ?_
          refine r_iadd 1338 d_L_law_1337 rfl ?_
          obtain ⟨hg, hw⟩ := hw
          refine r_scr 1339 hL hxs d_L_law_1338 rfl hg ?_
          refine r_aload_n 1340 d_L_law_1339 rfl rfl ?_
          refine r_iload_n 1341 d_L_law_1340 rfl rfl ?_
          refine r_iconst (v := 2) 1342 d_L_law_1341 rfl (by decide) ?_
          refine r_iadd 1343 d_L_law_1342 rfl ?_
          obtain ⟨hg, hw⟩ := hw
          refine r_scr 1344 hL hxs d_L_law_1343 rfl hg ?_
          refine r_callVi (E2 := e_X12_taken) (As := [.int (xs (l3 + 1).toNatClampNeg), .int (xs (l3 + 2).toNatClampNeg)]) 1347 sh_53 rfl (by decide) (show 53 < 90 by decide) d_L_law_1344 rfl q_1418 k_X12_taken rfl rfl (Nat.le_of_ble_eq_true rfl) (Nat.le_of_ble_eq_true rfl) rfl rfl (Nat.le_refl _) (Nat.le_refl _) (s_X12_taken hw) ?_
          intro v185 h184 hw
          refine r_icmp_eq 1375 1350 d_L_law_1347 (by decide) rfl (fun z => ?_) (fun z => ?_)
          · have hw := hw.1 z
            refine r_iinc (v := l3 + 6) 1378 [some (.ref 1000), some (.ref 0), some (.ref 53), some (.int (l3 + 6))] d_L_law_1375 rfl rfl rfl (Nat.le_of_ble_eq_true rfl) rfl rfl ?_
            refine r_goto 18 d_L_law_1378 (by decide) ?_
            exact ih _ _ hw
          · have hw := hw.2 z
            refine r_iconst (v := 0) 1351 d_L_law_1350 rfl (by decide) ?_
            exact r_ireturn d_L_law_1351 rfl rfl (by decide) hw
        exact r_tabK (off := 1286) 36 1319 z36 d_L_law_33 (by decide) (by decide) (by decide) (by decide) hJ186
      by_cases z37 : x1 = 37
      · have hw := hw.2.2.2.2.2.2.2.2.2.2.2.2.2.2.2.2.2.2.2.2.2.2.2.2.2.2.2.2.2.2.2.2.2.2.2.2.2.1 z37
        have hJ191 : Sat G e_L1 (mQi Q) 90 1352 [some (.ref 1000), some (.ref 0), some (.ref 53), some (.int l3)] [] h := by
          refine r_aload_n 1353 d_L_law_1352 rfl rfl ?_
          refine r_aload_n 1354 d_L_law_1353 rfl rfl ?_
          refine r_iload_n 1355 d_L_law_1354 rfl rfl ?_
          refine r_iconst (v := 1) 1356 d_L_law_1355 rfl (by decide) ?_
          refine r_iadd 1357 d_L_law_1356 rfl ?_
          obtain ⟨hg, hw⟩ := hw
          refine r_scr 1358 hL hxs d_L_law_1357 rfl hg ?_
          refine r_callVi (E2 := e_X11_count) (As := [.int (xs (l3 + 1).toNatClampNeg)]) 1361 sh_0 rfl (by decide) (show 0 < 90 by decide) d_L_law_1358 rfl q_866 k_X11_count rfl rfl (Nat.le_of_ble_eq_true rfl) (Nat.le_of_ble_eq_true rfl) rfl rfl (Nat.le_refl _) (Nat.le_refl _) (s_X11_count hw) ?_
          intro v188 h187 hw
          refine r_aload_n 1362 d_L_law_1361 rfl rfl ?_
          refine r_aload_n 1363 d_L_law_1362 rfl rfl ?_
          refine r_iload_n 1364 d_L_law_1363 rfl rfl ?_
          refine r_iconst (v := 1) 1365 d_L_law_1364 rfl (by decide) ?_
          refine r_iadd 1366 d_L_law_1365 rfl ?_
          obtain ⟨hg, hw⟩ := hw
          refine r_scr 1367 hL hxs d_L_law_1366 rfl hg ?_
          refine r_callVi (E2 := e_X12_count) (As := [.int (xs (l3 + 1).toNatClampNeg)]) 1370 sh_53 rfl (by decide) (show 53 < 90 by decide) d_L_law_1367 rfl q_1389 k_X12_count rfl rfl (Nat.le_of_ble_eq_true rfl) (Nat.le_of_ble_eq_true rfl) rfl rfl (Nat.le_refl _) (Nat.le_refl _) (s_X12_count hw) ?_
          intro v190 h189 hw
          refine r_icmp_eq 1375 1373 d_L_law_1370 (by decide) rfl (fun z => ?_) (fun z => ?_)
          · have hw := hw.1 z
            refine r_iinc (v := l3 + 6) 1378 [some (.ref 1000), some (.ref 0), some (.ref 53), some (.int (l3 + 6))] d_L_law_1375 rfl rfl rfl (Nat.le_of_ble_eq_true rfl) rfl rfl ?_
            refine r_goto 18 d_L_law_1378 (by decide) ?_
            exact ih _ _ hw
          · have hw := hw.2 z
            refine r_iconst (v := 0) 1374 d_L_law_1373 rfl (by decide) ?_
            exact r_ireturn d_L_law_1374 rfl rfl (by decide) hw
        exact r_tabK (off := 1319) 37 1352 z37 d_L_law_33 (by decide) (by decide) (by decide) (by decide) hJ191
      have zd : ∀ k ∈ ([0, 1, 2, 3, 4, 5, 6, 7, 8, 9, 10, 11, 12, 13, 14, 15, 16, 17, 18, 19, 20, 21, 22, 23, 24, 25, 26, 27, 28, 29, 30, 31, 32, 33, 34, 35, 36, 37] : List Int32), ¬ x1 = k := by
        intro k hk hx
        simp only [List.mem_cons, List.not_mem_nil, or_false] at hk
        subst hx
        rcases hk with hk | hk | hk | hk | hk | hk | hk | hk | hk | hk | hk | hk | hk | hk | hk | hk | hk | hk | hk | hk | hk | hk | hk | hk | hk | hk | hk | hk | hk | hk | hk | hk | hk | hk | hk | hk | hk | hk
        · exact z0 hk
        · exact z1 hk
        · exact z2 hk
        · exact z3 hk
        · exact z4 hk
        · exact z5 hk
        · exact z6 hk
        · exact z7 hk
        · exact z8 hk
        · exact z9 hk
        · exact z10 hk
        · exact z11 hk
        · exact z12 hk
        · exact z13 hk
        · exact z14 hk
        · exact z15 hk
        · exact z16 hk
        · exact z17 hk
        · exact z18 hk
        · exact z19 hk
        · exact z20 hk
        · exact z21 hk
        · exact z22 hk
        · exact z23 hk
        · exact z24 hk
        · exact z25 hk
        · exact z26 hk
        · exact z27 hk
        · exact z28 hk
        · exact z29 hk
        · exact z30 hk
        · exact z31 hk
        · exact z32 hk
        · exact z33 hk
        · exact z34 hk
        · exact z35 hk
        · exact z36 hk
        · exact z37 hk
      have hw := hw.2.2.2.2.2.2.2.2.2.2.2.2.2.2.2.2.2.2.2.2.2.2.2.2.2.2.2.2.2.2.2.2.2.2.2.2.2.2 zd
      refine r_tabD [0, 1, 2, 3, 4, 5, 6, 7, 8, 9, 10, 11, 12, 13, 14, 15, 16, 17, 18, 19, 20, 21, 22, 23, 24, 25, 26, 27, 28, 29, 30, 31, 32, 33, 34, 35, 36, 37] 1375 zd d_L_law_33 (by decide) (by decide) ?_
      refine r_iinc (v := l3 + 6) 1378 [some (.ref 1000), some (.ref 0), some (.ref 53), some (.int (l3 + 6))] d_L_law_1375 rfl rfl rfl (Nat.le_of_ble_eq_true rfl) rfl rfl ?_
      refine r_goto 18 d_L_law_1378 (by decide) ?_
      exact ih _ _ hw
set_option maxRecDepth 100000 in
theorem s_L_main {G : mG} {L : Nat} {xs : Nat → Int32} {h : mH} {Q : Int32 → mH → Prop} (hL : G.2.2.2.2.2.2.1 = L) (hxs : G.2.2.2.2.2.2.2 = xs) (hw : w_L_main L xs h Q) : Sat G e_L1 (mQi Q) 90 18 [some (.ref 1000), some (.ref 0), some (.ref 53), some (.int 0)] [] h := by
  unfold w_L_main at hw
  obtain ⟨n193, hw⟩ := hw
  refine s_L_law_L18 hL hxs ?_ n193 _ _ hw
  intro h192 hw
  refine r_iconst (v := 1) 1382 d_L_law_1381 rfl (by decide) ?_
  exact r_ireturn d_L_law_1382 rfl rfl (by decide) hw
set_option maxRecDepth 100000 in
theorem s_L_pre {G : mG} {h : mH} {Q : Option Value → mH → Prop} {K : mH → Prop} (hK : ∀ h1, K h1 → Sat G e_L0 Q 90 18 [some (.ref 1000), some (.ref 0), some (.ref 53), some (.int 0)] [] h1) (hw : w_L_pre h K) : Sat G e_L0 Q 0 0 [some (.ref 1000), none, none, none] [] h := by
  unfold w_L_pre at hw
  refine r_new 3 d_L_law_0 rfl cl_11 q_85 q_86 q_69 sh_0 (by decide) (by decide) rfl (by decide) ?_
  refine m_nmh (fun h1 eh1 => ?_)
  have hw := hw h1 eh1
  refine r_dup 4 d_L_law_3 rfl rfl ?_
  refine r_callIv (E2 := e_X11_init_1) (As := []) 7 d_L_law_4 rfl q_87 k_X11_init_1 rfl rfl (Nat.le_of_ble_eq_true rfl) (Nat.le_of_ble_eq_true rfl) rfl rfl (Nat.le_of_ble_eq_true rfl) (Nat.le_of_ble_eq_true rfl) (s_X11_init_1 hw) ?_
  intro h2 hw
  refine r_astore_n 8 [some (.ref 1000), some (.ref 0), none, none] d_L_law_7 rfl (Nat.le_of_ble_eq_true rfl) rfl rfl ?_
  refine r_new 11 d_L_law_8 rfl cl_12 q_874 q_875 q_81 sh_53 (by decide) (by decide) rfl (by decide) ?_
  refine m_nmh (fun h3 eh3 => ?_)
  have hw := hw h3 eh3
  refine r_dup 12 d_L_law_11 rfl rfl ?_
  refine r_callIv (E2 := e_X12_init_54) (As := []) 15 d_L_law_12 rfl q_876 k_X12_init_54 rfl rfl (Nat.le_of_ble_eq_true rfl) (Nat.le_of_ble_eq_true rfl) rfl rfl (Nat.le_of_ble_eq_true rfl) (Nat.le_of_ble_eq_true rfl) (s_X12_init_54 hw) ?_
  intro h4 hw
  refine r_astore_n 16 [some (.ref 1000), some (.ref 0), some (.ref 53), none] d_L_law_15 rfl (Nat.le_of_ble_eq_true rfl) rfl rfl ?_
  refine r_iconst (v := 0) 17 d_L_law_16 rfl (by decide) ?_
  refine r_istore_n 18 [some (.ref 1000), some (.ref 0), some (.ref 53), some (.int 0)] d_L_law_17 rfl (Nat.le_of_ble_eq_true rfl) rfl rfl ?_
  exact hK _ hw
def m_rl : List (Nat × Nat × Nat) := [(0, 0, 2), (0, 1, 6), (0, 2, 8), (0, 3, 10), (0, 4, 20), (0, 5, 24), (0, 6, 26), (0, 7, 30), (0, 8, 38), (0, 9, 41), (1, 0, 3), (1, 1, 4), (1, 2, 5), (5, 2, 7), (7, 2, 9), (9, 0, 11), (9, 1, 12), (11, 0, 13), (13, 0, 15), (13, 1, 16), (16, 0, 18), (16, 1, 19), (19, 0, 21), (19, 1, 22), (19, 2, 23), (23, 0, 25), (25, 0, 27), (25, 1, 28), (25, 2, 29), (29, 0, 31), (29, 1, 33), (29, 2, 35), (29, 3, 36), (29, 4, 37), (30, 2, 32), (32, 2, 34), (37, 0, 39), (37, 1, 40), (40, 0, 42), (40, 1, 44), (40, 2, 46), (40, 3, 48), (40, 4, 50), (40, 5, 52), (41, 0, 43), (43, 0, 45), (45, 0, 47), (47, 0, 49), (49, 0, 51), (51, 0, 53), (53, 1, 55), (53, 2, 56), (53, 6, 57), (53, 7, 58), (53, 10, 59), (53, 11, 60), (53, 12, 61), (53, 13, 62), (53, 15, 63), (53, 16, 64), (53, 17, 65), (53, 18, 66), (53, 20, 67), (53, 21, 68), (53, 22, 69), (53, 23, 70), (53, 29, 71), (53, 30, 72), (53, 31, 73), (53, 32, 74), (53, 33, 75), (53, 34, 76), (53, 35, 77), (53, 37, 78), (53, 39, 79), (53, 44, 80), (53, 45, 81), (53, 46, 82), (53, 47, 83), (53, 48, 84), (53, 50, 85), (53, 52, 86), (53, 53, 87), (53, 54, 88), (53, 55, 89), (53, 56, 90)]
