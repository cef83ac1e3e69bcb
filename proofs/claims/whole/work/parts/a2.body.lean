/-! THE LAW'S BODY: one operation after another -/
theorem dL_0 : decode code 0 = .ok (.new 7, 3) := by decide +kernel
theorem dL_3 : decode code 3 = .ok (.dup, 1) := by decide +kernel
theorem dL_4 : decode code 4 = .ok (.invokespecial 9, 3) := by decide +kernel
theorem dL_7 : decode code 7 = .ok (.astore_n 1, 1) := by decide +kernel
theorem dL_8 : decode code 8 = .ok (.new 10, 3) := by decide +kernel
theorem dL_11 : decode code 11 = .ok (.dup, 1) := by decide +kernel
theorem dL_12 : decode code 12 = .ok (.invokespecial 12, 3) := by decide +kernel
theorem dL_15 : decode code 15 = .ok (.astore_n 2, 1) := by decide +kernel
theorem dL_16 : decode code 16 = .ok (.iconst 0, 1) := by decide +kernel
theorem dL_17 : decode code 17 = .ok (.istore_n 3, 1) := by decide +kernel
theorem dL_18 : decode code 18 = .ok (.iload_n 3, 1) := by decide +kernel
theorem dL_19 : decode code 19 = .ok (.aload_n 0, 1) := by decide +kernel
theorem dL_20 : decode code 20 = .ok (.arraylength, 1) := by decide +kernel
theorem dL_21 : decode code 21 = .ok (.bipush 6, 2) := by decide +kernel
theorem dL_23 : decode code 23 = .ok (.isub, 1) := by decide +kernel
theorem dL_24 : decode code 24 = .ok (.if_icmp .gt 1100, 3) := by decide +kernel
theorem dL_27 : decode code 27 = .ok (.aload_n 0, 1) := by decide +kernel
theorem dL_28 : decode code 28 = .ok (.iload_n 3, 1) := by decide +kernel
theorem dL_29 : decode code 29 = .ok (.iaload, 1) := by decide +kernel
theorem dL_30 : decode code 30 = .ok (.bipush 31, 2) := by decide +kernel
theorem dL_32 : decode code 32 = .ok (.iand, 1) := by decide +kernel
theorem dL_33 : decode code 33 = .ok (.tableswitch 1085 0 31 #[143, 166, 209, 252, 285, 318, 351, 384, 447, 470, 493, 516, 539, 572, 615, 648, 681, 714, 747, 780, 793, 816, 839, 872, 895, 918, 931, 964, 987, 1010, 1023, 1062], 143) := by decide +kernel
theorem dL_176 : decode code 176 = .ok (.aload_n 1, 1) := by decide +kernel
theorem dL_177 : decode code 177 = .ok (.aload_n 0, 1) := by decide +kernel
theorem dL_178 : decode code 178 = .ok (.iload_n 3, 1) := by decide +kernel
theorem dL_179 : decode code 179 = .ok (.iconst 1, 1) := by decide +kernel
theorem dL_180 : decode code 180 = .ok (.iadd, 1) := by decide +kernel
theorem dL_181 : decode code 181 = .ok (.iaload, 1) := by decide +kernel
theorem dL_182 : decode code 182 = .ok (.invokevirtual 13, 3) := by decide +kernel
theorem dL_185 : decode code 185 = .ok (.aload_n 2, 1) := by decide +kernel
theorem dL_186 : decode code 186 = .ok (.aload_n 0, 1) := by decide +kernel
theorem dL_187 : decode code 187 = .ok (.iload_n 3, 1) := by decide +kernel
theorem dL_188 : decode code 188 = .ok (.iconst 1, 1) := by decide +kernel
theorem dL_189 : decode code 189 = .ok (.iadd, 1) := by decide +kernel
theorem dL_190 : decode code 190 = .ok (.iaload, 1) := by decide +kernel
theorem dL_191 : decode code 191 = .ok (.invokevirtual 17, 3) := by decide +kernel
theorem dL_194 : decode code 194 = .ok (.if_icmp .eq 924, 3) := by decide +kernel
theorem dL_197 : decode code 197 = .ok (.iconst 0, 1) := by decide +kernel
theorem dL_198 : decode code 198 = .ok (.ireturn, 1) := by decide +kernel
theorem dL_199 : decode code 199 = .ok (.aload_n 1, 1) := by decide +kernel
theorem dL_200 : decode code 200 = .ok (.aload_n 0, 1) := by decide +kernel
theorem dL_201 : decode code 201 = .ok (.iload_n 3, 1) := by decide +kernel
theorem dL_202 : decode code 202 = .ok (.iconst 1, 1) := by decide +kernel
theorem dL_203 : decode code 203 = .ok (.iadd, 1) := by decide +kernel
theorem dL_204 : decode code 204 = .ok (.iaload, 1) := by decide +kernel
theorem dL_205 : decode code 205 = .ok (.aload_n 0, 1) := by decide +kernel
theorem dL_206 : decode code 206 = .ok (.iload_n 3, 1) := by decide +kernel
theorem dL_207 : decode code 207 = .ok (.iconst 2, 1) := by decide +kernel
theorem dL_208 : decode code 208 = .ok (.iadd, 1) := by decide +kernel
theorem dL_209 : decode code 209 = .ok (.iaload, 1) := by decide +kernel
theorem dL_210 : decode code 210 = .ok (.aload_n 0, 1) := by decide +kernel
theorem dL_211 : decode code 211 = .ok (.iload_n 3, 1) := by decide +kernel
theorem dL_212 : decode code 212 = .ok (.iconst 3, 1) := by decide +kernel
theorem dL_213 : decode code 213 = .ok (.iadd, 1) := by decide +kernel
theorem dL_214 : decode code 214 = .ok (.iaload, 1) := by decide +kernel
theorem dL_215 : decode code 215 = .ok (.invokevirtual 18, 3) := by decide +kernel
theorem dL_218 : decode code 218 = .ok (.aload_n 2, 1) := by decide +kernel
theorem dL_219 : decode code 219 = .ok (.aload_n 0, 1) := by decide +kernel
theorem dL_220 : decode code 220 = .ok (.iload_n 3, 1) := by decide +kernel
theorem dL_221 : decode code 221 = .ok (.iconst 1, 1) := by decide +kernel
theorem dL_222 : decode code 222 = .ok (.iadd, 1) := by decide +kernel
theorem dL_223 : decode code 223 = .ok (.iaload, 1) := by decide +kernel
theorem dL_224 : decode code 224 = .ok (.aload_n 0, 1) := by decide +kernel
theorem dL_225 : decode code 225 = .ok (.iload_n 3, 1) := by decide +kernel
theorem dL_226 : decode code 226 = .ok (.iconst 2, 1) := by decide +kernel
theorem dL_227 : decode code 227 = .ok (.iadd, 1) := by decide +kernel
theorem dL_228 : decode code 228 = .ok (.iaload, 1) := by decide +kernel
theorem dL_229 : decode code 229 = .ok (.aload_n 0, 1) := by decide +kernel
theorem dL_230 : decode code 230 = .ok (.iload_n 3, 1) := by decide +kernel
theorem dL_231 : decode code 231 = .ok (.iconst 3, 1) := by decide +kernel
theorem dL_232 : decode code 232 = .ok (.iadd, 1) := by decide +kernel
theorem dL_233 : decode code 233 = .ok (.iaload, 1) := by decide +kernel
theorem dL_234 : decode code 234 = .ok (.invokevirtual 22, 3) := by decide +kernel
theorem dL_237 : decode code 237 = .ok (.if_icmp .eq 881, 3) := by decide +kernel
theorem dL_240 : decode code 240 = .ok (.iconst 0, 1) := by decide +kernel
theorem dL_241 : decode code 241 = .ok (.ireturn, 1) := by decide +kernel
theorem dL_242 : decode code 242 = .ok (.aload_n 1, 1) := by decide +kernel
theorem dL_243 : decode code 243 = .ok (.aload_n 0, 1) := by decide +kernel
theorem dL_244 : decode code 244 = .ok (.iload_n 3, 1) := by decide +kernel
theorem dL_245 : decode code 245 = .ok (.iconst 1, 1) := by decide +kernel
theorem dL_246 : decode code 246 = .ok (.iadd, 1) := by decide +kernel
theorem dL_247 : decode code 247 = .ok (.iaload, 1) := by decide +kernel
theorem dL_248 : decode code 248 = .ok (.aload_n 0, 1) := by decide +kernel
theorem dL_249 : decode code 249 = .ok (.iload_n 3, 1) := by decide +kernel
theorem dL_250 : decode code 250 = .ok (.iconst 2, 1) := by decide +kernel
theorem dL_251 : decode code 251 = .ok (.iadd, 1) := by decide +kernel
theorem dL_252 : decode code 252 = .ok (.iaload, 1) := by decide +kernel
theorem dL_253 : decode code 253 = .ok (.aload_n 0, 1) := by decide +kernel
theorem dL_254 : decode code 254 = .ok (.iload_n 3, 1) := by decide +kernel
theorem dL_255 : decode code 255 = .ok (.iconst 3, 1) := by decide +kernel
theorem dL_256 : decode code 256 = .ok (.iadd, 1) := by decide +kernel
theorem dL_257 : decode code 257 = .ok (.iaload, 1) := by decide +kernel
theorem dL_258 : decode code 258 = .ok (.invokevirtual 23, 3) := by decide +kernel
theorem dL_261 : decode code 261 = .ok (.aload_n 2, 1) := by decide +kernel
theorem dL_262 : decode code 262 = .ok (.aload_n 0, 1) := by decide +kernel
theorem dL_263 : decode code 263 = .ok (.iload_n 3, 1) := by decide +kernel
theorem dL_264 : decode code 264 = .ok (.iconst 1, 1) := by decide +kernel
theorem dL_265 : decode code 265 = .ok (.iadd, 1) := by decide +kernel
theorem dL_266 : decode code 266 = .ok (.iaload, 1) := by decide +kernel
theorem dL_267 : decode code 267 = .ok (.aload_n 0, 1) := by decide +kernel
theorem dL_268 : decode code 268 = .ok (.iload_n 3, 1) := by decide +kernel
theorem dL_269 : decode code 269 = .ok (.iconst 2, 1) := by decide +kernel
theorem dL_270 : decode code 270 = .ok (.iadd, 1) := by decide +kernel
theorem dL_271 : decode code 271 = .ok (.iaload, 1) := by decide +kernel
theorem dL_272 : decode code 272 = .ok (.aload_n 0, 1) := by decide +kernel
theorem dL_273 : decode code 273 = .ok (.iload_n 3, 1) := by decide +kernel
theorem dL_274 : decode code 274 = .ok (.iconst 3, 1) := by decide +kernel
theorem dL_275 : decode code 275 = .ok (.iadd, 1) := by decide +kernel
theorem dL_276 : decode code 276 = .ok (.iaload, 1) := by decide +kernel
theorem dL_277 : decode code 277 = .ok (.invokevirtual 27, 3) := by decide +kernel
theorem dL_280 : decode code 280 = .ok (.if_icmp .eq 838, 3) := by decide +kernel
theorem dL_283 : decode code 283 = .ok (.iconst 0, 1) := by decide +kernel
theorem dL_284 : decode code 284 = .ok (.ireturn, 1) := by decide +kernel
theorem dL_285 : decode code 285 = .ok (.aload_n 1, 1) := by decide +kernel
theorem dL_286 : decode code 286 = .ok (.aload_n 0, 1) := by decide +kernel
theorem dL_287 : decode code 287 = .ok (.iload_n 3, 1) := by decide +kernel
theorem dL_288 : decode code 288 = .ok (.iconst 1, 1) := by decide +kernel
theorem dL_289 : decode code 289 = .ok (.iadd, 1) := by decide +kernel
theorem dL_290 : decode code 290 = .ok (.iaload, 1) := by decide +kernel
theorem dL_291 : decode code 291 = .ok (.aload_n 0, 1) := by decide +kernel
theorem dL_292 : decode code 292 = .ok (.iload_n 3, 1) := by decide +kernel
theorem dL_293 : decode code 293 = .ok (.iconst 2, 1) := by decide +kernel
theorem dL_294 : decode code 294 = .ok (.iadd, 1) := by decide +kernel
theorem dL_295 : decode code 295 = .ok (.iaload, 1) := by decide +kernel
theorem dL_296 : decode code 296 = .ok (.invokevirtual 28, 3) := by decide +kernel
theorem dL_299 : decode code 299 = .ok (.aload_n 2, 1) := by decide +kernel
theorem dL_300 : decode code 300 = .ok (.aload_n 0, 1) := by decide +kernel
theorem dL_301 : decode code 301 = .ok (.iload_n 3, 1) := by decide +kernel
theorem dL_302 : decode code 302 = .ok (.iconst 1, 1) := by decide +kernel
theorem dL_303 : decode code 303 = .ok (.iadd, 1) := by decide +kernel
theorem dL_304 : decode code 304 = .ok (.iaload, 1) := by decide +kernel
theorem dL_305 : decode code 305 = .ok (.aload_n 0, 1) := by decide +kernel
theorem dL_306 : decode code 306 = .ok (.iload_n 3, 1) := by decide +kernel
theorem dL_307 : decode code 307 = .ok (.iconst 2, 1) := by decide +kernel
theorem dL_308 : decode code 308 = .ok (.iadd, 1) := by decide +kernel
theorem dL_309 : decode code 309 = .ok (.iaload, 1) := by decide +kernel
theorem dL_310 : decode code 310 = .ok (.invokevirtual 32, 3) := by decide +kernel
theorem dL_313 : decode code 313 = .ok (.if_icmp .eq 805, 3) := by decide +kernel
theorem dL_316 : decode code 316 = .ok (.iconst 0, 1) := by decide +kernel
theorem dL_317 : decode code 317 = .ok (.ireturn, 1) := by decide +kernel
theorem dL_318 : decode code 318 = .ok (.aload_n 1, 1) := by decide +kernel
theorem dL_319 : decode code 319 = .ok (.aload_n 0, 1) := by decide +kernel
theorem dL_320 : decode code 320 = .ok (.iload_n 3, 1) := by decide +kernel
theorem dL_321 : decode code 321 = .ok (.iconst 1, 1) := by decide +kernel
theorem dL_322 : decode code 322 = .ok (.iadd, 1) := by decide +kernel
theorem dL_323 : decode code 323 = .ok (.iaload, 1) := by decide +kernel
theorem dL_324 : decode code 324 = .ok (.aload_n 0, 1) := by decide +kernel
theorem dL_325 : decode code 325 = .ok (.iload_n 3, 1) := by decide +kernel
theorem dL_326 : decode code 326 = .ok (.iconst 2, 1) := by decide +kernel
theorem dL_327 : decode code 327 = .ok (.iadd, 1) := by decide +kernel
theorem dL_328 : decode code 328 = .ok (.iaload, 1) := by decide +kernel
theorem dL_329 : decode code 329 = .ok (.invokevirtual 33, 3) := by decide +kernel
theorem dL_332 : decode code 332 = .ok (.aload_n 2, 1) := by decide +kernel
theorem dL_333 : decode code 333 = .ok (.aload_n 0, 1) := by decide +kernel
theorem dL_334 : decode code 334 = .ok (.iload_n 3, 1) := by decide +kernel
theorem dL_335 : decode code 335 = .ok (.iconst 1, 1) := by decide +kernel
theorem dL_336 : decode code 336 = .ok (.iadd, 1) := by decide +kernel
theorem dL_337 : decode code 337 = .ok (.iaload, 1) := by decide +kernel
theorem dL_338 : decode code 338 = .ok (.aload_n 0, 1) := by decide +kernel
theorem dL_339 : decode code 339 = .ok (.iload_n 3, 1) := by decide +kernel
theorem dL_340 : decode code 340 = .ok (.iconst 2, 1) := by decide +kernel
theorem dL_341 : decode code 341 = .ok (.iadd, 1) := by decide +kernel
theorem dL_342 : decode code 342 = .ok (.iaload, 1) := by decide +kernel
theorem dL_343 : decode code 343 = .ok (.invokevirtual 36, 3) := by decide +kernel
theorem dL_346 : decode code 346 = .ok (.if_icmp .eq 772, 3) := by decide +kernel
theorem dL_349 : decode code 349 = .ok (.iconst 0, 1) := by decide +kernel
theorem dL_350 : decode code 350 = .ok (.ireturn, 1) := by decide +kernel
theorem dL_351 : decode code 351 = .ok (.aload_n 1, 1) := by decide +kernel
theorem dL_352 : decode code 352 = .ok (.aload_n 0, 1) := by decide +kernel
theorem dL_353 : decode code 353 = .ok (.iload_n 3, 1) := by decide +kernel
theorem dL_354 : decode code 354 = .ok (.iconst 1, 1) := by decide +kernel
theorem dL_355 : decode code 355 = .ok (.iadd, 1) := by decide +kernel
theorem dL_356 : decode code 356 = .ok (.iaload, 1) := by decide +kernel
theorem dL_357 : decode code 357 = .ok (.aload_n 0, 1) := by decide +kernel
theorem dL_358 : decode code 358 = .ok (.iload_n 3, 1) := by decide +kernel
theorem dL_359 : decode code 359 = .ok (.iconst 2, 1) := by decide +kernel
theorem dL_360 : decode code 360 = .ok (.iadd, 1) := by decide +kernel
theorem dL_361 : decode code 361 = .ok (.iaload, 1) := by decide +kernel
theorem dL_362 : decode code 362 = .ok (.invokevirtual 37, 3) := by decide +kernel
theorem dL_365 : decode code 365 = .ok (.aload_n 2, 1) := by decide +kernel
theorem dL_366 : decode code 366 = .ok (.aload_n 0, 1) := by decide +kernel
theorem dL_367 : decode code 367 = .ok (.iload_n 3, 1) := by decide +kernel
theorem dL_368 : decode code 368 = .ok (.iconst 1, 1) := by decide +kernel
theorem dL_369 : decode code 369 = .ok (.iadd, 1) := by decide +kernel
theorem dL_370 : decode code 370 = .ok (.iaload, 1) := by decide +kernel
theorem dL_371 : decode code 371 = .ok (.aload_n 0, 1) := by decide +kernel
theorem dL_372 : decode code 372 = .ok (.iload_n 3, 1) := by decide +kernel
theorem dL_373 : decode code 373 = .ok (.iconst 2, 1) := by decide +kernel
theorem dL_374 : decode code 374 = .ok (.iadd, 1) := by decide +kernel
theorem dL_375 : decode code 375 = .ok (.iaload, 1) := by decide +kernel
theorem dL_376 : decode code 376 = .ok (.invokevirtual 41, 3) := by decide +kernel
theorem dL_379 : decode code 379 = .ok (.if_icmp .eq 739, 3) := by decide +kernel
theorem dL_382 : decode code 382 = .ok (.iconst 0, 1) := by decide +kernel
theorem dL_383 : decode code 383 = .ok (.ireturn, 1) := by decide +kernel
theorem dL_384 : decode code 384 = .ok (.aload_n 1, 1) := by decide +kernel
theorem dL_385 : decode code 385 = .ok (.aload_n 0, 1) := by decide +kernel
theorem dL_386 : decode code 386 = .ok (.iload_n 3, 1) := by decide +kernel
theorem dL_387 : decode code 387 = .ok (.iconst 1, 1) := by decide +kernel
theorem dL_388 : decode code 388 = .ok (.iadd, 1) := by decide +kernel
theorem dL_389 : decode code 389 = .ok (.iaload, 1) := by decide +kernel
theorem dL_390 : decode code 390 = .ok (.aload_n 0, 1) := by decide +kernel
theorem dL_391 : decode code 391 = .ok (.iload_n 3, 1) := by decide +kernel
theorem dL_392 : decode code 392 = .ok (.iconst 2, 1) := by decide +kernel
theorem dL_393 : decode code 393 = .ok (.iadd, 1) := by decide +kernel
theorem dL_394 : decode code 394 = .ok (.iaload, 1) := by decide +kernel
theorem dL_395 : decode code 395 = .ok (.invokevirtual 42, 3) := by decide +kernel
theorem dL_398 : decode code 398 = .ok (.aload_n 2, 1) := by decide +kernel
theorem dL_399 : decode code 399 = .ok (.aload_n 0, 1) := by decide +kernel
theorem dL_400 : decode code 400 = .ok (.iload_n 3, 1) := by decide +kernel
theorem dL_401 : decode code 401 = .ok (.iconst 1, 1) := by decide +kernel
theorem dL_402 : decode code 402 = .ok (.iadd, 1) := by decide +kernel
theorem dL_403 : decode code 403 = .ok (.iaload, 1) := by decide +kernel
theorem dL_404 : decode code 404 = .ok (.aload_n 0, 1) := by decide +kernel
theorem dL_405 : decode code 405 = .ok (.iload_n 3, 1) := by decide +kernel
theorem dL_406 : decode code 406 = .ok (.iconst 2, 1) := by decide +kernel
theorem dL_407 : decode code 407 = .ok (.iadd, 1) := by decide +kernel
theorem dL_408 : decode code 408 = .ok (.iaload, 1) := by decide +kernel
theorem dL_409 : decode code 409 = .ok (.invokevirtual 45, 3) := by decide +kernel
theorem dL_412 : decode code 412 = .ok (.if_icmp .eq 706, 3) := by decide +kernel
theorem dL_415 : decode code 415 = .ok (.iconst 0, 1) := by decide +kernel
theorem dL_416 : decode code 416 = .ok (.ireturn, 1) := by decide +kernel
theorem dL_417 : decode code 417 = .ok (.aload_n 1, 1) := by decide +kernel
theorem dL_418 : decode code 418 = .ok (.aload_n 0, 1) := by decide +kernel
theorem dL_419 : decode code 419 = .ok (.iload_n 3, 1) := by decide +kernel
theorem dL_420 : decode code 420 = .ok (.iconst 1, 1) := by decide +kernel
theorem dL_421 : decode code 421 = .ok (.iadd, 1) := by decide +kernel
theorem dL_422 : decode code 422 = .ok (.iaload, 1) := by decide +kernel
theorem dL_423 : decode code 423 = .ok (.aload_n 0, 1) := by decide +kernel
theorem dL_424 : decode code 424 = .ok (.iload_n 3, 1) := by decide +kernel
theorem dL_425 : decode code 425 = .ok (.iconst 2, 1) := by decide +kernel
theorem dL_426 : decode code 426 = .ok (.iadd, 1) := by decide +kernel
theorem dL_427 : decode code 427 = .ok (.iaload, 1) := by decide +kernel
theorem dL_428 : decode code 428 = .ok (.aload_n 0, 1) := by decide +kernel
theorem dL_429 : decode code 429 = .ok (.iload_n 3, 1) := by decide +kernel
theorem dL_430 : decode code 430 = .ok (.iconst 3, 1) := by decide +kernel
theorem dL_431 : decode code 431 = .ok (.iadd, 1) := by decide +kernel
theorem dL_432 : decode code 432 = .ok (.iaload, 1) := by decide +kernel
theorem dL_433 : decode code 433 = .ok (.aload_n 0, 1) := by decide +kernel
theorem dL_434 : decode code 434 = .ok (.iload_n 3, 1) := by decide +kernel
theorem dL_435 : decode code 435 = .ok (.iconst 4, 1) := by decide +kernel
theorem dL_436 : decode code 436 = .ok (.iadd, 1) := by decide +kernel
theorem dL_437 : decode code 437 = .ok (.iaload, 1) := by decide +kernel
theorem dL_438 : decode code 438 = .ok (.aload_n 0, 1) := by decide +kernel
theorem dL_439 : decode code 439 = .ok (.iload_n 3, 1) := by decide +kernel
theorem dL_440 : decode code 440 = .ok (.iconst 5, 1) := by decide +kernel
theorem dL_441 : decode code 441 = .ok (.iadd, 1) := by decide +kernel
theorem dL_442 : decode code 442 = .ok (.iaload, 1) := by decide +kernel
theorem dL_443 : decode code 443 = .ok (.invokevirtual 46, 3) := by decide +kernel
theorem dL_446 : decode code 446 = .ok (.aload_n 2, 1) := by decide +kernel
theorem dL_447 : decode code 447 = .ok (.aload_n 0, 1) := by decide +kernel
theorem dL_448 : decode code 448 = .ok (.iload_n 3, 1) := by decide +kernel
theorem dL_449 : decode code 449 = .ok (.iconst 1, 1) := by decide +kernel
theorem dL_450 : decode code 450 = .ok (.iadd, 1) := by decide +kernel
theorem dL_451 : decode code 451 = .ok (.iaload, 1) := by decide +kernel
theorem dL_452 : decode code 452 = .ok (.aload_n 0, 1) := by decide +kernel
theorem dL_453 : decode code 453 = .ok (.iload_n 3, 1) := by decide +kernel
theorem dL_454 : decode code 454 = .ok (.iconst 2, 1) := by decide +kernel
theorem dL_455 : decode code 455 = .ok (.iadd, 1) := by decide +kernel
theorem dL_456 : decode code 456 = .ok (.iaload, 1) := by decide +kernel
theorem dL_457 : decode code 457 = .ok (.aload_n 0, 1) := by decide +kernel
theorem dL_458 : decode code 458 = .ok (.iload_n 3, 1) := by decide +kernel
theorem dL_459 : decode code 459 = .ok (.iconst 3, 1) := by decide +kernel
theorem dL_460 : decode code 460 = .ok (.iadd, 1) := by decide +kernel
theorem dL_461 : decode code 461 = .ok (.iaload, 1) := by decide +kernel
theorem dL_462 : decode code 462 = .ok (.aload_n 0, 1) := by decide +kernel
theorem dL_463 : decode code 463 = .ok (.iload_n 3, 1) := by decide +kernel
theorem dL_464 : decode code 464 = .ok (.iconst 4, 1) := by decide +kernel
theorem dL_465 : decode code 465 = .ok (.iadd, 1) := by decide +kernel
theorem dL_466 : decode code 466 = .ok (.iaload, 1) := by decide +kernel
theorem dL_467 : decode code 467 = .ok (.aload_n 0, 1) := by decide +kernel
theorem dL_468 : decode code 468 = .ok (.iload_n 3, 1) := by decide +kernel
theorem dL_469 : decode code 469 = .ok (.iconst 5, 1) := by decide +kernel
theorem dL_470 : decode code 470 = .ok (.iadd, 1) := by decide +kernel
theorem dL_471 : decode code 471 = .ok (.iaload, 1) := by decide +kernel
theorem dL_472 : decode code 472 = .ok (.invokevirtual 50, 3) := by decide +kernel
theorem dL_475 : decode code 475 = .ok (.if_icmp .eq 643, 3) := by decide +kernel
theorem dL_478 : decode code 478 = .ok (.iconst 0, 1) := by decide +kernel
theorem dL_479 : decode code 479 = .ok (.ireturn, 1) := by decide +kernel
theorem dL_480 : decode code 480 = .ok (.aload_n 1, 1) := by decide +kernel
theorem dL_481 : decode code 481 = .ok (.aload_n 0, 1) := by decide +kernel
theorem dL_482 : decode code 482 = .ok (.iload_n 3, 1) := by decide +kernel
theorem dL_483 : decode code 483 = .ok (.iconst 1, 1) := by decide +kernel
theorem dL_484 : decode code 484 = .ok (.iadd, 1) := by decide +kernel
theorem dL_485 : decode code 485 = .ok (.iaload, 1) := by decide +kernel
theorem dL_486 : decode code 486 = .ok (.invokevirtual 51, 3) := by decide +kernel
theorem dL_489 : decode code 489 = .ok (.aload_n 2, 1) := by decide +kernel
theorem dL_490 : decode code 490 = .ok (.aload_n 0, 1) := by decide +kernel
theorem dL_491 : decode code 491 = .ok (.iload_n 3, 1) := by decide +kernel
theorem dL_492 : decode code 492 = .ok (.iconst 1, 1) := by decide +kernel
theorem dL_493 : decode code 493 = .ok (.iadd, 1) := by decide +kernel
theorem dL_494 : decode code 494 = .ok (.iaload, 1) := by decide +kernel
theorem dL_495 : decode code 495 = .ok (.invokevirtual 55, 3) := by decide +kernel
theorem dL_498 : decode code 498 = .ok (.if_icmp .eq 620, 3) := by decide +kernel
theorem dL_501 : decode code 501 = .ok (.iconst 0, 1) := by decide +kernel
theorem dL_502 : decode code 502 = .ok (.ireturn, 1) := by decide +kernel
theorem dL_503 : decode code 503 = .ok (.aload_n 1, 1) := by decide +kernel
theorem dL_504 : decode code 504 = .ok (.aload_n 0, 1) := by decide +kernel
theorem dL_505 : decode code 505 = .ok (.iload_n 3, 1) := by decide +kernel
theorem dL_506 : decode code 506 = .ok (.iconst 1, 1) := by decide +kernel
theorem dL_507 : decode code 507 = .ok (.iadd, 1) := by decide +kernel
theorem dL_508 : decode code 508 = .ok (.iaload, 1) := by decide +kernel
theorem dL_509 : decode code 509 = .ok (.invokevirtual 56, 3) := by decide +kernel
theorem dL_512 : decode code 512 = .ok (.aload_n 2, 1) := by decide +kernel
theorem dL_513 : decode code 513 = .ok (.aload_n 0, 1) := by decide +kernel
theorem dL_514 : decode code 514 = .ok (.iload_n 3, 1) := by decide +kernel
theorem dL_515 : decode code 515 = .ok (.iconst 1, 1) := by decide +kernel
theorem dL_516 : decode code 516 = .ok (.iadd, 1) := by decide +kernel
theorem dL_517 : decode code 517 = .ok (.iaload, 1) := by decide +kernel
theorem dL_518 : decode code 518 = .ok (.invokevirtual 59, 3) := by decide +kernel
theorem dL_521 : decode code 521 = .ok (.if_icmp .eq 597, 3) := by decide +kernel
theorem dL_524 : decode code 524 = .ok (.iconst 0, 1) := by decide +kernel
theorem dL_525 : decode code 525 = .ok (.ireturn, 1) := by decide +kernel
theorem dL_526 : decode code 526 = .ok (.aload_n 1, 1) := by decide +kernel
theorem dL_527 : decode code 527 = .ok (.aload_n 0, 1) := by decide +kernel
theorem dL_528 : decode code 528 = .ok (.iload_n 3, 1) := by decide +kernel
theorem dL_529 : decode code 529 = .ok (.iconst 1, 1) := by decide +kernel
theorem dL_530 : decode code 530 = .ok (.iadd, 1) := by decide +kernel
theorem dL_531 : decode code 531 = .ok (.iaload, 1) := by decide +kernel
theorem dL_532 : decode code 532 = .ok (.invokevirtual 60, 3) := by decide +kernel
theorem dL_535 : decode code 535 = .ok (.aload_n 2, 1) := by decide +kernel
theorem dL_536 : decode code 536 = .ok (.aload_n 0, 1) := by decide +kernel
theorem dL_537 : decode code 537 = .ok (.iload_n 3, 1) := by decide +kernel
theorem dL_538 : decode code 538 = .ok (.iconst 1, 1) := by decide +kernel
theorem dL_539 : decode code 539 = .ok (.iadd, 1) := by decide +kernel
theorem dL_540 : decode code 540 = .ok (.iaload, 1) := by decide +kernel
theorem dL_541 : decode code 541 = .ok (.invokevirtual 63, 3) := by decide +kernel
theorem dL_544 : decode code 544 = .ok (.if_icmp .eq 574, 3) := by decide +kernel
theorem dL_547 : decode code 547 = .ok (.iconst 0, 1) := by decide +kernel
theorem dL_548 : decode code 548 = .ok (.ireturn, 1) := by decide +kernel
theorem dL_549 : decode code 549 = .ok (.aload_n 1, 1) := by decide +kernel
theorem dL_550 : decode code 550 = .ok (.aload_n 0, 1) := by decide +kernel
theorem dL_551 : decode code 551 = .ok (.iload_n 3, 1) := by decide +kernel
theorem dL_552 : decode code 552 = .ok (.iconst 1, 1) := by decide +kernel
theorem dL_553 : decode code 553 = .ok (.iadd, 1) := by decide +kernel
theorem dL_554 : decode code 554 = .ok (.iaload, 1) := by decide +kernel
theorem dL_555 : decode code 555 = .ok (.invokevirtual 64, 3) := by decide +kernel
theorem dL_558 : decode code 558 = .ok (.aload_n 2, 1) := by decide +kernel
theorem dL_559 : decode code 559 = .ok (.aload_n 0, 1) := by decide +kernel
theorem dL_560 : decode code 560 = .ok (.iload_n 3, 1) := by decide +kernel
theorem dL_561 : decode code 561 = .ok (.iconst 1, 1) := by decide +kernel
theorem dL_562 : decode code 562 = .ok (.iadd, 1) := by decide +kernel
theorem dL_563 : decode code 563 = .ok (.iaload, 1) := by decide +kernel
theorem dL_564 : decode code 564 = .ok (.invokevirtual 67, 3) := by decide +kernel
theorem dL_567 : decode code 567 = .ok (.if_icmp .eq 551, 3) := by decide +kernel
theorem dL_570 : decode code 570 = .ok (.iconst 0, 1) := by decide +kernel
theorem dL_571 : decode code 571 = .ok (.ireturn, 1) := by decide +kernel
theorem dL_572 : decode code 572 = .ok (.aload_n 1, 1) := by decide +kernel
theorem dL_573 : decode code 573 = .ok (.aload_n 0, 1) := by decide +kernel
theorem dL_574 : decode code 574 = .ok (.iload_n 3, 1) := by decide +kernel
theorem dL_575 : decode code 575 = .ok (.iconst 1, 1) := by decide +kernel
theorem dL_576 : decode code 576 = .ok (.iadd, 1) := by decide +kernel
theorem dL_577 : decode code 577 = .ok (.iaload, 1) := by decide +kernel
theorem dL_578 : decode code 578 = .ok (.aload_n 0, 1) := by decide +kernel
theorem dL_579 : decode code 579 = .ok (.iload_n 3, 1) := by decide +kernel
theorem dL_580 : decode code 580 = .ok (.iconst 2, 1) := by decide +kernel
theorem dL_581 : decode code 581 = .ok (.iadd, 1) := by decide +kernel
theorem dL_582 : decode code 582 = .ok (.iaload, 1) := by decide +kernel
theorem dL_583 : decode code 583 = .ok (.invokevirtual 68, 3) := by decide +kernel
theorem dL_586 : decode code 586 = .ok (.aload_n 2, 1) := by decide +kernel
theorem dL_587 : decode code 587 = .ok (.aload_n 0, 1) := by decide +kernel
theorem dL_588 : decode code 588 = .ok (.iload_n 3, 1) := by decide +kernel
theorem dL_589 : decode code 589 = .ok (.iconst 1, 1) := by decide +kernel
theorem dL_590 : decode code 590 = .ok (.iadd, 1) := by decide +kernel
theorem dL_591 : decode code 591 = .ok (.iaload, 1) := by decide +kernel
theorem dL_592 : decode code 592 = .ok (.aload_n 0, 1) := by decide +kernel
theorem dL_593 : decode code 593 = .ok (.iload_n 3, 1) := by decide +kernel
theorem dL_594 : decode code 594 = .ok (.iconst 2, 1) := by decide +kernel
theorem dL_595 : decode code 595 = .ok (.iadd, 1) := by decide +kernel
theorem dL_596 : decode code 596 = .ok (.iaload, 1) := by decide +kernel
theorem dL_597 : decode code 597 = .ok (.invokevirtual 71, 3) := by decide +kernel
theorem dL_600 : decode code 600 = .ok (.if_icmp .eq 518, 3) := by decide +kernel
theorem dL_603 : decode code 603 = .ok (.iconst 0, 1) := by decide +kernel
theorem dL_604 : decode code 604 = .ok (.ireturn, 1) := by decide +kernel
theorem dL_605 : decode code 605 = .ok (.aload_n 1, 1) := by decide +kernel
theorem dL_606 : decode code 606 = .ok (.aload_n 0, 1) := by decide +kernel
theorem dL_607 : decode code 607 = .ok (.iload_n 3, 1) := by decide +kernel
theorem dL_608 : decode code 608 = .ok (.iconst 1, 1) := by decide +kernel
theorem dL_609 : decode code 609 = .ok (.iadd, 1) := by decide +kernel
theorem dL_610 : decode code 610 = .ok (.iaload, 1) := by decide +kernel
theorem dL_611 : decode code 611 = .ok (.aload_n 0, 1) := by decide +kernel
theorem dL_612 : decode code 612 = .ok (.iload_n 3, 1) := by decide +kernel
theorem dL_613 : decode code 613 = .ok (.iconst 2, 1) := by decide +kernel
theorem dL_614 : decode code 614 = .ok (.iadd, 1) := by decide +kernel
theorem dL_615 : decode code 615 = .ok (.iaload, 1) := by decide +kernel
theorem dL_616 : decode code 616 = .ok (.aload_n 0, 1) := by decide +kernel
theorem dL_617 : decode code 617 = .ok (.iload_n 3, 1) := by decide +kernel
theorem dL_618 : decode code 618 = .ok (.iconst 3, 1) := by decide +kernel
theorem dL_619 : decode code 619 = .ok (.iadd, 1) := by decide +kernel
theorem dL_620 : decode code 620 = .ok (.iaload, 1) := by decide +kernel
theorem dL_621 : decode code 621 = .ok (.invokevirtual 72, 3) := by decide +kernel
theorem dL_624 : decode code 624 = .ok (.aload_n 2, 1) := by decide +kernel
theorem dL_625 : decode code 625 = .ok (.aload_n 0, 1) := by decide +kernel
theorem dL_626 : decode code 626 = .ok (.iload_n 3, 1) := by decide +kernel
theorem dL_627 : decode code 627 = .ok (.iconst 1, 1) := by decide +kernel
theorem dL_628 : decode code 628 = .ok (.iadd, 1) := by decide +kernel
theorem dL_629 : decode code 629 = .ok (.iaload, 1) := by decide +kernel
theorem dL_630 : decode code 630 = .ok (.aload_n 0, 1) := by decide +kernel
theorem dL_631 : decode code 631 = .ok (.iload_n 3, 1) := by decide +kernel
theorem dL_632 : decode code 632 = .ok (.iconst 2, 1) := by decide +kernel
theorem dL_633 : decode code 633 = .ok (.iadd, 1) := by decide +kernel
theorem dL_634 : decode code 634 = .ok (.iaload, 1) := by decide +kernel
theorem dL_635 : decode code 635 = .ok (.aload_n 0, 1) := by decide +kernel
theorem dL_636 : decode code 636 = .ok (.iload_n 3, 1) := by decide +kernel
theorem dL_637 : decode code 637 = .ok (.iconst 3, 1) := by decide +kernel
theorem dL_638 : decode code 638 = .ok (.iadd, 1) := by decide +kernel
theorem dL_639 : decode code 639 = .ok (.iaload, 1) := by decide +kernel
theorem dL_640 : decode code 640 = .ok (.invokevirtual 75, 3) := by decide +kernel
theorem dL_643 : decode code 643 = .ok (.if_icmp .eq 475, 3) := by decide +kernel
theorem dL_646 : decode code 646 = .ok (.iconst 0, 1) := by decide +kernel
theorem dL_647 : decode code 647 = .ok (.ireturn, 1) := by decide +kernel
theorem dL_648 : decode code 648 = .ok (.aload_n 1, 1) := by decide +kernel
theorem dL_649 : decode code 649 = .ok (.aload_n 0, 1) := by decide +kernel
theorem dL_650 : decode code 650 = .ok (.iload_n 3, 1) := by decide +kernel
theorem dL_651 : decode code 651 = .ok (.iconst 1, 1) := by decide +kernel
theorem dL_652 : decode code 652 = .ok (.iadd, 1) := by decide +kernel
theorem dL_653 : decode code 653 = .ok (.iaload, 1) := by decide +kernel
theorem dL_654 : decode code 654 = .ok (.aload_n 0, 1) := by decide +kernel
theorem dL_655 : decode code 655 = .ok (.iload_n 3, 1) := by decide +kernel
theorem dL_656 : decode code 656 = .ok (.iconst 2, 1) := by decide +kernel
theorem dL_657 : decode code 657 = .ok (.iadd, 1) := by decide +kernel
theorem dL_658 : decode code 658 = .ok (.iaload, 1) := by decide +kernel
theorem dL_659 : decode code 659 = .ok (.invokevirtual 76, 3) := by decide +kernel
theorem dL_662 : decode code 662 = .ok (.aload_n 2, 1) := by decide +kernel
theorem dL_663 : decode code 663 = .ok (.aload_n 0, 1) := by decide +kernel
theorem dL_664 : decode code 664 = .ok (.iload_n 3, 1) := by decide +kernel
theorem dL_665 : decode code 665 = .ok (.iconst 1, 1) := by decide +kernel
theorem dL_666 : decode code 666 = .ok (.iadd, 1) := by decide +kernel
theorem dL_667 : decode code 667 = .ok (.iaload, 1) := by decide +kernel
theorem dL_668 : decode code 668 = .ok (.aload_n 0, 1) := by decide +kernel
theorem dL_669 : decode code 669 = .ok (.iload_n 3, 1) := by decide +kernel
theorem dL_670 : decode code 670 = .ok (.iconst 2, 1) := by decide +kernel
theorem dL_671 : decode code 671 = .ok (.iadd, 1) := by decide +kernel
theorem dL_672 : decode code 672 = .ok (.iaload, 1) := by decide +kernel
theorem dL_673 : decode code 673 = .ok (.invokevirtual 79, 3) := by decide +kernel
theorem dL_676 : decode code 676 = .ok (.if_icmp .eq 442, 3) := by decide +kernel
theorem dL_679 : decode code 679 = .ok (.iconst 0, 1) := by decide +kernel
theorem dL_680 : decode code 680 = .ok (.ireturn, 1) := by decide +kernel
theorem dL_681 : decode code 681 = .ok (.aload_n 1, 1) := by decide +kernel
theorem dL_682 : decode code 682 = .ok (.aload_n 0, 1) := by decide +kernel
theorem dL_683 : decode code 683 = .ok (.iload_n 3, 1) := by decide +kernel
theorem dL_684 : decode code 684 = .ok (.iconst 1, 1) := by decide +kernel
theorem dL_685 : decode code 685 = .ok (.iadd, 1) := by decide +kernel
theorem dL_686 : decode code 686 = .ok (.iaload, 1) := by decide +kernel
theorem dL_687 : decode code 687 = .ok (.aload_n 0, 1) := by decide +kernel
theorem dL_688 : decode code 688 = .ok (.iload_n 3, 1) := by decide +kernel
theorem dL_689 : decode code 689 = .ok (.iconst 2, 1) := by decide +kernel
theorem dL_690 : decode code 690 = .ok (.iadd, 1) := by decide +kernel
theorem dL_691 : decode code 691 = .ok (.iaload, 1) := by decide +kernel
theorem dL_692 : decode code 692 = .ok (.invokevirtual 80, 3) := by decide +kernel
theorem dL_695 : decode code 695 = .ok (.aload_n 2, 1) := by decide +kernel
theorem dL_696 : decode code 696 = .ok (.aload_n 0, 1) := by decide +kernel
theorem dL_697 : decode code 697 = .ok (.iload_n 3, 1) := by decide +kernel
theorem dL_698 : decode code 698 = .ok (.iconst 1, 1) := by decide +kernel
theorem dL_699 : decode code 699 = .ok (.iadd, 1) := by decide +kernel
theorem dL_700 : decode code 700 = .ok (.iaload, 1) := by decide +kernel
theorem dL_701 : decode code 701 = .ok (.aload_n 0, 1) := by decide +kernel
theorem dL_702 : decode code 702 = .ok (.iload_n 3, 1) := by decide +kernel
theorem dL_703 : decode code 703 = .ok (.iconst 2, 1) := by decide +kernel
theorem dL_704 : decode code 704 = .ok (.iadd, 1) := by decide +kernel
theorem dL_705 : decode code 705 = .ok (.iaload, 1) := by decide +kernel
theorem dL_706 : decode code 706 = .ok (.invokevirtual 83, 3) := by decide +kernel
theorem dL_709 : decode code 709 = .ok (.if_icmp .eq 409, 3) := by decide +kernel
theorem dL_712 : decode code 712 = .ok (.iconst 0, 1) := by decide +kernel
theorem dL_713 : decode code 713 = .ok (.ireturn, 1) := by decide +kernel
theorem dL_714 : decode code 714 = .ok (.aload_n 1, 1) := by decide +kernel
theorem dL_715 : decode code 715 = .ok (.aload_n 0, 1) := by decide +kernel
theorem dL_716 : decode code 716 = .ok (.iload_n 3, 1) := by decide +kernel
theorem dL_717 : decode code 717 = .ok (.iconst 1, 1) := by decide +kernel
theorem dL_718 : decode code 718 = .ok (.iadd, 1) := by decide +kernel
theorem dL_719 : decode code 719 = .ok (.iaload, 1) := by decide +kernel
theorem dL_720 : decode code 720 = .ok (.aload_n 0, 1) := by decide +kernel
theorem dL_721 : decode code 721 = .ok (.iload_n 3, 1) := by decide +kernel
theorem dL_722 : decode code 722 = .ok (.iconst 2, 1) := by decide +kernel
theorem dL_723 : decode code 723 = .ok (.iadd, 1) := by decide +kernel
theorem dL_724 : decode code 724 = .ok (.iaload, 1) := by decide +kernel
theorem dL_725 : decode code 725 = .ok (.invokevirtual 84, 3) := by decide +kernel
theorem dL_728 : decode code 728 = .ok (.aload_n 2, 1) := by decide +kernel
theorem dL_729 : decode code 729 = .ok (.aload_n 0, 1) := by decide +kernel
theorem dL_730 : decode code 730 = .ok (.iload_n 3, 1) := by decide +kernel
theorem dL_731 : decode code 731 = .ok (.iconst 1, 1) := by decide +kernel
theorem dL_732 : decode code 732 = .ok (.iadd, 1) := by decide +kernel
theorem dL_733 : decode code 733 = .ok (.iaload, 1) := by decide +kernel
theorem dL_734 : decode code 734 = .ok (.aload_n 0, 1) := by decide +kernel
theorem dL_735 : decode code 735 = .ok (.iload_n 3, 1) := by decide +kernel
theorem dL_736 : decode code 736 = .ok (.iconst 2, 1) := by decide +kernel
theorem dL_737 : decode code 737 = .ok (.iadd, 1) := by decide +kernel
theorem dL_738 : decode code 738 = .ok (.iaload, 1) := by decide +kernel
theorem dL_739 : decode code 739 = .ok (.invokevirtual 87, 3) := by decide +kernel
theorem dL_742 : decode code 742 = .ok (.if_icmp .eq 376, 3) := by decide +kernel
theorem dL_745 : decode code 745 = .ok (.iconst 0, 1) := by decide +kernel
theorem dL_746 : decode code 746 = .ok (.ireturn, 1) := by decide +kernel
theorem dL_747 : decode code 747 = .ok (.aload_n 1, 1) := by decide +kernel
theorem dL_748 : decode code 748 = .ok (.aload_n 0, 1) := by decide +kernel
theorem dL_749 : decode code 749 = .ok (.iload_n 3, 1) := by decide +kernel
theorem dL_750 : decode code 750 = .ok (.iconst 1, 1) := by decide +kernel
theorem dL_751 : decode code 751 = .ok (.iadd, 1) := by decide +kernel
theorem dL_752 : decode code 752 = .ok (.iaload, 1) := by decide +kernel
theorem dL_753 : decode code 753 = .ok (.aload_n 0, 1) := by decide +kernel
theorem dL_754 : decode code 754 = .ok (.iload_n 3, 1) := by decide +kernel
theorem dL_755 : decode code 755 = .ok (.iconst 2, 1) := by decide +kernel
theorem dL_756 : decode code 756 = .ok (.iadd, 1) := by decide +kernel
theorem dL_757 : decode code 757 = .ok (.iaload, 1) := by decide +kernel
theorem dL_758 : decode code 758 = .ok (.invokevirtual 88, 3) := by decide +kernel
theorem dL_761 : decode code 761 = .ok (.aload_n 2, 1) := by decide +kernel
theorem dL_762 : decode code 762 = .ok (.aload_n 0, 1) := by decide +kernel
theorem dL_763 : decode code 763 = .ok (.iload_n 3, 1) := by decide +kernel
theorem dL_764 : decode code 764 = .ok (.iconst 1, 1) := by decide +kernel
theorem dL_765 : decode code 765 = .ok (.iadd, 1) := by decide +kernel
theorem dL_766 : decode code 766 = .ok (.iaload, 1) := by decide +kernel
theorem dL_767 : decode code 767 = .ok (.aload_n 0, 1) := by decide +kernel
theorem dL_768 : decode code 768 = .ok (.iload_n 3, 1) := by decide +kernel
theorem dL_769 : decode code 769 = .ok (.iconst 2, 1) := by decide +kernel
theorem dL_770 : decode code 770 = .ok (.iadd, 1) := by decide +kernel
theorem dL_771 : decode code 771 = .ok (.iaload, 1) := by decide +kernel
theorem dL_772 : decode code 772 = .ok (.invokevirtual 91, 3) := by decide +kernel
theorem dL_775 : decode code 775 = .ok (.if_icmp .eq 343, 3) := by decide +kernel
theorem dL_778 : decode code 778 = .ok (.iconst 0, 1) := by decide +kernel
theorem dL_779 : decode code 779 = .ok (.ireturn, 1) := by decide +kernel
theorem dL_780 : decode code 780 = .ok (.aload_n 1, 1) := by decide +kernel
theorem dL_781 : decode code 781 = .ok (.aload_n 0, 1) := by decide +kernel
theorem dL_782 : decode code 782 = .ok (.iload_n 3, 1) := by decide +kernel
theorem dL_783 : decode code 783 = .ok (.iconst 1, 1) := by decide +kernel
theorem dL_784 : decode code 784 = .ok (.iadd, 1) := by decide +kernel
theorem dL_785 : decode code 785 = .ok (.iaload, 1) := by decide +kernel
theorem dL_786 : decode code 786 = .ok (.aload_n 0, 1) := by decide +kernel
theorem dL_787 : decode code 787 = .ok (.iload_n 3, 1) := by decide +kernel
theorem dL_788 : decode code 788 = .ok (.iconst 2, 1) := by decide +kernel
theorem dL_789 : decode code 789 = .ok (.iadd, 1) := by decide +kernel
theorem dL_790 : decode code 790 = .ok (.iaload, 1) := by decide +kernel
theorem dL_791 : decode code 791 = .ok (.invokevirtual 92, 3) := by decide +kernel
theorem dL_794 : decode code 794 = .ok (.aload_n 2, 1) := by decide +kernel
theorem dL_795 : decode code 795 = .ok (.aload_n 0, 1) := by decide +kernel
theorem dL_796 : decode code 796 = .ok (.iload_n 3, 1) := by decide +kernel
theorem dL_797 : decode code 797 = .ok (.iconst 1, 1) := by decide +kernel
theorem dL_798 : decode code 798 = .ok (.iadd, 1) := by decide +kernel
theorem dL_799 : decode code 799 = .ok (.iaload, 1) := by decide +kernel
theorem dL_800 : decode code 800 = .ok (.aload_n 0, 1) := by decide +kernel
theorem dL_801 : decode code 801 = .ok (.iload_n 3, 1) := by decide +kernel
theorem dL_802 : decode code 802 = .ok (.iconst 2, 1) := by decide +kernel
theorem dL_803 : decode code 803 = .ok (.iadd, 1) := by decide +kernel
theorem dL_804 : decode code 804 = .ok (.iaload, 1) := by decide +kernel
theorem dL_805 : decode code 805 = .ok (.invokevirtual 95, 3) := by decide +kernel
theorem dL_808 : decode code 808 = .ok (.if_icmp .eq 310, 3) := by decide +kernel
theorem dL_811 : decode code 811 = .ok (.iconst 0, 1) := by decide +kernel
theorem dL_812 : decode code 812 = .ok (.ireturn, 1) := by decide +kernel
theorem dL_813 : decode code 813 = .ok (.aload_n 1, 1) := by decide +kernel
theorem dL_814 : decode code 814 = .ok (.invokevirtual 96, 3) := by decide +kernel
theorem dL_817 : decode code 817 = .ok (.aload_n 2, 1) := by decide +kernel
theorem dL_818 : decode code 818 = .ok (.invokevirtual 100, 3) := by decide +kernel
theorem dL_821 : decode code 821 = .ok (.if_icmp .eq 297, 3) := by decide +kernel
theorem dL_824 : decode code 824 = .ok (.iconst 0, 1) := by decide +kernel
theorem dL_825 : decode code 825 = .ok (.ireturn, 1) := by decide +kernel
theorem dL_826 : decode code 826 = .ok (.aload_n 1, 1) := by decide +kernel
theorem dL_827 : decode code 827 = .ok (.aload_n 0, 1) := by decide +kernel
theorem dL_828 : decode code 828 = .ok (.iload_n 3, 1) := by decide +kernel
theorem dL_829 : decode code 829 = .ok (.iconst 1, 1) := by decide +kernel
theorem dL_830 : decode code 830 = .ok (.iadd, 1) := by decide +kernel
theorem dL_831 : decode code 831 = .ok (.iaload, 1) := by decide +kernel
theorem dL_832 : decode code 832 = .ok (.invokevirtual 101, 3) := by decide +kernel
theorem dL_835 : decode code 835 = .ok (.aload_n 2, 1) := by decide +kernel
theorem dL_836 : decode code 836 = .ok (.aload_n 0, 1) := by decide +kernel
theorem dL_837 : decode code 837 = .ok (.iload_n 3, 1) := by decide +kernel
theorem dL_838 : decode code 838 = .ok (.iconst 1, 1) := by decide +kernel
theorem dL_839 : decode code 839 = .ok (.iadd, 1) := by decide +kernel
theorem dL_840 : decode code 840 = .ok (.iaload, 1) := by decide +kernel
theorem dL_841 : decode code 841 = .ok (.invokevirtual 104, 3) := by decide +kernel
theorem dL_844 : decode code 844 = .ok (.if_icmp .eq 274, 3) := by decide +kernel
theorem dL_847 : decode code 847 = .ok (.iconst 0, 1) := by decide +kernel
theorem dL_848 : decode code 848 = .ok (.ireturn, 1) := by decide +kernel
theorem dL_849 : decode code 849 = .ok (.aload_n 1, 1) := by decide +kernel
theorem dL_850 : decode code 850 = .ok (.aload_n 0, 1) := by decide +kernel
theorem dL_851 : decode code 851 = .ok (.iload_n 3, 1) := by decide +kernel
theorem dL_852 : decode code 852 = .ok (.iconst 1, 1) := by decide +kernel
theorem dL_853 : decode code 853 = .ok (.iadd, 1) := by decide +kernel
theorem dL_854 : decode code 854 = .ok (.iaload, 1) := by decide +kernel
theorem dL_855 : decode code 855 = .ok (.invokevirtual 105, 3) := by decide +kernel
theorem dL_858 : decode code 858 = .ok (.aload_n 2, 1) := by decide +kernel
theorem dL_859 : decode code 859 = .ok (.aload_n 0, 1) := by decide +kernel
theorem dL_860 : decode code 860 = .ok (.iload_n 3, 1) := by decide +kernel
theorem dL_861 : decode code 861 = .ok (.iconst 1, 1) := by decide +kernel
theorem dL_862 : decode code 862 = .ok (.iadd, 1) := by decide +kernel
theorem dL_863 : decode code 863 = .ok (.iaload, 1) := by decide +kernel
theorem dL_864 : decode code 864 = .ok (.invokevirtual 108, 3) := by decide +kernel
theorem dL_867 : decode code 867 = .ok (.if_icmp .eq 251, 3) := by decide +kernel
theorem dL_870 : decode code 870 = .ok (.iconst 0, 1) := by decide +kernel
theorem dL_871 : decode code 871 = .ok (.ireturn, 1) := by decide +kernel
theorem dL_872 : decode code 872 = .ok (.aload_n 1, 1) := by decide +kernel
theorem dL_873 : decode code 873 = .ok (.aload_n 0, 1) := by decide +kernel
theorem dL_874 : decode code 874 = .ok (.iload_n 3, 1) := by decide +kernel
theorem dL_875 : decode code 875 = .ok (.iconst 1, 1) := by decide +kernel
theorem dL_876 : decode code 876 = .ok (.iadd, 1) := by decide +kernel
theorem dL_877 : decode code 877 = .ok (.iaload, 1) := by decide +kernel
theorem dL_878 : decode code 878 = .ok (.aload_n 0, 1) := by decide +kernel
theorem dL_879 : decode code 879 = .ok (.iload_n 3, 1) := by decide +kernel
theorem dL_880 : decode code 880 = .ok (.iconst 2, 1) := by decide +kernel
theorem dL_881 : decode code 881 = .ok (.iadd, 1) := by decide +kernel
theorem dL_882 : decode code 882 = .ok (.iaload, 1) := by decide +kernel
theorem dL_883 : decode code 883 = .ok (.invokevirtual 109, 3) := by decide +kernel
theorem dL_886 : decode code 886 = .ok (.aload_n 2, 1) := by decide +kernel
theorem dL_887 : decode code 887 = .ok (.aload_n 0, 1) := by decide +kernel
theorem dL_888 : decode code 888 = .ok (.iload_n 3, 1) := by decide +kernel
theorem dL_889 : decode code 889 = .ok (.iconst 1, 1) := by decide +kernel
theorem dL_890 : decode code 890 = .ok (.iadd, 1) := by decide +kernel
theorem dL_891 : decode code 891 = .ok (.iaload, 1) := by decide +kernel
theorem dL_892 : decode code 892 = .ok (.aload_n 0, 1) := by decide +kernel
theorem dL_893 : decode code 893 = .ok (.iload_n 3, 1) := by decide +kernel
theorem dL_894 : decode code 894 = .ok (.iconst 2, 1) := by decide +kernel
theorem dL_895 : decode code 895 = .ok (.iadd, 1) := by decide +kernel
theorem dL_896 : decode code 896 = .ok (.iaload, 1) := by decide +kernel
theorem dL_897 : decode code 897 = .ok (.invokevirtual 112, 3) := by decide +kernel
theorem dL_900 : decode code 900 = .ok (.if_icmp .eq 218, 3) := by decide +kernel
theorem dL_903 : decode code 903 = .ok (.iconst 0, 1) := by decide +kernel
theorem dL_904 : decode code 904 = .ok (.ireturn, 1) := by decide +kernel
theorem dL_905 : decode code 905 = .ok (.aload_n 1, 1) := by decide +kernel
theorem dL_906 : decode code 906 = .ok (.aload_n 0, 1) := by decide +kernel
theorem dL_907 : decode code 907 = .ok (.iload_n 3, 1) := by decide +kernel
theorem dL_908 : decode code 908 = .ok (.iconst 1, 1) := by decide +kernel
theorem dL_909 : decode code 909 = .ok (.iadd, 1) := by decide +kernel
theorem dL_910 : decode code 910 = .ok (.iaload, 1) := by decide +kernel
theorem dL_911 : decode code 911 = .ok (.invokevirtual 113, 3) := by decide +kernel
theorem dL_914 : decode code 914 = .ok (.aload_n 2, 1) := by decide +kernel
theorem dL_915 : decode code 915 = .ok (.aload_n 0, 1) := by decide +kernel
theorem dL_916 : decode code 916 = .ok (.iload_n 3, 1) := by decide +kernel
theorem dL_917 : decode code 917 = .ok (.iconst 1, 1) := by decide +kernel
theorem dL_918 : decode code 918 = .ok (.iadd, 1) := by decide +kernel
theorem dL_919 : decode code 919 = .ok (.iaload, 1) := by decide +kernel
theorem dL_920 : decode code 920 = .ok (.invokevirtual 116, 3) := by decide +kernel
theorem dL_923 : decode code 923 = .ok (.if_icmp .eq 195, 3) := by decide +kernel
theorem dL_926 : decode code 926 = .ok (.iconst 0, 1) := by decide +kernel
theorem dL_927 : decode code 927 = .ok (.ireturn, 1) := by decide +kernel
theorem dL_928 : decode code 928 = .ok (.aload_n 1, 1) := by decide +kernel
theorem dL_929 : decode code 929 = .ok (.aload_n 0, 1) := by decide +kernel
theorem dL_930 : decode code 930 = .ok (.iload_n 3, 1) := by decide +kernel
theorem dL_931 : decode code 931 = .ok (.iconst 1, 1) := by decide +kernel
theorem dL_932 : decode code 932 = .ok (.iadd, 1) := by decide +kernel
theorem dL_933 : decode code 933 = .ok (.iaload, 1) := by decide +kernel
theorem dL_934 : decode code 934 = .ok (.invokevirtual 117, 3) := by decide +kernel
theorem dL_937 : decode code 937 = .ok (.aload_n 2, 1) := by decide +kernel
theorem dL_938 : decode code 938 = .ok (.aload_n 0, 1) := by decide +kernel
theorem dL_939 : decode code 939 = .ok (.iload_n 3, 1) := by decide +kernel
theorem dL_940 : decode code 940 = .ok (.iconst 1, 1) := by decide +kernel
theorem dL_941 : decode code 941 = .ok (.iadd, 1) := by decide +kernel
theorem dL_942 : decode code 942 = .ok (.iaload, 1) := by decide +kernel
theorem dL_943 : decode code 943 = .ok (.invokevirtual 120, 3) := by decide +kernel
theorem dL_946 : decode code 946 = .ok (.if_icmp .eq 172, 3) := by decide +kernel
theorem dL_949 : decode code 949 = .ok (.iconst 0, 1) := by decide +kernel
theorem dL_950 : decode code 950 = .ok (.ireturn, 1) := by decide +kernel
theorem dL_951 : decode code 951 = .ok (.aload_n 1, 1) := by decide +kernel
theorem dL_952 : decode code 952 = .ok (.invokevirtual 121, 3) := by decide +kernel
theorem dL_955 : decode code 955 = .ok (.aload_n 2, 1) := by decide +kernel
theorem dL_956 : decode code 956 = .ok (.invokevirtual 124, 3) := by decide +kernel
theorem dL_959 : decode code 959 = .ok (.if_icmp .eq 159, 3) := by decide +kernel
theorem dL_962 : decode code 962 = .ok (.iconst 0, 1) := by decide +kernel
theorem dL_963 : decode code 963 = .ok (.ireturn, 1) := by decide +kernel
theorem dL_964 : decode code 964 = .ok (.aload_n 1, 1) := by decide +kernel
theorem dL_965 : decode code 965 = .ok (.aload_n 0, 1) := by decide +kernel
theorem dL_966 : decode code 966 = .ok (.iload_n 3, 1) := by decide +kernel
theorem dL_967 : decode code 967 = .ok (.iconst 1, 1) := by decide +kernel
theorem dL_968 : decode code 968 = .ok (.iadd, 1) := by decide +kernel
theorem dL_969 : decode code 969 = .ok (.iaload, 1) := by decide +kernel
theorem dL_970 : decode code 970 = .ok (.aload_n 0, 1) := by decide +kernel
theorem dL_971 : decode code 971 = .ok (.iload_n 3, 1) := by decide +kernel
theorem dL_972 : decode code 972 = .ok (.iconst 2, 1) := by decide +kernel
theorem dL_973 : decode code 973 = .ok (.iadd, 1) := by decide +kernel
theorem dL_974 : decode code 974 = .ok (.iaload, 1) := by decide +kernel
theorem dL_975 : decode code 975 = .ok (.invokevirtual 125, 3) := by decide +kernel
theorem dL_978 : decode code 978 = .ok (.aload_n 2, 1) := by decide +kernel
theorem dL_979 : decode code 979 = .ok (.aload_n 0, 1) := by decide +kernel
theorem dL_980 : decode code 980 = .ok (.iload_n 3, 1) := by decide +kernel
theorem dL_981 : decode code 981 = .ok (.iconst 1, 1) := by decide +kernel
theorem dL_982 : decode code 982 = .ok (.iadd, 1) := by decide +kernel
theorem dL_983 : decode code 983 = .ok (.iaload, 1) := by decide +kernel
theorem dL_984 : decode code 984 = .ok (.aload_n 0, 1) := by decide +kernel
theorem dL_985 : decode code 985 = .ok (.iload_n 3, 1) := by decide +kernel
theorem dL_986 : decode code 986 = .ok (.iconst 2, 1) := by decide +kernel
theorem dL_987 : decode code 987 = .ok (.iadd, 1) := by decide +kernel
theorem dL_988 : decode code 988 = .ok (.iaload, 1) := by decide +kernel
theorem dL_989 : decode code 989 = .ok (.invokevirtual 128, 3) := by decide +kernel
theorem dL_992 : decode code 992 = .ok (.if_icmp .eq 126, 3) := by decide +kernel
theorem dL_995 : decode code 995 = .ok (.iconst 0, 1) := by decide +kernel
theorem dL_996 : decode code 996 = .ok (.ireturn, 1) := by decide +kernel
theorem dL_997 : decode code 997 = .ok (.aload_n 1, 1) := by decide +kernel
theorem dL_998 : decode code 998 = .ok (.aload_n 0, 1) := by decide +kernel
theorem dL_999 : decode code 999 = .ok (.iload_n 3, 1) := by decide +kernel
theorem dL_1000 : decode code 1000 = .ok (.iconst 1, 1) := by decide +kernel
theorem dL_1001 : decode code 1001 = .ok (.iadd, 1) := by decide +kernel
theorem dL_1002 : decode code 1002 = .ok (.iaload, 1) := by decide +kernel
theorem dL_1003 : decode code 1003 = .ok (.invokevirtual 129, 3) := by decide +kernel
theorem dL_1006 : decode code 1006 = .ok (.aload_n 2, 1) := by decide +kernel
theorem dL_1007 : decode code 1007 = .ok (.aload_n 0, 1) := by decide +kernel
theorem dL_1008 : decode code 1008 = .ok (.iload_n 3, 1) := by decide +kernel
theorem dL_1009 : decode code 1009 = .ok (.iconst 1, 1) := by decide +kernel
theorem dL_1010 : decode code 1010 = .ok (.iadd, 1) := by decide +kernel
theorem dL_1011 : decode code 1011 = .ok (.iaload, 1) := by decide +kernel
theorem dL_1012 : decode code 1012 = .ok (.invokevirtual 132, 3) := by decide +kernel
theorem dL_1015 : decode code 1015 = .ok (.if_icmp .eq 103, 3) := by decide +kernel
theorem dL_1018 : decode code 1018 = .ok (.iconst 0, 1) := by decide +kernel
theorem dL_1019 : decode code 1019 = .ok (.ireturn, 1) := by decide +kernel
theorem dL_1020 : decode code 1020 = .ok (.aload_n 1, 1) := by decide +kernel
theorem dL_1021 : decode code 1021 = .ok (.aload_n 0, 1) := by decide +kernel
theorem dL_1022 : decode code 1022 = .ok (.iload_n 3, 1) := by decide +kernel
theorem dL_1023 : decode code 1023 = .ok (.iconst 1, 1) := by decide +kernel
theorem dL_1024 : decode code 1024 = .ok (.iadd, 1) := by decide +kernel
theorem dL_1025 : decode code 1025 = .ok (.iaload, 1) := by decide +kernel
theorem dL_1026 : decode code 1026 = .ok (.invokevirtual 133, 3) := by decide +kernel
theorem dL_1029 : decode code 1029 = .ok (.aload_n 2, 1) := by decide +kernel
theorem dL_1030 : decode code 1030 = .ok (.aload_n 0, 1) := by decide +kernel
theorem dL_1031 : decode code 1031 = .ok (.iload_n 3, 1) := by decide +kernel
theorem dL_1032 : decode code 1032 = .ok (.iconst 1, 1) := by decide +kernel
theorem dL_1033 : decode code 1033 = .ok (.iadd, 1) := by decide +kernel
theorem dL_1034 : decode code 1034 = .ok (.iaload, 1) := by decide +kernel
theorem dL_1035 : decode code 1035 = .ok (.invokevirtual 136, 3) := by decide +kernel
theorem dL_1038 : decode code 1038 = .ok (.if_icmp .eq 80, 3) := by decide +kernel
theorem dL_1041 : decode code 1041 = .ok (.iconst 0, 1) := by decide +kernel
theorem dL_1042 : decode code 1042 = .ok (.ireturn, 1) := by decide +kernel
theorem dL_1043 : decode code 1043 = .ok (.aload_n 1, 1) := by decide +kernel
theorem dL_1044 : decode code 1044 = .ok (.invokevirtual 137, 3) := by decide +kernel
theorem dL_1047 : decode code 1047 = .ok (.aload_n 2, 1) := by decide +kernel
theorem dL_1048 : decode code 1048 = .ok (.invokevirtual 141, 3) := by decide +kernel
theorem dL_1051 : decode code 1051 = .ok (.if_icmp .eq 67, 3) := by decide +kernel
theorem dL_1054 : decode code 1054 = .ok (.iconst 0, 1) := by decide +kernel
theorem dL_1055 : decode code 1055 = .ok (.ireturn, 1) := by decide +kernel
theorem dL_1056 : decode code 1056 = .ok (.aload_n 1, 1) := by decide +kernel
theorem dL_1057 : decode code 1057 = .ok (.aload_n 0, 1) := by decide +kernel
theorem dL_1058 : decode code 1058 = .ok (.iload_n 3, 1) := by decide +kernel
theorem dL_1059 : decode code 1059 = .ok (.iconst 1, 1) := by decide +kernel
theorem dL_1060 : decode code 1060 = .ok (.iadd, 1) := by decide +kernel
theorem dL_1061 : decode code 1061 = .ok (.iaload, 1) := by decide +kernel
theorem dL_1062 : decode code 1062 = .ok (.ifCond .eq 7, 3) := by decide +kernel
theorem dL_1065 : decode code 1065 = .ok (.iconst 1, 1) := by decide +kernel
theorem dL_1066 : decode code 1066 = .ok (.goto 4, 3) := by decide +kernel
theorem dL_1069 : decode code 1069 = .ok (.iconst 0, 1) := by decide +kernel
theorem dL_1070 : decode code 1070 = .ok (.invokevirtual 142, 3) := by decide +kernel
theorem dL_1073 : decode code 1073 = .ok (.aload_n 2, 1) := by decide +kernel
theorem dL_1074 : decode code 1074 = .ok (.aload_n 0, 1) := by decide +kernel
theorem dL_1075 : decode code 1075 = .ok (.iload_n 3, 1) := by decide +kernel
theorem dL_1076 : decode code 1076 = .ok (.iconst 1, 1) := by decide +kernel
theorem dL_1077 : decode code 1077 = .ok (.iadd, 1) := by decide +kernel
theorem dL_1078 : decode code 1078 = .ok (.iaload, 1) := by decide +kernel
theorem dL_1079 : decode code 1079 = .ok (.ifCond .eq 7, 3) := by decide +kernel
theorem dL_1082 : decode code 1082 = .ok (.iconst 1, 1) := by decide +kernel
theorem dL_1083 : decode code 1083 = .ok (.goto 4, 3) := by decide +kernel
theorem dL_1086 : decode code 1086 = .ok (.iconst 0, 1) := by decide +kernel
theorem dL_1087 : decode code 1087 = .ok (.invokevirtual 146, 3) := by decide +kernel
theorem dL_1090 : decode code 1090 = .ok (.if_icmp .eq 28, 3) := by decide +kernel
theorem dL_1093 : decode code 1093 = .ok (.iconst 0, 1) := by decide +kernel
theorem dL_1094 : decode code 1094 = .ok (.ireturn, 1) := by decide +kernel
theorem dL_1095 : decode code 1095 = .ok (.aload_n 1, 1) := by decide +kernel
theorem dL_1096 : decode code 1096 = .ok (.aload_n 0, 1) := by decide +kernel
theorem dL_1097 : decode code 1097 = .ok (.iload_n 3, 1) := by decide +kernel
theorem dL_1098 : decode code 1098 = .ok (.iconst 1, 1) := by decide +kernel
theorem dL_1099 : decode code 1099 = .ok (.iadd, 1) := by decide +kernel
theorem dL_1100 : decode code 1100 = .ok (.iaload, 1) := by decide +kernel
theorem dL_1101 : decode code 1101 = .ok (.invokevirtual 147, 3) := by decide +kernel
theorem dL_1104 : decode code 1104 = .ok (.aload_n 2, 1) := by decide +kernel
theorem dL_1105 : decode code 1105 = .ok (.aload_n 0, 1) := by decide +kernel
theorem dL_1106 : decode code 1106 = .ok (.iload_n 3, 1) := by decide +kernel
theorem dL_1107 : decode code 1107 = .ok (.iconst 1, 1) := by decide +kernel
theorem dL_1108 : decode code 1108 = .ok (.iadd, 1) := by decide +kernel
theorem dL_1109 : decode code 1109 = .ok (.iaload, 1) := by decide +kernel
theorem dL_1110 : decode code 1110 = .ok (.invokevirtual 150, 3) := by decide +kernel
theorem dL_1113 : decode code 1113 = .ok (.if_icmp .eq 5, 3) := by decide +kernel
theorem dL_1116 : decode code 1116 = .ok (.iconst 0, 1) := by decide +kernel
theorem dL_1117 : decode code 1117 = .ok (.ireturn, 1) := by decide +kernel
theorem dL_1118 : decode code 1118 = .ok (.iinc 3 6, 3) := by decide +kernel
theorem dL_1121 : decode code 1121 = .ok (.goto (-1103), 3) := by decide +kernel
theorem dL_1124 : decode code 1124 = .ok (.iconst 1, 1) := by decide +kernel
theorem dL_1125 : decode code 1125 = .ok (.ireturn, 1) := by decide +kernel
theorem il_L_13 : Cond.methodLink R_law 13 mX10_state.1 ∈ lwT := (lwT_2 (i := 169) (by decide +kernel) rfl)
theorem il_L_17 : Cond.methodLink R_law 17 mX11_state.1 ∈ lwT := (lwT_5 (i := 217) (by decide +kernel) rfl)
theorem law_0 {p : Program} {e : Env} {s : State} {m : MethodId} {below : List Frame} {meth : Method} {c : Code} {l : Launch} {b0 Lx i : Nat} {xs : Nat → Int32} {μ ν : Mm} (h : Sim μ ν) (hi : i + 6 ≤ Lx) (h3 : Lx ≤ 3072) (kk : ∀ μ2 ν2, Sim μ2 ν2 → WL l p e s m below meth c b0 Lx xs 1118 [some (.ref 2), some (.ref 0), some (.ref 1), some (.int (nI i))] [] μ2 ν2) : WL l p e s m below meth c b0 Lx xs 176 [some (.ref 2), some (.ref 0), some (.ref 1), some (.int (nI i))] [] μ ν := by
  obtain ⟨R, μ2, ν2, e1, f1, s2⟩ := op_state h (xs (ix (nI i + nI 1)))
  refine wl_aload (n := 1) (x := 0) dL_176 rfl ?_
  refine wl_aload (n := 0) (x := 2) dL_177 rfl ?_
  refine wl_iload (n := 3) (x := nI i) dL_178 rfl ?_
  refine wl_iconst (nI 1) dL_179 rfl ?_
  refine wl_iadd dL_180 ?_
  refine wl_iald (i := nI i + nI 1) (by rw [nI_add]; exact vin_nI (by omega) (by omega)) dL_181 ?_
  refine wl_callC (M' := mX10_state) (n := 1) (as := [.int (xs (ix (nI i + nI 1)))]) (rest := []) (μ2 := μ2) (r := R) mw_X10_state il_L_13 im_X10_state rfl dL_182 rfl (fun v hv => by simp only [List.mem_cons, List.not_mem_nil, or_false] at hv; exact ⟨_, hv⟩) (Nat.le_of_ble_eq_true rfl) (Nat.le_of_ble_eq_true rfl) (ok_Nine_state (by decide) _ μ e1) ?_ rfl
  refine wl_aload (n := 2) (x := 1) dL_185 rfl ?_
  refine wl_aload (n := 0) (x := 2) dL_186 rfl ?_
  refine wl_iload (n := 3) (x := nI i) dL_187 rfl ?_
  refine wl_iconst (nI 1) dL_188 rfl ?_
  refine wl_iadd dL_189 ?_
  refine wl_iald (i := nI i + nI 1) (by rw [nI_add]; exact vin_nI (by omega) (by omega)) dL_190 ?_
  refine wl_callM (M' := mX11_state) (n := 1) (as := [.int (xs (ix (nI i + nI 1)))]) (rest := [.int R]) (μ2 := ν2) (r := R) mw_X11_state il_L_17 im_X11_state rfl dL_191 rfl (fun v hv => by simp only [List.mem_cons, List.not_mem_nil, or_false] at hv; exact ⟨_, hv⟩) (Nat.le_of_ble_eq_true rfl) (Nat.le_of_ble_eq_true rfl) (ok_M_state (by decide) _ ν f1) ?_ rfl
  exact wl_eq 1118 dL_194 (by decide) (fun _ => kk _ _ s2) (fun z => absurd rfl z)
theorem il_L_18 : Cond.methodLink R_law 18 mX10_person.1 ∈ lwT := (lwT_2 (i := 177) (by decide +kernel) rfl)
theorem il_L_22 : Cond.methodLink R_law 22 mX11_person.1 ∈ lwT := (lwT_5 (i := 221) (by decide +kernel) rfl)
theorem law_1 {p : Program} {e : Env} {s : State} {m : MethodId} {below : List Frame} {meth : Method} {c : Code} {l : Launch} {b0 Lx i : Nat} {xs : Nat → Int32} {μ ν : Mm} (h : Sim μ ν) (hi : i + 6 ≤ Lx) (h3 : Lx ≤ 3072) (kk : ∀ μ2 ν2, Sim μ2 ν2 → WL l p e s m below meth c b0 Lx xs 1118 [some (.ref 2), some (.ref 0), some (.ref 1), some (.int (nI i))] [] μ2 ν2) : WL l p e s m below meth c b0 Lx xs 199 [some (.ref 2), some (.ref 0), some (.ref 1), some (.int (nI i))] [] μ ν := by
  obtain ⟨R, μ2, ν2, e1, f1, s2⟩ := op_person h (xs (ix (nI i + nI 1))) (xs (ix (nI i + nI 2))) (xs (ix (nI i + nI 3)))
  refine wl_aload (n := 1) (x := 0) dL_199 rfl ?_
  refine wl_aload (n := 0) (x := 2) dL_200 rfl ?_
  refine wl_iload (n := 3) (x := nI i) dL_201 rfl ?_
  refine wl_iconst (nI 1) dL_202 rfl ?_
  refine wl_iadd dL_203 ?_
  refine wl_iald (i := nI i + nI 1) (by rw [nI_add]; exact vin_nI (by omega) (by omega)) dL_204 ?_
  refine wl_aload (n := 0) (x := 2) dL_205 rfl ?_
  refine wl_iload (n := 3) (x := nI i) dL_206 rfl ?_
  refine wl_iconst (nI 2) dL_207 rfl ?_
  refine wl_iadd dL_208 ?_
  refine wl_iald (i := nI i + nI 2) (by rw [nI_add]; exact vin_nI (by omega) (by omega)) dL_209 ?_
  refine wl_aload (n := 0) (x := 2) dL_210 rfl ?_
  refine wl_iload (n := 3) (x := nI i) dL_211 rfl ?_
  refine wl_iconst (nI 3) dL_212 rfl ?_
  refine wl_iadd dL_213 ?_
  refine wl_iald (i := nI i + nI 3) (by rw [nI_add]; exact vin_nI (by omega) (by omega)) dL_214 ?_
  refine wl_callC (M' := mX10_person) (n := 3) (as := [.int (xs (ix (nI i + nI 1))), .int (xs (ix (nI i + nI 2))), .int (xs (ix (nI i + nI 3)))]) (rest := []) (μ2 := μ2) (r := R) mw_X10_person il_L_18 im_X10_person rfl dL_215 rfl (fun v hv => by simp only [List.mem_cons, List.not_mem_nil, or_false] at hv; rcases hv with hv | hv | hv <;> exact ⟨_, hv⟩) (Nat.le_of_ble_eq_true rfl) (Nat.le_of_ble_eq_true rfl) (ok_Nine_person (by decide) _ _ _ μ e1) ?_ rfl
  refine wl_aload (n := 2) (x := 1) dL_218 rfl ?_
  refine wl_aload (n := 0) (x := 2) dL_219 rfl ?_
  refine wl_iload (n := 3) (x := nI i) dL_220 rfl ?_
  refine wl_iconst (nI 1) dL_221 rfl ?_
  refine wl_iadd dL_222 ?_
  refine wl_iald (i := nI i + nI 1) (by rw [nI_add]; exact vin_nI (by omega) (by omega)) dL_223 ?_
  refine wl_aload (n := 0) (x := 2) dL_224 rfl ?_
  refine wl_iload (n := 3) (x := nI i) dL_225 rfl ?_
  refine wl_iconst (nI 2) dL_226 rfl ?_
  refine wl_iadd dL_227 ?_
  refine wl_iald (i := nI i + nI 2) (by rw [nI_add]; exact vin_nI (by omega) (by omega)) dL_228 ?_
  refine wl_aload (n := 0) (x := 2) dL_229 rfl ?_
  refine wl_iload (n := 3) (x := nI i) dL_230 rfl ?_
  refine wl_iconst (nI 3) dL_231 rfl ?_
  refine wl_iadd dL_232 ?_
  refine wl_iald (i := nI i + nI 3) (by rw [nI_add]; exact vin_nI (by omega) (by omega)) dL_233 ?_
  refine wl_callM (M' := mX11_person) (n := 3) (as := [.int (xs (ix (nI i + nI 1))), .int (xs (ix (nI i + nI 2))), .int (xs (ix (nI i + nI 3)))]) (rest := [.int R]) (μ2 := ν2) (r := R) mw_X11_person il_L_22 im_X11_person rfl dL_234 rfl (fun v hv => by simp only [List.mem_cons, List.not_mem_nil, or_false] at hv; rcases hv with hv | hv | hv <;> exact ⟨_, hv⟩) (Nat.le_of_ble_eq_true rfl) (Nat.le_of_ble_eq_true rfl) (ok_M_person (by decide) _ _ _ ν f1) ?_ rfl
  exact wl_eq 1118 dL_237 (by decide) (fun _ => kk _ _ s2) (fun z => absurd rfl z)
theorem il_L_23 : Cond.methodLink R_law 23 mX10_set.1 ∈ lwT := (lwT_2 (i := 196) (by decide +kernel) rfl)
theorem il_L_27 : Cond.methodLink R_law 27 mX11_set.1 ∈ lwT := (lwT_5 (i := 229) (by decide +kernel) rfl)
theorem law_2 {p : Program} {e : Env} {s : State} {m : MethodId} {below : List Frame} {meth : Method} {c : Code} {l : Launch} {b0 Lx i : Nat} {xs : Nat → Int32} {μ ν : Mm} (h : Sim μ ν) (hi : i + 6 ≤ Lx) (h3 : Lx ≤ 3072) (kk : ∀ μ2 ν2, Sim μ2 ν2 → WL l p e s m below meth c b0 Lx xs 1118 [some (.ref 2), some (.ref 0), some (.ref 1), some (.int (nI i))] [] μ2 ν2) : WL l p e s m below meth c b0 Lx xs 242 [some (.ref 2), some (.ref 0), some (.ref 1), some (.int (nI i))] [] μ ν := by
  obtain ⟨R, μ2, ν2, e1, f1, s2⟩ := op_set h (xs (ix (nI i + nI 1))) (xs (ix (nI i + nI 2))) (xs (ix (nI i + nI 3)))
  refine wl_aload (n := 1) (x := 0) dL_242 rfl ?_
  refine wl_aload (n := 0) (x := 2) dL_243 rfl ?_
  refine wl_iload (n := 3) (x := nI i) dL_244 rfl ?_
  refine wl_iconst (nI 1) dL_245 rfl ?_
  refine wl_iadd dL_246 ?_
  refine wl_iald (i := nI i + nI 1) (by rw [nI_add]; exact vin_nI (by omega) (by omega)) dL_247 ?_
  refine wl_aload (n := 0) (x := 2) dL_248 rfl ?_
  refine wl_iload (n := 3) (x := nI i) dL_249 rfl ?_
  refine wl_iconst (nI 2) dL_250 rfl ?_
  refine wl_iadd dL_251 ?_
  refine wl_iald (i := nI i + nI 2) (by rw [nI_add]; exact vin_nI (by omega) (by omega)) dL_252 ?_
  refine wl_aload (n := 0) (x := 2) dL_253 rfl ?_
  refine wl_iload (n := 3) (x := nI i) dL_254 rfl ?_
  refine wl_iconst (nI 3) dL_255 rfl ?_
  refine wl_iadd dL_256 ?_
  refine wl_iald (i := nI i + nI 3) (by rw [nI_add]; exact vin_nI (by omega) (by omega)) dL_257 ?_
  refine wl_callC (M' := mX10_set) (n := 3) (as := [.int (xs (ix (nI i + nI 1))), .int (xs (ix (nI i + nI 2))), .int (xs (ix (nI i + nI 3)))]) (rest := []) (μ2 := μ2) (r := R) mw_X10_set il_L_23 im_X10_set rfl dL_258 rfl (fun v hv => by simp only [List.mem_cons, List.not_mem_nil, or_false] at hv; rcases hv with hv | hv | hv <;> exact ⟨_, hv⟩) (Nat.le_of_ble_eq_true rfl) (Nat.le_of_ble_eq_true rfl) (ok_Nine_set (by decide) _ _ _ μ e1) ?_ rfl
  refine wl_aload (n := 2) (x := 1) dL_261 rfl ?_
  refine wl_aload (n := 0) (x := 2) dL_262 rfl ?_
  refine wl_iload (n := 3) (x := nI i) dL_263 rfl ?_
  refine wl_iconst (nI 1) dL_264 rfl ?_
  refine wl_iadd dL_265 ?_
  refine wl_iald (i := nI i + nI 1) (by rw [nI_add]; exact vin_nI (by omega) (by omega)) dL_266 ?_
  refine wl_aload (n := 0) (x := 2) dL_267 rfl ?_
  refine wl_iload (n := 3) (x := nI i) dL_268 rfl ?_
  refine wl_iconst (nI 2) dL_269 rfl ?_
  refine wl_iadd dL_270 ?_
  refine wl_iald (i := nI i + nI 2) (by rw [nI_add]; exact vin_nI (by omega) (by omega)) dL_271 ?_
  refine wl_aload (n := 0) (x := 2) dL_272 rfl ?_
  refine wl_iload (n := 3) (x := nI i) dL_273 rfl ?_
  refine wl_iconst (nI 3) dL_274 rfl ?_
  refine wl_iadd dL_275 ?_
  refine wl_iald (i := nI i + nI 3) (by rw [nI_add]; exact vin_nI (by omega) (by omega)) dL_276 ?_
  refine wl_callM (M' := mX11_set) (n := 3) (as := [.int (xs (ix (nI i + nI 1))), .int (xs (ix (nI i + nI 2))), .int (xs (ix (nI i + nI 3)))]) (rest := [.int R]) (μ2 := ν2) (r := R) mw_X11_set il_L_27 im_X11_set rfl dL_277 rfl (fun v hv => by simp only [List.mem_cons, List.not_mem_nil, or_false] at hv; rcases hv with hv | hv | hv <;> exact ⟨_, hv⟩) (Nat.le_of_ble_eq_true rfl) (Nat.le_of_ble_eq_true rfl) (ok_M_set (by decide) _ _ _ ν f1) ?_ rfl
  exact wl_eq 1118 dL_280 (by decide) (fun _ => kk _ _ s2) (fun z => absurd rfl z)
theorem il_L_28 : Cond.methodLink R_law 28 mX10_address.1 ∈ lwT := (lwT_2 (i := 204) (by decide +kernel) rfl)
theorem il_L_32 : Cond.methodLink R_law 32 mX11_address.1 ∈ lwT := (lwT_6 (i := 5) (by decide +kernel) rfl)
theorem law_3 {p : Program} {e : Env} {s : State} {m : MethodId} {below : List Frame} {meth : Method} {c : Code} {l : Launch} {b0 Lx i : Nat} {xs : Nat → Int32} {μ ν : Mm} (h : Sim μ ν) (hi : i + 6 ≤ Lx) (h3 : Lx ≤ 3072) (kk : ∀ μ2 ν2, Sim μ2 ν2 → WL l p e s m below meth c b0 Lx xs 1118 [some (.ref 2), some (.ref 0), some (.ref 1), some (.int (nI i))] [] μ2 ν2) : WL l p e s m below meth c b0 Lx xs 285 [some (.ref 2), some (.ref 0), some (.ref 1), some (.int (nI i))] [] μ ν := by
  obtain ⟨R, μ2, ν2, e1, f1, s2⟩ := op_address h (xs (ix (nI i + nI 1))) (xs (ix (nI i + nI 2)))
  refine wl_aload (n := 1) (x := 0) dL_285 rfl ?_
  refine wl_aload (n := 0) (x := 2) dL_286 rfl ?_
  refine wl_iload (n := 3) (x := nI i) dL_287 rfl ?_
  refine wl_iconst (nI 1) dL_288 rfl ?_
  refine wl_iadd dL_289 ?_
  refine wl_iald (i := nI i + nI 1) (by rw [nI_add]; exact vin_nI (by omega) (by omega)) dL_290 ?_
  refine wl_aload (n := 0) (x := 2) dL_291 rfl ?_
  refine wl_iload (n := 3) (x := nI i) dL_292 rfl ?_
  refine wl_iconst (nI 2) dL_293 rfl ?_
  refine wl_iadd dL_294 ?_
  refine wl_iald (i := nI i + nI 2) (by rw [nI_add]; exact vin_nI (by omega) (by omega)) dL_295 ?_
  refine wl_callC (M' := mX10_address) (n := 2) (as := [.int (xs (ix (nI i + nI 1))), .int (xs (ix (nI i + nI 2)))]) (rest := []) (μ2 := μ2) (r := R) mw_X10_address il_L_28 im_X10_address rfl dL_296 rfl (fun v hv => by simp only [List.mem_cons, List.not_mem_nil, or_false] at hv; rcases hv with hv | hv <;> exact ⟨_, hv⟩) (Nat.le_of_ble_eq_true rfl) (Nat.le_of_ble_eq_true rfl) (ok_Nine_address (by decide) _ _ μ e1) ?_ rfl
  refine wl_aload (n := 2) (x := 1) dL_299 rfl ?_
  refine wl_aload (n := 0) (x := 2) dL_300 rfl ?_
  refine wl_iload (n := 3) (x := nI i) dL_301 rfl ?_
  refine wl_iconst (nI 1) dL_302 rfl ?_
  refine wl_iadd dL_303 ?_
  refine wl_iald (i := nI i + nI 1) (by rw [nI_add]; exact vin_nI (by omega) (by omega)) dL_304 ?_
  refine wl_aload (n := 0) (x := 2) dL_305 rfl ?_
  refine wl_iload (n := 3) (x := nI i) dL_306 rfl ?_
  refine wl_iconst (nI 2) dL_307 rfl ?_
  refine wl_iadd dL_308 ?_
  refine wl_iald (i := nI i + nI 2) (by rw [nI_add]; exact vin_nI (by omega) (by omega)) dL_309 ?_
  refine wl_callM (M' := mX11_address) (n := 2) (as := [.int (xs (ix (nI i + nI 1))), .int (xs (ix (nI i + nI 2)))]) (rest := [.int R]) (μ2 := ν2) (r := R) mw_X11_address il_L_32 im_X11_address rfl dL_310 rfl (fun v hv => by simp only [List.mem_cons, List.not_mem_nil, or_false] at hv; rcases hv with hv | hv <;> exact ⟨_, hv⟩) (Nat.le_of_ble_eq_true rfl) (Nat.le_of_ble_eq_true rfl) (ok_M_address (by decide) _ _ ν f1) ?_ rfl
  exact wl_eq 1118 dL_313 (by decide) (fun _ => kk _ _ s2) (fun z => absurd rfl z)
theorem il_L_33 : Cond.methodLink R_law 33 mX10_version.1 ∈ lwT := (lwT_2 (i := 208) (by decide +kernel) rfl)
theorem il_L_36 : Cond.methodLink R_law 36 mX11_version.1 ∈ lwT := (lwT_6 (i := 9) (by decide +kernel) rfl)
theorem law_4 {p : Program} {e : Env} {s : State} {m : MethodId} {below : List Frame} {meth : Method} {c : Code} {l : Launch} {b0 Lx i : Nat} {xs : Nat → Int32} {μ ν : Mm} (h : Sim μ ν) (hi : i + 6 ≤ Lx) (h3 : Lx ≤ 3072) (kk : ∀ μ2 ν2, Sim μ2 ν2 → WL l p e s m below meth c b0 Lx xs 1118 [some (.ref 2), some (.ref 0), some (.ref 1), some (.int (nI i))] [] μ2 ν2) : WL l p e s m below meth c b0 Lx xs 318 [some (.ref 2), some (.ref 0), some (.ref 1), some (.int (nI i))] [] μ ν := by
  obtain ⟨R, μ2, ν2, e1, f1, s2⟩ := op_version h (xs (ix (nI i + nI 1))) (xs (ix (nI i + nI 2)))
  refine wl_aload (n := 1) (x := 0) dL_318 rfl ?_
  refine wl_aload (n := 0) (x := 2) dL_319 rfl ?_
  refine wl_iload (n := 3) (x := nI i) dL_320 rfl ?_
  refine wl_iconst (nI 1) dL_321 rfl ?_
  refine wl_iadd dL_322 ?_
  refine wl_iald (i := nI i + nI 1) (by rw [nI_add]; exact vin_nI (by omega) (by omega)) dL_323 ?_
  refine wl_aload (n := 0) (x := 2) dL_324 rfl ?_
  refine wl_iload (n := 3) (x := nI i) dL_325 rfl ?_
  refine wl_iconst (nI 2) dL_326 rfl ?_
  refine wl_iadd dL_327 ?_
  refine wl_iald (i := nI i + nI 2) (by rw [nI_add]; exact vin_nI (by omega) (by omega)) dL_328 ?_
  refine wl_callC (M' := mX10_version) (n := 2) (as := [.int (xs (ix (nI i + nI 1))), .int (xs (ix (nI i + nI 2)))]) (rest := []) (μ2 := μ2) (r := R) mw_X10_version il_L_33 im_X10_version rfl dL_329 rfl (fun v hv => by simp only [List.mem_cons, List.not_mem_nil, or_false] at hv; rcases hv with hv | hv <;> exact ⟨_, hv⟩) (Nat.le_of_ble_eq_true rfl) (Nat.le_of_ble_eq_true rfl) (ok_Nine_version (by decide) _ _ μ e1) ?_ rfl
  refine wl_aload (n := 2) (x := 1) dL_332 rfl ?_
  refine wl_aload (n := 0) (x := 2) dL_333 rfl ?_
  refine wl_iload (n := 3) (x := nI i) dL_334 rfl ?_
  refine wl_iconst (nI 1) dL_335 rfl ?_
  refine wl_iadd dL_336 ?_
  refine wl_iald (i := nI i + nI 1) (by rw [nI_add]; exact vin_nI (by omega) (by omega)) dL_337 ?_
  refine wl_aload (n := 0) (x := 2) dL_338 rfl ?_
  refine wl_iload (n := 3) (x := nI i) dL_339 rfl ?_
  refine wl_iconst (nI 2) dL_340 rfl ?_
  refine wl_iadd dL_341 ?_
  refine wl_iald (i := nI i + nI 2) (by rw [nI_add]; exact vin_nI (by omega) (by omega)) dL_342 ?_
  refine wl_callM (M' := mX11_version) (n := 2) (as := [.int (xs (ix (nI i + nI 1))), .int (xs (ix (nI i + nI 2)))]) (rest := [.int R]) (μ2 := ν2) (r := R) mw_X11_version il_L_36 im_X11_version rfl dL_343 rfl (fun v hv => by simp only [List.mem_cons, List.not_mem_nil, or_false] at hv; rcases hv with hv | hv <;> exact ⟨_, hv⟩) (Nat.le_of_ble_eq_true rfl) (Nat.le_of_ble_eq_true rfl) (ok_M_version (by decide) _ _ ν f1) ?_ rfl
  exact wl_eq 1118 dL_346 (by decide) (fun _ => kk _ _ s2) (fun z => absurd rfl z)
theorem il_L_37 : Cond.methodLink R_law 37 mX10_hand.1 ∈ lwT := (lwT_2 (i := 221) (by decide +kernel) rfl)
theorem il_L_41 : Cond.methodLink R_law 41 mX11_hand.1 ∈ lwT := (lwT_6 (i := 17) (by decide +kernel) rfl)
theorem law_5 {p : Program} {e : Env} {s : State} {m : MethodId} {below : List Frame} {meth : Method} {c : Code} {l : Launch} {b0 Lx i : Nat} {xs : Nat → Int32} {μ ν : Mm} (h : Sim μ ν) (hi : i + 6 ≤ Lx) (h3 : Lx ≤ 3072) (kk : ∀ μ2 ν2, Sim μ2 ν2 → WL l p e s m below meth c b0 Lx xs 1118 [some (.ref 2), some (.ref 0), some (.ref 1), some (.int (nI i))] [] μ2 ν2) : WL l p e s m below meth c b0 Lx xs 351 [some (.ref 2), some (.ref 0), some (.ref 1), some (.int (nI i))] [] μ ν := by
  obtain ⟨R, μ2, ν2, e1, f1, s2⟩ := op_hand h (xs (ix (nI i + nI 1))) (xs (ix (nI i + nI 2)))
  refine wl_aload (n := 1) (x := 0) dL_351 rfl ?_
  refine wl_aload (n := 0) (x := 2) dL_352 rfl ?_
  refine wl_iload (n := 3) (x := nI i) dL_353 rfl ?_
  refine wl_iconst (nI 1) dL_354 rfl ?_
  refine wl_iadd dL_355 ?_
  refine wl_iald (i := nI i + nI 1) (by rw [nI_add]; exact vin_nI (by omega) (by omega)) dL_356 ?_
  refine wl_aload (n := 0) (x := 2) dL_357 rfl ?_
  refine wl_iload (n := 3) (x := nI i) dL_358 rfl ?_
  refine wl_iconst (nI 2) dL_359 rfl ?_
  refine wl_iadd dL_360 ?_
  refine wl_iald (i := nI i + nI 2) (by rw [nI_add]; exact vin_nI (by omega) (by omega)) dL_361 ?_
  refine wl_callC (M' := mX10_hand) (n := 2) (as := [.int (xs (ix (nI i + nI 1))), .int (xs (ix (nI i + nI 2)))]) (rest := []) (μ2 := μ2) (r := R) mw_X10_hand il_L_37 im_X10_hand rfl dL_362 rfl (fun v hv => by simp only [List.mem_cons, List.not_mem_nil, or_false] at hv; rcases hv with hv | hv <;> exact ⟨_, hv⟩) (Nat.le_of_ble_eq_true rfl) (Nat.le_of_ble_eq_true rfl) (ok_Nine_hand (by decide) _ _ μ e1) ?_ rfl
  refine wl_aload (n := 2) (x := 1) dL_365 rfl ?_
  refine wl_aload (n := 0) (x := 2) dL_366 rfl ?_
  refine wl_iload (n := 3) (x := nI i) dL_367 rfl ?_
  refine wl_iconst (nI 1) dL_368 rfl ?_
  refine wl_iadd dL_369 ?_
  refine wl_iald (i := nI i + nI 1) (by rw [nI_add]; exact vin_nI (by omega) (by omega)) dL_370 ?_
  refine wl_aload (n := 0) (x := 2) dL_371 rfl ?_
  refine wl_iload (n := 3) (x := nI i) dL_372 rfl ?_
  refine wl_iconst (nI 2) dL_373 rfl ?_
  refine wl_iadd dL_374 ?_
  refine wl_iald (i := nI i + nI 2) (by rw [nI_add]; exact vin_nI (by omega) (by omega)) dL_375 ?_
  refine wl_callM (M' := mX11_hand) (n := 2) (as := [.int (xs (ix (nI i + nI 1))), .int (xs (ix (nI i + nI 2)))]) (rest := [.int R]) (μ2 := ν2) (r := R) mw_X11_hand il_L_41 im_X11_hand rfl dL_376 rfl (fun v hv => by simp only [List.mem_cons, List.not_mem_nil, or_false] at hv; rcases hv with hv | hv <;> exact ⟨_, hv⟩) (Nat.le_of_ble_eq_true rfl) (Nat.le_of_ble_eq_true rfl) (ok_M_hand (by decide) _ _ ν f1) ?_ rfl
  exact wl_eq 1118 dL_379 (by decide) (fun _ => kk _ _ s2) (fun z => absurd rfl z)
theorem il_L_42 : Cond.methodLink R_law 42 mX10_burn.1 ∈ lwT := (lwT_3 (i := 37) (by decide +kernel) rfl)
theorem il_L_45 : Cond.methodLink R_law 45 mX11_burn.1 ∈ lwT := (lwT_6 (i := 37) (by decide +kernel) rfl)
theorem law_6 {p : Program} {e : Env} {s : State} {m : MethodId} {below : List Frame} {meth : Method} {c : Code} {l : Launch} {b0 Lx i : Nat} {xs : Nat → Int32} {μ ν : Mm} (h : Sim μ ν) (hi : i + 6 ≤ Lx) (h3 : Lx ≤ 3072) (kk : ∀ μ2 ν2, Sim μ2 ν2 → WL l p e s m below meth c b0 Lx xs 1118 [some (.ref 2), some (.ref 0), some (.ref 1), some (.int (nI i))] [] μ2 ν2) : WL l p e s m below meth c b0 Lx xs 384 [some (.ref 2), some (.ref 0), some (.ref 1), some (.int (nI i))] [] μ ν := by
  obtain ⟨R, μ2, ν2, e1, f1, s2⟩ := op_burn h (xs (ix (nI i + nI 1))) (xs (ix (nI i + nI 2)))
  refine wl_aload (n := 1) (x := 0) dL_384 rfl ?_
  refine wl_aload (n := 0) (x := 2) dL_385 rfl ?_
  refine wl_iload (n := 3) (x := nI i) dL_386 rfl ?_
  refine wl_iconst (nI 1) dL_387 rfl ?_
  refine wl_iadd dL_388 ?_
  refine wl_iald (i := nI i + nI 1) (by rw [nI_add]; exact vin_nI (by omega) (by omega)) dL_389 ?_
  refine wl_aload (n := 0) (x := 2) dL_390 rfl ?_
  refine wl_iload (n := 3) (x := nI i) dL_391 rfl ?_
  refine wl_iconst (nI 2) dL_392 rfl ?_
  refine wl_iadd dL_393 ?_
  refine wl_iald (i := nI i + nI 2) (by rw [nI_add]; exact vin_nI (by omega) (by omega)) dL_394 ?_
  refine wl_callC (M' := mX10_burn) (n := 2) (as := [.int (xs (ix (nI i + nI 1))), .int (xs (ix (nI i + nI 2)))]) (rest := []) (μ2 := μ2) (r := R) mw_X10_burn il_L_42 im_X10_burn rfl dL_395 rfl (fun v hv => by simp only [List.mem_cons, List.not_mem_nil, or_false] at hv; rcases hv with hv | hv <;> exact ⟨_, hv⟩) (Nat.le_of_ble_eq_true rfl) (Nat.le_of_ble_eq_true rfl) (ok_Nine_burn (by decide) _ _ μ e1) ?_ rfl
  refine wl_aload (n := 2) (x := 1) dL_398 rfl ?_
  refine wl_aload (n := 0) (x := 2) dL_399 rfl ?_
  refine wl_iload (n := 3) (x := nI i) dL_400 rfl ?_
  refine wl_iconst (nI 1) dL_401 rfl ?_
  refine wl_iadd dL_402 ?_
  refine wl_iald (i := nI i + nI 1) (by rw [nI_add]; exact vin_nI (by omega) (by omega)) dL_403 ?_
  refine wl_aload (n := 0) (x := 2) dL_404 rfl ?_
  refine wl_iload (n := 3) (x := nI i) dL_405 rfl ?_
  refine wl_iconst (nI 2) dL_406 rfl ?_
  refine wl_iadd dL_407 ?_
  refine wl_iald (i := nI i + nI 2) (by rw [nI_add]; exact vin_nI (by omega) (by omega)) dL_408 ?_
  refine wl_callM (M' := mX11_burn) (n := 2) (as := [.int (xs (ix (nI i + nI 1))), .int (xs (ix (nI i + nI 2)))]) (rest := [.int R]) (μ2 := ν2) (r := R) mw_X11_burn il_L_45 im_X11_burn rfl dL_409 rfl (fun v hv => by simp only [List.mem_cons, List.not_mem_nil, or_false] at hv; rcases hv with hv | hv <;> exact ⟨_, hv⟩) (Nat.le_of_ble_eq_true rfl) (Nat.le_of_ble_eq_true rfl) (ok_M_burn (by decide) _ _ ν f1) ?_ rfl
  exact wl_eq 1118 dL_412 (by decide) (fun _ => kk _ _ s2) (fun z => absurd rfl z)
theorem il_L_46 : Cond.methodLink R_law 46 mX10_feed.1 ∈ lwT := (lwT_3 (i := 55) (by decide +kernel) rfl)
theorem il_L_50 : Cond.methodLink R_law 50 mX11_feed.1 ∈ lwT := (lwT_6 (i := 49) (by decide +kernel) rfl)
theorem law_7 {p : Program} {e : Env} {s : State} {m : MethodId} {below : List Frame} {meth : Method} {c : Code} {l : Launch} {b0 Lx i : Nat} {xs : Nat → Int32} {μ ν : Mm} (h : Sim μ ν) (hi : i + 6 ≤ Lx) (h3 : Lx ≤ 3072) (kk : ∀ μ2 ν2, Sim μ2 ν2 → WL l p e s m below meth c b0 Lx xs 1118 [some (.ref 2), some (.ref 0), some (.ref 1), some (.int (nI i))] [] μ2 ν2) : WL l p e s m below meth c b0 Lx xs 417 [some (.ref 2), some (.ref 0), some (.ref 1), some (.int (nI i))] [] μ ν := by
  obtain ⟨R, μ2, ν2, e1, f1, s2⟩ := op_feed h (xs (ix (nI i + nI 1))) (xs (ix (nI i + nI 2))) (xs (ix (nI i + nI 3))) (xs (ix (nI i + nI 4))) (xs (ix (nI i + nI 5)))
  refine wl_aload (n := 1) (x := 0) dL_417 rfl ?_
  refine wl_aload (n := 0) (x := 2) dL_418 rfl ?_
  refine wl_iload (n := 3) (x := nI i) dL_419 rfl ?_
  refine wl_iconst (nI 1) dL_420 rfl ?_
  refine wl_iadd dL_421 ?_
  refine wl_iald (i := nI i + nI 1) (by rw [nI_add]; exact vin_nI (by omega) (by omega)) dL_422 ?_
  refine wl_aload (n := 0) (x := 2) dL_423 rfl ?_
  refine wl_iload (n := 3) (x := nI i) dL_424 rfl ?_
  refine wl_iconst (nI 2) dL_425 rfl ?_
  refine wl_iadd dL_426 ?_
  refine wl_iald (i := nI i + nI 2) (by rw [nI_add]; exact vin_nI (by omega) (by omega)) dL_427 ?_
  refine wl_aload (n := 0) (x := 2) dL_428 rfl ?_
  refine wl_iload (n := 3) (x := nI i) dL_429 rfl ?_
  refine wl_iconst (nI 3) dL_430 rfl ?_
  refine wl_iadd dL_431 ?_
  refine wl_iald (i := nI i + nI 3) (by rw [nI_add]; exact vin_nI (by omega) (by omega)) dL_432 ?_
  refine wl_aload (n := 0) (x := 2) dL_433 rfl ?_
  refine wl_iload (n := 3) (x := nI i) dL_434 rfl ?_
  refine wl_iconst (nI 4) dL_435 rfl ?_
  refine wl_iadd dL_436 ?_
  refine wl_iald (i := nI i + nI 4) (by rw [nI_add]; exact vin_nI (by omega) (by omega)) dL_437 ?_
  refine wl_aload (n := 0) (x := 2) dL_438 rfl ?_
  refine wl_iload (n := 3) (x := nI i) dL_439 rfl ?_
  refine wl_iconst (nI 5) dL_440 rfl ?_
  refine wl_iadd dL_441 ?_
  refine wl_iald (i := nI i + nI 5) (by rw [nI_add]; exact vin_nI (by omega) (by omega)) dL_442 ?_
  refine wl_callC (M' := mX10_feed) (n := 5) (as := [.int (xs (ix (nI i + nI 1))), .int (xs (ix (nI i + nI 2))), .int (xs (ix (nI i + nI 3))), .int (xs (ix (nI i + nI 4))), .int (xs (ix (nI i + nI 5)))]) (rest := []) (μ2 := μ2) (r := R) mw_X10_feed il_L_46 im_X10_feed rfl dL_443 rfl (fun v hv => by simp only [List.mem_cons, List.not_mem_nil, or_false] at hv; rcases hv with hv | hv | hv | hv | hv <;> exact ⟨_, hv⟩) (Nat.le_of_ble_eq_true rfl) (Nat.le_of_ble_eq_true rfl) (ok_Nine_feed (by decide) _ _ _ _ _ μ e1) ?_ rfl
  refine wl_aload (n := 2) (x := 1) dL_446 rfl ?_
  refine wl_aload (n := 0) (x := 2) dL_447 rfl ?_
  refine wl_iload (n := 3) (x := nI i) dL_448 rfl ?_
  refine wl_iconst (nI 1) dL_449 rfl ?_
  refine wl_iadd dL_450 ?_
  refine wl_iald (i := nI i + nI 1) (by rw [nI_add]; exact vin_nI (by omega) (by omega)) dL_451 ?_
  refine wl_aload (n := 0) (x := 2) dL_452 rfl ?_
  refine wl_iload (n := 3) (x := nI i) dL_453 rfl ?_
  refine wl_iconst (nI 2) dL_454 rfl ?_
  refine wl_iadd dL_455 ?_
  refine wl_iald (i := nI i + nI 2) (by rw [nI_add]; exact vin_nI (by omega) (by omega)) dL_456 ?_
  refine wl_aload (n := 0) (x := 2) dL_457 rfl ?_
  refine wl_iload (n := 3) (x := nI i) dL_458 rfl ?_
  refine wl_iconst (nI 3) dL_459 rfl ?_
  refine wl_iadd dL_460 ?_
  refine wl_iald (i := nI i + nI 3) (by rw [nI_add]; exact vin_nI (by omega) (by omega)) dL_461 ?_
  refine wl_aload (n := 0) (x := 2) dL_462 rfl ?_
  refine wl_iload (n := 3) (x := nI i) dL_463 rfl ?_
  refine wl_iconst (nI 4) dL_464 rfl ?_
  refine wl_iadd dL_465 ?_
  refine wl_iald (i := nI i + nI 4) (by rw [nI_add]; exact vin_nI (by omega) (by omega)) dL_466 ?_
  refine wl_aload (n := 0) (x := 2) dL_467 rfl ?_
  refine wl_iload (n := 3) (x := nI i) dL_468 rfl ?_
  refine wl_iconst (nI 5) dL_469 rfl ?_
  refine wl_iadd dL_470 ?_
  refine wl_iald (i := nI i + nI 5) (by rw [nI_add]; exact vin_nI (by omega) (by omega)) dL_471 ?_
  refine wl_callM (M' := mX11_feed) (n := 5) (as := [.int (xs (ix (nI i + nI 1))), .int (xs (ix (nI i + nI 2))), .int (xs (ix (nI i + nI 3))), .int (xs (ix (nI i + nI 4))), .int (xs (ix (nI i + nI 5)))]) (rest := [.int R]) (μ2 := ν2) (r := R) mw_X11_feed il_L_50 im_X11_feed rfl dL_472 rfl (fun v hv => by simp only [List.mem_cons, List.not_mem_nil, or_false] at hv; rcases hv with hv | hv | hv | hv | hv <;> exact ⟨_, hv⟩) (Nat.le_of_ble_eq_true rfl) (Nat.le_of_ble_eq_true rfl) (ok_M_feed (by decide) _ _ _ _ _ ν f1) ?_ rfl
  exact wl_eq 1118 dL_475 (by decide) (fun _ => kk _ _ s2) (fun z => absurd rfl z)
theorem il_L_51 : Cond.methodLink R_law 51 mX10_end.1 ∈ lwT := (lwT_3 (i := 67) (by decide +kernel) rfl)
theorem il_L_55 : Cond.methodLink R_law 55 mX11_end.1 ∈ lwT := (lwT_6 (i := 57) (by decide +kernel) rfl)
theorem law_8 {p : Program} {e : Env} {s : State} {m : MethodId} {below : List Frame} {meth : Method} {c : Code} {l : Launch} {b0 Lx i : Nat} {xs : Nat → Int32} {μ ν : Mm} (h : Sim μ ν) (hi : i + 6 ≤ Lx) (h3 : Lx ≤ 3072) (kk : ∀ μ2 ν2, Sim μ2 ν2 → WL l p e s m below meth c b0 Lx xs 1118 [some (.ref 2), some (.ref 0), some (.ref 1), some (.int (nI i))] [] μ2 ν2) : WL l p e s m below meth c b0 Lx xs 480 [some (.ref 2), some (.ref 0), some (.ref 1), some (.int (nI i))] [] μ ν := by
  obtain ⟨R, μ2, ν2, e1, f1, s2⟩ := op_end h (xs (ix (nI i + nI 1)))
  refine wl_aload (n := 1) (x := 0) dL_480 rfl ?_
  refine wl_aload (n := 0) (x := 2) dL_481 rfl ?_
  refine wl_iload (n := 3) (x := nI i) dL_482 rfl ?_
  refine wl_iconst (nI 1) dL_483 rfl ?_
  refine wl_iadd dL_484 ?_
  refine wl_iald (i := nI i + nI 1) (by rw [nI_add]; exact vin_nI (by omega) (by omega)) dL_485 ?_
  refine wl_callC (M' := mX10_end) (n := 1) (as := [.int (xs (ix (nI i + nI 1)))]) (rest := []) (μ2 := μ2) (r := R) mw_X10_end il_L_51 im_X10_end rfl dL_486 rfl (fun v hv => by simp only [List.mem_cons, List.not_mem_nil, or_false] at hv; exact ⟨_, hv⟩) (Nat.le_of_ble_eq_true rfl) (Nat.le_of_ble_eq_true rfl) (ok_Nine_end (by decide) _ μ e1) ?_ rfl
  refine wl_aload (n := 2) (x := 1) dL_489 rfl ?_
  refine wl_aload (n := 0) (x := 2) dL_490 rfl ?_
  refine wl_iload (n := 3) (x := nI i) dL_491 rfl ?_
  refine wl_iconst (nI 1) dL_492 rfl ?_
  refine wl_iadd dL_493 ?_
  refine wl_iald (i := nI i + nI 1) (by rw [nI_add]; exact vin_nI (by omega) (by omega)) dL_494 ?_
  refine wl_callM (M' := mX11_end) (n := 1) (as := [.int (xs (ix (nI i + nI 1)))]) (rest := [.int R]) (μ2 := ν2) (r := R) mw_X11_end il_L_55 im_X11_end rfl dL_495 rfl (fun v hv => by simp only [List.mem_cons, List.not_mem_nil, or_false] at hv; exact ⟨_, hv⟩) (Nat.le_of_ble_eq_true rfl) (Nat.le_of_ble_eq_true rfl) (ok_M_end (by decide) _ ν f1) ?_ rfl
  exact wl_eq 1118 dL_498 (by decide) (fun _ => kk _ _ s2) (fun z => absurd rfl z)
theorem il_L_56 : Cond.methodLink R_law 56 mX10_text.1 ∈ lwT := (lwT_3 (i := 71) (by decide +kernel) rfl)
theorem il_L_59 : Cond.methodLink R_law 59 mX11_text.1 ∈ lwT := (lwT_6 (i := 61) (by decide +kernel) rfl)
theorem law_9 {p : Program} {e : Env} {s : State} {m : MethodId} {below : List Frame} {meth : Method} {c : Code} {l : Launch} {b0 Lx i : Nat} {xs : Nat → Int32} {μ ν : Mm} (h : Sim μ ν) (hi : i + 6 ≤ Lx) (h3 : Lx ≤ 3072) (kk : ∀ μ2 ν2, Sim μ2 ν2 → WL l p e s m below meth c b0 Lx xs 1118 [some (.ref 2), some (.ref 0), some (.ref 1), some (.int (nI i))] [] μ2 ν2) : WL l p e s m below meth c b0 Lx xs 503 [some (.ref 2), some (.ref 0), some (.ref 1), some (.int (nI i))] [] μ ν := by
  obtain ⟨R, μ2, ν2, e1, f1, s2⟩ := op_text h (xs (ix (nI i + nI 1)))
  refine wl_aload (n := 1) (x := 0) dL_503 rfl ?_
  refine wl_aload (n := 0) (x := 2) dL_504 rfl ?_
  refine wl_iload (n := 3) (x := nI i) dL_505 rfl ?_
  refine wl_iconst (nI 1) dL_506 rfl ?_
  refine wl_iadd dL_507 ?_
  refine wl_iald (i := nI i + nI 1) (by rw [nI_add]; exact vin_nI (by omega) (by omega)) dL_508 ?_
  refine wl_callC (M' := mX10_text) (n := 1) (as := [.int (xs (ix (nI i + nI 1)))]) (rest := []) (μ2 := μ2) (r := R) mw_X10_text il_L_56 im_X10_text rfl dL_509 rfl (fun v hv => by simp only [List.mem_cons, List.not_mem_nil, or_false] at hv; exact ⟨_, hv⟩) (Nat.le_of_ble_eq_true rfl) (Nat.le_of_ble_eq_true rfl) (ok_Nine_text (by decide) _ μ e1) ?_ rfl
  refine wl_aload (n := 2) (x := 1) dL_512 rfl ?_
  refine wl_aload (n := 0) (x := 2) dL_513 rfl ?_
  refine wl_iload (n := 3) (x := nI i) dL_514 rfl ?_
  refine wl_iconst (nI 1) dL_515 rfl ?_
  refine wl_iadd dL_516 ?_
  refine wl_iald (i := nI i + nI 1) (by rw [nI_add]; exact vin_nI (by omega) (by omega)) dL_517 ?_
  refine wl_callM (M' := mX11_text) (n := 1) (as := [.int (xs (ix (nI i + nI 1)))]) (rest := [.int R]) (μ2 := ν2) (r := R) mw_X11_text il_L_59 im_X11_text rfl dL_518 rfl (fun v hv => by simp only [List.mem_cons, List.not_mem_nil, or_false] at hv; exact ⟨_, hv⟩) (Nat.le_of_ble_eq_true rfl) (Nat.le_of_ble_eq_true rfl) (ok_M_text (by decide) _ ν f1) ?_ rfl
  exact wl_eq 1118 dL_521 (by decide) (fun _ => kk _ _ s2) (fun z => absurd rfl z)
theorem il_L_60 : Cond.methodLink R_law 60 mX10_fault.1 ∈ lwT := (lwT_3 (i := 237) (by decide +kernel) rfl)
theorem il_L_63 : Cond.methodLink R_law 63 mX11_fault.1 ∈ lwT := (lwT_6 (i := 169) (by decide +kernel) rfl)
theorem law_10 {p : Program} {e : Env} {s : State} {m : MethodId} {below : List Frame} {meth : Method} {c : Code} {l : Launch} {b0 Lx i : Nat} {xs : Nat → Int32} {μ ν : Mm} (h : Sim μ ν) (hi : i + 6 ≤ Lx) (h3 : Lx ≤ 3072) (kk : ∀ μ2 ν2, Sim μ2 ν2 → WL l p e s m below meth c b0 Lx xs 1118 [some (.ref 2), some (.ref 0), some (.ref 1), some (.int (nI i))] [] μ2 ν2) : WL l p e s m below meth c b0 Lx xs 526 [some (.ref 2), some (.ref 0), some (.ref 1), some (.int (nI i))] [] μ ν := by
  obtain ⟨R, ν2, e1, f1, s2⟩ := op_fault h (xs (ix (nI i + nI 1)))
  refine wl_aload (n := 1) (x := 0) dL_526 rfl ?_
  refine wl_aload (n := 0) (x := 2) dL_527 rfl ?_
  refine wl_iload (n := 3) (x := nI i) dL_528 rfl ?_
  refine wl_iconst (nI 1) dL_529 rfl ?_
  refine wl_iadd dL_530 ?_
  refine wl_iald (i := nI i + nI 1) (by rw [nI_add]; exact vin_nI (by omega) (by omega)) dL_531 ?_
  refine wl_callC (M' := mX10_fault) (n := 1) (as := [.int (xs (ix (nI i + nI 1)))]) (rest := []) (μ2 := μ) (r := R) mw_X10_fault il_L_60 im_X10_fault rfl dL_532 rfl (fun v hv => by simp only [List.mem_cons, List.not_mem_nil, or_false] at hv; exact ⟨_, hv⟩) (Nat.le_of_ble_eq_true rfl) (Nat.le_of_ble_eq_true rfl) (ok_Nine_fault (by decide) _ μ e1) ?_ rfl
  refine wl_aload (n := 2) (x := 1) dL_535 rfl ?_
  refine wl_aload (n := 0) (x := 2) dL_536 rfl ?_
  refine wl_iload (n := 3) (x := nI i) dL_537 rfl ?_
  refine wl_iconst (nI 1) dL_538 rfl ?_
  refine wl_iadd dL_539 ?_
  refine wl_iald (i := nI i + nI 1) (by rw [nI_add]; exact vin_nI (by omega) (by omega)) dL_540 ?_
  refine wl_callM (M' := mX11_fault) (n := 1) (as := [.int (xs (ix (nI i + nI 1)))]) (rest := [.int R]) (μ2 := ν2) (r := R) mw_X11_fault il_L_63 im_X11_fault rfl dL_541 rfl (fun v hv => by simp only [List.mem_cons, List.not_mem_nil, or_false] at hv; exact ⟨_, hv⟩) (Nat.le_of_ble_eq_true rfl) (Nat.le_of_ble_eq_true rfl) (ok_M_fault (by decide) _ ν f1) ?_ rfl
  exact wl_eq 1118 dL_544 (by decide) (fun _ => kk _ _ s2) (fun z => absurd rfl z)
theorem il_L_64 : Cond.methodLink R_law 64 mX10_days.1 ∈ lwT := (lwT_4 (i := 1) (by decide +kernel) rfl)
theorem il_L_67 : Cond.methodLink R_law 67 mX11_days.1 ∈ lwT := (lwT_6 (i := 173) (by decide +kernel) rfl)
theorem law_11 {p : Program} {e : Env} {s : State} {m : MethodId} {below : List Frame} {meth : Method} {c : Code} {l : Launch} {b0 Lx i : Nat} {xs : Nat → Int32} {μ ν : Mm} (h : Sim μ ν) (hi : i + 6 ≤ Lx) (h3 : Lx ≤ 3072) (kk : ∀ μ2 ν2, Sim μ2 ν2 → WL l p e s m below meth c b0 Lx xs 1118 [some (.ref 2), some (.ref 0), some (.ref 1), some (.int (nI i))] [] μ2 ν2) : WL l p e s m below meth c b0 Lx xs 549 [some (.ref 2), some (.ref 0), some (.ref 1), some (.int (nI i))] [] μ ν := by
  obtain ⟨R, μ2, ν2, e1, f1, s2⟩ := op_days h (xs (ix (nI i + nI 1)))
  refine wl_aload (n := 1) (x := 0) dL_549 rfl ?_
  refine wl_aload (n := 0) (x := 2) dL_550 rfl ?_
  refine wl_iload (n := 3) (x := nI i) dL_551 rfl ?_
  refine wl_iconst (nI 1) dL_552 rfl ?_
  refine wl_iadd dL_553 ?_
  refine wl_iald (i := nI i + nI 1) (by rw [nI_add]; exact vin_nI (by omega) (by omega)) dL_554 ?_
  refine wl_callC (M' := mX10_days) (n := 1) (as := [.int (xs (ix (nI i + nI 1)))]) (rest := []) (μ2 := μ2) (r := R) mw_X10_days il_L_64 im_X10_days rfl dL_555 rfl (fun v hv => by simp only [List.mem_cons, List.not_mem_nil, or_false] at hv; exact ⟨_, hv⟩) (Nat.le_of_ble_eq_true rfl) (Nat.le_of_ble_eq_true rfl) (ok_Nine_days (by decide) _ μ e1) ?_ rfl
  refine wl_aload (n := 2) (x := 1) dL_558 rfl ?_
  refine wl_aload (n := 0) (x := 2) dL_559 rfl ?_
  refine wl_iload (n := 3) (x := nI i) dL_560 rfl ?_
  refine wl_iconst (nI 1) dL_561 rfl ?_
  refine wl_iadd dL_562 ?_
  refine wl_iald (i := nI i + nI 1) (by rw [nI_add]; exact vin_nI (by omega) (by omega)) dL_563 ?_
  refine wl_callM (M' := mX11_days) (n := 1) (as := [.int (xs (ix (nI i + nI 1)))]) (rest := [.int R]) (μ2 := ν2) (r := R) mw_X11_days il_L_67 im_X11_days rfl dL_564 rfl (fun v hv => by simp only [List.mem_cons, List.not_mem_nil, or_false] at hv; exact ⟨_, hv⟩) (Nat.le_of_ble_eq_true rfl) (Nat.le_of_ble_eq_true rfl) (ok_M_days (by decide) _ ν f1) ?_ rfl
  exact wl_eq 1118 dL_567 (by decide) (fun _ => kk _ _ s2) (fun z => absurd rfl z)
theorem il_L_68 : Cond.methodLink R_law 68 mX10_of.1 ∈ lwT := (lwT_4 (i := 96) (by decide +kernel) rfl)
theorem il_L_71 : Cond.methodLink R_law 71 mX11_of.1 ∈ lwT := (lwT_7 (i := 31) (by decide +kernel) rfl)
theorem law_12 {p : Program} {e : Env} {s : State} {m : MethodId} {below : List Frame} {meth : Method} {c : Code} {l : Launch} {b0 Lx i : Nat} {xs : Nat → Int32} {μ ν : Mm} (h : Sim μ ν) (hi : i + 6 ≤ Lx) (h3 : Lx ≤ 3072) (kk : ∀ μ2 ν2, Sim μ2 ν2 → WL l p e s m below meth c b0 Lx xs 1118 [some (.ref 2), some (.ref 0), some (.ref 1), some (.int (nI i))] [] μ2 ν2) : WL l p e s m below meth c b0 Lx xs 572 [some (.ref 2), some (.ref 0), some (.ref 1), some (.int (nI i))] [] μ ν := by
  obtain ⟨R, ν2, e1, f1, s2⟩ := op_of h (xs (ix (nI i + nI 1))) (xs (ix (nI i + nI 2)))
  refine wl_aload (n := 1) (x := 0) dL_572 rfl ?_
  refine wl_aload (n := 0) (x := 2) dL_573 rfl ?_
  refine wl_iload (n := 3) (x := nI i) dL_574 rfl ?_
  refine wl_iconst (nI 1) dL_575 rfl ?_
  refine wl_iadd dL_576 ?_
  refine wl_iald (i := nI i + nI 1) (by rw [nI_add]; exact vin_nI (by omega) (by omega)) dL_577 ?_
  refine wl_aload (n := 0) (x := 2) dL_578 rfl ?_
  refine wl_iload (n := 3) (x := nI i) dL_579 rfl ?_
  refine wl_iconst (nI 2) dL_580 rfl ?_
  refine wl_iadd dL_581 ?_
  refine wl_iald (i := nI i + nI 2) (by rw [nI_add]; exact vin_nI (by omega) (by omega)) dL_582 ?_
  refine wl_callC (M' := mX10_of) (n := 2) (as := [.int (xs (ix (nI i + nI 1))), .int (xs (ix (nI i + nI 2)))]) (rest := []) (μ2 := μ) (r := R) mw_X10_of il_L_68 im_X10_of rfl dL_583 rfl (fun v hv => by simp only [List.mem_cons, List.not_mem_nil, or_false] at hv; rcases hv with hv | hv <;> exact ⟨_, hv⟩) (Nat.le_of_ble_eq_true rfl) (Nat.le_of_ble_eq_true rfl) (ok_Nine_of (by decide) _ _ μ e1) ?_ rfl
  refine wl_aload (n := 2) (x := 1) dL_586 rfl ?_
  refine wl_aload (n := 0) (x := 2) dL_587 rfl ?_
  refine wl_iload (n := 3) (x := nI i) dL_588 rfl ?_
  refine wl_iconst (nI 1) dL_589 rfl ?_
  refine wl_iadd dL_590 ?_
  refine wl_iald (i := nI i + nI 1) (by rw [nI_add]; exact vin_nI (by omega) (by omega)) dL_591 ?_
  refine wl_aload (n := 0) (x := 2) dL_592 rfl ?_
  refine wl_iload (n := 3) (x := nI i) dL_593 rfl ?_
  refine wl_iconst (nI 2) dL_594 rfl ?_
  refine wl_iadd dL_595 ?_
  refine wl_iald (i := nI i + nI 2) (by rw [nI_add]; exact vin_nI (by omega) (by omega)) dL_596 ?_
  refine wl_callM (M' := mX11_of) (n := 2) (as := [.int (xs (ix (nI i + nI 1))), .int (xs (ix (nI i + nI 2)))]) (rest := [.int R]) (μ2 := ν2) (r := R) mw_X11_of il_L_71 im_X11_of rfl dL_597 rfl (fun v hv => by simp only [List.mem_cons, List.not_mem_nil, or_false] at hv; rcases hv with hv | hv <;> exact ⟨_, hv⟩) (Nat.le_of_ble_eq_true rfl) (Nat.le_of_ble_eq_true rfl) (ok_M_of (by decide) _ _ ν f1) ?_ rfl
  exact wl_eq 1118 dL_600 (by decide) (fun _ => kk _ _ s2) (fun z => absurd rfl z)
theorem il_L_72 : Cond.methodLink R_law 72 mX10_letter.1 ∈ lwT := (lwT_4 (i := 106) (by decide +kernel) rfl)
theorem il_L_75 : Cond.methodLink R_law 75 mX11_letter.1 ∈ lwT := (lwT_7 (i := 39) (by decide +kernel) rfl)
theorem law_13 {p : Program} {e : Env} {s : State} {m : MethodId} {below : List Frame} {meth : Method} {c : Code} {l : Launch} {b0 Lx i : Nat} {xs : Nat → Int32} {μ ν : Mm} (h : Sim μ ν) (hi : i + 6 ≤ Lx) (h3 : Lx ≤ 3072) (kk : ∀ μ2 ν2, Sim μ2 ν2 → WL l p e s m below meth c b0 Lx xs 1118 [some (.ref 2), some (.ref 0), some (.ref 1), some (.int (nI i))] [] μ2 ν2) : WL l p e s m below meth c b0 Lx xs 605 [some (.ref 2), some (.ref 0), some (.ref 1), some (.int (nI i))] [] μ ν := by
  obtain ⟨R, μ2, ν2, e1, f1, s2⟩ := op_letter h (xs (ix (nI i + nI 1))) (xs (ix (nI i + nI 2))) (xs (ix (nI i + nI 3)))
  refine wl_aload (n := 1) (x := 0) dL_605 rfl ?_
  refine wl_aload (n := 0) (x := 2) dL_606 rfl ?_
  refine wl_iload (n := 3) (x := nI i) dL_607 rfl ?_
  refine wl_iconst (nI 1) dL_608 rfl ?_
  refine wl_iadd dL_609 ?_
  refine wl_iald (i := nI i + nI 1) (by rw [nI_add]; exact vin_nI (by omega) (by omega)) dL_610 ?_
  refine wl_aload (n := 0) (x := 2) dL_611 rfl ?_
  refine wl_iload (n := 3) (x := nI i) dL_612 rfl ?_
  refine wl_iconst (nI 2) dL_613 rfl ?_
  refine wl_iadd dL_614 ?_
  refine wl_iald (i := nI i + nI 2) (by rw [nI_add]; exact vin_nI (by omega) (by omega)) dL_615 ?_
  refine wl_aload (n := 0) (x := 2) dL_616 rfl ?_
  refine wl_iload (n := 3) (x := nI i) dL_617 rfl ?_
  refine wl_iconst (nI 3) dL_618 rfl ?_
  refine wl_iadd dL_619 ?_
  refine wl_iald (i := nI i + nI 3) (by rw [nI_add]; exact vin_nI (by omega) (by omega)) dL_620 ?_
  refine wl_callC (M' := mX10_letter) (n := 3) (as := [.int (xs (ix (nI i + nI 1))), .int (xs (ix (nI i + nI 2))), .int (xs (ix (nI i + nI 3)))]) (rest := []) (μ2 := μ2) (r := R) mw_X10_letter il_L_72 im_X10_letter rfl dL_621 rfl (fun v hv => by simp only [List.mem_cons, List.not_mem_nil, or_false] at hv; rcases hv with hv | hv | hv <;> exact ⟨_, hv⟩) (Nat.le_of_ble_eq_true rfl) (Nat.le_of_ble_eq_true rfl) (ok_Nine_letter (by decide) _ _ _ μ e1) ?_ rfl
  refine wl_aload (n := 2) (x := 1) dL_624 rfl ?_
  refine wl_aload (n := 0) (x := 2) dL_625 rfl ?_
  refine wl_iload (n := 3) (x := nI i) dL_626 rfl ?_
  refine wl_iconst (nI 1) dL_627 rfl ?_
  refine wl_iadd dL_628 ?_
  refine wl_iald (i := nI i + nI 1) (by rw [nI_add]; exact vin_nI (by omega) (by omega)) dL_629 ?_
  refine wl_aload (n := 0) (x := 2) dL_630 rfl ?_
  refine wl_iload (n := 3) (x := nI i) dL_631 rfl ?_
  refine wl_iconst (nI 2) dL_632 rfl ?_
  refine wl_iadd dL_633 ?_
  refine wl_iald (i := nI i + nI 2) (by rw [nI_add]; exact vin_nI (by omega) (by omega)) dL_634 ?_
  refine wl_aload (n := 0) (x := 2) dL_635 rfl ?_
  refine wl_iload (n := 3) (x := nI i) dL_636 rfl ?_
  refine wl_iconst (nI 3) dL_637 rfl ?_
  refine wl_iadd dL_638 ?_
  refine wl_iald (i := nI i + nI 3) (by rw [nI_add]; exact vin_nI (by omega) (by omega)) dL_639 ?_
  refine wl_callM (M' := mX11_letter) (n := 3) (as := [.int (xs (ix (nI i + nI 1))), .int (xs (ix (nI i + nI 2))), .int (xs (ix (nI i + nI 3)))]) (rest := [.int R]) (μ2 := ν2) (r := R) mw_X11_letter il_L_75 im_X11_letter rfl dL_640 rfl (fun v hv => by simp only [List.mem_cons, List.not_mem_nil, or_false] at hv; rcases hv with hv | hv | hv <;> exact ⟨_, hv⟩) (Nat.le_of_ble_eq_true rfl) (Nat.le_of_ble_eq_true rfl) (ok_M_letter (by decide) _ _ _ ν f1) ?_ rfl
  exact wl_eq 1118 dL_643 (by decide) (fun _ => kk _ _ s2) (fun z => absurd rfl z)
theorem il_L_76 : Cond.methodLink R_law 76 mX10_onWay.1 ∈ lwT := (lwT_4 (i := 120) (by decide +kernel) rfl)
theorem il_L_79 : Cond.methodLink R_law 79 mX11_onWay.1 ∈ lwT := (lwT_7 (i := 51) (by decide +kernel) rfl)
theorem law_14 {p : Program} {e : Env} {s : State} {m : MethodId} {below : List Frame} {meth : Method} {c : Code} {l : Launch} {b0 Lx i : Nat} {xs : Nat → Int32} {μ ν : Mm} (h : Sim μ ν) (hi : i + 6 ≤ Lx) (h3 : Lx ≤ 3072) (kk : ∀ μ2 ν2, Sim μ2 ν2 → WL l p e s m below meth c b0 Lx xs 1118 [some (.ref 2), some (.ref 0), some (.ref 1), some (.int (nI i))] [] μ2 ν2) : WL l p e s m below meth c b0 Lx xs 648 [some (.ref 2), some (.ref 0), some (.ref 1), some (.int (nI i))] [] μ ν := by
  obtain ⟨R, ν2, e1, f1, s2⟩ := op_onWay h (xs (ix (nI i + nI 1))) (xs (ix (nI i + nI 2)))
  refine wl_aload (n := 1) (x := 0) dL_648 rfl ?_
  refine wl_aload (n := 0) (x := 2) dL_649 rfl ?_
  refine wl_iload (n := 3) (x := nI i) dL_650 rfl ?_
  refine wl_iconst (nI 1) dL_651 rfl ?_
  refine wl_iadd dL_652 ?_
  refine wl_iald (i := nI i + nI 1) (by rw [nI_add]; exact vin_nI (by omega) (by omega)) dL_653 ?_
  refine wl_aload (n := 0) (x := 2) dL_654 rfl ?_
  refine wl_iload (n := 3) (x := nI i) dL_655 rfl ?_
  refine wl_iconst (nI 2) dL_656 rfl ?_
  refine wl_iadd dL_657 ?_
  refine wl_iald (i := nI i + nI 2) (by rw [nI_add]; exact vin_nI (by omega) (by omega)) dL_658 ?_
  refine wl_callC (M' := mX10_onWay) (n := 2) (as := [.int (xs (ix (nI i + nI 1))), .int (xs (ix (nI i + nI 2)))]) (rest := []) (μ2 := μ) (r := R) mw_X10_onWay il_L_76 im_X10_onWay rfl dL_659 rfl (fun v hv => by simp only [List.mem_cons, List.not_mem_nil, or_false] at hv; rcases hv with hv | hv <;> exact ⟨_, hv⟩) (Nat.le_of_ble_eq_true rfl) (Nat.le_of_ble_eq_true rfl) (ok_Nine_onWay (by decide) _ _ μ e1) ?_ rfl
  refine wl_aload (n := 2) (x := 1) dL_662 rfl ?_
  refine wl_aload (n := 0) (x := 2) dL_663 rfl ?_
  refine wl_iload (n := 3) (x := nI i) dL_664 rfl ?_
  refine wl_iconst (nI 1) dL_665 rfl ?_
  refine wl_iadd dL_666 ?_
  refine wl_iald (i := nI i + nI 1) (by rw [nI_add]; exact vin_nI (by omega) (by omega)) dL_667 ?_
  refine wl_aload (n := 0) (x := 2) dL_668 rfl ?_
  refine wl_iload (n := 3) (x := nI i) dL_669 rfl ?_
  refine wl_iconst (nI 2) dL_670 rfl ?_
  refine wl_iadd dL_671 ?_
  refine wl_iald (i := nI i + nI 2) (by rw [nI_add]; exact vin_nI (by omega) (by omega)) dL_672 ?_
  refine wl_callM (M' := mX11_onWay) (n := 2) (as := [.int (xs (ix (nI i + nI 1))), .int (xs (ix (nI i + nI 2)))]) (rest := [.int R]) (μ2 := ν2) (r := R) mw_X11_onWay il_L_79 im_X11_onWay rfl dL_673 rfl (fun v hv => by simp only [List.mem_cons, List.not_mem_nil, or_false] at hv; rcases hv with hv | hv <;> exact ⟨_, hv⟩) (Nat.le_of_ble_eq_true rfl) (Nat.le_of_ble_eq_true rfl) (ok_M_onWay (by decide) _ _ ν f1) ?_ rfl
  exact wl_eq 1118 dL_676 (by decide) (fun _ => kk _ _ s2) (fun z => absurd rfl z)
theorem il_L_80 : Cond.methodLink R_law 80 mX10_kind.1 ∈ lwT := (lwT_4 (i := 125) (by decide +kernel) rfl)
theorem il_L_83 : Cond.methodLink R_law 83 mX11_kind.1 ∈ lwT := (lwT_7 (i := 55) (by decide +kernel) rfl)
theorem law_15 {p : Program} {e : Env} {s : State} {m : MethodId} {below : List Frame} {meth : Method} {c : Code} {l : Launch} {b0 Lx i : Nat} {xs : Nat → Int32} {μ ν : Mm} (h : Sim μ ν) (hi : i + 6 ≤ Lx) (h3 : Lx ≤ 3072) (kk : ∀ μ2 ν2, Sim μ2 ν2 → WL l p e s m below meth c b0 Lx xs 1118 [some (.ref 2), some (.ref 0), some (.ref 1), some (.int (nI i))] [] μ2 ν2) : WL l p e s m below meth c b0 Lx xs 681 [some (.ref 2), some (.ref 0), some (.ref 1), some (.int (nI i))] [] μ ν := by
  obtain ⟨R, ν2, e1, f1, s2⟩ := op_kind h (xs (ix (nI i + nI 1))) (xs (ix (nI i + nI 2)))
  refine wl_aload (n := 1) (x := 0) dL_681 rfl ?_
  refine wl_aload (n := 0) (x := 2) dL_682 rfl ?_
  refine wl_iload (n := 3) (x := nI i) dL_683 rfl ?_
  refine wl_iconst (nI 1) dL_684 rfl ?_
  refine wl_iadd dL_685 ?_
  refine wl_iald (i := nI i + nI 1) (by rw [nI_add]; exact vin_nI (by omega) (by omega)) dL_686 ?_
  refine wl_aload (n := 0) (x := 2) dL_687 rfl ?_
  refine wl_iload (n := 3) (x := nI i) dL_688 rfl ?_
  refine wl_iconst (nI 2) dL_689 rfl ?_
  refine wl_iadd dL_690 ?_
  refine wl_iald (i := nI i + nI 2) (by rw [nI_add]; exact vin_nI (by omega) (by omega)) dL_691 ?_
  refine wl_callC (M' := mX10_kind) (n := 2) (as := [.int (xs (ix (nI i + nI 1))), .int (xs (ix (nI i + nI 2)))]) (rest := []) (μ2 := μ) (r := R) mw_X10_kind il_L_80 im_X10_kind rfl dL_692 rfl (fun v hv => by simp only [List.mem_cons, List.not_mem_nil, or_false] at hv; rcases hv with hv | hv <;> exact ⟨_, hv⟩) (Nat.le_of_ble_eq_true rfl) (Nat.le_of_ble_eq_true rfl) (ok_Nine_kind (by decide) _ _ μ e1) ?_ rfl
  refine wl_aload (n := 2) (x := 1) dL_695 rfl ?_
  refine wl_aload (n := 0) (x := 2) dL_696 rfl ?_
  refine wl_iload (n := 3) (x := nI i) dL_697 rfl ?_
  refine wl_iconst (nI 1) dL_698 rfl ?_
  refine wl_iadd dL_699 ?_
  refine wl_iald (i := nI i + nI 1) (by rw [nI_add]; exact vin_nI (by omega) (by omega)) dL_700 ?_
  refine wl_aload (n := 0) (x := 2) dL_701 rfl ?_
  refine wl_iload (n := 3) (x := nI i) dL_702 rfl ?_
  refine wl_iconst (nI 2) dL_703 rfl ?_
  refine wl_iadd dL_704 ?_
  refine wl_iald (i := nI i + nI 2) (by rw [nI_add]; exact vin_nI (by omega) (by omega)) dL_705 ?_
  refine wl_callM (M' := mX11_kind) (n := 2) (as := [.int (xs (ix (nI i + nI 1))), .int (xs (ix (nI i + nI 2)))]) (rest := [.int R]) (μ2 := ν2) (r := R) mw_X11_kind il_L_83 im_X11_kind rfl dL_706 rfl (fun v hv => by simp only [List.mem_cons, List.not_mem_nil, or_false] at hv; rcases hv with hv | hv <;> exact ⟨_, hv⟩) (Nat.le_of_ble_eq_true rfl) (Nat.le_of_ble_eq_true rfl) (ok_M_kind (by decide) _ _ ν f1) ?_ rfl
  exact wl_eq 1118 dL_709 (by decide) (fun _ => kk _ _ s2) (fun z => absurd rfl z)
theorem il_L_84 : Cond.methodLink R_law 84 mX10_post.1 ∈ lwT := (lwT_4 (i := 142) (by decide +kernel) rfl)
theorem il_L_87 : Cond.methodLink R_law 87 mX11_post.1 ∈ lwT := (lwT_7 (i := 79) (by decide +kernel) rfl)
theorem law_16 {p : Program} {e : Env} {s : State} {m : MethodId} {below : List Frame} {meth : Method} {c : Code} {l : Launch} {b0 Lx i : Nat} {xs : Nat → Int32} {μ ν : Mm} (h : Sim μ ν) (hi : i + 6 ≤ Lx) (h3 : Lx ≤ 3072) (kk : ∀ μ2 ν2, Sim μ2 ν2 → WL l p e s m below meth c b0 Lx xs 1118 [some (.ref 2), some (.ref 0), some (.ref 1), some (.int (nI i))] [] μ2 ν2) : WL l p e s m below meth c b0 Lx xs 714 [some (.ref 2), some (.ref 0), some (.ref 1), some (.int (nI i))] [] μ ν := by
  obtain ⟨R, ν2, e1, f1, s2⟩ := op_post h (xs (ix (nI i + nI 1))) (xs (ix (nI i + nI 2)))
  refine wl_aload (n := 1) (x := 0) dL_714 rfl ?_
  refine wl_aload (n := 0) (x := 2) dL_715 rfl ?_
  refine wl_iload (n := 3) (x := nI i) dL_716 rfl ?_
  refine wl_iconst (nI 1) dL_717 rfl ?_
  refine wl_iadd dL_718 ?_
  refine wl_iald (i := nI i + nI 1) (by rw [nI_add]; exact vin_nI (by omega) (by omega)) dL_719 ?_
  refine wl_aload (n := 0) (x := 2) dL_720 rfl ?_
  refine wl_iload (n := 3) (x := nI i) dL_721 rfl ?_
  refine wl_iconst (nI 2) dL_722 rfl ?_
  refine wl_iadd dL_723 ?_
  refine wl_iald (i := nI i + nI 2) (by rw [nI_add]; exact vin_nI (by omega) (by omega)) dL_724 ?_
  refine wl_callC (M' := mX10_post) (n := 2) (as := [.int (xs (ix (nI i + nI 1))), .int (xs (ix (nI i + nI 2)))]) (rest := []) (μ2 := μ) (r := R) mw_X10_post il_L_84 im_X10_post rfl dL_725 rfl (fun v hv => by simp only [List.mem_cons, List.not_mem_nil, or_false] at hv; rcases hv with hv | hv <;> exact ⟨_, hv⟩) (Nat.le_of_ble_eq_true rfl) (Nat.le_of_ble_eq_true rfl) (ok_Nine_post (by decide) _ _ μ e1) ?_ rfl
  refine wl_aload (n := 2) (x := 1) dL_728 rfl ?_
  refine wl_aload (n := 0) (x := 2) dL_729 rfl ?_
  refine wl_iload (n := 3) (x := nI i) dL_730 rfl ?_
  refine wl_iconst (nI 1) dL_731 rfl ?_
  refine wl_iadd dL_732 ?_
  refine wl_iald (i := nI i + nI 1) (by rw [nI_add]; exact vin_nI (by omega) (by omega)) dL_733 ?_
  refine wl_aload (n := 0) (x := 2) dL_734 rfl ?_
  refine wl_iload (n := 3) (x := nI i) dL_735 rfl ?_
  refine wl_iconst (nI 2) dL_736 rfl ?_
  refine wl_iadd dL_737 ?_
  refine wl_iald (i := nI i + nI 2) (by rw [nI_add]; exact vin_nI (by omega) (by omega)) dL_738 ?_
  refine wl_callM (M' := mX11_post) (n := 2) (as := [.int (xs (ix (nI i + nI 1))), .int (xs (ix (nI i + nI 2)))]) (rest := [.int R]) (μ2 := ν2) (r := R) mw_X11_post il_L_87 im_X11_post rfl dL_739 rfl (fun v hv => by simp only [List.mem_cons, List.not_mem_nil, or_false] at hv; rcases hv with hv | hv <;> exact ⟨_, hv⟩) (Nat.le_of_ble_eq_true rfl) (Nat.le_of_ble_eq_true rfl) (ok_M_post (by decide) _ _ ν f1) ?_ rfl
  exact wl_eq 1118 dL_742 (by decide) (fun _ => kk _ _ s2) (fun z => absurd rfl z)
theorem il_L_88 : Cond.methodLink R_law 88 mX10_book.1 ∈ lwT := (lwT_4 (i := 147) (by decide +kernel) rfl)
theorem il_L_91 : Cond.methodLink R_law 91 mX11_book.1 ∈ lwT := (lwT_7 (i := 87) (by decide +kernel) rfl)
theorem law_17 {p : Program} {e : Env} {s : State} {m : MethodId} {below : List Frame} {meth : Method} {c : Code} {l : Launch} {b0 Lx i : Nat} {xs : Nat → Int32} {μ ν : Mm} (h : Sim μ ν) (hi : i + 6 ≤ Lx) (h3 : Lx ≤ 3072) (kk : ∀ μ2 ν2, Sim μ2 ν2 → WL l p e s m below meth c b0 Lx xs 1118 [some (.ref 2), some (.ref 0), some (.ref 1), some (.int (nI i))] [] μ2 ν2) : WL l p e s m below meth c b0 Lx xs 747 [some (.ref 2), some (.ref 0), some (.ref 1), some (.int (nI i))] [] μ ν := by
  obtain ⟨R, ν2, e1, f1, s2⟩ := op_book h (xs (ix (nI i + nI 1))) (xs (ix (nI i + nI 2)))
  refine wl_aload (n := 1) (x := 0) dL_747 rfl ?_
  refine wl_aload (n := 0) (x := 2) dL_748 rfl ?_
  refine wl_iload (n := 3) (x := nI i) dL_749 rfl ?_
  refine wl_iconst (nI 1) dL_750 rfl ?_
  refine wl_iadd dL_751 ?_
  refine wl_iald (i := nI i + nI 1) (by rw [nI_add]; exact vin_nI (by omega) (by omega)) dL_752 ?_
  refine wl_aload (n := 0) (x := 2) dL_753 rfl ?_
  refine wl_iload (n := 3) (x := nI i) dL_754 rfl ?_
  refine wl_iconst (nI 2) dL_755 rfl ?_
  refine wl_iadd dL_756 ?_
  refine wl_iald (i := nI i + nI 2) (by rw [nI_add]; exact vin_nI (by omega) (by omega)) dL_757 ?_
  refine wl_callC (M' := mX10_book) (n := 2) (as := [.int (xs (ix (nI i + nI 1))), .int (xs (ix (nI i + nI 2)))]) (rest := []) (μ2 := μ) (r := R) mw_X10_book il_L_88 im_X10_book rfl dL_758 rfl (fun v hv => by simp only [List.mem_cons, List.not_mem_nil, or_false] at hv; rcases hv with hv | hv <;> exact ⟨_, hv⟩) (Nat.le_of_ble_eq_true rfl) (Nat.le_of_ble_eq_true rfl) (ok_Nine_book (by decide) _ _ μ e1) ?_ rfl
  refine wl_aload (n := 2) (x := 1) dL_761 rfl ?_
  refine wl_aload (n := 0) (x := 2) dL_762 rfl ?_
  refine wl_iload (n := 3) (x := nI i) dL_763 rfl ?_
  refine wl_iconst (nI 1) dL_764 rfl ?_
  refine wl_iadd dL_765 ?_
  refine wl_iald (i := nI i + nI 1) (by rw [nI_add]; exact vin_nI (by omega) (by omega)) dL_766 ?_
  refine wl_aload (n := 0) (x := 2) dL_767 rfl ?_
  refine wl_iload (n := 3) (x := nI i) dL_768 rfl ?_
  refine wl_iconst (nI 2) dL_769 rfl ?_
  refine wl_iadd dL_770 ?_
  refine wl_iald (i := nI i + nI 2) (by rw [nI_add]; exact vin_nI (by omega) (by omega)) dL_771 ?_
  refine wl_callM (M' := mX11_book) (n := 2) (as := [.int (xs (ix (nI i + nI 1))), .int (xs (ix (nI i + nI 2)))]) (rest := [.int R]) (μ2 := ν2) (r := R) mw_X11_book il_L_91 im_X11_book rfl dL_772 rfl (fun v hv => by simp only [List.mem_cons, List.not_mem_nil, or_false] at hv; rcases hv with hv | hv <;> exact ⟨_, hv⟩) (Nat.le_of_ble_eq_true rfl) (Nat.le_of_ble_eq_true rfl) (ok_M_book (by decide) _ _ ν f1) ?_ rfl
  exact wl_eq 1118 dL_775 (by decide) (fun _ => kk _ _ s2) (fun z => absurd rfl z)
theorem il_L_92 : Cond.methodLink R_law 92 mX10_many.1 ∈ lwT := (lwT_4 (i := 151) (by decide +kernel) rfl)
theorem il_L_95 : Cond.methodLink R_law 95 mX11_many.1 ∈ lwT := (lwT_7 (i := 91) (by decide +kernel) rfl)
theorem law_18 {p : Program} {e : Env} {s : State} {m : MethodId} {below : List Frame} {meth : Method} {c : Code} {l : Launch} {b0 Lx i : Nat} {xs : Nat → Int32} {μ ν : Mm} (h : Sim μ ν) (hi : i + 6 ≤ Lx) (h3 : Lx ≤ 3072) (kk : ∀ μ2 ν2, Sim μ2 ν2 → WL l p e s m below meth c b0 Lx xs 1118 [some (.ref 2), some (.ref 0), some (.ref 1), some (.int (nI i))] [] μ2 ν2) : WL l p e s m below meth c b0 Lx xs 780 [some (.ref 2), some (.ref 0), some (.ref 1), some (.int (nI i))] [] μ ν := by
  obtain ⟨R, μ2, ν2, e1, f1, s2⟩ := op_many h (xs (ix (nI i + nI 1))) (xs (ix (nI i + nI 2)))
  refine wl_aload (n := 1) (x := 0) dL_780 rfl ?_
  refine wl_aload (n := 0) (x := 2) dL_781 rfl ?_
  refine wl_iload (n := 3) (x := nI i) dL_782 rfl ?_
  refine wl_iconst (nI 1) dL_783 rfl ?_
  refine wl_iadd dL_784 ?_
  refine wl_iald (i := nI i + nI 1) (by rw [nI_add]; exact vin_nI (by omega) (by omega)) dL_785 ?_
  refine wl_aload (n := 0) (x := 2) dL_786 rfl ?_
  refine wl_iload (n := 3) (x := nI i) dL_787 rfl ?_
  refine wl_iconst (nI 2) dL_788 rfl ?_
  refine wl_iadd dL_789 ?_
  refine wl_iald (i := nI i + nI 2) (by rw [nI_add]; exact vin_nI (by omega) (by omega)) dL_790 ?_
  refine wl_callC (M' := mX10_many) (n := 2) (as := [.int (xs (ix (nI i + nI 1))), .int (xs (ix (nI i + nI 2)))]) (rest := []) (μ2 := μ2) (r := R) mw_X10_many il_L_92 im_X10_many rfl dL_791 rfl (fun v hv => by simp only [List.mem_cons, List.not_mem_nil, or_false] at hv; rcases hv with hv | hv <;> exact ⟨_, hv⟩) (Nat.le_of_ble_eq_true rfl) (Nat.le_of_ble_eq_true rfl) (ok_Nine_many (by decide) _ _ μ e1) ?_ rfl
  refine wl_aload (n := 2) (x := 1) dL_794 rfl ?_
  refine wl_aload (n := 0) (x := 2) dL_795 rfl ?_
  refine wl_iload (n := 3) (x := nI i) dL_796 rfl ?_
  refine wl_iconst (nI 1) dL_797 rfl ?_
  refine wl_iadd dL_798 ?_
  refine wl_iald (i := nI i + nI 1) (by rw [nI_add]; exact vin_nI (by omega) (by omega)) dL_799 ?_
  refine wl_aload (n := 0) (x := 2) dL_800 rfl ?_
  refine wl_iload (n := 3) (x := nI i) dL_801 rfl ?_
  refine wl_iconst (nI 2) dL_802 rfl ?_
  refine wl_iadd dL_803 ?_
  refine wl_iald (i := nI i + nI 2) (by rw [nI_add]; exact vin_nI (by omega) (by omega)) dL_804 ?_
  refine wl_callM (M' := mX11_many) (n := 2) (as := [.int (xs (ix (nI i + nI 1))), .int (xs (ix (nI i + nI 2)))]) (rest := [.int R]) (μ2 := ν2) (r := R) mw_X11_many il_L_95 im_X11_many rfl dL_805 rfl (fun v hv => by simp only [List.mem_cons, List.not_mem_nil, or_false] at hv; rcases hv with hv | hv <;> exact ⟨_, hv⟩) (Nat.le_of_ble_eq_true rfl) (Nat.le_of_ble_eq_true rfl) (ok_M_many (by decide) _ _ ν f1) ?_ rfl
  exact wl_eq 1118 dL_808 (by decide) (fun _ => kk _ _ s2) (fun z => absurd rfl z)
theorem il_L_96 : Cond.methodLink R_law 96 mX10_over.1 ∈ lwT := (lwT_4 (i := 167) (by decide +kernel) rfl)
theorem il_L_100 : Cond.methodLink R_law 100 mX11_over.1 ∈ lwT := (lwT_7 (i := 111) (by decide +kernel) rfl)
theorem law_19 {p : Program} {e : Env} {s : State} {m : MethodId} {below : List Frame} {meth : Method} {c : Code} {l : Launch} {b0 Lx i : Nat} {xs : Nat → Int32} {μ ν : Mm} (h : Sim μ ν) (hi : i + 6 ≤ Lx) (h3 : Lx ≤ 3072) (kk : ∀ μ2 ν2, Sim μ2 ν2 → WL l p e s m below meth c b0 Lx xs 1118 [some (.ref 2), some (.ref 0), some (.ref 1), some (.int (nI i))] [] μ2 ν2) : WL l p e s m below meth c b0 Lx xs 813 [some (.ref 2), some (.ref 0), some (.ref 1), some (.int (nI i))] [] μ ν := by
  obtain ⟨R, μ2, ν2, e1, f1, s2⟩ := op_over h
  refine wl_aload (n := 1) (x := 0) dL_813 rfl ?_
  refine wl_callC (M' := mX10_over) (n := 0) (as := []) (rest := []) (μ2 := μ2) (r := R) mw_X10_over il_L_96 im_X10_over rfl dL_814 rfl (fun v hv => absurd hv List.not_mem_nil) (Nat.le_of_ble_eq_true rfl) (Nat.le_of_ble_eq_true rfl) (ok_Nine_over (by decide) μ e1) ?_ rfl
  refine wl_aload (n := 2) (x := 1) dL_817 rfl ?_
  refine wl_callM (M' := mX11_over) (n := 0) (as := []) (rest := [.int R]) (μ2 := ν2) (r := R) mw_X11_over il_L_100 im_X11_over rfl dL_818 rfl (fun v hv => absurd hv List.not_mem_nil) (Nat.le_of_ble_eq_true rfl) (Nat.le_of_ble_eq_true rfl) (ok_M_over (by decide) ν f1) ?_ rfl
  exact wl_eq 1118 dL_821 (by decide) (fun _ => kk _ _ s2) (fun z => absurd rfl z)
theorem il_L_101 : Cond.methodLink R_law 101 mX10_stop.1 ∈ lwT := (lwT_4 (i := 175) (by decide +kernel) rfl)
theorem il_L_104 : Cond.methodLink R_law 104 mX11_stop.1 ∈ lwT := (lwT_7 (i := 123) (by decide +kernel) rfl)
theorem law_20 {p : Program} {e : Env} {s : State} {m : MethodId} {below : List Frame} {meth : Method} {c : Code} {l : Launch} {b0 Lx i : Nat} {xs : Nat → Int32} {μ ν : Mm} (h : Sim μ ν) (hi : i + 6 ≤ Lx) (h3 : Lx ≤ 3072) (kk : ∀ μ2 ν2, Sim μ2 ν2 → WL l p e s m below meth c b0 Lx xs 1118 [some (.ref 2), some (.ref 0), some (.ref 1), some (.int (nI i))] [] μ2 ν2) : WL l p e s m below meth c b0 Lx xs 826 [some (.ref 2), some (.ref 0), some (.ref 1), some (.int (nI i))] [] μ ν := by
  obtain ⟨R, μ2, ν2, e1, f1, s2⟩ := op_stop h (xs (ix (nI i + nI 1)))
  refine wl_aload (n := 1) (x := 0) dL_826 rfl ?_
  refine wl_aload (n := 0) (x := 2) dL_827 rfl ?_
  refine wl_iload (n := 3) (x := nI i) dL_828 rfl ?_
  refine wl_iconst (nI 1) dL_829 rfl ?_
  refine wl_iadd dL_830 ?_
  refine wl_iald (i := nI i + nI 1) (by rw [nI_add]; exact vin_nI (by omega) (by omega)) dL_831 ?_
  refine wl_callC (M' := mX10_stop) (n := 1) (as := [.int (xs (ix (nI i + nI 1)))]) (rest := []) (μ2 := μ2) (r := R) mw_X10_stop il_L_101 im_X10_stop rfl dL_832 rfl (fun v hv => by simp only [List.mem_cons, List.not_mem_nil, or_false] at hv; exact ⟨_, hv⟩) (Nat.le_of_ble_eq_true rfl) (Nat.le_of_ble_eq_true rfl) (ok_Nine_stop (by decide) _ μ e1) ?_ rfl
  refine wl_aload (n := 2) (x := 1) dL_835 rfl ?_
  refine wl_aload (n := 0) (x := 2) dL_836 rfl ?_
  refine wl_iload (n := 3) (x := nI i) dL_837 rfl ?_
  refine wl_iconst (nI 1) dL_838 rfl ?_
  refine wl_iadd dL_839 ?_
  refine wl_iald (i := nI i + nI 1) (by rw [nI_add]; exact vin_nI (by omega) (by omega)) dL_840 ?_
  refine wl_callM (M' := mX11_stop) (n := 1) (as := [.int (xs (ix (nI i + nI 1)))]) (rest := [.int R]) (μ2 := ν2) (r := R) mw_X11_stop il_L_104 im_X11_stop rfl dL_841 rfl (fun v hv => by simp only [List.mem_cons, List.not_mem_nil, or_false] at hv; exact ⟨_, hv⟩) (Nat.le_of_ble_eq_true rfl) (Nat.le_of_ble_eq_true rfl) (ok_M_stop (by decide) _ ν f1) ?_ rfl
  exact wl_eq 1118 dL_844 (by decide) (fun _ => kk _ _ s2) (fun z => absurd rfl z)
theorem il_L_105 : Cond.methodLink R_law 105 mX10_reach.1 ∈ lwT := (lwT_4 (i := 191) (by decide +kernel) rfl)
theorem il_L_108 : Cond.methodLink R_law 108 mX11_reach.1 ∈ lwT := (lwT_7 (i := 131) (by decide +kernel) rfl)
theorem law_21 {p : Program} {e : Env} {s : State} {m : MethodId} {below : List Frame} {meth : Method} {c : Code} {l : Launch} {b0 Lx i : Nat} {xs : Nat → Int32} {μ ν : Mm} (h : Sim μ ν) (hi : i + 6 ≤ Lx) (h3 : Lx ≤ 3072) (kk : ∀ μ2 ν2, Sim μ2 ν2 → WL l p e s m below meth c b0 Lx xs 1118 [some (.ref 2), some (.ref 0), some (.ref 1), some (.int (nI i))] [] μ2 ν2) : WL l p e s m below meth c b0 Lx xs 849 [some (.ref 2), some (.ref 0), some (.ref 1), some (.int (nI i))] [] μ ν := by
  obtain ⟨R, ν2, e1, f1, s2⟩ := op_reach h (xs (ix (nI i + nI 1)))
  refine wl_aload (n := 1) (x := 0) dL_849 rfl ?_
  refine wl_aload (n := 0) (x := 2) dL_850 rfl ?_
  refine wl_iload (n := 3) (x := nI i) dL_851 rfl ?_
  refine wl_iconst (nI 1) dL_852 rfl ?_
  refine wl_iadd dL_853 ?_
  refine wl_iald (i := nI i + nI 1) (by rw [nI_add]; exact vin_nI (by omega) (by omega)) dL_854 ?_
  refine wl_callC (M' := mX10_reach) (n := 1) (as := [.int (xs (ix (nI i + nI 1)))]) (rest := []) (μ2 := μ) (r := R) mw_X10_reach il_L_105 im_X10_reach rfl dL_855 rfl (fun v hv => by simp only [List.mem_cons, List.not_mem_nil, or_false] at hv; exact ⟨_, hv⟩) (Nat.le_of_ble_eq_true rfl) (Nat.le_of_ble_eq_true rfl) (ok_Nine_reach (by decide) _ μ e1) ?_ rfl
  refine wl_aload (n := 2) (x := 1) dL_858 rfl ?_
  refine wl_aload (n := 0) (x := 2) dL_859 rfl ?_
  refine wl_iload (n := 3) (x := nI i) dL_860 rfl ?_
  refine wl_iconst (nI 1) dL_861 rfl ?_
  refine wl_iadd dL_862 ?_
  refine wl_iald (i := nI i + nI 1) (by rw [nI_add]; exact vin_nI (by omega) (by omega)) dL_863 ?_
  refine wl_callM (M' := mX11_reach) (n := 1) (as := [.int (xs (ix (nI i + nI 1)))]) (rest := [.int R]) (μ2 := ν2) (r := R) mw_X11_reach il_L_108 im_X11_reach rfl dL_864 rfl (fun v hv => by simp only [List.mem_cons, List.not_mem_nil, or_false] at hv; exact ⟨_, hv⟩) (Nat.le_of_ble_eq_true rfl) (Nat.le_of_ble_eq_true rfl) (ok_M_reach (by decide) _ ν f1) ?_ rfl
  exact wl_eq 1118 dL_867 (by decide) (fun _ => kk _ _ s2) (fun z => absurd rfl z)
theorem il_L_109 : Cond.methodLink R_law 109 mX10_sources.1 ∈ lwT := (lwT_4 (i := 203) (by decide +kernel) rfl)
theorem il_L_112 : Cond.methodLink R_law 112 mX11_sources.1 ∈ lwT := (lwT_7 (i := 143) (by decide +kernel) rfl)
theorem law_22 {p : Program} {e : Env} {s : State} {m : MethodId} {below : List Frame} {meth : Method} {c : Code} {l : Launch} {b0 Lx i : Nat} {xs : Nat → Int32} {μ ν : Mm} (h : Sim μ ν) (hi : i + 6 ≤ Lx) (h3 : Lx ≤ 3072) (kk : ∀ μ2 ν2, Sim μ2 ν2 → WL l p e s m below meth c b0 Lx xs 1118 [some (.ref 2), some (.ref 0), some (.ref 1), some (.int (nI i))] [] μ2 ν2) : WL l p e s m below meth c b0 Lx xs 872 [some (.ref 2), some (.ref 0), some (.ref 1), some (.int (nI i))] [] μ ν := by
  obtain ⟨R, ν2, e1, f1, s2⟩ := op_sources h (xs (ix (nI i + nI 1))) (xs (ix (nI i + nI 2)))
  refine wl_aload (n := 1) (x := 0) dL_872 rfl ?_
  refine wl_aload (n := 0) (x := 2) dL_873 rfl ?_
  refine wl_iload (n := 3) (x := nI i) dL_874 rfl ?_
  refine wl_iconst (nI 1) dL_875 rfl ?_
  refine wl_iadd dL_876 ?_
  refine wl_iald (i := nI i + nI 1) (by rw [nI_add]; exact vin_nI (by omega) (by omega)) dL_877 ?_
  refine wl_aload (n := 0) (x := 2) dL_878 rfl ?_
  refine wl_iload (n := 3) (x := nI i) dL_879 rfl ?_
  refine wl_iconst (nI 2) dL_880 rfl ?_
  refine wl_iadd dL_881 ?_
  refine wl_iald (i := nI i + nI 2) (by rw [nI_add]; exact vin_nI (by omega) (by omega)) dL_882 ?_
  refine wl_callC (M' := mX10_sources) (n := 2) (as := [.int (xs (ix (nI i + nI 1))), .int (xs (ix (nI i + nI 2)))]) (rest := []) (μ2 := μ) (r := R) mw_X10_sources il_L_109 im_X10_sources rfl dL_883 rfl (fun v hv => by simp only [List.mem_cons, List.not_mem_nil, or_false] at hv; rcases hv with hv | hv <;> exact ⟨_, hv⟩) (Nat.le_of_ble_eq_true rfl) (Nat.le_of_ble_eq_true rfl) (ok_Nine_sources (by decide) _ _ μ e1) ?_ rfl
  refine wl_aload (n := 2) (x := 1) dL_886 rfl ?_
  refine wl_aload (n := 0) (x := 2) dL_887 rfl ?_
  refine wl_iload (n := 3) (x := nI i) dL_888 rfl ?_
  refine wl_iconst (nI 1) dL_889 rfl ?_
  refine wl_iadd dL_890 ?_
  refine wl_iald (i := nI i + nI 1) (by rw [nI_add]; exact vin_nI (by omega) (by omega)) dL_891 ?_
  refine wl_aload (n := 0) (x := 2) dL_892 rfl ?_
  refine wl_iload (n := 3) (x := nI i) dL_893 rfl ?_
  refine wl_iconst (nI 2) dL_894 rfl ?_
  refine wl_iadd dL_895 ?_
  refine wl_iald (i := nI i + nI 2) (by rw [nI_add]; exact vin_nI (by omega) (by omega)) dL_896 ?_
  refine wl_callM (M' := mX11_sources) (n := 2) (as := [.int (xs (ix (nI i + nI 1))), .int (xs (ix (nI i + nI 2)))]) (rest := [.int R]) (μ2 := ν2) (r := R) mw_X11_sources il_L_112 im_X11_sources rfl dL_897 rfl (fun v hv => by simp only [List.mem_cons, List.not_mem_nil, or_false] at hv; rcases hv with hv | hv <;> exact ⟨_, hv⟩) (Nat.le_of_ble_eq_true rfl) (Nat.le_of_ble_eq_true rfl) (ok_M_sources (by decide) _ _ ν f1) ?_ rfl
  exact wl_eq 1118 dL_900 (by decide) (fun _ => kk _ _ s2) (fun z => absurd rfl z)
theorem il_L_113 : Cond.methodLink R_law 113 mX10_circle.1 ∈ lwT := (lwT_4 (i := 207) (by decide +kernel) rfl)
theorem il_L_116 : Cond.methodLink R_law 116 mX11_circle.1 ∈ lwT := (lwT_7 (i := 147) (by decide +kernel) rfl)
theorem law_23 {p : Program} {e : Env} {s : State} {m : MethodId} {below : List Frame} {meth : Method} {c : Code} {l : Launch} {b0 Lx i : Nat} {xs : Nat → Int32} {μ ν : Mm} (h : Sim μ ν) (hi : i + 6 ≤ Lx) (h3 : Lx ≤ 3072) (kk : ∀ μ2 ν2, Sim μ2 ν2 → WL l p e s m below meth c b0 Lx xs 1118 [some (.ref 2), some (.ref 0), some (.ref 1), some (.int (nI i))] [] μ2 ν2) : WL l p e s m below meth c b0 Lx xs 905 [some (.ref 2), some (.ref 0), some (.ref 1), some (.int (nI i))] [] μ ν := by
  obtain ⟨R, ν2, e1, f1, s2⟩ := op_circle h (xs (ix (nI i + nI 1)))
  refine wl_aload (n := 1) (x := 0) dL_905 rfl ?_
  refine wl_aload (n := 0) (x := 2) dL_906 rfl ?_
  refine wl_iload (n := 3) (x := nI i) dL_907 rfl ?_
  refine wl_iconst (nI 1) dL_908 rfl ?_
  refine wl_iadd dL_909 ?_
  refine wl_iald (i := nI i + nI 1) (by rw [nI_add]; exact vin_nI (by omega) (by omega)) dL_910 ?_
  refine wl_callC (M' := mX10_circle) (n := 1) (as := [.int (xs (ix (nI i + nI 1)))]) (rest := []) (μ2 := μ) (r := R) mw_X10_circle il_L_113 im_X10_circle rfl dL_911 rfl (fun v hv => by simp only [List.mem_cons, List.not_mem_nil, or_false] at hv; exact ⟨_, hv⟩) (Nat.le_of_ble_eq_true rfl) (Nat.le_of_ble_eq_true rfl) (ok_Nine_circle (by decide) _ μ e1) ?_ rfl
  refine wl_aload (n := 2) (x := 1) dL_914 rfl ?_
  refine wl_aload (n := 0) (x := 2) dL_915 rfl ?_
  refine wl_iload (n := 3) (x := nI i) dL_916 rfl ?_
  refine wl_iconst (nI 1) dL_917 rfl ?_
  refine wl_iadd dL_918 ?_
  refine wl_iald (i := nI i + nI 1) (by rw [nI_add]; exact vin_nI (by omega) (by omega)) dL_919 ?_
  refine wl_callM (M' := mX11_circle) (n := 1) (as := [.int (xs (ix (nI i + nI 1)))]) (rest := [.int R]) (μ2 := ν2) (r := R) mw_X11_circle il_L_116 im_X11_circle rfl dL_920 rfl (fun v hv => by simp only [List.mem_cons, List.not_mem_nil, or_false] at hv; exact ⟨_, hv⟩) (Nat.le_of_ble_eq_true rfl) (Nat.le_of_ble_eq_true rfl) (ok_M_circle (by decide) _ ν f1) ?_ rfl
  exact wl_eq 1118 dL_923 (by decide) (fun _ => kk _ _ s2) (fun z => absurd rfl z)
theorem il_L_117 : Cond.methodLink R_law 117 mX10_pick.1 ∈ lwT := (lwT_4 (i := 211) (by decide +kernel) rfl)
theorem il_L_120 : Cond.methodLink R_law 120 mX11_pick.1 ∈ lwT := (lwT_7 (i := 151) (by decide +kernel) rfl)
theorem law_24 {p : Program} {e : Env} {s : State} {m : MethodId} {below : List Frame} {meth : Method} {c : Code} {l : Launch} {b0 Lx i : Nat} {xs : Nat → Int32} {μ ν : Mm} (h : Sim μ ν) (hi : i + 6 ≤ Lx) (h3 : Lx ≤ 3072) (kk : ∀ μ2 ν2, Sim μ2 ν2 → WL l p e s m below meth c b0 Lx xs 1118 [some (.ref 2), some (.ref 0), some (.ref 1), some (.int (nI i))] [] μ2 ν2) : WL l p e s m below meth c b0 Lx xs 928 [some (.ref 2), some (.ref 0), some (.ref 1), some (.int (nI i))] [] μ ν := by
  obtain ⟨R, μ2, ν2, e1, f1, s2⟩ := op_pick h (xs (ix (nI i + nI 1)))
  refine wl_aload (n := 1) (x := 0) dL_928 rfl ?_
  refine wl_aload (n := 0) (x := 2) dL_929 rfl ?_
  refine wl_iload (n := 3) (x := nI i) dL_930 rfl ?_
  refine wl_iconst (nI 1) dL_931 rfl ?_
  refine wl_iadd dL_932 ?_
  refine wl_iald (i := nI i + nI 1) (by rw [nI_add]; exact vin_nI (by omega) (by omega)) dL_933 ?_
  refine wl_callC (M' := mX10_pick) (n := 1) (as := [.int (xs (ix (nI i + nI 1)))]) (rest := []) (μ2 := μ2) (r := R) mw_X10_pick il_L_117 im_X10_pick rfl dL_934 rfl (fun v hv => by simp only [List.mem_cons, List.not_mem_nil, or_false] at hv; exact ⟨_, hv⟩) (Nat.le_of_ble_eq_true rfl) (Nat.le_of_ble_eq_true rfl) (ok_Nine_pick (by decide) _ μ e1) ?_ rfl
  refine wl_aload (n := 2) (x := 1) dL_937 rfl ?_
  refine wl_aload (n := 0) (x := 2) dL_938 rfl ?_
  refine wl_iload (n := 3) (x := nI i) dL_939 rfl ?_
  refine wl_iconst (nI 1) dL_940 rfl ?_
  refine wl_iadd dL_941 ?_
  refine wl_iald (i := nI i + nI 1) (by rw [nI_add]; exact vin_nI (by omega) (by omega)) dL_942 ?_
  refine wl_callM (M' := mX11_pick) (n := 1) (as := [.int (xs (ix (nI i + nI 1)))]) (rest := [.int R]) (μ2 := ν2) (r := R) mw_X11_pick il_L_120 im_X11_pick rfl dL_943 rfl (fun v hv => by simp only [List.mem_cons, List.not_mem_nil, or_false] at hv; exact ⟨_, hv⟩) (Nat.le_of_ble_eq_true rfl) (Nat.le_of_ble_eq_true rfl) (ok_M_pick (by decide) _ ν f1) ?_ rfl
  exact wl_eq 1118 dL_946 (by decide) (fun _ => kk _ _ s2) (fun z => absurd rfl z)
theorem il_L_121 : Cond.methodLink R_law 121 mX10_join.1 ∈ lwT := (lwT_4 (i := 223) (by decide +kernel) rfl)
theorem il_L_124 : Cond.methodLink R_law 124 mX11_join.1 ∈ lwT := (lwT_7 (i := 155) (by decide +kernel) rfl)
theorem law_25 {p : Program} {e : Env} {s : State} {m : MethodId} {below : List Frame} {meth : Method} {c : Code} {l : Launch} {b0 Lx i : Nat} {xs : Nat → Int32} {μ ν : Mm} (h : Sim μ ν) (hi : i + 6 ≤ Lx) (h3 : Lx ≤ 3072) (kk : ∀ μ2 ν2, Sim μ2 ν2 → WL l p e s m below meth c b0 Lx xs 1118 [some (.ref 2), some (.ref 0), some (.ref 1), some (.int (nI i))] [] μ2 ν2) : WL l p e s m below meth c b0 Lx xs 951 [some (.ref 2), some (.ref 0), some (.ref 1), some (.int (nI i))] [] μ ν := by
  obtain ⟨R, ν2, e1, f1, s2⟩ := op_join h
  refine wl_aload (n := 1) (x := 0) dL_951 rfl ?_
  refine wl_callC (M' := mX10_join) (n := 0) (as := []) (rest := []) (μ2 := μ) (r := R) mw_X10_join il_L_121 im_X10_join rfl dL_952 rfl (fun v hv => absurd hv List.not_mem_nil) (Nat.le_of_ble_eq_true rfl) (Nat.le_of_ble_eq_true rfl) (ok_Nine_join (by decide) μ e1) ?_ rfl
  refine wl_aload (n := 2) (x := 1) dL_955 rfl ?_
  refine wl_callM (M' := mX11_join) (n := 0) (as := []) (rest := [.int R]) (μ2 := ν2) (r := R) mw_X11_join il_L_124 im_X11_join rfl dL_956 rfl (fun v hv => absurd hv List.not_mem_nil) (Nat.le_of_ble_eq_true rfl) (Nat.le_of_ble_eq_true rfl) (ok_M_join (by decide) ν f1) ?_ rfl
  exact wl_eq 1118 dL_959 (by decide) (fun _ => kk _ _ s2) (fun z => absurd rfl z)
theorem il_L_125 : Cond.methodLink R_law 125 mX10_forebear.1 ∈ lwT := (lwT_4 (i := 238) (by decide +kernel) rfl)
theorem il_L_128 : Cond.methodLink R_law 128 mX11_forebear.1 ∈ lwT := (lwT_7 (i := 168) (by decide +kernel) rfl)
theorem law_26 {p : Program} {e : Env} {s : State} {m : MethodId} {below : List Frame} {meth : Method} {c : Code} {l : Launch} {b0 Lx i : Nat} {xs : Nat → Int32} {μ ν : Mm} (h : Sim μ ν) (hi : i + 6 ≤ Lx) (h3 : Lx ≤ 3072) (kk : ∀ μ2 ν2, Sim μ2 ν2 → WL l p e s m below meth c b0 Lx xs 1118 [some (.ref 2), some (.ref 0), some (.ref 1), some (.int (nI i))] [] μ2 ν2) : WL l p e s m below meth c b0 Lx xs 964 [some (.ref 2), some (.ref 0), some (.ref 1), some (.int (nI i))] [] μ ν := by
  obtain ⟨R, ν2, e1, f1, s2⟩ := op_forebear h (xs (ix (nI i + nI 1))) (xs (ix (nI i + nI 2)))
  refine wl_aload (n := 1) (x := 0) dL_964 rfl ?_
  refine wl_aload (n := 0) (x := 2) dL_965 rfl ?_
  refine wl_iload (n := 3) (x := nI i) dL_966 rfl ?_
  refine wl_iconst (nI 1) dL_967 rfl ?_
  refine wl_iadd dL_968 ?_
  refine wl_iald (i := nI i + nI 1) (by rw [nI_add]; exact vin_nI (by omega) (by omega)) dL_969 ?_
  refine wl_aload (n := 0) (x := 2) dL_970 rfl ?_
  refine wl_iload (n := 3) (x := nI i) dL_971 rfl ?_
  refine wl_iconst (nI 2) dL_972 rfl ?_
  refine wl_iadd dL_973 ?_
  refine wl_iald (i := nI i + nI 2) (by rw [nI_add]; exact vin_nI (by omega) (by omega)) dL_974 ?_
  refine wl_callC (M' := mX10_forebear) (n := 2) (as := [.int (xs (ix (nI i + nI 1))), .int (xs (ix (nI i + nI 2)))]) (rest := []) (μ2 := μ) (r := R) mw_X10_forebear il_L_125 im_X10_forebear rfl dL_975 rfl (fun v hv => by simp only [List.mem_cons, List.not_mem_nil, or_false] at hv; rcases hv with hv | hv <;> exact ⟨_, hv⟩) (Nat.le_of_ble_eq_true rfl) (Nat.le_of_ble_eq_true rfl) (ok_Nine_forebear (by decide) _ _ μ e1) ?_ rfl
  refine wl_aload (n := 2) (x := 1) dL_978 rfl ?_
  refine wl_aload (n := 0) (x := 2) dL_979 rfl ?_
  refine wl_iload (n := 3) (x := nI i) dL_980 rfl ?_
  refine wl_iconst (nI 1) dL_981 rfl ?_
  refine wl_iadd dL_982 ?_
  refine wl_iald (i := nI i + nI 1) (by rw [nI_add]; exact vin_nI (by omega) (by omega)) dL_983 ?_
  refine wl_aload (n := 0) (x := 2) dL_984 rfl ?_
  refine wl_iload (n := 3) (x := nI i) dL_985 rfl ?_
  refine wl_iconst (nI 2) dL_986 rfl ?_
  refine wl_iadd dL_987 ?_
  refine wl_iald (i := nI i + nI 2) (by rw [nI_add]; exact vin_nI (by omega) (by omega)) dL_988 ?_
  refine wl_callM (M' := mX11_forebear) (n := 2) (as := [.int (xs (ix (nI i + nI 1))), .int (xs (ix (nI i + nI 2)))]) (rest := [.int R]) (μ2 := ν2) (r := R) mw_X11_forebear il_L_128 im_X11_forebear rfl dL_989 rfl (fun v hv => by simp only [List.mem_cons, List.not_mem_nil, or_false] at hv; rcases hv with hv | hv <;> exact ⟨_, hv⟩) (Nat.le_of_ble_eq_true rfl) (Nat.le_of_ble_eq_true rfl) (ok_M_forebear (by decide) _ _ ν f1) ?_ rfl
  exact wl_eq 1118 dL_992 (by decide) (fun _ => kk _ _ s2) (fun z => absurd rfl z)
theorem il_L_129 : Cond.methodLink R_law 129 mX10_lasts.1 ∈ lwT := (lwT_5 (i := 6) (by decide +kernel) rfl)
theorem il_L_132 : Cond.methodLink R_law 132 mX11_lasts.1 ∈ lwT := (lwT_7 (i := 172) (by decide +kernel) rfl)
theorem law_27 {p : Program} {e : Env} {s : State} {m : MethodId} {below : List Frame} {meth : Method} {c : Code} {l : Launch} {b0 Lx i : Nat} {xs : Nat → Int32} {μ ν : Mm} (h : Sim μ ν) (hi : i + 6 ≤ Lx) (h3 : Lx ≤ 3072) (kk : ∀ μ2 ν2, Sim μ2 ν2 → WL l p e s m below meth c b0 Lx xs 1118 [some (.ref 2), some (.ref 0), some (.ref 1), some (.int (nI i))] [] μ2 ν2) : WL l p e s m below meth c b0 Lx xs 997 [some (.ref 2), some (.ref 0), some (.ref 1), some (.int (nI i))] [] μ ν := by
  obtain ⟨R, μ2, ν2, e1, f1, s2⟩ := op_lasts h (xs (ix (nI i + nI 1)))
  refine wl_aload (n := 1) (x := 0) dL_997 rfl ?_
  refine wl_aload (n := 0) (x := 2) dL_998 rfl ?_
  refine wl_iload (n := 3) (x := nI i) dL_999 rfl ?_
  refine wl_iconst (nI 1) dL_1000 rfl ?_
  refine wl_iadd dL_1001 ?_
  refine wl_iald (i := nI i + nI 1) (by rw [nI_add]; exact vin_nI (by omega) (by omega)) dL_1002 ?_
  refine wl_callC (M' := mX10_lasts) (n := 1) (as := [.int (xs (ix (nI i + nI 1)))]) (rest := []) (μ2 := μ2) (r := R) mw_X10_lasts il_L_129 im_X10_lasts rfl dL_1003 rfl (fun v hv => by simp only [List.mem_cons, List.not_mem_nil, or_false] at hv; exact ⟨_, hv⟩) (Nat.le_of_ble_eq_true rfl) (Nat.le_of_ble_eq_true rfl) (ok_Nine_lasts (by decide) _ μ e1) ?_ rfl
  refine wl_aload (n := 2) (x := 1) dL_1006 rfl ?_
  refine wl_aload (n := 0) (x := 2) dL_1007 rfl ?_
  refine wl_iload (n := 3) (x := nI i) dL_1008 rfl ?_
  refine wl_iconst (nI 1) dL_1009 rfl ?_
  refine wl_iadd dL_1010 ?_
  refine wl_iald (i := nI i + nI 1) (by rw [nI_add]; exact vin_nI (by omega) (by omega)) dL_1011 ?_
  refine wl_callM (M' := mX11_lasts) (n := 1) (as := [.int (xs (ix (nI i + nI 1)))]) (rest := [.int R]) (μ2 := ν2) (r := R) mw_X11_lasts il_L_132 im_X11_lasts rfl dL_1012 rfl (fun v hv => by simp only [List.mem_cons, List.not_mem_nil, or_false] at hv; exact ⟨_, hv⟩) (Nat.le_of_ble_eq_true rfl) (Nat.le_of_ble_eq_true rfl) (ok_M_lasts (by decide) _ ν f1) ?_ rfl
  exact wl_eq 1118 dL_1015 (by decide) (fun _ => kk _ _ s2) (fun z => absurd rfl z)
theorem il_L_133 : Cond.methodLink R_law 133 mX10_knows.1 ∈ lwT := (lwT_5 (i := 18) (by decide +kernel) rfl)
theorem il_L_136 : Cond.methodLink R_law 136 mX11_knows.1 ∈ lwT := (lwT_7 (i := 180) (by decide +kernel) rfl)
theorem law_28 {p : Program} {e : Env} {s : State} {m : MethodId} {below : List Frame} {meth : Method} {c : Code} {l : Launch} {b0 Lx i : Nat} {xs : Nat → Int32} {μ ν : Mm} (h : Sim μ ν) (hi : i + 6 ≤ Lx) (h3 : Lx ≤ 3072) (kk : ∀ μ2 ν2, Sim μ2 ν2 → WL l p e s m below meth c b0 Lx xs 1118 [some (.ref 2), some (.ref 0), some (.ref 1), some (.int (nI i))] [] μ2 ν2) : WL l p e s m below meth c b0 Lx xs 1020 [some (.ref 2), some (.ref 0), some (.ref 1), some (.int (nI i))] [] μ ν := by
  obtain ⟨R, ν2, e1, f1, s2⟩ := op_knows h (xs (ix (nI i + nI 1)))
  refine wl_aload (n := 1) (x := 0) dL_1020 rfl ?_
  refine wl_aload (n := 0) (x := 2) dL_1021 rfl ?_
  refine wl_iload (n := 3) (x := nI i) dL_1022 rfl ?_
  refine wl_iconst (nI 1) dL_1023 rfl ?_
  refine wl_iadd dL_1024 ?_
  refine wl_iald (i := nI i + nI 1) (by rw [nI_add]; exact vin_nI (by omega) (by omega)) dL_1025 ?_
  refine wl_callC (M' := mX10_knows) (n := 1) (as := [.int (xs (ix (nI i + nI 1)))]) (rest := []) (μ2 := μ) (r := R) mw_X10_knows il_L_133 im_X10_knows rfl dL_1026 rfl (fun v hv => by simp only [List.mem_cons, List.not_mem_nil, or_false] at hv; exact ⟨_, hv⟩) (Nat.le_of_ble_eq_true rfl) (Nat.le_of_ble_eq_true rfl) (ok_Nine_knows (by decide) _ μ e1) ?_ rfl
  refine wl_aload (n := 2) (x := 1) dL_1029 rfl ?_
  refine wl_aload (n := 0) (x := 2) dL_1030 rfl ?_
  refine wl_iload (n := 3) (x := nI i) dL_1031 rfl ?_
  refine wl_iconst (nI 1) dL_1032 rfl ?_
  refine wl_iadd dL_1033 ?_
  refine wl_iald (i := nI i + nI 1) (by rw [nI_add]; exact vin_nI (by omega) (by omega)) dL_1034 ?_
  refine wl_callM (M' := mX11_knows) (n := 1) (as := [.int (xs (ix (nI i + nI 1)))]) (rest := [.int R]) (μ2 := ν2) (r := R) mw_X11_knows il_L_136 im_X11_knows rfl dL_1035 rfl (fun v hv => by simp only [List.mem_cons, List.not_mem_nil, or_false] at hv; exact ⟨_, hv⟩) (Nat.le_of_ble_eq_true rfl) (Nat.le_of_ble_eq_true rfl) (ok_M_knows (by decide) _ ν f1) ?_ rfl
  exact wl_eq 1118 dL_1038 (by decide) (fun _ => kk _ _ s2) (fun z => absurd rfl z)
theorem il_L_137 : Cond.methodLink R_law 137 mX10_undo.1 ∈ lwT := (lwT_5 (i := 22) (by decide +kernel) rfl)
theorem il_L_141 : Cond.methodLink R_law 141 mX11_undo.1 ∈ lwT := (lwT_5 (i := 209) (by decide +kernel) rfl)
theorem law_29 {p : Program} {e : Env} {s : State} {m : MethodId} {below : List Frame} {meth : Method} {c : Code} {l : Launch} {b0 Lx i : Nat} {xs : Nat → Int32} {μ ν : Mm} (h : Sim μ ν) (hi : i + 6 ≤ Lx) (h3 : Lx ≤ 3072) (kk : ∀ μ2 ν2, Sim μ2 ν2 → WL l p e s m below meth c b0 Lx xs 1118 [some (.ref 2), some (.ref 0), some (.ref 1), some (.int (nI i))] [] μ2 ν2) : WL l p e s m below meth c b0 Lx xs 1043 [some (.ref 2), some (.ref 0), some (.ref 1), some (.int (nI i))] [] μ ν := by
  obtain ⟨R, μ2, ν2, e1, f1, s2⟩ := op_undo h
  refine wl_aload (n := 1) (x := 0) dL_1043 rfl ?_
  refine wl_callC (M' := mX10_undo) (n := 0) (as := []) (rest := []) (μ2 := μ2) (r := R) mw_X10_undo il_L_137 im_X10_undo rfl dL_1044 rfl (fun v hv => absurd hv List.not_mem_nil) (Nat.le_of_ble_eq_true rfl) (Nat.le_of_ble_eq_true rfl) (ok_Nine_undo (by decide) μ e1) ?_ rfl
  refine wl_aload (n := 2) (x := 1) dL_1047 rfl ?_
  refine wl_callM (M' := mX11_undo) (n := 0) (as := []) (rest := [.int R]) (μ2 := ν2) (r := R) mw_X11_undo il_L_141 im_X11_undo rfl dL_1048 rfl (fun v hv => absurd hv List.not_mem_nil) (Nat.le_of_ble_eq_true rfl) (Nat.le_of_ble_eq_true rfl) (ok_M_undo (by decide) ν f1) ?_ rfl
  exact wl_eq 1118 dL_1051 (by decide) (fun _ => kk _ _ s2) (fun z => absurd rfl z)
theorem il_L_142 : Cond.methodLink R_law 142 mX10_image.1 ∈ lwT := (lwT_5 (i := 30) (by decide +kernel) rfl)
theorem il_L_146 : Cond.methodLink R_law 146 mX11_image.1 ∈ lwT := (lwT_7 (i := 184) (by decide +kernel) rfl)
theorem law_30 {p : Program} {e : Env} {s : State} {m : MethodId} {below : List Frame} {meth : Method} {c : Code} {l : Launch} {b0 Lx i : Nat} {xs : Nat → Int32} {μ ν : Mm} (h : Sim μ ν) (hi : i + 6 ≤ Lx) (h3 : Lx ≤ 3072) (kk : ∀ μ2 ν2, Sim μ2 ν2 → WL l p e s m below meth c b0 Lx xs 1118 [some (.ref 2), some (.ref 0), some (.ref 1), some (.int (nI i))] [] μ2 ν2) : WL l p e s m below meth c b0 Lx xs 1056 [some (.ref 2), some (.ref 0), some (.ref 1), some (.int (nI i))] [] μ ν := by
  by_cases c0 : (xs (ix (nI i + nI 1))) = 0
  · obtain ⟨R, μ2, ν2, e1, f1, s2⟩ := op_image h (b := 0) (by decide)
    refine wl_aload (n := 1) (x := 0) dL_1056 rfl ?_
    refine wl_aload (n := 0) (x := 2) dL_1057 rfl ?_
    refine wl_iload (n := 3) (x := nI i) dL_1058 rfl ?_
    refine wl_iconst (nI 1) dL_1059 rfl ?_
    refine wl_iadd dL_1060 ?_
    refine wl_iald (i := nI i + nI 1) (by rw [nI_add]; exact vin_nI (by omega) (by omega)) dL_1061 ?_
    refine wl_ifeq 1069 dL_1062 (by decide) (fun _ => ?_) (fun z => absurd c0 z)
    refine wl_iconst (nI 0) dL_1069 rfl ?_
    refine wl_callC (M' := mX10_image) (n := 1) (as := [.int (nI 0)]) (rest := []) (μ2 := μ2) (r := R) mw_X10_image il_L_142 im_X10_image rfl dL_1070 rfl (fun v hv => by simp only [List.mem_cons, List.not_mem_nil, or_false] at hv; exact ⟨_, hv⟩) (Nat.le_of_ble_eq_true rfl) (Nat.le_of_ble_eq_true rfl) (ok_Nine_image (by decide) _ μ e1) ?_ rfl
    refine wl_aload (n := 2) (x := 1) dL_1073 rfl ?_
    refine wl_aload (n := 0) (x := 2) dL_1074 rfl ?_
    refine wl_iload (n := 3) (x := nI i) dL_1075 rfl ?_
    refine wl_iconst (nI 1) dL_1076 rfl ?_
    refine wl_iadd dL_1077 ?_
    refine wl_iald (i := nI i + nI 1) (by rw [nI_add]; exact vin_nI (by omega) (by omega)) dL_1078 ?_
    refine wl_ifeq 1086 dL_1079 (by decide) (fun _ => ?_) (fun z => absurd c0 z)
    refine wl_iconst (nI 0) dL_1086 rfl ?_
    refine wl_callM (M' := mX11_image) (n := 1) (as := [.int (nI 0)]) (rest := [.int R]) (μ2 := ν2) (r := R) mw_X11_image il_L_146 im_X11_image rfl dL_1087 rfl (fun v hv => by simp only [List.mem_cons, List.not_mem_nil, or_false] at hv; exact ⟨_, hv⟩) (Nat.le_of_ble_eq_true rfl) (Nat.le_of_ble_eq_true rfl) (ok_M_image (by decide) _ ν f1) ?_ rfl
    exact wl_eq 1118 dL_1090 (by decide) (fun _ => kk _ _ s2) (fun z => absurd rfl z)
  · obtain ⟨R, μ2, ν2, e1, f1, s2⟩ := op_image h (b := 1) (by decide)
    refine wl_aload (n := 1) (x := 0) dL_1056 rfl ?_
    refine wl_aload (n := 0) (x := 2) dL_1057 rfl ?_
    refine wl_iload (n := 3) (x := nI i) dL_1058 rfl ?_
    refine wl_iconst (nI 1) dL_1059 rfl ?_
    refine wl_iadd dL_1060 ?_
    refine wl_iald (i := nI i + nI 1) (by rw [nI_add]; exact vin_nI (by omega) (by omega)) dL_1061 ?_
    refine wl_ifeq 1069 dL_1062 (by decide) (fun z => absurd z c0) (fun _ => ?_)
    refine wl_iconst (nI 1) dL_1065 rfl ?_
    refine wl_goto 1070 dL_1066 (by decide) ?_
    refine wl_callC (M' := mX10_image) (n := 1) (as := [.int (nI 1)]) (rest := []) (μ2 := μ2) (r := R) mw_X10_image il_L_142 im_X10_image rfl dL_1070 rfl (fun v hv => by simp only [List.mem_cons, List.not_mem_nil, or_false] at hv; exact ⟨_, hv⟩) (Nat.le_of_ble_eq_true rfl) (Nat.le_of_ble_eq_true rfl) (ok_Nine_image (by decide) _ μ e1) ?_ rfl
    refine wl_aload (n := 2) (x := 1) dL_1073 rfl ?_
    refine wl_aload (n := 0) (x := 2) dL_1074 rfl ?_
    refine wl_iload (n := 3) (x := nI i) dL_1075 rfl ?_
    refine wl_iconst (nI 1) dL_1076 rfl ?_
    refine wl_iadd dL_1077 ?_
    refine wl_iald (i := nI i + nI 1) (by rw [nI_add]; exact vin_nI (by omega) (by omega)) dL_1078 ?_
    refine wl_ifeq 1086 dL_1079 (by decide) (fun z => absurd z c0) (fun _ => ?_)
    refine wl_iconst (nI 1) dL_1082 rfl ?_
    refine wl_goto 1087 dL_1083 (by decide) ?_
    refine wl_callM (M' := mX11_image) (n := 1) (as := [.int (nI 1)]) (rest := [.int R]) (μ2 := ν2) (r := R) mw_X11_image il_L_146 im_X11_image rfl dL_1087 rfl (fun v hv => by simp only [List.mem_cons, List.not_mem_nil, or_false] at hv; exact ⟨_, hv⟩) (Nat.le_of_ble_eq_true rfl) (Nat.le_of_ble_eq_true rfl) (ok_M_image (by decide) _ ν f1) ?_ rfl
    exact wl_eq 1118 dL_1090 (by decide) (fun _ => kk _ _ s2) (fun z => absurd rfl z)
theorem il_L_147 : Cond.methodLink R_law 147 mX10_look.1 ∈ lwT := (lwT_5 (i := 45) (by decide +kernel) rfl)
theorem il_L_150 : Cond.methodLink R_law 150 mX11_look.1 ∈ lwT := (lwT_7 (i := 204) (by decide +kernel) rfl)
theorem law_31 {p : Program} {e : Env} {s : State} {m : MethodId} {below : List Frame} {meth : Method} {c : Code} {l : Launch} {b0 Lx i : Nat} {xs : Nat → Int32} {μ ν : Mm} (h : Sim μ ν) (hi : i + 6 ≤ Lx) (h3 : Lx ≤ 3072) (kk : ∀ μ2 ν2, Sim μ2 ν2 → WL l p e s m below meth c b0 Lx xs 1118 [some (.ref 2), some (.ref 0), some (.ref 1), some (.int (nI i))] [] μ2 ν2) : WL l p e s m below meth c b0 Lx xs 1095 [some (.ref 2), some (.ref 0), some (.ref 1), some (.int (nI i))] [] μ ν := by
  obtain ⟨R, ν2, e1, f1, s2⟩ := op_look h (xs (ix (nI i + nI 1)))
  refine wl_aload (n := 1) (x := 0) dL_1095 rfl ?_
  refine wl_aload (n := 0) (x := 2) dL_1096 rfl ?_
  refine wl_iload (n := 3) (x := nI i) dL_1097 rfl ?_
  refine wl_iconst (nI 1) dL_1098 rfl ?_
  refine wl_iadd dL_1099 ?_
  refine wl_iald (i := nI i + nI 1) (by rw [nI_add]; exact vin_nI (by omega) (by omega)) dL_1100 ?_
  refine wl_callC (M' := mX10_look) (n := 1) (as := [.int (xs (ix (nI i + nI 1)))]) (rest := []) (μ2 := μ) (r := R) mw_X10_look il_L_147 im_X10_look rfl dL_1101 rfl (fun v hv => by simp only [List.mem_cons, List.not_mem_nil, or_false] at hv; exact ⟨_, hv⟩) (Nat.le_of_ble_eq_true rfl) (Nat.le_of_ble_eq_true rfl) (ok_Nine_look (by decide) _ μ e1) ?_ rfl
  refine wl_aload (n := 2) (x := 1) dL_1104 rfl ?_
  refine wl_aload (n := 0) (x := 2) dL_1105 rfl ?_
  refine wl_iload (n := 3) (x := nI i) dL_1106 rfl ?_
  refine wl_iconst (nI 1) dL_1107 rfl ?_
  refine wl_iadd dL_1108 ?_
  refine wl_iald (i := nI i + nI 1) (by rw [nI_add]; exact vin_nI (by omega) (by omega)) dL_1109 ?_
  refine wl_callM (M' := mX11_look) (n := 1) (as := [.int (xs (ix (nI i + nI 1)))]) (rest := [.int R]) (μ2 := ν2) (r := R) mw_X11_look il_L_150 im_X11_look rfl dL_1110 rfl (fun v hv => by simp only [List.mem_cons, List.not_mem_nil, or_false] at hv; exact ⟨_, hv⟩) (Nat.le_of_ble_eq_true rfl) (Nat.le_of_ble_eq_true rfl) (ok_M_look (by decide) _ ν f1) ?_ rfl
  exact wl_eq 1118 dL_1113 (by decide) (fun _ => kk _ _ s2) (fun z => absurd rfl z)
theorem law_at : ∀ k : Nat, k < 32 → (#[143, 166, 209, 252, 285, 318, 351, 384, 447, 470, 493, 516, 539, 572, 615, 648, 681, 714, 747, 780, 793, 816, 839, 872, 895, 918, 931, 964, 987, 1010, 1023, 1062] : Array Int)[k]? = some (([143, 166, 209, 252, 285, 318, 351, 384, 447, 470, 493, 516, 539, 572, 615, 648, 681, 714, 747, 780, 793, 816, 839, 872, 895, 918, 931, 964, 987, 1010, 1023, 1062] : List Int).getD k 0) := by decide
