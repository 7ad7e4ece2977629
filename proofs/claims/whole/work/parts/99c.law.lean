-- ClogHouseLaw.law([I)Z
theorem d222_0 : decode (cm_M 222).2.2.1 0 = .ok (.new 8, 3) := by decide +kernel
theorem d222_3 : decode (cm_M 222).2.2.1 3 = .ok (.dup, 1) := by decide +kernel
theorem d222_4 : decode (cm_M 222).2.2.1 4 = .ok (.invokespecial 15, 3) := by decide +kernel
theorem d222_7 : decode (cm_M 222).2.2.1 7 = .ok (.astore_n 1, 1) := by decide +kernel
theorem d222_8 : decode (cm_M 222).2.2.1 8 = .ok (.new 16, 3) := by decide +kernel
theorem d222_11 : decode (cm_M 222).2.2.1 11 = .ok (.dup, 1) := by decide +kernel
theorem d222_12 : decode (cm_M 222).2.2.1 12 = .ok (.invokespecial 18, 3) := by decide +kernel
theorem d222_15 : decode (cm_M 222).2.2.1 15 = .ok (.astore_n 2, 1) := by decide +kernel
theorem d222_16 : decode (cm_M 222).2.2.1 16 = .ok (.iconst 1, 1) := by decide +kernel
theorem d222_17 : decode (cm_M 222).2.2.1 17 = .ok (.newarray .long, 2) := by decide +kernel
theorem d222_19 : decode (cm_M 222).2.2.1 19 = .ok (.astore_n 3, 1) := by decide +kernel
theorem d222_20 : decode (cm_M 222).2.2.1 20 = .ok (.iconst 0, 1) := by decide +kernel
theorem d222_21 : decode (cm_M 222).2.2.1 21 = .ok (.istore 4, 2) := by decide +kernel
theorem d222_23 : decode (cm_M 222).2.2.1 23 = .ok (.iload 4, 2) := by decide +kernel
theorem d222_25 : decode (cm_M 222).2.2.1 25 = .ok (.aload_n 0, 1) := by decide +kernel
theorem d222_26 : decode (cm_M 222).2.2.1 26 = .ok (.arraylength, 1) := by decide +kernel
theorem d222_27 : decode (cm_M 222).2.2.1 27 = .ok (.bipush 9, 2) := by decide +kernel
theorem d222_29 : decode (cm_M 222).2.2.1 29 = .ok (.isub, 1) := by decide +kernel
theorem d222_30 : decode (cm_M 222).2.2.1 30 = .ok (.if_icmp .gt 1567, 3) := by decide +kernel
theorem d222_33 : decode (cm_M 222).2.2.1 33 = .ok (.aload_n 0, 1) := by decide +kernel
theorem d222_34 : decode (cm_M 222).2.2.1 34 = .ok (.iload 4, 2) := by decide +kernel
theorem d222_36 : decode (cm_M 222).2.2.1 36 = .ok (.iaload, 1) := by decide +kernel
theorem d222_37 : decode (cm_M 222).2.2.1 37 = .ok (.bipush 63, 2) := by decide +kernel
theorem d222_39 : decode (cm_M 222).2.2.1 39 = .ok (.iand, 1) := by decide +kernel
theorem d222_40 : decode (cm_M 222).2.2.1 40 = .ok (.tableswitch 1551 0 32 #[148, 197, 210, 259, 308, 357, 418, 455, 492, 565, 590, 603, 616, 653, 799, 824, 861, 886, 923, 972, 1009, 1034, 1096, 1145, 1182, 1219, 1256, 1305, 1366, 1427, 1476, 1513, 1526], 148) := by decide +kernel
theorem d222_188 : decode (cm_M 222).2.2.1 188 = .ok (.aload_n 1, 1) := by decide +kernel
theorem d222_189 : decode (cm_M 222).2.2.1 189 = .ok (.aload_n 0, 1) := by decide +kernel
theorem d222_190 : decode (cm_M 222).2.2.1 190 = .ok (.iload 4, 2) := by decide +kernel
theorem d222_192 : decode (cm_M 222).2.2.1 192 = .ok (.iconst 1, 1) := by decide +kernel
theorem d222_193 : decode (cm_M 222).2.2.1 193 = .ok (.iadd, 1) := by decide +kernel
theorem d222_194 : decode (cm_M 222).2.2.1 194 = .ok (.iaload, 1) := by decide +kernel
theorem d222_195 : decode (cm_M 222).2.2.1 195 = .ok (.aload_n 0, 1) := by decide +kernel
theorem d222_196 : decode (cm_M 222).2.2.1 196 = .ok (.iload 4, 2) := by decide +kernel
theorem d222_198 : decode (cm_M 222).2.2.1 198 = .ok (.iconst 2, 1) := by decide +kernel
theorem d222_199 : decode (cm_M 222).2.2.1 199 = .ok (.iadd, 1) := by decide +kernel
theorem d222_200 : decode (cm_M 222).2.2.1 200 = .ok (.iaload, 1) := by decide +kernel
theorem d222_201 : decode (cm_M 222).2.2.1 201 = .ok (.aload_n 0, 1) := by decide +kernel
theorem d222_202 : decode (cm_M 222).2.2.1 202 = .ok (.iload 4, 2) := by decide +kernel
theorem d222_204 : decode (cm_M 222).2.2.1 204 = .ok (.iconst 3, 1) := by decide +kernel
theorem d222_205 : decode (cm_M 222).2.2.1 205 = .ok (.iadd, 1) := by decide +kernel
theorem d222_206 : decode (cm_M 222).2.2.1 206 = .ok (.iaload, 1) := by decide +kernel
theorem d222_207 : decode (cm_M 222).2.2.1 207 = .ok (.invokevirtual 19, 3) := by decide +kernel
theorem d222_210 : decode (cm_M 222).2.2.1 210 = .ok (.aload_n 2, 1) := by decide +kernel
theorem d222_211 : decode (cm_M 222).2.2.1 211 = .ok (.aload_n 0, 1) := by decide +kernel
theorem d222_212 : decode (cm_M 222).2.2.1 212 = .ok (.iload 4, 2) := by decide +kernel
theorem d222_214 : decode (cm_M 222).2.2.1 214 = .ok (.iconst 1, 1) := by decide +kernel
theorem d222_215 : decode (cm_M 222).2.2.1 215 = .ok (.iadd, 1) := by decide +kernel
theorem d222_216 : decode (cm_M 222).2.2.1 216 = .ok (.iaload, 1) := by decide +kernel
theorem d222_217 : decode (cm_M 222).2.2.1 217 = .ok (.aload_n 0, 1) := by decide +kernel
theorem d222_218 : decode (cm_M 222).2.2.1 218 = .ok (.iload 4, 2) := by decide +kernel
theorem d222_220 : decode (cm_M 222).2.2.1 220 = .ok (.iconst 2, 1) := by decide +kernel
theorem d222_221 : decode (cm_M 222).2.2.1 221 = .ok (.iadd, 1) := by decide +kernel
theorem d222_222 : decode (cm_M 222).2.2.1 222 = .ok (.iaload, 1) := by decide +kernel
theorem d222_223 : decode (cm_M 222).2.2.1 223 = .ok (.aload_n 0, 1) := by decide +kernel
theorem d222_224 : decode (cm_M 222).2.2.1 224 = .ok (.iload 4, 2) := by decide +kernel
theorem d222_226 : decode (cm_M 222).2.2.1 226 = .ok (.iconst 3, 1) := by decide +kernel
theorem d222_227 : decode (cm_M 222).2.2.1 227 = .ok (.iadd, 1) := by decide +kernel
theorem d222_228 : decode (cm_M 222).2.2.1 228 = .ok (.iaload, 1) := by decide +kernel
theorem d222_229 : decode (cm_M 222).2.2.1 229 = .ok (.invokevirtual 23, 3) := by decide +kernel
theorem d222_232 : decode (cm_M 222).2.2.1 232 = .ok (.if_icmp .eq 1359, 3) := by decide +kernel
theorem d222_235 : decode (cm_M 222).2.2.1 235 = .ok (.iconst 0, 1) := by decide +kernel
theorem d222_236 : decode (cm_M 222).2.2.1 236 = .ok (.ireturn, 1) := by decide +kernel
theorem d222_237 : decode (cm_M 222).2.2.1 237 = .ok (.aload_n 1, 1) := by decide +kernel
theorem d222_238 : decode (cm_M 222).2.2.1 238 = .ok (.invokevirtual 24, 3) := by decide +kernel
theorem d222_241 : decode (cm_M 222).2.2.1 241 = .ok (.aload_n 2, 1) := by decide +kernel
theorem d222_242 : decode (cm_M 222).2.2.1 242 = .ok (.invokevirtual 28, 3) := by decide +kernel
theorem d222_245 : decode (cm_M 222).2.2.1 245 = .ok (.if_icmp .eq 1346, 3) := by decide +kernel
theorem d222_248 : decode (cm_M 222).2.2.1 248 = .ok (.iconst 0, 1) := by decide +kernel
theorem d222_249 : decode (cm_M 222).2.2.1 249 = .ok (.ireturn, 1) := by decide +kernel
theorem d222_250 : decode (cm_M 222).2.2.1 250 = .ok (.aload_n 1, 1) := by decide +kernel
theorem d222_251 : decode (cm_M 222).2.2.1 251 = .ok (.aload_n 0, 1) := by decide +kernel
theorem d222_252 : decode (cm_M 222).2.2.1 252 = .ok (.iload 4, 2) := by decide +kernel
theorem d222_254 : decode (cm_M 222).2.2.1 254 = .ok (.iconst 1, 1) := by decide +kernel
theorem d222_255 : decode (cm_M 222).2.2.1 255 = .ok (.iadd, 1) := by decide +kernel
theorem d222_256 : decode (cm_M 222).2.2.1 256 = .ok (.iaload, 1) := by decide +kernel
theorem d222_257 : decode (cm_M 222).2.2.1 257 = .ok (.aload_n 0, 1) := by decide +kernel
theorem d222_258 : decode (cm_M 222).2.2.1 258 = .ok (.iload 4, 2) := by decide +kernel
theorem d222_260 : decode (cm_M 222).2.2.1 260 = .ok (.iconst 2, 1) := by decide +kernel
theorem d222_261 : decode (cm_M 222).2.2.1 261 = .ok (.iadd, 1) := by decide +kernel
theorem d222_262 : decode (cm_M 222).2.2.1 262 = .ok (.iaload, 1) := by decide +kernel
theorem d222_263 : decode (cm_M 222).2.2.1 263 = .ok (.aload_n 0, 1) := by decide +kernel
theorem d222_264 : decode (cm_M 222).2.2.1 264 = .ok (.iload 4, 2) := by decide +kernel
theorem d222_266 : decode (cm_M 222).2.2.1 266 = .ok (.iconst 3, 1) := by decide +kernel
theorem d222_267 : decode (cm_M 222).2.2.1 267 = .ok (.iadd, 1) := by decide +kernel
theorem d222_268 : decode (cm_M 222).2.2.1 268 = .ok (.iaload, 1) := by decide +kernel
theorem d222_269 : decode (cm_M 222).2.2.1 269 = .ok (.invokevirtual 29, 3) := by decide +kernel
theorem d222_272 : decode (cm_M 222).2.2.1 272 = .ok (.aload_n 2, 1) := by decide +kernel
theorem d222_273 : decode (cm_M 222).2.2.1 273 = .ok (.aload_n 0, 1) := by decide +kernel
theorem d222_274 : decode (cm_M 222).2.2.1 274 = .ok (.iload 4, 2) := by decide +kernel
theorem d222_276 : decode (cm_M 222).2.2.1 276 = .ok (.iconst 1, 1) := by decide +kernel
theorem d222_277 : decode (cm_M 222).2.2.1 277 = .ok (.iadd, 1) := by decide +kernel
theorem d222_278 : decode (cm_M 222).2.2.1 278 = .ok (.iaload, 1) := by decide +kernel
theorem d222_279 : decode (cm_M 222).2.2.1 279 = .ok (.aload_n 0, 1) := by decide +kernel
theorem d222_280 : decode (cm_M 222).2.2.1 280 = .ok (.iload 4, 2) := by decide +kernel
theorem d222_282 : decode (cm_M 222).2.2.1 282 = .ok (.iconst 2, 1) := by decide +kernel
theorem d222_283 : decode (cm_M 222).2.2.1 283 = .ok (.iadd, 1) := by decide +kernel
theorem d222_284 : decode (cm_M 222).2.2.1 284 = .ok (.iaload, 1) := by decide +kernel
theorem d222_285 : decode (cm_M 222).2.2.1 285 = .ok (.aload_n 0, 1) := by decide +kernel
theorem d222_286 : decode (cm_M 222).2.2.1 286 = .ok (.iload 4, 2) := by decide +kernel
theorem d222_288 : decode (cm_M 222).2.2.1 288 = .ok (.iconst 3, 1) := by decide +kernel
theorem d222_289 : decode (cm_M 222).2.2.1 289 = .ok (.iadd, 1) := by decide +kernel
theorem d222_290 : decode (cm_M 222).2.2.1 290 = .ok (.iaload, 1) := by decide +kernel
theorem d222_291 : decode (cm_M 222).2.2.1 291 = .ok (.invokevirtual 33, 3) := by decide +kernel
theorem d222_294 : decode (cm_M 222).2.2.1 294 = .ok (.if_icmp .eq 1297, 3) := by decide +kernel
theorem d222_297 : decode (cm_M 222).2.2.1 297 = .ok (.iconst 0, 1) := by decide +kernel
theorem d222_298 : decode (cm_M 222).2.2.1 298 = .ok (.ireturn, 1) := by decide +kernel
theorem d222_299 : decode (cm_M 222).2.2.1 299 = .ok (.aload_n 1, 1) := by decide +kernel
theorem d222_300 : decode (cm_M 222).2.2.1 300 = .ok (.aload_n 0, 1) := by decide +kernel
theorem d222_301 : decode (cm_M 222).2.2.1 301 = .ok (.iload 4, 2) := by decide +kernel
theorem d222_303 : decode (cm_M 222).2.2.1 303 = .ok (.iconst 1, 1) := by decide +kernel
theorem d222_304 : decode (cm_M 222).2.2.1 304 = .ok (.iadd, 1) := by decide +kernel
theorem d222_305 : decode (cm_M 222).2.2.1 305 = .ok (.iaload, 1) := by decide +kernel
theorem d222_306 : decode (cm_M 222).2.2.1 306 = .ok (.aload_n 0, 1) := by decide +kernel
theorem d222_307 : decode (cm_M 222).2.2.1 307 = .ok (.iload 4, 2) := by decide +kernel
theorem d222_309 : decode (cm_M 222).2.2.1 309 = .ok (.iconst 2, 1) := by decide +kernel
theorem d222_310 : decode (cm_M 222).2.2.1 310 = .ok (.iadd, 1) := by decide +kernel
theorem d222_311 : decode (cm_M 222).2.2.1 311 = .ok (.iaload, 1) := by decide +kernel
theorem d222_312 : decode (cm_M 222).2.2.1 312 = .ok (.aload_n 0, 1) := by decide +kernel
theorem d222_313 : decode (cm_M 222).2.2.1 313 = .ok (.iload 4, 2) := by decide +kernel
theorem d222_315 : decode (cm_M 222).2.2.1 315 = .ok (.iconst 3, 1) := by decide +kernel
theorem d222_316 : decode (cm_M 222).2.2.1 316 = .ok (.iadd, 1) := by decide +kernel
theorem d222_317 : decode (cm_M 222).2.2.1 317 = .ok (.iaload, 1) := by decide +kernel
theorem d222_318 : decode (cm_M 222).2.2.1 318 = .ok (.invokevirtual 34, 3) := by decide +kernel
theorem d222_321 : decode (cm_M 222).2.2.1 321 = .ok (.aload_n 2, 1) := by decide +kernel
theorem d222_322 : decode (cm_M 222).2.2.1 322 = .ok (.aload_n 0, 1) := by decide +kernel
theorem d222_323 : decode (cm_M 222).2.2.1 323 = .ok (.iload 4, 2) := by decide +kernel
theorem d222_325 : decode (cm_M 222).2.2.1 325 = .ok (.iconst 1, 1) := by decide +kernel
theorem d222_326 : decode (cm_M 222).2.2.1 326 = .ok (.iadd, 1) := by decide +kernel
theorem d222_327 : decode (cm_M 222).2.2.1 327 = .ok (.iaload, 1) := by decide +kernel
theorem d222_328 : decode (cm_M 222).2.2.1 328 = .ok (.aload_n 0, 1) := by decide +kernel
theorem d222_329 : decode (cm_M 222).2.2.1 329 = .ok (.iload 4, 2) := by decide +kernel
theorem d222_331 : decode (cm_M 222).2.2.1 331 = .ok (.iconst 2, 1) := by decide +kernel
theorem d222_332 : decode (cm_M 222).2.2.1 332 = .ok (.iadd, 1) := by decide +kernel
theorem d222_333 : decode (cm_M 222).2.2.1 333 = .ok (.iaload, 1) := by decide +kernel
theorem d222_334 : decode (cm_M 222).2.2.1 334 = .ok (.aload_n 0, 1) := by decide +kernel
theorem d222_335 : decode (cm_M 222).2.2.1 335 = .ok (.iload 4, 2) := by decide +kernel
theorem d222_337 : decode (cm_M 222).2.2.1 337 = .ok (.iconst 3, 1) := by decide +kernel
theorem d222_338 : decode (cm_M 222).2.2.1 338 = .ok (.iadd, 1) := by decide +kernel
theorem d222_339 : decode (cm_M 222).2.2.1 339 = .ok (.iaload, 1) := by decide +kernel
theorem d222_340 : decode (cm_M 222).2.2.1 340 = .ok (.invokevirtual 37, 3) := by decide +kernel
theorem d222_343 : decode (cm_M 222).2.2.1 343 = .ok (.if_icmp .eq 1248, 3) := by decide +kernel
theorem d222_346 : decode (cm_M 222).2.2.1 346 = .ok (.iconst 0, 1) := by decide +kernel
theorem d222_347 : decode (cm_M 222).2.2.1 347 = .ok (.ireturn, 1) := by decide +kernel
theorem d222_348 : decode (cm_M 222).2.2.1 348 = .ok (.aload_n 1, 1) := by decide +kernel
theorem d222_349 : decode (cm_M 222).2.2.1 349 = .ok (.aload_n 0, 1) := by decide +kernel
theorem d222_350 : decode (cm_M 222).2.2.1 350 = .ok (.iload 4, 2) := by decide +kernel
theorem d222_352 : decode (cm_M 222).2.2.1 352 = .ok (.iconst 1, 1) := by decide +kernel
theorem d222_353 : decode (cm_M 222).2.2.1 353 = .ok (.iadd, 1) := by decide +kernel
theorem d222_354 : decode (cm_M 222).2.2.1 354 = .ok (.iaload, 1) := by decide +kernel
theorem d222_355 : decode (cm_M 222).2.2.1 355 = .ok (.aload_n 0, 1) := by decide +kernel
theorem d222_356 : decode (cm_M 222).2.2.1 356 = .ok (.iload 4, 2) := by decide +kernel
theorem d222_358 : decode (cm_M 222).2.2.1 358 = .ok (.iconst 2, 1) := by decide +kernel
theorem d222_359 : decode (cm_M 222).2.2.1 359 = .ok (.iadd, 1) := by decide +kernel
theorem d222_360 : decode (cm_M 222).2.2.1 360 = .ok (.iaload, 1) := by decide +kernel
theorem d222_361 : decode (cm_M 222).2.2.1 361 = .ok (.aload_n 0, 1) := by decide +kernel
theorem d222_362 : decode (cm_M 222).2.2.1 362 = .ok (.iload 4, 2) := by decide +kernel
theorem d222_364 : decode (cm_M 222).2.2.1 364 = .ok (.iconst 3, 1) := by decide +kernel
theorem d222_365 : decode (cm_M 222).2.2.1 365 = .ok (.iadd, 1) := by decide +kernel
theorem d222_366 : decode (cm_M 222).2.2.1 366 = .ok (.iaload, 1) := by decide +kernel
theorem d222_367 : decode (cm_M 222).2.2.1 367 = .ok (.invokevirtual 38, 3) := by decide +kernel
theorem d222_370 : decode (cm_M 222).2.2.1 370 = .ok (.aload_n 2, 1) := by decide +kernel
theorem d222_371 : decode (cm_M 222).2.2.1 371 = .ok (.aload_n 0, 1) := by decide +kernel
theorem d222_372 : decode (cm_M 222).2.2.1 372 = .ok (.iload 4, 2) := by decide +kernel
theorem d222_374 : decode (cm_M 222).2.2.1 374 = .ok (.iconst 1, 1) := by decide +kernel
theorem d222_375 : decode (cm_M 222).2.2.1 375 = .ok (.iadd, 1) := by decide +kernel
theorem d222_376 : decode (cm_M 222).2.2.1 376 = .ok (.iaload, 1) := by decide +kernel
theorem d222_377 : decode (cm_M 222).2.2.1 377 = .ok (.aload_n 0, 1) := by decide +kernel
theorem d222_378 : decode (cm_M 222).2.2.1 378 = .ok (.iload 4, 2) := by decide +kernel
theorem d222_380 : decode (cm_M 222).2.2.1 380 = .ok (.iconst 2, 1) := by decide +kernel
theorem d222_381 : decode (cm_M 222).2.2.1 381 = .ok (.iadd, 1) := by decide +kernel
theorem d222_382 : decode (cm_M 222).2.2.1 382 = .ok (.iaload, 1) := by decide +kernel
theorem d222_383 : decode (cm_M 222).2.2.1 383 = .ok (.aload_n 0, 1) := by decide +kernel
theorem d222_384 : decode (cm_M 222).2.2.1 384 = .ok (.iload 4, 2) := by decide +kernel
theorem d222_386 : decode (cm_M 222).2.2.1 386 = .ok (.iconst 3, 1) := by decide +kernel
theorem d222_387 : decode (cm_M 222).2.2.1 387 = .ok (.iadd, 1) := by decide +kernel
theorem d222_388 : decode (cm_M 222).2.2.1 388 = .ok (.iaload, 1) := by decide +kernel
theorem d222_389 : decode (cm_M 222).2.2.1 389 = .ok (.invokevirtual 41, 3) := by decide +kernel
theorem d222_392 : decode (cm_M 222).2.2.1 392 = .ok (.if_icmp .eq 1199, 3) := by decide +kernel
theorem d222_395 : decode (cm_M 222).2.2.1 395 = .ok (.iconst 0, 1) := by decide +kernel
theorem d222_396 : decode (cm_M 222).2.2.1 396 = .ok (.ireturn, 1) := by decide +kernel
theorem d222_397 : decode (cm_M 222).2.2.1 397 = .ok (.aload_n 1, 1) := by decide +kernel
theorem d222_398 : decode (cm_M 222).2.2.1 398 = .ok (.aload_n 0, 1) := by decide +kernel
theorem d222_399 : decode (cm_M 222).2.2.1 399 = .ok (.iload 4, 2) := by decide +kernel
theorem d222_401 : decode (cm_M 222).2.2.1 401 = .ok (.iconst 1, 1) := by decide +kernel
theorem d222_402 : decode (cm_M 222).2.2.1 402 = .ok (.iadd, 1) := by decide +kernel
theorem d222_403 : decode (cm_M 222).2.2.1 403 = .ok (.iaload, 1) := by decide +kernel
theorem d222_404 : decode (cm_M 222).2.2.1 404 = .ok (.aload_n 0, 1) := by decide +kernel
theorem d222_405 : decode (cm_M 222).2.2.1 405 = .ok (.iload 4, 2) := by decide +kernel
theorem d222_407 : decode (cm_M 222).2.2.1 407 = .ok (.iconst 2, 1) := by decide +kernel
theorem d222_408 : decode (cm_M 222).2.2.1 408 = .ok (.iadd, 1) := by decide +kernel
theorem d222_409 : decode (cm_M 222).2.2.1 409 = .ok (.iaload, 1) := by decide +kernel
theorem d222_410 : decode (cm_M 222).2.2.1 410 = .ok (.aload_n 0, 1) := by decide +kernel
theorem d222_411 : decode (cm_M 222).2.2.1 411 = .ok (.iload 4, 2) := by decide +kernel
theorem d222_413 : decode (cm_M 222).2.2.1 413 = .ok (.iconst 3, 1) := by decide +kernel
theorem d222_414 : decode (cm_M 222).2.2.1 414 = .ok (.iadd, 1) := by decide +kernel
theorem d222_415 : decode (cm_M 222).2.2.1 415 = .ok (.iaload, 1) := by decide +kernel
theorem d222_416 : decode (cm_M 222).2.2.1 416 = .ok (.aload_n 0, 1) := by decide +kernel
theorem d222_417 : decode (cm_M 222).2.2.1 417 = .ok (.iload 4, 2) := by decide +kernel
theorem d222_419 : decode (cm_M 222).2.2.1 419 = .ok (.iconst 4, 1) := by decide +kernel
theorem d222_420 : decode (cm_M 222).2.2.1 420 = .ok (.iadd, 1) := by decide +kernel
theorem d222_421 : decode (cm_M 222).2.2.1 421 = .ok (.iaload, 1) := by decide +kernel
theorem d222_422 : decode (cm_M 222).2.2.1 422 = .ok (.invokevirtual 42, 3) := by decide +kernel
theorem d222_425 : decode (cm_M 222).2.2.1 425 = .ok (.aload_n 2, 1) := by decide +kernel
theorem d222_426 : decode (cm_M 222).2.2.1 426 = .ok (.aload_n 0, 1) := by decide +kernel
theorem d222_427 : decode (cm_M 222).2.2.1 427 = .ok (.iload 4, 2) := by decide +kernel
theorem d222_429 : decode (cm_M 222).2.2.1 429 = .ok (.iconst 1, 1) := by decide +kernel
theorem d222_430 : decode (cm_M 222).2.2.1 430 = .ok (.iadd, 1) := by decide +kernel
theorem d222_431 : decode (cm_M 222).2.2.1 431 = .ok (.iaload, 1) := by decide +kernel
theorem d222_432 : decode (cm_M 222).2.2.1 432 = .ok (.aload_n 0, 1) := by decide +kernel
theorem d222_433 : decode (cm_M 222).2.2.1 433 = .ok (.iload 4, 2) := by decide +kernel
theorem d222_435 : decode (cm_M 222).2.2.1 435 = .ok (.iconst 2, 1) := by decide +kernel
theorem d222_436 : decode (cm_M 222).2.2.1 436 = .ok (.iadd, 1) := by decide +kernel
theorem d222_437 : decode (cm_M 222).2.2.1 437 = .ok (.iaload, 1) := by decide +kernel
theorem d222_438 : decode (cm_M 222).2.2.1 438 = .ok (.aload_n 0, 1) := by decide +kernel
theorem d222_439 : decode (cm_M 222).2.2.1 439 = .ok (.iload 4, 2) := by decide +kernel
theorem d222_441 : decode (cm_M 222).2.2.1 441 = .ok (.iconst 3, 1) := by decide +kernel
theorem d222_442 : decode (cm_M 222).2.2.1 442 = .ok (.iadd, 1) := by decide +kernel
theorem d222_443 : decode (cm_M 222).2.2.1 443 = .ok (.iaload, 1) := by decide +kernel
theorem d222_444 : decode (cm_M 222).2.2.1 444 = .ok (.aload_n 0, 1) := by decide +kernel
theorem d222_445 : decode (cm_M 222).2.2.1 445 = .ok (.iload 4, 2) := by decide +kernel
theorem d222_447 : decode (cm_M 222).2.2.1 447 = .ok (.iconst 4, 1) := by decide +kernel
theorem d222_448 : decode (cm_M 222).2.2.1 448 = .ok (.iadd, 1) := by decide +kernel
theorem d222_449 : decode (cm_M 222).2.2.1 449 = .ok (.iaload, 1) := by decide +kernel
theorem d222_450 : decode (cm_M 222).2.2.1 450 = .ok (.invokevirtual 46, 3) := by decide +kernel
theorem d222_453 : decode (cm_M 222).2.2.1 453 = .ok (.if_icmp .eq 1138, 3) := by decide +kernel
theorem d222_456 : decode (cm_M 222).2.2.1 456 = .ok (.iconst 0, 1) := by decide +kernel
theorem d222_457 : decode (cm_M 222).2.2.1 457 = .ok (.ireturn, 1) := by decide +kernel
theorem d222_458 : decode (cm_M 222).2.2.1 458 = .ok (.aload_n 1, 1) := by decide +kernel
theorem d222_459 : decode (cm_M 222).2.2.1 459 = .ok (.aload_n 0, 1) := by decide +kernel
theorem d222_460 : decode (cm_M 222).2.2.1 460 = .ok (.iload 4, 2) := by decide +kernel
theorem d222_462 : decode (cm_M 222).2.2.1 462 = .ok (.iconst 1, 1) := by decide +kernel
theorem d222_463 : decode (cm_M 222).2.2.1 463 = .ok (.iadd, 1) := by decide +kernel
theorem d222_464 : decode (cm_M 222).2.2.1 464 = .ok (.iaload, 1) := by decide +kernel
theorem d222_465 : decode (cm_M 222).2.2.1 465 = .ok (.aload_n 0, 1) := by decide +kernel
theorem d222_466 : decode (cm_M 222).2.2.1 466 = .ok (.iload 4, 2) := by decide +kernel
theorem d222_468 : decode (cm_M 222).2.2.1 468 = .ok (.iconst 2, 1) := by decide +kernel
theorem d222_469 : decode (cm_M 222).2.2.1 469 = .ok (.iadd, 1) := by decide +kernel
theorem d222_470 : decode (cm_M 222).2.2.1 470 = .ok (.iaload, 1) := by decide +kernel
theorem d222_471 : decode (cm_M 222).2.2.1 471 = .ok (.invokevirtual 47, 3) := by decide +kernel
theorem d222_474 : decode (cm_M 222).2.2.1 474 = .ok (.aload_n 2, 1) := by decide +kernel
theorem d222_475 : decode (cm_M 222).2.2.1 475 = .ok (.aload_n 0, 1) := by decide +kernel
theorem d222_476 : decode (cm_M 222).2.2.1 476 = .ok (.iload 4, 2) := by decide +kernel
theorem d222_478 : decode (cm_M 222).2.2.1 478 = .ok (.iconst 1, 1) := by decide +kernel
theorem d222_479 : decode (cm_M 222).2.2.1 479 = .ok (.iadd, 1) := by decide +kernel
theorem d222_480 : decode (cm_M 222).2.2.1 480 = .ok (.iaload, 1) := by decide +kernel
theorem d222_481 : decode (cm_M 222).2.2.1 481 = .ok (.aload_n 0, 1) := by decide +kernel
theorem d222_482 : decode (cm_M 222).2.2.1 482 = .ok (.iload 4, 2) := by decide +kernel
theorem d222_484 : decode (cm_M 222).2.2.1 484 = .ok (.iconst 2, 1) := by decide +kernel
theorem d222_485 : decode (cm_M 222).2.2.1 485 = .ok (.iadd, 1) := by decide +kernel
theorem d222_486 : decode (cm_M 222).2.2.1 486 = .ok (.iaload, 1) := by decide +kernel
theorem d222_487 : decode (cm_M 222).2.2.1 487 = .ok (.invokevirtual 51, 3) := by decide +kernel
theorem d222_490 : decode (cm_M 222).2.2.1 490 = .ok (.if_icmp .eq 1101, 3) := by decide +kernel
theorem d222_493 : decode (cm_M 222).2.2.1 493 = .ok (.iconst 0, 1) := by decide +kernel
theorem d222_494 : decode (cm_M 222).2.2.1 494 = .ok (.ireturn, 1) := by decide +kernel
theorem d222_495 : decode (cm_M 222).2.2.1 495 = .ok (.aload_n 1, 1) := by decide +kernel
theorem d222_496 : decode (cm_M 222).2.2.1 496 = .ok (.aload_n 0, 1) := by decide +kernel
theorem d222_497 : decode (cm_M 222).2.2.1 497 = .ok (.iload 4, 2) := by decide +kernel
theorem d222_499 : decode (cm_M 222).2.2.1 499 = .ok (.iconst 1, 1) := by decide +kernel
theorem d222_500 : decode (cm_M 222).2.2.1 500 = .ok (.iadd, 1) := by decide +kernel
theorem d222_501 : decode (cm_M 222).2.2.1 501 = .ok (.iaload, 1) := by decide +kernel
theorem d222_502 : decode (cm_M 222).2.2.1 502 = .ok (.aload_n 0, 1) := by decide +kernel
theorem d222_503 : decode (cm_M 222).2.2.1 503 = .ok (.iload 4, 2) := by decide +kernel
theorem d222_505 : decode (cm_M 222).2.2.1 505 = .ok (.iconst 2, 1) := by decide +kernel
theorem d222_506 : decode (cm_M 222).2.2.1 506 = .ok (.iadd, 1) := by decide +kernel
theorem d222_507 : decode (cm_M 222).2.2.1 507 = .ok (.iaload, 1) := by decide +kernel
theorem d222_508 : decode (cm_M 222).2.2.1 508 = .ok (.invokevirtual 52, 3) := by decide +kernel
theorem d222_511 : decode (cm_M 222).2.2.1 511 = .ok (.aload_n 2, 1) := by decide +kernel
theorem d222_512 : decode (cm_M 222).2.2.1 512 = .ok (.aload_n 0, 1) := by decide +kernel
theorem d222_513 : decode (cm_M 222).2.2.1 513 = .ok (.iload 4, 2) := by decide +kernel
theorem d222_515 : decode (cm_M 222).2.2.1 515 = .ok (.iconst 1, 1) := by decide +kernel
theorem d222_516 : decode (cm_M 222).2.2.1 516 = .ok (.iadd, 1) := by decide +kernel
theorem d222_517 : decode (cm_M 222).2.2.1 517 = .ok (.iaload, 1) := by decide +kernel
theorem d222_518 : decode (cm_M 222).2.2.1 518 = .ok (.aload_n 0, 1) := by decide +kernel
theorem d222_519 : decode (cm_M 222).2.2.1 519 = .ok (.iload 4, 2) := by decide +kernel
theorem d222_521 : decode (cm_M 222).2.2.1 521 = .ok (.iconst 2, 1) := by decide +kernel
theorem d222_522 : decode (cm_M 222).2.2.1 522 = .ok (.iadd, 1) := by decide +kernel
theorem d222_523 : decode (cm_M 222).2.2.1 523 = .ok (.iaload, 1) := by decide +kernel
theorem d222_524 : decode (cm_M 222).2.2.1 524 = .ok (.invokevirtual 55, 3) := by decide +kernel
theorem d222_527 : decode (cm_M 222).2.2.1 527 = .ok (.if_icmp .eq 1064, 3) := by decide +kernel
theorem d222_530 : decode (cm_M 222).2.2.1 530 = .ok (.iconst 0, 1) := by decide +kernel
theorem d222_531 : decode (cm_M 222).2.2.1 531 = .ok (.ireturn, 1) := by decide +kernel
theorem d222_532 : decode (cm_M 222).2.2.1 532 = .ok (.aload_n 1, 1) := by decide +kernel
theorem d222_533 : decode (cm_M 222).2.2.1 533 = .ok (.aload_n 0, 1) := by decide +kernel
theorem d222_534 : decode (cm_M 222).2.2.1 534 = .ok (.iload 4, 2) := by decide +kernel
theorem d222_536 : decode (cm_M 222).2.2.1 536 = .ok (.iconst 1, 1) := by decide +kernel
theorem d222_537 : decode (cm_M 222).2.2.1 537 = .ok (.iadd, 1) := by decide +kernel
theorem d222_538 : decode (cm_M 222).2.2.1 538 = .ok (.iaload, 1) := by decide +kernel
theorem d222_539 : decode (cm_M 222).2.2.1 539 = .ok (.aload_n 0, 1) := by decide +kernel
theorem d222_540 : decode (cm_M 222).2.2.1 540 = .ok (.iload 4, 2) := by decide +kernel
theorem d222_542 : decode (cm_M 222).2.2.1 542 = .ok (.iconst 2, 1) := by decide +kernel
theorem d222_543 : decode (cm_M 222).2.2.1 543 = .ok (.iadd, 1) := by decide +kernel
theorem d222_544 : decode (cm_M 222).2.2.1 544 = .ok (.iaload, 1) := by decide +kernel
theorem d222_545 : decode (cm_M 222).2.2.1 545 = .ok (.aload_n 0, 1) := by decide +kernel
theorem d222_546 : decode (cm_M 222).2.2.1 546 = .ok (.iload 4, 2) := by decide +kernel
theorem d222_548 : decode (cm_M 222).2.2.1 548 = .ok (.iconst 3, 1) := by decide +kernel
theorem d222_549 : decode (cm_M 222).2.2.1 549 = .ok (.iadd, 1) := by decide +kernel
theorem d222_550 : decode (cm_M 222).2.2.1 550 = .ok (.iaload, 1) := by decide +kernel
theorem d222_551 : decode (cm_M 222).2.2.1 551 = .ok (.aload_n 0, 1) := by decide +kernel
theorem d222_552 : decode (cm_M 222).2.2.1 552 = .ok (.iload 4, 2) := by decide +kernel
theorem d222_554 : decode (cm_M 222).2.2.1 554 = .ok (.iconst 4, 1) := by decide +kernel
theorem d222_555 : decode (cm_M 222).2.2.1 555 = .ok (.iadd, 1) := by decide +kernel
theorem d222_556 : decode (cm_M 222).2.2.1 556 = .ok (.iaload, 1) := by decide +kernel
theorem d222_557 : decode (cm_M 222).2.2.1 557 = .ok (.aload_n 0, 1) := by decide +kernel
theorem d222_558 : decode (cm_M 222).2.2.1 558 = .ok (.iload 4, 2) := by decide +kernel
theorem d222_560 : decode (cm_M 222).2.2.1 560 = .ok (.iconst 5, 1) := by decide +kernel
theorem d222_561 : decode (cm_M 222).2.2.1 561 = .ok (.iadd, 1) := by decide +kernel
theorem d222_562 : decode (cm_M 222).2.2.1 562 = .ok (.iaload, 1) := by decide +kernel
theorem d222_563 : decode (cm_M 222).2.2.1 563 = .ok (.invokevirtual 56, 3) := by decide +kernel
theorem d222_566 : decode (cm_M 222).2.2.1 566 = .ok (.aload_n 2, 1) := by decide +kernel
theorem d222_567 : decode (cm_M 222).2.2.1 567 = .ok (.aload_n 0, 1) := by decide +kernel
theorem d222_568 : decode (cm_M 222).2.2.1 568 = .ok (.iload 4, 2) := by decide +kernel
theorem d222_570 : decode (cm_M 222).2.2.1 570 = .ok (.iconst 1, 1) := by decide +kernel
theorem d222_571 : decode (cm_M 222).2.2.1 571 = .ok (.iadd, 1) := by decide +kernel
theorem d222_572 : decode (cm_M 222).2.2.1 572 = .ok (.iaload, 1) := by decide +kernel
theorem d222_573 : decode (cm_M 222).2.2.1 573 = .ok (.aload_n 0, 1) := by decide +kernel
theorem d222_574 : decode (cm_M 222).2.2.1 574 = .ok (.iload 4, 2) := by decide +kernel
theorem d222_576 : decode (cm_M 222).2.2.1 576 = .ok (.iconst 2, 1) := by decide +kernel
theorem d222_577 : decode (cm_M 222).2.2.1 577 = .ok (.iadd, 1) := by decide +kernel
theorem d222_578 : decode (cm_M 222).2.2.1 578 = .ok (.iaload, 1) := by decide +kernel
theorem d222_579 : decode (cm_M 222).2.2.1 579 = .ok (.aload_n 0, 1) := by decide +kernel
theorem d222_580 : decode (cm_M 222).2.2.1 580 = .ok (.iload 4, 2) := by decide +kernel
theorem d222_582 : decode (cm_M 222).2.2.1 582 = .ok (.iconst 3, 1) := by decide +kernel
theorem d222_583 : decode (cm_M 222).2.2.1 583 = .ok (.iadd, 1) := by decide +kernel
theorem d222_584 : decode (cm_M 222).2.2.1 584 = .ok (.iaload, 1) := by decide +kernel
theorem d222_585 : decode (cm_M 222).2.2.1 585 = .ok (.aload_n 0, 1) := by decide +kernel
theorem d222_586 : decode (cm_M 222).2.2.1 586 = .ok (.iload 4, 2) := by decide +kernel
theorem d222_588 : decode (cm_M 222).2.2.1 588 = .ok (.iconst 4, 1) := by decide +kernel
theorem d222_589 : decode (cm_M 222).2.2.1 589 = .ok (.iadd, 1) := by decide +kernel
theorem d222_590 : decode (cm_M 222).2.2.1 590 = .ok (.iaload, 1) := by decide +kernel
theorem d222_591 : decode (cm_M 222).2.2.1 591 = .ok (.aload_n 0, 1) := by decide +kernel
theorem d222_592 : decode (cm_M 222).2.2.1 592 = .ok (.iload 4, 2) := by decide +kernel
theorem d222_594 : decode (cm_M 222).2.2.1 594 = .ok (.iconst 5, 1) := by decide +kernel
theorem d222_595 : decode (cm_M 222).2.2.1 595 = .ok (.iadd, 1) := by decide +kernel
theorem d222_596 : decode (cm_M 222).2.2.1 596 = .ok (.iaload, 1) := by decide +kernel
theorem d222_597 : decode (cm_M 222).2.2.1 597 = .ok (.invokevirtual 60, 3) := by decide +kernel
theorem d222_600 : decode (cm_M 222).2.2.1 600 = .ok (.if_icmp .eq 991, 3) := by decide +kernel
theorem d222_603 : decode (cm_M 222).2.2.1 603 = .ok (.iconst 0, 1) := by decide +kernel
theorem d222_604 : decode (cm_M 222).2.2.1 604 = .ok (.ireturn, 1) := by decide +kernel
theorem d222_605 : decode (cm_M 222).2.2.1 605 = .ok (.aload_n 1, 1) := by decide +kernel
theorem d222_606 : decode (cm_M 222).2.2.1 606 = .ok (.aload_n 0, 1) := by decide +kernel
theorem d222_607 : decode (cm_M 222).2.2.1 607 = .ok (.iload 4, 2) := by decide +kernel
theorem d222_609 : decode (cm_M 222).2.2.1 609 = .ok (.iconst 1, 1) := by decide +kernel
theorem d222_610 : decode (cm_M 222).2.2.1 610 = .ok (.iadd, 1) := by decide +kernel
theorem d222_611 : decode (cm_M 222).2.2.1 611 = .ok (.iaload, 1) := by decide +kernel
theorem d222_612 : decode (cm_M 222).2.2.1 612 = .ok (.invokevirtual 61, 3) := by decide +kernel
theorem d222_615 : decode (cm_M 222).2.2.1 615 = .ok (.aload_n 2, 1) := by decide +kernel
theorem d222_616 : decode (cm_M 222).2.2.1 616 = .ok (.aload_n 0, 1) := by decide +kernel
theorem d222_617 : decode (cm_M 222).2.2.1 617 = .ok (.iload 4, 2) := by decide +kernel
theorem d222_619 : decode (cm_M 222).2.2.1 619 = .ok (.iconst 1, 1) := by decide +kernel
theorem d222_620 : decode (cm_M 222).2.2.1 620 = .ok (.iadd, 1) := by decide +kernel
theorem d222_621 : decode (cm_M 222).2.2.1 621 = .ok (.iaload, 1) := by decide +kernel
theorem d222_622 : decode (cm_M 222).2.2.1 622 = .ok (.invokevirtual 65, 3) := by decide +kernel
theorem d222_625 : decode (cm_M 222).2.2.1 625 = .ok (.if_icmp .eq 966, 3) := by decide +kernel
theorem d222_628 : decode (cm_M 222).2.2.1 628 = .ok (.iconst 0, 1) := by decide +kernel
theorem d222_629 : decode (cm_M 222).2.2.1 629 = .ok (.ireturn, 1) := by decide +kernel
theorem d222_630 : decode (cm_M 222).2.2.1 630 = .ok (.aload_n 1, 1) := by decide +kernel
theorem d222_631 : decode (cm_M 222).2.2.1 631 = .ok (.invokevirtual 66, 3) := by decide +kernel
theorem d222_634 : decode (cm_M 222).2.2.1 634 = .ok (.aload_n 2, 1) := by decide +kernel
theorem d222_635 : decode (cm_M 222).2.2.1 635 = .ok (.invokevirtual 69, 3) := by decide +kernel
theorem d222_638 : decode (cm_M 222).2.2.1 638 = .ok (.if_icmp .eq 953, 3) := by decide +kernel
theorem d222_641 : decode (cm_M 222).2.2.1 641 = .ok (.iconst 0, 1) := by decide +kernel
theorem d222_642 : decode (cm_M 222).2.2.1 642 = .ok (.ireturn, 1) := by decide +kernel
theorem d222_643 : decode (cm_M 222).2.2.1 643 = .ok (.aload_n 1, 1) := by decide +kernel
theorem d222_644 : decode (cm_M 222).2.2.1 644 = .ok (.invokevirtual 70, 3) := by decide +kernel
theorem d222_647 : decode (cm_M 222).2.2.1 647 = .ok (.aload_n 2, 1) := by decide +kernel
theorem d222_648 : decode (cm_M 222).2.2.1 648 = .ok (.invokevirtual 73, 3) := by decide +kernel
theorem d222_651 : decode (cm_M 222).2.2.1 651 = .ok (.if_icmp .eq 940, 3) := by decide +kernel
theorem d222_654 : decode (cm_M 222).2.2.1 654 = .ok (.iconst 0, 1) := by decide +kernel
theorem d222_655 : decode (cm_M 222).2.2.1 655 = .ok (.ireturn, 1) := by decide +kernel
theorem d222_656 : decode (cm_M 222).2.2.1 656 = .ok (.aload_n 1, 1) := by decide +kernel
theorem d222_657 : decode (cm_M 222).2.2.1 657 = .ok (.aload_n 0, 1) := by decide +kernel
theorem d222_658 : decode (cm_M 222).2.2.1 658 = .ok (.iload 4, 2) := by decide +kernel
theorem d222_660 : decode (cm_M 222).2.2.1 660 = .ok (.iconst 1, 1) := by decide +kernel
theorem d222_661 : decode (cm_M 222).2.2.1 661 = .ok (.iadd, 1) := by decide +kernel
theorem d222_662 : decode (cm_M 222).2.2.1 662 = .ok (.iaload, 1) := by decide +kernel
theorem d222_663 : decode (cm_M 222).2.2.1 663 = .ok (.aload_n 0, 1) := by decide +kernel
theorem d222_664 : decode (cm_M 222).2.2.1 664 = .ok (.iload 4, 2) := by decide +kernel
theorem d222_666 : decode (cm_M 222).2.2.1 666 = .ok (.iconst 2, 1) := by decide +kernel
theorem d222_667 : decode (cm_M 222).2.2.1 667 = .ok (.iadd, 1) := by decide +kernel
theorem d222_668 : decode (cm_M 222).2.2.1 668 = .ok (.iaload, 1) := by decide +kernel
theorem d222_669 : decode (cm_M 222).2.2.1 669 = .ok (.invokevirtual 74, 3) := by decide +kernel
theorem d222_672 : decode (cm_M 222).2.2.1 672 = .ok (.aload_n 2, 1) := by decide +kernel
theorem d222_673 : decode (cm_M 222).2.2.1 673 = .ok (.aload_n 0, 1) := by decide +kernel
theorem d222_674 : decode (cm_M 222).2.2.1 674 = .ok (.iload 4, 2) := by decide +kernel
theorem d222_676 : decode (cm_M 222).2.2.1 676 = .ok (.iconst 1, 1) := by decide +kernel
theorem d222_677 : decode (cm_M 222).2.2.1 677 = .ok (.iadd, 1) := by decide +kernel
theorem d222_678 : decode (cm_M 222).2.2.1 678 = .ok (.iaload, 1) := by decide +kernel
theorem d222_679 : decode (cm_M 222).2.2.1 679 = .ok (.aload_n 0, 1) := by decide +kernel
theorem d222_680 : decode (cm_M 222).2.2.1 680 = .ok (.iload 4, 2) := by decide +kernel
theorem d222_682 : decode (cm_M 222).2.2.1 682 = .ok (.iconst 2, 1) := by decide +kernel
theorem d222_683 : decode (cm_M 222).2.2.1 683 = .ok (.iadd, 1) := by decide +kernel
theorem d222_684 : decode (cm_M 222).2.2.1 684 = .ok (.iaload, 1) := by decide +kernel
theorem d222_685 : decode (cm_M 222).2.2.1 685 = .ok (.invokevirtual 78, 3) := by decide +kernel
theorem d222_688 : decode (cm_M 222).2.2.1 688 = .ok (.if_icmp .eq 903, 3) := by decide +kernel
theorem d222_691 : decode (cm_M 222).2.2.1 691 = .ok (.iconst 0, 1) := by decide +kernel
theorem d222_692 : decode (cm_M 222).2.2.1 692 = .ok (.ireturn, 1) := by decide +kernel
theorem d222_693 : decode (cm_M 222).2.2.1 693 = .ok (.aload_n 1, 1) := by decide +kernel
theorem d222_694 : decode (cm_M 222).2.2.1 694 = .ok (.aload_n 0, 1) := by decide +kernel
theorem d222_695 : decode (cm_M 222).2.2.1 695 = .ok (.iload 4, 2) := by decide +kernel
theorem d222_697 : decode (cm_M 222).2.2.1 697 = .ok (.iconst 1, 1) := by decide +kernel
theorem d222_698 : decode (cm_M 222).2.2.1 698 = .ok (.iadd, 1) := by decide +kernel
theorem d222_699 : decode (cm_M 222).2.2.1 699 = .ok (.iaload, 1) := by decide +kernel
theorem d222_700 : decode (cm_M 222).2.2.1 700 = .ok (.aload_n 0, 1) := by decide +kernel
theorem d222_701 : decode (cm_M 222).2.2.1 701 = .ok (.iload 4, 2) := by decide +kernel
theorem d222_703 : decode (cm_M 222).2.2.1 703 = .ok (.iconst 2, 1) := by decide +kernel
theorem d222_704 : decode (cm_M 222).2.2.1 704 = .ok (.iadd, 1) := by decide +kernel
theorem d222_705 : decode (cm_M 222).2.2.1 705 = .ok (.iaload, 1) := by decide +kernel
theorem d222_706 : decode (cm_M 222).2.2.1 706 = .ok (.aload_n 0, 1) := by decide +kernel
theorem d222_707 : decode (cm_M 222).2.2.1 707 = .ok (.iload 4, 2) := by decide +kernel
theorem d222_709 : decode (cm_M 222).2.2.1 709 = .ok (.iconst 3, 1) := by decide +kernel
theorem d222_710 : decode (cm_M 222).2.2.1 710 = .ok (.iadd, 1) := by decide +kernel
theorem d222_711 : decode (cm_M 222).2.2.1 711 = .ok (.iaload, 1) := by decide +kernel
theorem d222_712 : decode (cm_M 222).2.2.1 712 = .ok (.aload_n 0, 1) := by decide +kernel
theorem d222_713 : decode (cm_M 222).2.2.1 713 = .ok (.iload 4, 2) := by decide +kernel
theorem d222_715 : decode (cm_M 222).2.2.1 715 = .ok (.iconst 4, 1) := by decide +kernel
theorem d222_716 : decode (cm_M 222).2.2.1 716 = .ok (.iadd, 1) := by decide +kernel
theorem d222_717 : decode (cm_M 222).2.2.1 717 = .ok (.iaload, 1) := by decide +kernel
theorem d222_718 : decode (cm_M 222).2.2.1 718 = .ok (.aload_n 0, 1) := by decide +kernel
theorem d222_719 : decode (cm_M 222).2.2.1 719 = .ok (.iload 4, 2) := by decide +kernel
theorem d222_721 : decode (cm_M 222).2.2.1 721 = .ok (.iconst 5, 1) := by decide +kernel
theorem d222_722 : decode (cm_M 222).2.2.1 722 = .ok (.iadd, 1) := by decide +kernel
theorem d222_723 : decode (cm_M 222).2.2.1 723 = .ok (.iaload, 1) := by decide +kernel
theorem d222_724 : decode (cm_M 222).2.2.1 724 = .ok (.aload_n 0, 1) := by decide +kernel
theorem d222_725 : decode (cm_M 222).2.2.1 725 = .ok (.iload 4, 2) := by decide +kernel
theorem d222_727 : decode (cm_M 222).2.2.1 727 = .ok (.bipush 6, 2) := by decide +kernel
theorem d222_729 : decode (cm_M 222).2.2.1 729 = .ok (.iadd, 1) := by decide +kernel
theorem d222_730 : decode (cm_M 222).2.2.1 730 = .ok (.iaload, 1) := by decide +kernel
theorem d222_731 : decode (cm_M 222).2.2.1 731 = .ok (.aload_n 0, 1) := by decide +kernel
theorem d222_732 : decode (cm_M 222).2.2.1 732 = .ok (.iload 4, 2) := by decide +kernel
theorem d222_734 : decode (cm_M 222).2.2.1 734 = .ok (.bipush 7, 2) := by decide +kernel
theorem d222_736 : decode (cm_M 222).2.2.1 736 = .ok (.iadd, 1) := by decide +kernel
theorem d222_737 : decode (cm_M 222).2.2.1 737 = .ok (.iaload, 1) := by decide +kernel
theorem d222_738 : decode (cm_M 222).2.2.1 738 = .ok (.aload_n 0, 1) := by decide +kernel
theorem d222_739 : decode (cm_M 222).2.2.1 739 = .ok (.iload 4, 2) := by decide +kernel
theorem d222_741 : decode (cm_M 222).2.2.1 741 = .ok (.bipush 8, 2) := by decide +kernel
theorem d222_743 : decode (cm_M 222).2.2.1 743 = .ok (.iadd, 1) := by decide +kernel
theorem d222_744 : decode (cm_M 222).2.2.1 744 = .ok (.iaload, 1) := by decide +kernel
theorem d222_745 : decode (cm_M 222).2.2.1 745 = .ok (.aload_n 3, 1) := by decide +kernel
theorem d222_746 : decode (cm_M 222).2.2.1 746 = .ok (.invokestatic 79, 3) := by decide +kernel
theorem d222_749 : decode (cm_M 222).2.2.1 749 = .ok (.istore 5, 2) := by decide +kernel
theorem d222_751 : decode (cm_M 222).2.2.1 751 = .ok (.aload_n 2, 1) := by decide +kernel
theorem d222_752 : decode (cm_M 222).2.2.1 752 = .ok (.aload_n 0, 1) := by decide +kernel
theorem d222_753 : decode (cm_M 222).2.2.1 753 = .ok (.iload 4, 2) := by decide +kernel
theorem d222_755 : decode (cm_M 222).2.2.1 755 = .ok (.iconst 1, 1) := by decide +kernel
theorem d222_756 : decode (cm_M 222).2.2.1 756 = .ok (.iadd, 1) := by decide +kernel
theorem d222_757 : decode (cm_M 222).2.2.1 757 = .ok (.iaload, 1) := by decide +kernel
theorem d222_758 : decode (cm_M 222).2.2.1 758 = .ok (.aload_n 0, 1) := by decide +kernel
theorem d222_759 : decode (cm_M 222).2.2.1 759 = .ok (.iload 4, 2) := by decide +kernel
theorem d222_761 : decode (cm_M 222).2.2.1 761 = .ok (.iconst 2, 1) := by decide +kernel
theorem d222_762 : decode (cm_M 222).2.2.1 762 = .ok (.iadd, 1) := by decide +kernel
theorem d222_763 : decode (cm_M 222).2.2.1 763 = .ok (.iaload, 1) := by decide +kernel
theorem d222_764 : decode (cm_M 222).2.2.1 764 = .ok (.aload_n 0, 1) := by decide +kernel
theorem d222_765 : decode (cm_M 222).2.2.1 765 = .ok (.iload 4, 2) := by decide +kernel
theorem d222_767 : decode (cm_M 222).2.2.1 767 = .ok (.iconst 3, 1) := by decide +kernel
theorem d222_768 : decode (cm_M 222).2.2.1 768 = .ok (.iadd, 1) := by decide +kernel
theorem d222_769 : decode (cm_M 222).2.2.1 769 = .ok (.iaload, 1) := by decide +kernel
theorem d222_770 : decode (cm_M 222).2.2.1 770 = .ok (.aload_n 0, 1) := by decide +kernel
theorem d222_771 : decode (cm_M 222).2.2.1 771 = .ok (.iload 4, 2) := by decide +kernel
theorem d222_773 : decode (cm_M 222).2.2.1 773 = .ok (.iconst 4, 1) := by decide +kernel
theorem d222_774 : decode (cm_M 222).2.2.1 774 = .ok (.iadd, 1) := by decide +kernel
theorem d222_775 : decode (cm_M 222).2.2.1 775 = .ok (.iaload, 1) := by decide +kernel
theorem d222_776 : decode (cm_M 222).2.2.1 776 = .ok (.aload_n 0, 1) := by decide +kernel
theorem d222_777 : decode (cm_M 222).2.2.1 777 = .ok (.iload 4, 2) := by decide +kernel
theorem d222_779 : decode (cm_M 222).2.2.1 779 = .ok (.iconst 5, 1) := by decide +kernel
theorem d222_780 : decode (cm_M 222).2.2.1 780 = .ok (.iadd, 1) := by decide +kernel
theorem d222_781 : decode (cm_M 222).2.2.1 781 = .ok (.iaload, 1) := by decide +kernel
theorem d222_782 : decode (cm_M 222).2.2.1 782 = .ok (.aload_n 0, 1) := by decide +kernel
theorem d222_783 : decode (cm_M 222).2.2.1 783 = .ok (.iload 4, 2) := by decide +kernel
theorem d222_785 : decode (cm_M 222).2.2.1 785 = .ok (.bipush 6, 2) := by decide +kernel
theorem d222_787 : decode (cm_M 222).2.2.1 787 = .ok (.iadd, 1) := by decide +kernel
theorem d222_788 : decode (cm_M 222).2.2.1 788 = .ok (.iaload, 1) := by decide +kernel
theorem d222_789 : decode (cm_M 222).2.2.1 789 = .ok (.aload_n 0, 1) := by decide +kernel
theorem d222_790 : decode (cm_M 222).2.2.1 790 = .ok (.iload 4, 2) := by decide +kernel
theorem d222_792 : decode (cm_M 222).2.2.1 792 = .ok (.bipush 7, 2) := by decide +kernel
theorem d222_794 : decode (cm_M 222).2.2.1 794 = .ok (.iadd, 1) := by decide +kernel
theorem d222_795 : decode (cm_M 222).2.2.1 795 = .ok (.iaload, 1) := by decide +kernel
theorem d222_796 : decode (cm_M 222).2.2.1 796 = .ok (.aload_n 0, 1) := by decide +kernel
theorem d222_797 : decode (cm_M 222).2.2.1 797 = .ok (.iload 4, 2) := by decide +kernel
theorem d222_799 : decode (cm_M 222).2.2.1 799 = .ok (.bipush 8, 2) := by decide +kernel
theorem d222_801 : decode (cm_M 222).2.2.1 801 = .ok (.iadd, 1) := by decide +kernel
theorem d222_802 : decode (cm_M 222).2.2.1 802 = .ok (.iaload, 1) := by decide +kernel
theorem d222_803 : decode (cm_M 222).2.2.1 803 = .ok (.invokevirtual 84, 3) := by decide +kernel
theorem d222_806 : decode (cm_M 222).2.2.1 806 = .ok (.istore 6, 2) := by decide +kernel
theorem d222_808 : decode (cm_M 222).2.2.1 808 = .ok (.aload_n 2, 1) := by decide +kernel
theorem d222_809 : decode (cm_M 222).2.2.1 809 = .ok (.invokevirtual 85, 3) := by decide +kernel
theorem d222_812 : decode (cm_M 222).2.2.1 812 = .ok (.iload 5, 2) := by decide +kernel
theorem d222_814 : decode (cm_M 222).2.2.1 814 = .ok (.if_icmp .eq 5, 3) := by decide +kernel
theorem d222_817 : decode (cm_M 222).2.2.1 817 = .ok (.iconst 0, 1) := by decide +kernel
theorem d222_818 : decode (cm_M 222).2.2.1 818 = .ok (.ireturn, 1) := by decide +kernel
theorem d222_819 : decode (cm_M 222).2.2.1 819 = .ok (.iload 5, 2) := by decide +kernel
theorem d222_821 : decode (cm_M 222).2.2.1 821 = .ok (.ifCond .ne 15, 3) := by decide +kernel
theorem d222_824 : decode (cm_M 222).2.2.1 824 = .ok (.aload_n 3, 1) := by decide +kernel
theorem d222_825 : decode (cm_M 222).2.2.1 825 = .ok (.iconst 0, 1) := by decide +kernel
theorem d222_826 : decode (cm_M 222).2.2.1 826 = .ok (.laload, 1) := by decide +kernel
theorem d222_827 : decode (cm_M 222).2.2.1 827 = .ok (.iload 6, 2) := by decide +kernel
theorem d222_829 : decode (cm_M 222).2.2.1 829 = .ok (.i2l, 1) := by decide +kernel
theorem d222_830 : decode (cm_M 222).2.2.1 830 = .ok (.lcmp, 1) := by decide +kernel
theorem d222_831 : decode (cm_M 222).2.2.1 831 = .ok (.ifCond .eq 5, 3) := by decide +kernel
theorem d222_834 : decode (cm_M 222).2.2.1 834 = .ok (.iconst 0, 1) := by decide +kernel
theorem d222_835 : decode (cm_M 222).2.2.1 835 = .ok (.ireturn, 1) := by decide +kernel
theorem d222_836 : decode (cm_M 222).2.2.1 836 = .ok (.goto 755, 3) := by decide +kernel
theorem d222_839 : decode (cm_M 222).2.2.1 839 = .ok (.aload_n 1, 1) := by decide +kernel
theorem d222_840 : decode (cm_M 222).2.2.1 840 = .ok (.aload_n 0, 1) := by decide +kernel
theorem d222_841 : decode (cm_M 222).2.2.1 841 = .ok (.iload 4, 2) := by decide +kernel
theorem d222_843 : decode (cm_M 222).2.2.1 843 = .ok (.iconst 1, 1) := by decide +kernel
theorem d222_844 : decode (cm_M 222).2.2.1 844 = .ok (.iadd, 1) := by decide +kernel
theorem d222_845 : decode (cm_M 222).2.2.1 845 = .ok (.iaload, 1) := by decide +kernel
theorem d222_846 : decode (cm_M 222).2.2.1 846 = .ok (.invokevirtual 88, 3) := by decide +kernel
theorem d222_849 : decode (cm_M 222).2.2.1 849 = .ok (.aload_n 2, 1) := by decide +kernel
theorem d222_850 : decode (cm_M 222).2.2.1 850 = .ok (.aload_n 0, 1) := by decide +kernel
theorem d222_851 : decode (cm_M 222).2.2.1 851 = .ok (.iload 4, 2) := by decide +kernel
theorem d222_853 : decode (cm_M 222).2.2.1 853 = .ok (.iconst 1, 1) := by decide +kernel
theorem d222_854 : decode (cm_M 222).2.2.1 854 = .ok (.iadd, 1) := by decide +kernel
theorem d222_855 : decode (cm_M 222).2.2.1 855 = .ok (.iaload, 1) := by decide +kernel
theorem d222_856 : decode (cm_M 222).2.2.1 856 = .ok (.invokevirtual 91, 3) := by decide +kernel
theorem d222_859 : decode (cm_M 222).2.2.1 859 = .ok (.if_icmp .eq 732, 3) := by decide +kernel
theorem d222_862 : decode (cm_M 222).2.2.1 862 = .ok (.iconst 0, 1) := by decide +kernel
theorem d222_863 : decode (cm_M 222).2.2.1 863 = .ok (.ireturn, 1) := by decide +kernel
theorem d222_864 : decode (cm_M 222).2.2.1 864 = .ok (.aload_n 1, 1) := by decide +kernel
theorem d222_865 : decode (cm_M 222).2.2.1 865 = .ok (.aload_n 0, 1) := by decide +kernel
theorem d222_866 : decode (cm_M 222).2.2.1 866 = .ok (.iload 4, 2) := by decide +kernel
theorem d222_868 : decode (cm_M 222).2.2.1 868 = .ok (.iconst 1, 1) := by decide +kernel
theorem d222_869 : decode (cm_M 222).2.2.1 869 = .ok (.iadd, 1) := by decide +kernel
theorem d222_870 : decode (cm_M 222).2.2.1 870 = .ok (.iaload, 1) := by decide +kernel
theorem d222_871 : decode (cm_M 222).2.2.1 871 = .ok (.aload_n 0, 1) := by decide +kernel
theorem d222_872 : decode (cm_M 222).2.2.1 872 = .ok (.iload 4, 2) := by decide +kernel
theorem d222_874 : decode (cm_M 222).2.2.1 874 = .ok (.iconst 2, 1) := by decide +kernel
theorem d222_875 : decode (cm_M 222).2.2.1 875 = .ok (.iadd, 1) := by decide +kernel
theorem d222_876 : decode (cm_M 222).2.2.1 876 = .ok (.iaload, 1) := by decide +kernel
theorem d222_877 : decode (cm_M 222).2.2.1 877 = .ok (.invokevirtual 92, 3) := by decide +kernel
theorem d222_880 : decode (cm_M 222).2.2.1 880 = .ok (.aload_n 2, 1) := by decide +kernel
theorem d222_881 : decode (cm_M 222).2.2.1 881 = .ok (.aload_n 0, 1) := by decide +kernel
theorem d222_882 : decode (cm_M 222).2.2.1 882 = .ok (.iload 4, 2) := by decide +kernel
theorem d222_884 : decode (cm_M 222).2.2.1 884 = .ok (.iconst 1, 1) := by decide +kernel
theorem d222_885 : decode (cm_M 222).2.2.1 885 = .ok (.iadd, 1) := by decide +kernel
theorem d222_886 : decode (cm_M 222).2.2.1 886 = .ok (.iaload, 1) := by decide +kernel
theorem d222_887 : decode (cm_M 222).2.2.1 887 = .ok (.aload_n 0, 1) := by decide +kernel
theorem d222_888 : decode (cm_M 222).2.2.1 888 = .ok (.iload 4, 2) := by decide +kernel
theorem d222_890 : decode (cm_M 222).2.2.1 890 = .ok (.iconst 2, 1) := by decide +kernel
theorem d222_891 : decode (cm_M 222).2.2.1 891 = .ok (.iadd, 1) := by decide +kernel
theorem d222_892 : decode (cm_M 222).2.2.1 892 = .ok (.iaload, 1) := by decide +kernel
theorem d222_893 : decode (cm_M 222).2.2.1 893 = .ok (.invokevirtual 95, 3) := by decide +kernel
theorem d222_896 : decode (cm_M 222).2.2.1 896 = .ok (.if_icmp .eq 695, 3) := by decide +kernel
theorem d222_899 : decode (cm_M 222).2.2.1 899 = .ok (.iconst 0, 1) := by decide +kernel
theorem d222_900 : decode (cm_M 222).2.2.1 900 = .ok (.ireturn, 1) := by decide +kernel
theorem d222_901 : decode (cm_M 222).2.2.1 901 = .ok (.aload_n 1, 1) := by decide +kernel
theorem d222_902 : decode (cm_M 222).2.2.1 902 = .ok (.aload_n 0, 1) := by decide +kernel
theorem d222_903 : decode (cm_M 222).2.2.1 903 = .ok (.iload 4, 2) := by decide +kernel
theorem d222_905 : decode (cm_M 222).2.2.1 905 = .ok (.iconst 1, 1) := by decide +kernel
theorem d222_906 : decode (cm_M 222).2.2.1 906 = .ok (.iadd, 1) := by decide +kernel
theorem d222_907 : decode (cm_M 222).2.2.1 907 = .ok (.iaload, 1) := by decide +kernel
theorem d222_908 : decode (cm_M 222).2.2.1 908 = .ok (.invokevirtual 96, 3) := by decide +kernel
theorem d222_911 : decode (cm_M 222).2.2.1 911 = .ok (.aload_n 2, 1) := by decide +kernel
theorem d222_912 : decode (cm_M 222).2.2.1 912 = .ok (.aload_n 0, 1) := by decide +kernel
theorem d222_913 : decode (cm_M 222).2.2.1 913 = .ok (.iload 4, 2) := by decide +kernel
theorem d222_915 : decode (cm_M 222).2.2.1 915 = .ok (.iconst 1, 1) := by decide +kernel
theorem d222_916 : decode (cm_M 222).2.2.1 916 = .ok (.iadd, 1) := by decide +kernel
theorem d222_917 : decode (cm_M 222).2.2.1 917 = .ok (.iaload, 1) := by decide +kernel
theorem d222_918 : decode (cm_M 222).2.2.1 918 = .ok (.invokevirtual 100, 3) := by decide +kernel
theorem d222_921 : decode (cm_M 222).2.2.1 921 = .ok (.if_icmp .eq 670, 3) := by decide +kernel
theorem d222_924 : decode (cm_M 222).2.2.1 924 = .ok (.iconst 0, 1) := by decide +kernel
theorem d222_925 : decode (cm_M 222).2.2.1 925 = .ok (.ireturn, 1) := by decide +kernel
theorem d222_926 : decode (cm_M 222).2.2.1 926 = .ok (.aload_n 1, 1) := by decide +kernel
theorem d222_927 : decode (cm_M 222).2.2.1 927 = .ok (.aload_n 0, 1) := by decide +kernel
theorem d222_928 : decode (cm_M 222).2.2.1 928 = .ok (.iload 4, 2) := by decide +kernel
theorem d222_930 : decode (cm_M 222).2.2.1 930 = .ok (.iconst 1, 1) := by decide +kernel
theorem d222_931 : decode (cm_M 222).2.2.1 931 = .ok (.iadd, 1) := by decide +kernel
theorem d222_932 : decode (cm_M 222).2.2.1 932 = .ok (.iaload, 1) := by decide +kernel
theorem d222_933 : decode (cm_M 222).2.2.1 933 = .ok (.aload_n 0, 1) := by decide +kernel
theorem d222_934 : decode (cm_M 222).2.2.1 934 = .ok (.iload 4, 2) := by decide +kernel
theorem d222_936 : decode (cm_M 222).2.2.1 936 = .ok (.iconst 2, 1) := by decide +kernel
theorem d222_937 : decode (cm_M 222).2.2.1 937 = .ok (.iadd, 1) := by decide +kernel
theorem d222_938 : decode (cm_M 222).2.2.1 938 = .ok (.iaload, 1) := by decide +kernel
theorem d222_939 : decode (cm_M 222).2.2.1 939 = .ok (.invokevirtual 101, 3) := by decide +kernel
theorem d222_942 : decode (cm_M 222).2.2.1 942 = .ok (.aload_n 2, 1) := by decide +kernel
theorem d222_943 : decode (cm_M 222).2.2.1 943 = .ok (.aload_n 0, 1) := by decide +kernel
theorem d222_944 : decode (cm_M 222).2.2.1 944 = .ok (.iload 4, 2) := by decide +kernel
theorem d222_946 : decode (cm_M 222).2.2.1 946 = .ok (.iconst 1, 1) := by decide +kernel
theorem d222_947 : decode (cm_M 222).2.2.1 947 = .ok (.iadd, 1) := by decide +kernel
theorem d222_948 : decode (cm_M 222).2.2.1 948 = .ok (.iaload, 1) := by decide +kernel
theorem d222_949 : decode (cm_M 222).2.2.1 949 = .ok (.aload_n 0, 1) := by decide +kernel
theorem d222_950 : decode (cm_M 222).2.2.1 950 = .ok (.iload 4, 2) := by decide +kernel
theorem d222_952 : decode (cm_M 222).2.2.1 952 = .ok (.iconst 2, 1) := by decide +kernel
theorem d222_953 : decode (cm_M 222).2.2.1 953 = .ok (.iadd, 1) := by decide +kernel
theorem d222_954 : decode (cm_M 222).2.2.1 954 = .ok (.iaload, 1) := by decide +kernel
theorem d222_955 : decode (cm_M 222).2.2.1 955 = .ok (.invokevirtual 104, 3) := by decide +kernel
theorem d222_958 : decode (cm_M 222).2.2.1 958 = .ok (.if_icmp .eq 633, 3) := by decide +kernel
theorem d222_961 : decode (cm_M 222).2.2.1 961 = .ok (.iconst 0, 1) := by decide +kernel
theorem d222_962 : decode (cm_M 222).2.2.1 962 = .ok (.ireturn, 1) := by decide +kernel
theorem d222_963 : decode (cm_M 222).2.2.1 963 = .ok (.aload_n 1, 1) := by decide +kernel
theorem d222_964 : decode (cm_M 222).2.2.1 964 = .ok (.aload_n 0, 1) := by decide +kernel
theorem d222_965 : decode (cm_M 222).2.2.1 965 = .ok (.iload 4, 2) := by decide +kernel
theorem d222_967 : decode (cm_M 222).2.2.1 967 = .ok (.iconst 1, 1) := by decide +kernel
theorem d222_968 : decode (cm_M 222).2.2.1 968 = .ok (.iadd, 1) := by decide +kernel
theorem d222_969 : decode (cm_M 222).2.2.1 969 = .ok (.iaload, 1) := by decide +kernel
theorem d222_970 : decode (cm_M 222).2.2.1 970 = .ok (.aload_n 0, 1) := by decide +kernel
theorem d222_971 : decode (cm_M 222).2.2.1 971 = .ok (.iload 4, 2) := by decide +kernel
theorem d222_973 : decode (cm_M 222).2.2.1 973 = .ok (.iconst 2, 1) := by decide +kernel
theorem d222_974 : decode (cm_M 222).2.2.1 974 = .ok (.iadd, 1) := by decide +kernel
theorem d222_975 : decode (cm_M 222).2.2.1 975 = .ok (.iaload, 1) := by decide +kernel
theorem d222_976 : decode (cm_M 222).2.2.1 976 = .ok (.aload_n 0, 1) := by decide +kernel
theorem d222_977 : decode (cm_M 222).2.2.1 977 = .ok (.iload 4, 2) := by decide +kernel
theorem d222_979 : decode (cm_M 222).2.2.1 979 = .ok (.iconst 3, 1) := by decide +kernel
theorem d222_980 : decode (cm_M 222).2.2.1 980 = .ok (.iadd, 1) := by decide +kernel
theorem d222_981 : decode (cm_M 222).2.2.1 981 = .ok (.iaload, 1) := by decide +kernel
theorem d222_982 : decode (cm_M 222).2.2.1 982 = .ok (.invokevirtual 105, 3) := by decide +kernel
theorem d222_985 : decode (cm_M 222).2.2.1 985 = .ok (.aload_n 2, 1) := by decide +kernel
theorem d222_986 : decode (cm_M 222).2.2.1 986 = .ok (.aload_n 0, 1) := by decide +kernel
theorem d222_987 : decode (cm_M 222).2.2.1 987 = .ok (.iload 4, 2) := by decide +kernel
theorem d222_989 : decode (cm_M 222).2.2.1 989 = .ok (.iconst 1, 1) := by decide +kernel
theorem d222_990 : decode (cm_M 222).2.2.1 990 = .ok (.iadd, 1) := by decide +kernel
theorem d222_991 : decode (cm_M 222).2.2.1 991 = .ok (.iaload, 1) := by decide +kernel
theorem d222_992 : decode (cm_M 222).2.2.1 992 = .ok (.aload_n 0, 1) := by decide +kernel
theorem d222_993 : decode (cm_M 222).2.2.1 993 = .ok (.iload 4, 2) := by decide +kernel
theorem d222_995 : decode (cm_M 222).2.2.1 995 = .ok (.iconst 2, 1) := by decide +kernel
theorem d222_996 : decode (cm_M 222).2.2.1 996 = .ok (.iadd, 1) := by decide +kernel
theorem d222_997 : decode (cm_M 222).2.2.1 997 = .ok (.iaload, 1) := by decide +kernel
theorem d222_998 : decode (cm_M 222).2.2.1 998 = .ok (.aload_n 0, 1) := by decide +kernel
theorem d222_999 : decode (cm_M 222).2.2.1 999 = .ok (.iload 4, 2) := by decide +kernel
theorem d222_1001 : decode (cm_M 222).2.2.1 1001 = .ok (.iconst 3, 1) := by decide +kernel
theorem d222_1002 : decode (cm_M 222).2.2.1 1002 = .ok (.iadd, 1) := by decide +kernel
theorem d222_1003 : decode (cm_M 222).2.2.1 1003 = .ok (.iaload, 1) := by decide +kernel
theorem d222_1004 : decode (cm_M 222).2.2.1 1004 = .ok (.invokevirtual 108, 3) := by decide +kernel
theorem d222_1007 : decode (cm_M 222).2.2.1 1007 = .ok (.if_icmp .eq 584, 3) := by decide +kernel
theorem d222_1010 : decode (cm_M 222).2.2.1 1010 = .ok (.iconst 0, 1) := by decide +kernel
theorem d222_1011 : decode (cm_M 222).2.2.1 1011 = .ok (.ireturn, 1) := by decide +kernel
theorem d222_1012 : decode (cm_M 222).2.2.1 1012 = .ok (.aload_n 1, 1) := by decide +kernel
theorem d222_1013 : decode (cm_M 222).2.2.1 1013 = .ok (.aload_n 0, 1) := by decide +kernel
theorem d222_1014 : decode (cm_M 222).2.2.1 1014 = .ok (.iload 4, 2) := by decide +kernel
theorem d222_1016 : decode (cm_M 222).2.2.1 1016 = .ok (.iconst 1, 1) := by decide +kernel
theorem d222_1017 : decode (cm_M 222).2.2.1 1017 = .ok (.iadd, 1) := by decide +kernel
theorem d222_1018 : decode (cm_M 222).2.2.1 1018 = .ok (.iaload, 1) := by decide +kernel
theorem d222_1019 : decode (cm_M 222).2.2.1 1019 = .ok (.aload_n 0, 1) := by decide +kernel
theorem d222_1020 : decode (cm_M 222).2.2.1 1020 = .ok (.iload 4, 2) := by decide +kernel
theorem d222_1022 : decode (cm_M 222).2.2.1 1022 = .ok (.iconst 2, 1) := by decide +kernel
theorem d222_1023 : decode (cm_M 222).2.2.1 1023 = .ok (.iadd, 1) := by decide +kernel
theorem d222_1024 : decode (cm_M 222).2.2.1 1024 = .ok (.iaload, 1) := by decide +kernel
theorem d222_1025 : decode (cm_M 222).2.2.1 1025 = .ok (.invokevirtual 109, 3) := by decide +kernel
theorem d222_1028 : decode (cm_M 222).2.2.1 1028 = .ok (.aload_n 2, 1) := by decide +kernel
theorem d222_1029 : decode (cm_M 222).2.2.1 1029 = .ok (.aload_n 0, 1) := by decide +kernel
theorem d222_1030 : decode (cm_M 222).2.2.1 1030 = .ok (.iload 4, 2) := by decide +kernel
theorem d222_1032 : decode (cm_M 222).2.2.1 1032 = .ok (.iconst 1, 1) := by decide +kernel
theorem d222_1033 : decode (cm_M 222).2.2.1 1033 = .ok (.iadd, 1) := by decide +kernel
theorem d222_1034 : decode (cm_M 222).2.2.1 1034 = .ok (.iaload, 1) := by decide +kernel
theorem d222_1035 : decode (cm_M 222).2.2.1 1035 = .ok (.aload_n 0, 1) := by decide +kernel
theorem d222_1036 : decode (cm_M 222).2.2.1 1036 = .ok (.iload 4, 2) := by decide +kernel
theorem d222_1038 : decode (cm_M 222).2.2.1 1038 = .ok (.iconst 2, 1) := by decide +kernel
theorem d222_1039 : decode (cm_M 222).2.2.1 1039 = .ok (.iadd, 1) := by decide +kernel
theorem d222_1040 : decode (cm_M 222).2.2.1 1040 = .ok (.iaload, 1) := by decide +kernel
theorem d222_1041 : decode (cm_M 222).2.2.1 1041 = .ok (.invokevirtual 112, 3) := by decide +kernel
theorem d222_1044 : decode (cm_M 222).2.2.1 1044 = .ok (.if_icmp .eq 547, 3) := by decide +kernel
theorem d222_1047 : decode (cm_M 222).2.2.1 1047 = .ok (.iconst 0, 1) := by decide +kernel
theorem d222_1048 : decode (cm_M 222).2.2.1 1048 = .ok (.ireturn, 1) := by decide +kernel
theorem d222_1049 : decode (cm_M 222).2.2.1 1049 = .ok (.aload_n 1, 1) := by decide +kernel
theorem d222_1050 : decode (cm_M 222).2.2.1 1050 = .ok (.aload_n 0, 1) := by decide +kernel
theorem d222_1051 : decode (cm_M 222).2.2.1 1051 = .ok (.iload 4, 2) := by decide +kernel
theorem d222_1053 : decode (cm_M 222).2.2.1 1053 = .ok (.iconst 1, 1) := by decide +kernel
theorem d222_1054 : decode (cm_M 222).2.2.1 1054 = .ok (.iadd, 1) := by decide +kernel
theorem d222_1055 : decode (cm_M 222).2.2.1 1055 = .ok (.iaload, 1) := by decide +kernel
theorem d222_1056 : decode (cm_M 222).2.2.1 1056 = .ok (.invokevirtual 113, 3) := by decide +kernel
theorem d222_1059 : decode (cm_M 222).2.2.1 1059 = .ok (.aload_n 2, 1) := by decide +kernel
theorem d222_1060 : decode (cm_M 222).2.2.1 1060 = .ok (.aload_n 0, 1) := by decide +kernel
theorem d222_1061 : decode (cm_M 222).2.2.1 1061 = .ok (.iload 4, 2) := by decide +kernel
theorem d222_1063 : decode (cm_M 222).2.2.1 1063 = .ok (.iconst 1, 1) := by decide +kernel
theorem d222_1064 : decode (cm_M 222).2.2.1 1064 = .ok (.iadd, 1) := by decide +kernel
theorem d222_1065 : decode (cm_M 222).2.2.1 1065 = .ok (.iaload, 1) := by decide +kernel
theorem d222_1066 : decode (cm_M 222).2.2.1 1066 = .ok (.invokevirtual 116, 3) := by decide +kernel
theorem d222_1069 : decode (cm_M 222).2.2.1 1069 = .ok (.if_icmp .eq 522, 3) := by decide +kernel
theorem d222_1072 : decode (cm_M 222).2.2.1 1072 = .ok (.iconst 0, 1) := by decide +kernel
theorem d222_1073 : decode (cm_M 222).2.2.1 1073 = .ok (.ireturn, 1) := by decide +kernel
theorem d222_1074 : decode (cm_M 222).2.2.1 1074 = .ok (.aload_n 1, 1) := by decide +kernel
theorem d222_1075 : decode (cm_M 222).2.2.1 1075 = .ok (.aload_n 0, 1) := by decide +kernel
theorem d222_1076 : decode (cm_M 222).2.2.1 1076 = .ok (.iload 4, 2) := by decide +kernel
theorem d222_1078 : decode (cm_M 222).2.2.1 1078 = .ok (.iconst 1, 1) := by decide +kernel
theorem d222_1079 : decode (cm_M 222).2.2.1 1079 = .ok (.iadd, 1) := by decide +kernel
theorem d222_1080 : decode (cm_M 222).2.2.1 1080 = .ok (.iaload, 1) := by decide +kernel
theorem d222_1081 : decode (cm_M 222).2.2.1 1081 = .ok (.aload_n 0, 1) := by decide +kernel
theorem d222_1082 : decode (cm_M 222).2.2.1 1082 = .ok (.iload 4, 2) := by decide +kernel
theorem d222_1084 : decode (cm_M 222).2.2.1 1084 = .ok (.iconst 2, 1) := by decide +kernel
theorem d222_1085 : decode (cm_M 222).2.2.1 1085 = .ok (.iadd, 1) := by decide +kernel
theorem d222_1086 : decode (cm_M 222).2.2.1 1086 = .ok (.iaload, 1) := by decide +kernel
theorem d222_1087 : decode (cm_M 222).2.2.1 1087 = .ok (.aload_n 0, 1) := by decide +kernel
theorem d222_1088 : decode (cm_M 222).2.2.1 1088 = .ok (.iload 4, 2) := by decide +kernel
theorem d222_1090 : decode (cm_M 222).2.2.1 1090 = .ok (.iconst 3, 1) := by decide +kernel
theorem d222_1091 : decode (cm_M 222).2.2.1 1091 = .ok (.iadd, 1) := by decide +kernel
theorem d222_1092 : decode (cm_M 222).2.2.1 1092 = .ok (.iaload, 1) := by decide +kernel
theorem d222_1093 : decode (cm_M 222).2.2.1 1093 = .ok (.aload_n 0, 1) := by decide +kernel
theorem d222_1094 : decode (cm_M 222).2.2.1 1094 = .ok (.iload 4, 2) := by decide +kernel
theorem d222_1096 : decode (cm_M 222).2.2.1 1096 = .ok (.iconst 4, 1) := by decide +kernel
theorem d222_1097 : decode (cm_M 222).2.2.1 1097 = .ok (.iadd, 1) := by decide +kernel
theorem d222_1098 : decode (cm_M 222).2.2.1 1098 = .ok (.iaload, 1) := by decide +kernel
theorem d222_1099 : decode (cm_M 222).2.2.1 1099 = .ok (.invokevirtual 117, 3) := by decide +kernel
theorem d222_1102 : decode (cm_M 222).2.2.1 1102 = .ok (.aload_n 2, 1) := by decide +kernel
theorem d222_1103 : decode (cm_M 222).2.2.1 1103 = .ok (.aload_n 0, 1) := by decide +kernel
theorem d222_1104 : decode (cm_M 222).2.2.1 1104 = .ok (.iload 4, 2) := by decide +kernel
theorem d222_1106 : decode (cm_M 222).2.2.1 1106 = .ok (.iconst 1, 1) := by decide +kernel
theorem d222_1107 : decode (cm_M 222).2.2.1 1107 = .ok (.iadd, 1) := by decide +kernel
theorem d222_1108 : decode (cm_M 222).2.2.1 1108 = .ok (.iaload, 1) := by decide +kernel
theorem d222_1109 : decode (cm_M 222).2.2.1 1109 = .ok (.aload_n 0, 1) := by decide +kernel
theorem d222_1110 : decode (cm_M 222).2.2.1 1110 = .ok (.iload 4, 2) := by decide +kernel
theorem d222_1112 : decode (cm_M 222).2.2.1 1112 = .ok (.iconst 2, 1) := by decide +kernel
theorem d222_1113 : decode (cm_M 222).2.2.1 1113 = .ok (.iadd, 1) := by decide +kernel
theorem d222_1114 : decode (cm_M 222).2.2.1 1114 = .ok (.iaload, 1) := by decide +kernel
theorem d222_1115 : decode (cm_M 222).2.2.1 1115 = .ok (.aload_n 0, 1) := by decide +kernel
theorem d222_1116 : decode (cm_M 222).2.2.1 1116 = .ok (.iload 4, 2) := by decide +kernel
theorem d222_1118 : decode (cm_M 222).2.2.1 1118 = .ok (.iconst 3, 1) := by decide +kernel
theorem d222_1119 : decode (cm_M 222).2.2.1 1119 = .ok (.iadd, 1) := by decide +kernel
theorem d222_1120 : decode (cm_M 222).2.2.1 1120 = .ok (.iaload, 1) := by decide +kernel
theorem d222_1121 : decode (cm_M 222).2.2.1 1121 = .ok (.aload_n 0, 1) := by decide +kernel
theorem d222_1122 : decode (cm_M 222).2.2.1 1122 = .ok (.iload 4, 2) := by decide +kernel
theorem d222_1124 : decode (cm_M 222).2.2.1 1124 = .ok (.iconst 4, 1) := by decide +kernel
theorem d222_1125 : decode (cm_M 222).2.2.1 1125 = .ok (.iadd, 1) := by decide +kernel
theorem d222_1126 : decode (cm_M 222).2.2.1 1126 = .ok (.iaload, 1) := by decide +kernel
theorem d222_1127 : decode (cm_M 222).2.2.1 1127 = .ok (.invokevirtual 121, 3) := by decide +kernel
theorem d222_1130 : decode (cm_M 222).2.2.1 1130 = .ok (.lcmp, 1) := by decide +kernel
theorem d222_1131 : decode (cm_M 222).2.2.1 1131 = .ok (.ifCond .eq 460, 3) := by decide +kernel
theorem d222_1134 : decode (cm_M 222).2.2.1 1134 = .ok (.iconst 0, 1) := by decide +kernel
theorem d222_1135 : decode (cm_M 222).2.2.1 1135 = .ok (.ireturn, 1) := by decide +kernel
theorem d222_1136 : decode (cm_M 222).2.2.1 1136 = .ok (.aload_n 1, 1) := by decide +kernel
theorem d222_1137 : decode (cm_M 222).2.2.1 1137 = .ok (.aload_n 0, 1) := by decide +kernel
theorem d222_1138 : decode (cm_M 222).2.2.1 1138 = .ok (.iload 4, 2) := by decide +kernel
theorem d222_1140 : decode (cm_M 222).2.2.1 1140 = .ok (.iconst 1, 1) := by decide +kernel
theorem d222_1141 : decode (cm_M 222).2.2.1 1141 = .ok (.iadd, 1) := by decide +kernel
theorem d222_1142 : decode (cm_M 222).2.2.1 1142 = .ok (.iaload, 1) := by decide +kernel
theorem d222_1143 : decode (cm_M 222).2.2.1 1143 = .ok (.aload_n 0, 1) := by decide +kernel
theorem d222_1144 : decode (cm_M 222).2.2.1 1144 = .ok (.iload 4, 2) := by decide +kernel
theorem d222_1146 : decode (cm_M 222).2.2.1 1146 = .ok (.iconst 2, 1) := by decide +kernel
theorem d222_1147 : decode (cm_M 222).2.2.1 1147 = .ok (.iadd, 1) := by decide +kernel
theorem d222_1148 : decode (cm_M 222).2.2.1 1148 = .ok (.iaload, 1) := by decide +kernel
theorem d222_1149 : decode (cm_M 222).2.2.1 1149 = .ok (.aload_n 0, 1) := by decide +kernel
theorem d222_1150 : decode (cm_M 222).2.2.1 1150 = .ok (.iload 4, 2) := by decide +kernel
theorem d222_1152 : decode (cm_M 222).2.2.1 1152 = .ok (.iconst 3, 1) := by decide +kernel
theorem d222_1153 : decode (cm_M 222).2.2.1 1153 = .ok (.iadd, 1) := by decide +kernel
theorem d222_1154 : decode (cm_M 222).2.2.1 1154 = .ok (.iaload, 1) := by decide +kernel
theorem d222_1155 : decode (cm_M 222).2.2.1 1155 = .ok (.invokevirtual 122, 3) := by decide +kernel
theorem d222_1158 : decode (cm_M 222).2.2.1 1158 = .ok (.aload_n 2, 1) := by decide +kernel
theorem d222_1159 : decode (cm_M 222).2.2.1 1159 = .ok (.aload_n 0, 1) := by decide +kernel
theorem d222_1160 : decode (cm_M 222).2.2.1 1160 = .ok (.iload 4, 2) := by decide +kernel
theorem d222_1162 : decode (cm_M 222).2.2.1 1162 = .ok (.iconst 1, 1) := by decide +kernel
theorem d222_1163 : decode (cm_M 222).2.2.1 1163 = .ok (.iadd, 1) := by decide +kernel
theorem d222_1164 : decode (cm_M 222).2.2.1 1164 = .ok (.iaload, 1) := by decide +kernel
theorem d222_1165 : decode (cm_M 222).2.2.1 1165 = .ok (.aload_n 0, 1) := by decide +kernel
theorem d222_1166 : decode (cm_M 222).2.2.1 1166 = .ok (.iload 4, 2) := by decide +kernel
theorem d222_1168 : decode (cm_M 222).2.2.1 1168 = .ok (.iconst 2, 1) := by decide +kernel
theorem d222_1169 : decode (cm_M 222).2.2.1 1169 = .ok (.iadd, 1) := by decide +kernel
theorem d222_1170 : decode (cm_M 222).2.2.1 1170 = .ok (.iaload, 1) := by decide +kernel
theorem d222_1171 : decode (cm_M 222).2.2.1 1171 = .ok (.aload_n 0, 1) := by decide +kernel
theorem d222_1172 : decode (cm_M 222).2.2.1 1172 = .ok (.iload 4, 2) := by decide +kernel
theorem d222_1174 : decode (cm_M 222).2.2.1 1174 = .ok (.iconst 3, 1) := by decide +kernel
theorem d222_1175 : decode (cm_M 222).2.2.1 1175 = .ok (.iadd, 1) := by decide +kernel
theorem d222_1176 : decode (cm_M 222).2.2.1 1176 = .ok (.iaload, 1) := by decide +kernel
theorem d222_1177 : decode (cm_M 222).2.2.1 1177 = .ok (.invokevirtual 125, 3) := by decide +kernel
theorem d222_1180 : decode (cm_M 222).2.2.1 1180 = .ok (.if_icmp .eq 411, 3) := by decide +kernel
theorem d222_1183 : decode (cm_M 222).2.2.1 1183 = .ok (.iconst 0, 1) := by decide +kernel
theorem d222_1184 : decode (cm_M 222).2.2.1 1184 = .ok (.ireturn, 1) := by decide +kernel
theorem d222_1185 : decode (cm_M 222).2.2.1 1185 = .ok (.aload_n 1, 1) := by decide +kernel
theorem d222_1186 : decode (cm_M 222).2.2.1 1186 = .ok (.aload_n 0, 1) := by decide +kernel
theorem d222_1187 : decode (cm_M 222).2.2.1 1187 = .ok (.iload 4, 2) := by decide +kernel
theorem d222_1189 : decode (cm_M 222).2.2.1 1189 = .ok (.iconst 1, 1) := by decide +kernel
theorem d222_1190 : decode (cm_M 222).2.2.1 1190 = .ok (.iadd, 1) := by decide +kernel
theorem d222_1191 : decode (cm_M 222).2.2.1 1191 = .ok (.iaload, 1) := by decide +kernel
theorem d222_1192 : decode (cm_M 222).2.2.1 1192 = .ok (.aload_n 0, 1) := by decide +kernel
theorem d222_1193 : decode (cm_M 222).2.2.1 1193 = .ok (.iload 4, 2) := by decide +kernel
theorem d222_1195 : decode (cm_M 222).2.2.1 1195 = .ok (.iconst 2, 1) := by decide +kernel
theorem d222_1196 : decode (cm_M 222).2.2.1 1196 = .ok (.iadd, 1) := by decide +kernel
theorem d222_1197 : decode (cm_M 222).2.2.1 1197 = .ok (.iaload, 1) := by decide +kernel
theorem d222_1198 : decode (cm_M 222).2.2.1 1198 = .ok (.invokevirtual 126, 3) := by decide +kernel
theorem d222_1201 : decode (cm_M 222).2.2.1 1201 = .ok (.aload_n 2, 1) := by decide +kernel
theorem d222_1202 : decode (cm_M 222).2.2.1 1202 = .ok (.aload_n 0, 1) := by decide +kernel
theorem d222_1203 : decode (cm_M 222).2.2.1 1203 = .ok (.iload 4, 2) := by decide +kernel
theorem d222_1205 : decode (cm_M 222).2.2.1 1205 = .ok (.iconst 1, 1) := by decide +kernel
theorem d222_1206 : decode (cm_M 222).2.2.1 1206 = .ok (.iadd, 1) := by decide +kernel
theorem d222_1207 : decode (cm_M 222).2.2.1 1207 = .ok (.iaload, 1) := by decide +kernel
theorem d222_1208 : decode (cm_M 222).2.2.1 1208 = .ok (.aload_n 0, 1) := by decide +kernel
theorem d222_1209 : decode (cm_M 222).2.2.1 1209 = .ok (.iload 4, 2) := by decide +kernel
theorem d222_1211 : decode (cm_M 222).2.2.1 1211 = .ok (.iconst 2, 1) := by decide +kernel
theorem d222_1212 : decode (cm_M 222).2.2.1 1212 = .ok (.iadd, 1) := by decide +kernel
theorem d222_1213 : decode (cm_M 222).2.2.1 1213 = .ok (.iaload, 1) := by decide +kernel
theorem d222_1214 : decode (cm_M 222).2.2.1 1214 = .ok (.invokevirtual 129, 3) := by decide +kernel
theorem d222_1217 : decode (cm_M 222).2.2.1 1217 = .ok (.if_icmp .eq 374, 3) := by decide +kernel
theorem d222_1220 : decode (cm_M 222).2.2.1 1220 = .ok (.iconst 0, 1) := by decide +kernel
theorem d222_1221 : decode (cm_M 222).2.2.1 1221 = .ok (.ireturn, 1) := by decide +kernel
theorem d222_1222 : decode (cm_M 222).2.2.1 1222 = .ok (.aload_n 1, 1) := by decide +kernel
theorem d222_1223 : decode (cm_M 222).2.2.1 1223 = .ok (.aload_n 0, 1) := by decide +kernel
theorem d222_1224 : decode (cm_M 222).2.2.1 1224 = .ok (.iload 4, 2) := by decide +kernel
theorem d222_1226 : decode (cm_M 222).2.2.1 1226 = .ok (.iconst 1, 1) := by decide +kernel
theorem d222_1227 : decode (cm_M 222).2.2.1 1227 = .ok (.iadd, 1) := by decide +kernel
theorem d222_1228 : decode (cm_M 222).2.2.1 1228 = .ok (.iaload, 1) := by decide +kernel
theorem d222_1229 : decode (cm_M 222).2.2.1 1229 = .ok (.aload_n 0, 1) := by decide +kernel
theorem d222_1230 : decode (cm_M 222).2.2.1 1230 = .ok (.iload 4, 2) := by decide +kernel
theorem d222_1232 : decode (cm_M 222).2.2.1 1232 = .ok (.iconst 2, 1) := by decide +kernel
theorem d222_1233 : decode (cm_M 222).2.2.1 1233 = .ok (.iadd, 1) := by decide +kernel
theorem d222_1234 : decode (cm_M 222).2.2.1 1234 = .ok (.iaload, 1) := by decide +kernel
theorem d222_1235 : decode (cm_M 222).2.2.1 1235 = .ok (.invokevirtual 130, 3) := by decide +kernel
theorem d222_1238 : decode (cm_M 222).2.2.1 1238 = .ok (.aload_n 2, 1) := by decide +kernel
theorem d222_1239 : decode (cm_M 222).2.2.1 1239 = .ok (.aload_n 0, 1) := by decide +kernel
theorem d222_1240 : decode (cm_M 222).2.2.1 1240 = .ok (.iload 4, 2) := by decide +kernel
theorem d222_1242 : decode (cm_M 222).2.2.1 1242 = .ok (.iconst 1, 1) := by decide +kernel
theorem d222_1243 : decode (cm_M 222).2.2.1 1243 = .ok (.iadd, 1) := by decide +kernel
theorem d222_1244 : decode (cm_M 222).2.2.1 1244 = .ok (.iaload, 1) := by decide +kernel
theorem d222_1245 : decode (cm_M 222).2.2.1 1245 = .ok (.aload_n 0, 1) := by decide +kernel
theorem d222_1246 : decode (cm_M 222).2.2.1 1246 = .ok (.iload 4, 2) := by decide +kernel
theorem d222_1248 : decode (cm_M 222).2.2.1 1248 = .ok (.iconst 2, 1) := by decide +kernel
theorem d222_1249 : decode (cm_M 222).2.2.1 1249 = .ok (.iadd, 1) := by decide +kernel
theorem d222_1250 : decode (cm_M 222).2.2.1 1250 = .ok (.iaload, 1) := by decide +kernel
theorem d222_1251 : decode (cm_M 222).2.2.1 1251 = .ok (.invokevirtual 133, 3) := by decide +kernel
theorem d222_1254 : decode (cm_M 222).2.2.1 1254 = .ok (.if_icmp .eq 337, 3) := by decide +kernel
theorem d222_1257 : decode (cm_M 222).2.2.1 1257 = .ok (.iconst 0, 1) := by decide +kernel
theorem d222_1258 : decode (cm_M 222).2.2.1 1258 = .ok (.ireturn, 1) := by decide +kernel
theorem d222_1259 : decode (cm_M 222).2.2.1 1259 = .ok (.aload_n 1, 1) := by decide +kernel
theorem d222_1260 : decode (cm_M 222).2.2.1 1260 = .ok (.aload_n 0, 1) := by decide +kernel
theorem d222_1261 : decode (cm_M 222).2.2.1 1261 = .ok (.iload 4, 2) := by decide +kernel
theorem d222_1263 : decode (cm_M 222).2.2.1 1263 = .ok (.iconst 1, 1) := by decide +kernel
theorem d222_1264 : decode (cm_M 222).2.2.1 1264 = .ok (.iadd, 1) := by decide +kernel
theorem d222_1265 : decode (cm_M 222).2.2.1 1265 = .ok (.iaload, 1) := by decide +kernel
theorem d222_1266 : decode (cm_M 222).2.2.1 1266 = .ok (.aload_n 0, 1) := by decide +kernel
theorem d222_1267 : decode (cm_M 222).2.2.1 1267 = .ok (.iload 4, 2) := by decide +kernel
theorem d222_1269 : decode (cm_M 222).2.2.1 1269 = .ok (.iconst 2, 1) := by decide +kernel
theorem d222_1270 : decode (cm_M 222).2.2.1 1270 = .ok (.iadd, 1) := by decide +kernel
theorem d222_1271 : decode (cm_M 222).2.2.1 1271 = .ok (.iaload, 1) := by decide +kernel
theorem d222_1272 : decode (cm_M 222).2.2.1 1272 = .ok (.invokevirtual 134, 3) := by decide +kernel
theorem d222_1275 : decode (cm_M 222).2.2.1 1275 = .ok (.aload_n 2, 1) := by decide +kernel
theorem d222_1276 : decode (cm_M 222).2.2.1 1276 = .ok (.aload_n 0, 1) := by decide +kernel
theorem d222_1277 : decode (cm_M 222).2.2.1 1277 = .ok (.iload 4, 2) := by decide +kernel
theorem d222_1279 : decode (cm_M 222).2.2.1 1279 = .ok (.iconst 1, 1) := by decide +kernel
theorem d222_1280 : decode (cm_M 222).2.2.1 1280 = .ok (.iadd, 1) := by decide +kernel
theorem d222_1281 : decode (cm_M 222).2.2.1 1281 = .ok (.iaload, 1) := by decide +kernel
theorem d222_1282 : decode (cm_M 222).2.2.1 1282 = .ok (.aload_n 0, 1) := by decide +kernel
theorem d222_1283 : decode (cm_M 222).2.2.1 1283 = .ok (.iload 4, 2) := by decide +kernel
theorem d222_1285 : decode (cm_M 222).2.2.1 1285 = .ok (.iconst 2, 1) := by decide +kernel
theorem d222_1286 : decode (cm_M 222).2.2.1 1286 = .ok (.iadd, 1) := by decide +kernel
theorem d222_1287 : decode (cm_M 222).2.2.1 1287 = .ok (.iaload, 1) := by decide +kernel
theorem d222_1288 : decode (cm_M 222).2.2.1 1288 = .ok (.invokevirtual 137, 3) := by decide +kernel
theorem d222_1291 : decode (cm_M 222).2.2.1 1291 = .ok (.if_icmp .eq 300, 3) := by decide +kernel
theorem d222_1294 : decode (cm_M 222).2.2.1 1294 = .ok (.iconst 0, 1) := by decide +kernel
theorem d222_1295 : decode (cm_M 222).2.2.1 1295 = .ok (.ireturn, 1) := by decide +kernel
theorem d222_1296 : decode (cm_M 222).2.2.1 1296 = .ok (.aload_n 1, 1) := by decide +kernel
theorem d222_1297 : decode (cm_M 222).2.2.1 1297 = .ok (.aload_n 0, 1) := by decide +kernel
theorem d222_1298 : decode (cm_M 222).2.2.1 1298 = .ok (.iload 4, 2) := by decide +kernel
theorem d222_1300 : decode (cm_M 222).2.2.1 1300 = .ok (.iconst 1, 1) := by decide +kernel
theorem d222_1301 : decode (cm_M 222).2.2.1 1301 = .ok (.iadd, 1) := by decide +kernel
theorem d222_1302 : decode (cm_M 222).2.2.1 1302 = .ok (.iaload, 1) := by decide +kernel
theorem d222_1303 : decode (cm_M 222).2.2.1 1303 = .ok (.aload_n 0, 1) := by decide +kernel
theorem d222_1304 : decode (cm_M 222).2.2.1 1304 = .ok (.iload 4, 2) := by decide +kernel
theorem d222_1306 : decode (cm_M 222).2.2.1 1306 = .ok (.iconst 2, 1) := by decide +kernel
theorem d222_1307 : decode (cm_M 222).2.2.1 1307 = .ok (.iadd, 1) := by decide +kernel
theorem d222_1308 : decode (cm_M 222).2.2.1 1308 = .ok (.iaload, 1) := by decide +kernel
theorem d222_1309 : decode (cm_M 222).2.2.1 1309 = .ok (.aload_n 0, 1) := by decide +kernel
theorem d222_1310 : decode (cm_M 222).2.2.1 1310 = .ok (.iload 4, 2) := by decide +kernel
theorem d222_1312 : decode (cm_M 222).2.2.1 1312 = .ok (.iconst 3, 1) := by decide +kernel
theorem d222_1313 : decode (cm_M 222).2.2.1 1313 = .ok (.iadd, 1) := by decide +kernel
theorem d222_1314 : decode (cm_M 222).2.2.1 1314 = .ok (.iaload, 1) := by decide +kernel
theorem d222_1315 : decode (cm_M 222).2.2.1 1315 = .ok (.invokevirtual 138, 3) := by decide +kernel
theorem d222_1318 : decode (cm_M 222).2.2.1 1318 = .ok (.aload_n 2, 1) := by decide +kernel
theorem d222_1319 : decode (cm_M 222).2.2.1 1319 = .ok (.aload_n 0, 1) := by decide +kernel
theorem d222_1320 : decode (cm_M 222).2.2.1 1320 = .ok (.iload 4, 2) := by decide +kernel
theorem d222_1322 : decode (cm_M 222).2.2.1 1322 = .ok (.iconst 1, 1) := by decide +kernel
theorem d222_1323 : decode (cm_M 222).2.2.1 1323 = .ok (.iadd, 1) := by decide +kernel
theorem d222_1324 : decode (cm_M 222).2.2.1 1324 = .ok (.iaload, 1) := by decide +kernel
theorem d222_1325 : decode (cm_M 222).2.2.1 1325 = .ok (.aload_n 0, 1) := by decide +kernel
theorem d222_1326 : decode (cm_M 222).2.2.1 1326 = .ok (.iload 4, 2) := by decide +kernel
theorem d222_1328 : decode (cm_M 222).2.2.1 1328 = .ok (.iconst 2, 1) := by decide +kernel
theorem d222_1329 : decode (cm_M 222).2.2.1 1329 = .ok (.iadd, 1) := by decide +kernel
theorem d222_1330 : decode (cm_M 222).2.2.1 1330 = .ok (.iaload, 1) := by decide +kernel
theorem d222_1331 : decode (cm_M 222).2.2.1 1331 = .ok (.aload_n 0, 1) := by decide +kernel
theorem d222_1332 : decode (cm_M 222).2.2.1 1332 = .ok (.iload 4, 2) := by decide +kernel
theorem d222_1334 : decode (cm_M 222).2.2.1 1334 = .ok (.iconst 3, 1) := by decide +kernel
theorem d222_1335 : decode (cm_M 222).2.2.1 1335 = .ok (.iadd, 1) := by decide +kernel
theorem d222_1336 : decode (cm_M 222).2.2.1 1336 = .ok (.iaload, 1) := by decide +kernel
theorem d222_1337 : decode (cm_M 222).2.2.1 1337 = .ok (.invokevirtual 141, 3) := by decide +kernel
theorem d222_1340 : decode (cm_M 222).2.2.1 1340 = .ok (.if_icmp .eq 251, 3) := by decide +kernel
theorem d222_1343 : decode (cm_M 222).2.2.1 1343 = .ok (.iconst 0, 1) := by decide +kernel
theorem d222_1344 : decode (cm_M 222).2.2.1 1344 = .ok (.ireturn, 1) := by decide +kernel
theorem d222_1345 : decode (cm_M 222).2.2.1 1345 = .ok (.aload_n 1, 1) := by decide +kernel
theorem d222_1346 : decode (cm_M 222).2.2.1 1346 = .ok (.aload_n 0, 1) := by decide +kernel
theorem d222_1347 : decode (cm_M 222).2.2.1 1347 = .ok (.iload 4, 2) := by decide +kernel
theorem d222_1349 : decode (cm_M 222).2.2.1 1349 = .ok (.iconst 1, 1) := by decide +kernel
theorem d222_1350 : decode (cm_M 222).2.2.1 1350 = .ok (.iadd, 1) := by decide +kernel
theorem d222_1351 : decode (cm_M 222).2.2.1 1351 = .ok (.iaload, 1) := by decide +kernel
theorem d222_1352 : decode (cm_M 222).2.2.1 1352 = .ok (.aload_n 0, 1) := by decide +kernel
theorem d222_1353 : decode (cm_M 222).2.2.1 1353 = .ok (.iload 4, 2) := by decide +kernel
theorem d222_1355 : decode (cm_M 222).2.2.1 1355 = .ok (.iconst 2, 1) := by decide +kernel
theorem d222_1356 : decode (cm_M 222).2.2.1 1356 = .ok (.iadd, 1) := by decide +kernel
theorem d222_1357 : decode (cm_M 222).2.2.1 1357 = .ok (.iaload, 1) := by decide +kernel
theorem d222_1358 : decode (cm_M 222).2.2.1 1358 = .ok (.aload_n 0, 1) := by decide +kernel
theorem d222_1359 : decode (cm_M 222).2.2.1 1359 = .ok (.iload 4, 2) := by decide +kernel
theorem d222_1361 : decode (cm_M 222).2.2.1 1361 = .ok (.iconst 3, 1) := by decide +kernel
theorem d222_1362 : decode (cm_M 222).2.2.1 1362 = .ok (.iadd, 1) := by decide +kernel
theorem d222_1363 : decode (cm_M 222).2.2.1 1363 = .ok (.iaload, 1) := by decide +kernel
theorem d222_1364 : decode (cm_M 222).2.2.1 1364 = .ok (.aload_n 0, 1) := by decide +kernel
theorem d222_1365 : decode (cm_M 222).2.2.1 1365 = .ok (.iload 4, 2) := by decide +kernel
theorem d222_1367 : decode (cm_M 222).2.2.1 1367 = .ok (.iconst 4, 1) := by decide +kernel
theorem d222_1368 : decode (cm_M 222).2.2.1 1368 = .ok (.iadd, 1) := by decide +kernel
theorem d222_1369 : decode (cm_M 222).2.2.1 1369 = .ok (.iaload, 1) := by decide +kernel
theorem d222_1370 : decode (cm_M 222).2.2.1 1370 = .ok (.invokevirtual 142, 3) := by decide +kernel
theorem d222_1373 : decode (cm_M 222).2.2.1 1373 = .ok (.aload_n 2, 1) := by decide +kernel
theorem d222_1374 : decode (cm_M 222).2.2.1 1374 = .ok (.aload_n 0, 1) := by decide +kernel
theorem d222_1375 : decode (cm_M 222).2.2.1 1375 = .ok (.iload 4, 2) := by decide +kernel
theorem d222_1377 : decode (cm_M 222).2.2.1 1377 = .ok (.iconst 1, 1) := by decide +kernel
theorem d222_1378 : decode (cm_M 222).2.2.1 1378 = .ok (.iadd, 1) := by decide +kernel
theorem d222_1379 : decode (cm_M 222).2.2.1 1379 = .ok (.iaload, 1) := by decide +kernel
theorem d222_1380 : decode (cm_M 222).2.2.1 1380 = .ok (.aload_n 0, 1) := by decide +kernel
theorem d222_1381 : decode (cm_M 222).2.2.1 1381 = .ok (.iload 4, 2) := by decide +kernel
theorem d222_1383 : decode (cm_M 222).2.2.1 1383 = .ok (.iconst 2, 1) := by decide +kernel
theorem d222_1384 : decode (cm_M 222).2.2.1 1384 = .ok (.iadd, 1) := by decide +kernel
theorem d222_1385 : decode (cm_M 222).2.2.1 1385 = .ok (.iaload, 1) := by decide +kernel
theorem d222_1386 : decode (cm_M 222).2.2.1 1386 = .ok (.aload_n 0, 1) := by decide +kernel
theorem d222_1387 : decode (cm_M 222).2.2.1 1387 = .ok (.iload 4, 2) := by decide +kernel
theorem d222_1389 : decode (cm_M 222).2.2.1 1389 = .ok (.iconst 3, 1) := by decide +kernel
theorem d222_1390 : decode (cm_M 222).2.2.1 1390 = .ok (.iadd, 1) := by decide +kernel
theorem d222_1391 : decode (cm_M 222).2.2.1 1391 = .ok (.iaload, 1) := by decide +kernel
theorem d222_1392 : decode (cm_M 222).2.2.1 1392 = .ok (.aload_n 0, 1) := by decide +kernel
theorem d222_1393 : decode (cm_M 222).2.2.1 1393 = .ok (.iload 4, 2) := by decide +kernel
theorem d222_1395 : decode (cm_M 222).2.2.1 1395 = .ok (.iconst 4, 1) := by decide +kernel
theorem d222_1396 : decode (cm_M 222).2.2.1 1396 = .ok (.iadd, 1) := by decide +kernel
theorem d222_1397 : decode (cm_M 222).2.2.1 1397 = .ok (.iaload, 1) := by decide +kernel
theorem d222_1398 : decode (cm_M 222).2.2.1 1398 = .ok (.invokevirtual 145, 3) := by decide +kernel
theorem d222_1401 : decode (cm_M 222).2.2.1 1401 = .ok (.if_icmp .eq 190, 3) := by decide +kernel
theorem d222_1404 : decode (cm_M 222).2.2.1 1404 = .ok (.iconst 0, 1) := by decide +kernel
theorem d222_1405 : decode (cm_M 222).2.2.1 1405 = .ok (.ireturn, 1) := by decide +kernel
theorem d222_1406 : decode (cm_M 222).2.2.1 1406 = .ok (.aload_n 1, 1) := by decide +kernel
theorem d222_1407 : decode (cm_M 222).2.2.1 1407 = .ok (.aload_n 0, 1) := by decide +kernel
theorem d222_1408 : decode (cm_M 222).2.2.1 1408 = .ok (.iload 4, 2) := by decide +kernel
theorem d222_1410 : decode (cm_M 222).2.2.1 1410 = .ok (.iconst 1, 1) := by decide +kernel
theorem d222_1411 : decode (cm_M 222).2.2.1 1411 = .ok (.iadd, 1) := by decide +kernel
theorem d222_1412 : decode (cm_M 222).2.2.1 1412 = .ok (.iaload, 1) := by decide +kernel
theorem d222_1413 : decode (cm_M 222).2.2.1 1413 = .ok (.aload_n 0, 1) := by decide +kernel
theorem d222_1414 : decode (cm_M 222).2.2.1 1414 = .ok (.iload 4, 2) := by decide +kernel
theorem d222_1416 : decode (cm_M 222).2.2.1 1416 = .ok (.iconst 2, 1) := by decide +kernel
theorem d222_1417 : decode (cm_M 222).2.2.1 1417 = .ok (.iadd, 1) := by decide +kernel
theorem d222_1418 : decode (cm_M 222).2.2.1 1418 = .ok (.iaload, 1) := by decide +kernel
theorem d222_1419 : decode (cm_M 222).2.2.1 1419 = .ok (.aload_n 0, 1) := by decide +kernel
theorem d222_1420 : decode (cm_M 222).2.2.1 1420 = .ok (.iload 4, 2) := by decide +kernel
theorem d222_1422 : decode (cm_M 222).2.2.1 1422 = .ok (.iconst 3, 1) := by decide +kernel
theorem d222_1423 : decode (cm_M 222).2.2.1 1423 = .ok (.iadd, 1) := by decide +kernel
theorem d222_1424 : decode (cm_M 222).2.2.1 1424 = .ok (.iaload, 1) := by decide +kernel
theorem d222_1425 : decode (cm_M 222).2.2.1 1425 = .ok (.aload_n 0, 1) := by decide +kernel
theorem d222_1426 : decode (cm_M 222).2.2.1 1426 = .ok (.iload 4, 2) := by decide +kernel
theorem d222_1428 : decode (cm_M 222).2.2.1 1428 = .ok (.iconst 4, 1) := by decide +kernel
theorem d222_1429 : decode (cm_M 222).2.2.1 1429 = .ok (.iadd, 1) := by decide +kernel
theorem d222_1430 : decode (cm_M 222).2.2.1 1430 = .ok (.iaload, 1) := by decide +kernel
theorem d222_1431 : decode (cm_M 222).2.2.1 1431 = .ok (.invokevirtual 146, 3) := by decide +kernel
theorem d222_1434 : decode (cm_M 222).2.2.1 1434 = .ok (.aload_n 2, 1) := by decide +kernel
theorem d222_1435 : decode (cm_M 222).2.2.1 1435 = .ok (.aload_n 0, 1) := by decide +kernel
theorem d222_1436 : decode (cm_M 222).2.2.1 1436 = .ok (.iload 4, 2) := by decide +kernel
theorem d222_1438 : decode (cm_M 222).2.2.1 1438 = .ok (.iconst 1, 1) := by decide +kernel
theorem d222_1439 : decode (cm_M 222).2.2.1 1439 = .ok (.iadd, 1) := by decide +kernel
theorem d222_1440 : decode (cm_M 222).2.2.1 1440 = .ok (.iaload, 1) := by decide +kernel
theorem d222_1441 : decode (cm_M 222).2.2.1 1441 = .ok (.aload_n 0, 1) := by decide +kernel
theorem d222_1442 : decode (cm_M 222).2.2.1 1442 = .ok (.iload 4, 2) := by decide +kernel
theorem d222_1444 : decode (cm_M 222).2.2.1 1444 = .ok (.iconst 2, 1) := by decide +kernel
theorem d222_1445 : decode (cm_M 222).2.2.1 1445 = .ok (.iadd, 1) := by decide +kernel
theorem d222_1446 : decode (cm_M 222).2.2.1 1446 = .ok (.iaload, 1) := by decide +kernel
theorem d222_1447 : decode (cm_M 222).2.2.1 1447 = .ok (.aload_n 0, 1) := by decide +kernel
theorem d222_1448 : decode (cm_M 222).2.2.1 1448 = .ok (.iload 4, 2) := by decide +kernel
theorem d222_1450 : decode (cm_M 222).2.2.1 1450 = .ok (.iconst 3, 1) := by decide +kernel
theorem d222_1451 : decode (cm_M 222).2.2.1 1451 = .ok (.iadd, 1) := by decide +kernel
theorem d222_1452 : decode (cm_M 222).2.2.1 1452 = .ok (.iaload, 1) := by decide +kernel
theorem d222_1453 : decode (cm_M 222).2.2.1 1453 = .ok (.aload_n 0, 1) := by decide +kernel
theorem d222_1454 : decode (cm_M 222).2.2.1 1454 = .ok (.iload 4, 2) := by decide +kernel
theorem d222_1456 : decode (cm_M 222).2.2.1 1456 = .ok (.iconst 4, 1) := by decide +kernel
theorem d222_1457 : decode (cm_M 222).2.2.1 1457 = .ok (.iadd, 1) := by decide +kernel
theorem d222_1458 : decode (cm_M 222).2.2.1 1458 = .ok (.iaload, 1) := by decide +kernel
theorem d222_1459 : decode (cm_M 222).2.2.1 1459 = .ok (.invokevirtual 149, 3) := by decide +kernel
theorem d222_1462 : decode (cm_M 222).2.2.1 1462 = .ok (.if_icmp .eq 129, 3) := by decide +kernel
theorem d222_1465 : decode (cm_M 222).2.2.1 1465 = .ok (.iconst 0, 1) := by decide +kernel
theorem d222_1466 : decode (cm_M 222).2.2.1 1466 = .ok (.ireturn, 1) := by decide +kernel
theorem d222_1467 : decode (cm_M 222).2.2.1 1467 = .ok (.aload_n 1, 1) := by decide +kernel
theorem d222_1468 : decode (cm_M 222).2.2.1 1468 = .ok (.aload_n 0, 1) := by decide +kernel
theorem d222_1469 : decode (cm_M 222).2.2.1 1469 = .ok (.iload 4, 2) := by decide +kernel
theorem d222_1471 : decode (cm_M 222).2.2.1 1471 = .ok (.iconst 1, 1) := by decide +kernel
theorem d222_1472 : decode (cm_M 222).2.2.1 1472 = .ok (.iadd, 1) := by decide +kernel
theorem d222_1473 : decode (cm_M 222).2.2.1 1473 = .ok (.iaload, 1) := by decide +kernel
theorem d222_1474 : decode (cm_M 222).2.2.1 1474 = .ok (.aload_n 0, 1) := by decide +kernel
theorem d222_1475 : decode (cm_M 222).2.2.1 1475 = .ok (.iload 4, 2) := by decide +kernel
theorem d222_1477 : decode (cm_M 222).2.2.1 1477 = .ok (.iconst 2, 1) := by decide +kernel
theorem d222_1478 : decode (cm_M 222).2.2.1 1478 = .ok (.iadd, 1) := by decide +kernel
theorem d222_1479 : decode (cm_M 222).2.2.1 1479 = .ok (.iaload, 1) := by decide +kernel
theorem d222_1480 : decode (cm_M 222).2.2.1 1480 = .ok (.aload_n 0, 1) := by decide +kernel
theorem d222_1481 : decode (cm_M 222).2.2.1 1481 = .ok (.iload 4, 2) := by decide +kernel
theorem d222_1483 : decode (cm_M 222).2.2.1 1483 = .ok (.iconst 3, 1) := by decide +kernel
theorem d222_1484 : decode (cm_M 222).2.2.1 1484 = .ok (.iadd, 1) := by decide +kernel
theorem d222_1485 : decode (cm_M 222).2.2.1 1485 = .ok (.iaload, 1) := by decide +kernel
theorem d222_1486 : decode (cm_M 222).2.2.1 1486 = .ok (.invokevirtual 150, 3) := by decide +kernel
theorem d222_1489 : decode (cm_M 222).2.2.1 1489 = .ok (.aload_n 2, 1) := by decide +kernel
theorem d222_1490 : decode (cm_M 222).2.2.1 1490 = .ok (.aload_n 0, 1) := by decide +kernel
theorem d222_1491 : decode (cm_M 222).2.2.1 1491 = .ok (.iload 4, 2) := by decide +kernel
theorem d222_1493 : decode (cm_M 222).2.2.1 1493 = .ok (.iconst 1, 1) := by decide +kernel
theorem d222_1494 : decode (cm_M 222).2.2.1 1494 = .ok (.iadd, 1) := by decide +kernel
theorem d222_1495 : decode (cm_M 222).2.2.1 1495 = .ok (.iaload, 1) := by decide +kernel
theorem d222_1496 : decode (cm_M 222).2.2.1 1496 = .ok (.aload_n 0, 1) := by decide +kernel
theorem d222_1497 : decode (cm_M 222).2.2.1 1497 = .ok (.iload 4, 2) := by decide +kernel
theorem d222_1499 : decode (cm_M 222).2.2.1 1499 = .ok (.iconst 2, 1) := by decide +kernel
theorem d222_1500 : decode (cm_M 222).2.2.1 1500 = .ok (.iadd, 1) := by decide +kernel
theorem d222_1501 : decode (cm_M 222).2.2.1 1501 = .ok (.iaload, 1) := by decide +kernel
theorem d222_1502 : decode (cm_M 222).2.2.1 1502 = .ok (.aload_n 0, 1) := by decide +kernel
theorem d222_1503 : decode (cm_M 222).2.2.1 1503 = .ok (.iload 4, 2) := by decide +kernel
theorem d222_1505 : decode (cm_M 222).2.2.1 1505 = .ok (.iconst 3, 1) := by decide +kernel
theorem d222_1506 : decode (cm_M 222).2.2.1 1506 = .ok (.iadd, 1) := by decide +kernel
theorem d222_1507 : decode (cm_M 222).2.2.1 1507 = .ok (.iaload, 1) := by decide +kernel
theorem d222_1508 : decode (cm_M 222).2.2.1 1508 = .ok (.invokevirtual 153, 3) := by decide +kernel
theorem d222_1511 : decode (cm_M 222).2.2.1 1511 = .ok (.if_icmp .eq 80, 3) := by decide +kernel
theorem d222_1514 : decode (cm_M 222).2.2.1 1514 = .ok (.iconst 0, 1) := by decide +kernel
theorem d222_1515 : decode (cm_M 222).2.2.1 1515 = .ok (.ireturn, 1) := by decide +kernel
theorem d222_1516 : decode (cm_M 222).2.2.1 1516 = .ok (.aload_n 1, 1) := by decide +kernel
theorem d222_1517 : decode (cm_M 222).2.2.1 1517 = .ok (.aload_n 0, 1) := by decide +kernel
theorem d222_1518 : decode (cm_M 222).2.2.1 1518 = .ok (.iload 4, 2) := by decide +kernel
theorem d222_1520 : decode (cm_M 222).2.2.1 1520 = .ok (.iconst 1, 1) := by decide +kernel
theorem d222_1521 : decode (cm_M 222).2.2.1 1521 = .ok (.iadd, 1) := by decide +kernel
theorem d222_1522 : decode (cm_M 222).2.2.1 1522 = .ok (.iaload, 1) := by decide +kernel
theorem d222_1523 : decode (cm_M 222).2.2.1 1523 = .ok (.aload_n 0, 1) := by decide +kernel
theorem d222_1524 : decode (cm_M 222).2.2.1 1524 = .ok (.iload 4, 2) := by decide +kernel
theorem d222_1526 : decode (cm_M 222).2.2.1 1526 = .ok (.iconst 2, 1) := by decide +kernel
theorem d222_1527 : decode (cm_M 222).2.2.1 1527 = .ok (.iadd, 1) := by decide +kernel
theorem d222_1528 : decode (cm_M 222).2.2.1 1528 = .ok (.iaload, 1) := by decide +kernel
theorem d222_1529 : decode (cm_M 222).2.2.1 1529 = .ok (.invokevirtual 154, 3) := by decide +kernel
theorem d222_1532 : decode (cm_M 222).2.2.1 1532 = .ok (.aload_n 2, 1) := by decide +kernel
theorem d222_1533 : decode (cm_M 222).2.2.1 1533 = .ok (.aload_n 0, 1) := by decide +kernel
theorem d222_1534 : decode (cm_M 222).2.2.1 1534 = .ok (.iload 4, 2) := by decide +kernel
theorem d222_1536 : decode (cm_M 222).2.2.1 1536 = .ok (.iconst 1, 1) := by decide +kernel
theorem d222_1537 : decode (cm_M 222).2.2.1 1537 = .ok (.iadd, 1) := by decide +kernel
theorem d222_1538 : decode (cm_M 222).2.2.1 1538 = .ok (.iaload, 1) := by decide +kernel
theorem d222_1539 : decode (cm_M 222).2.2.1 1539 = .ok (.aload_n 0, 1) := by decide +kernel
theorem d222_1540 : decode (cm_M 222).2.2.1 1540 = .ok (.iload 4, 2) := by decide +kernel
theorem d222_1542 : decode (cm_M 222).2.2.1 1542 = .ok (.iconst 2, 1) := by decide +kernel
theorem d222_1543 : decode (cm_M 222).2.2.1 1543 = .ok (.iadd, 1) := by decide +kernel
theorem d222_1544 : decode (cm_M 222).2.2.1 1544 = .ok (.iaload, 1) := by decide +kernel
theorem d222_1545 : decode (cm_M 222).2.2.1 1545 = .ok (.invokevirtual 157, 3) := by decide +kernel
theorem d222_1548 : decode (cm_M 222).2.2.1 1548 = .ok (.if_icmp .eq 43, 3) := by decide +kernel
theorem d222_1551 : decode (cm_M 222).2.2.1 1551 = .ok (.iconst 0, 1) := by decide +kernel
theorem d222_1552 : decode (cm_M 222).2.2.1 1552 = .ok (.ireturn, 1) := by decide +kernel
theorem d222_1553 : decode (cm_M 222).2.2.1 1553 = .ok (.aload_n 1, 1) := by decide +kernel
theorem d222_1554 : decode (cm_M 222).2.2.1 1554 = .ok (.invokevirtual 158, 3) := by decide +kernel
theorem d222_1557 : decode (cm_M 222).2.2.1 1557 = .ok (.aload_n 2, 1) := by decide +kernel
theorem d222_1558 : decode (cm_M 222).2.2.1 1558 = .ok (.invokevirtual 161, 3) := by decide +kernel
theorem d222_1561 : decode (cm_M 222).2.2.1 1561 = .ok (.if_icmp .eq 30, 3) := by decide +kernel
theorem d222_1564 : decode (cm_M 222).2.2.1 1564 = .ok (.iconst 0, 1) := by decide +kernel
theorem d222_1565 : decode (cm_M 222).2.2.1 1565 = .ok (.ireturn, 1) := by decide +kernel
theorem d222_1566 : decode (cm_M 222).2.2.1 1566 = .ok (.aload_n 1, 1) := by decide +kernel
theorem d222_1567 : decode (cm_M 222).2.2.1 1567 = .ok (.aload_n 0, 1) := by decide +kernel
theorem d222_1568 : decode (cm_M 222).2.2.1 1568 = .ok (.iload 4, 2) := by decide +kernel
theorem d222_1570 : decode (cm_M 222).2.2.1 1570 = .ok (.iconst 1, 1) := by decide +kernel
theorem d222_1571 : decode (cm_M 222).2.2.1 1571 = .ok (.iadd, 1) := by decide +kernel
theorem d222_1572 : decode (cm_M 222).2.2.1 1572 = .ok (.iaload, 1) := by decide +kernel
theorem d222_1573 : decode (cm_M 222).2.2.1 1573 = .ok (.invokevirtual 162, 3) := by decide +kernel
theorem d222_1576 : decode (cm_M 222).2.2.1 1576 = .ok (.aload_n 2, 1) := by decide +kernel
theorem d222_1577 : decode (cm_M 222).2.2.1 1577 = .ok (.aload_n 0, 1) := by decide +kernel
theorem d222_1578 : decode (cm_M 222).2.2.1 1578 = .ok (.iload 4, 2) := by decide +kernel
theorem d222_1580 : decode (cm_M 222).2.2.1 1580 = .ok (.iconst 1, 1) := by decide +kernel
theorem d222_1581 : decode (cm_M 222).2.2.1 1581 = .ok (.iadd, 1) := by decide +kernel
theorem d222_1582 : decode (cm_M 222).2.2.1 1582 = .ok (.iaload, 1) := by decide +kernel
theorem d222_1583 : decode (cm_M 222).2.2.1 1583 = .ok (.invokevirtual 165, 3) := by decide +kernel
theorem d222_1586 : decode (cm_M 222).2.2.1 1586 = .ok (.if_icmp .eq 5, 3) := by decide +kernel
theorem d222_1589 : decode (cm_M 222).2.2.1 1589 = .ok (.iconst 0, 1) := by decide +kernel
theorem d222_1590 : decode (cm_M 222).2.2.1 1590 = .ok (.ireturn, 1) := by decide +kernel
theorem d222_1591 : decode (cm_M 222).2.2.1 1591 = .ok (.iinc 4 9, 3) := by decide +kernel
theorem d222_1594 : decode (cm_M 222).2.2.1 1594 = .ok (.goto (-1571), 3) := by decide +kernel
theorem d222_1597 : decode (cm_M 222).2.2.1 1597 = .ok (.iconst 1, 1) := by decide +kernel
theorem d222_1598 : decode (cm_M 222).2.2.1 1598 = .ok (.ireturn, 1) := by decide +kernel
theorem s222_0 {sc : cmS} {d : Nat} {h : cmH} {Q : Option Value → cmH → Prop} (u1 : Option Value) (u2 : Option Value) (u3 : Option Value) (u4 : Option Value) (u5 : Option Value) (u6 : Option Value) (H : cm_wp sc d 222 3 [some (.retAddr 0), u1, u2, u3, u4, u5, u6] [.ref (cm_n h)] (cm_mk h 10 13) Q) : cm_wp sc d 222 0 [some (.retAddr 0), u1, u2, u3, u4, u5, u6] [] h Q :=
  wl_nw d222_0 pn12_8 (H)
theorem s222_3 {sc : cmS} {d : Nat} {h : cmH} {Q : Option Value → cmH → Prop} (L : LY h) (u1 : Option Value) (u2 : Option Value) (u3 : Option Value) (u4 : Option Value) (u5 : Option Value) (u6 : Option Value) (H : cm_cv sc d 0 [.ref 0] h (fun h' => cm_wp sc (d + 1) 222 7 [some (.retAddr 0), u1, u2, u3, u4, u5, u6] [.ref 0] h' Q)) : cm_wp sc (d + 1) 222 3 [some (.retAddr 0), u1, u2, u3, u4, u5, u6] [.ref 0] h Q :=
  wl_st d222_3 rfl rfl rfl rfl (wl_cv d222_4 rfl rfl rfl pm12_15 (by decide) (ca_i (Or.inl rfl) rfl (Nat.le_of_ble_eq_true rfl) (Nat.le_of_ble_eq_true rfl) (ly_k L 0 rfl).2 (ly_k L 0 rfl).1 (by decide) rfl) H)
theorem s222_7 {sc : cmS} {d : Nat} {h : cmH} {Q : Option Value → cmH → Prop} (u1 : Option Value) (u2 : Option Value) (u3 : Option Value) (u4 : Option Value) (u5 : Option Value) (u6 : Option Value) (H : cm_wp sc d 222 11 [some (.retAddr 0), some (.ref 0), u2, u3, u4, u5, u6] [.ref (cm_n h)] (cm_mk h 11 63) Q) : cm_wp sc d 222 7 [some (.retAddr 0), u1, u2, u3, u4, u5, u6] [.ref 0] h Q :=
  wl_st (ls' := [some (.retAddr 0), some (.ref 0), u2, u3, u4, u5, u6]) d222_7 rfl rfl rfl rfl (wl_nw d222_8 pn12_16 (H))
theorem s222_11 {sc : cmS} {d : Nat} {h : cmH} {Q : Option Value → cmH → Prop} (L : LY h) (u2 : Option Value) (u3 : Option Value) (u4 : Option Value) (u5 : Option Value) (u6 : Option Value) (H : cm_cv sc d 134 [.ref 38] h (fun h' => cm_wp sc (d + 1) 222 15 [some (.retAddr 0), some (.ref 0), u2, u3, u4, u5, u6] [.ref 38] h' Q)) : cm_wp sc (d + 1) 222 11 [some (.retAddr 0), some (.ref 0), u2, u3, u4, u5, u6] [.ref 38] h Q :=
  wl_st d222_11 rfl rfl rfl rfl (wl_cv d222_12 rfl rfl rfl pm12_18 (by decide) (ca_i (Or.inl rfl) rfl (Nat.le_of_ble_eq_true rfl) (Nat.le_of_ble_eq_true rfl) (ly_k L 38 rfl).2 (ly_k L 38 rfl).1 (by decide) rfl) H)
theorem s222_15 {sc : cmS} {d : Nat} {h : cmH} {Q : Option Value → cmH → Prop} (u2 : Option Value) (u3 : Option Value) (u4 : Option Value) (u5 : Option Value) (u6 : Option Value) (H : cm_wp sc d 222 19 [some (.retAddr 0), some (.ref 0), some (.ref 38), u3, u4, u5, u6] [.ref (cm_n h)] (cm_mk h 14 1) Q) : cm_wp sc d 222 15 [some (.retAddr 0), some (.ref 0), u2, u3, u4, u5, u6] [.ref 38] h Q :=
  wl_st (ls' := [some (.retAddr 0), some (.ref 0), some (.ref 38), u3, u4, u5, u6]) d222_15 rfl rfl rfl rfl (wl_ic (v := 1) d222_16 rfl (wl_na (kd := 14) (N := 1) d222_17 (by decide) (by decide) rfl (H)))
theorem s222_19 {sc : cmS} {d : Nat} {h : cmH} {Q : Option Value → cmH → Prop} (u3 : Option Value) (u4 : Option Value) (u5 : Option Value) (u6 : Option Value) (H : cm_wp sc d 222 23 [some (.retAddr 0), some (.ref 0), some (.ref 38), some (.ref 87), some (.int (0 : Int32)), u5, u6] [] h Q) : cm_wp sc d 222 19 [some (.retAddr 0), some (.ref 0), some (.ref 38), u3, u4, u5, u6] [.ref 87] h Q :=
  wl_st (ls' := [some (.retAddr 0), some (.ref 0), some (.ref 38), some (.ref 87), u4, u5, u6]) d222_19 rfl rfl rfl rfl (wl_ic (v := 0) d222_20 rfl (wl_st (ls' := [some (.retAddr 0), some (.ref 0), some (.ref 38), some (.ref 87), some (.int (0 : Int32)), u5, u6]) d222_21 rfl rfl rfl rfl (H)))
theorem pm12_79 : cm_cM 12 79 = some (133, 13, 0) := by decide +kernel
theorem s222_23 {sc : cmS} {d : Nat} {h : cmH} {Q : Option Value → cmH → Prop} (L : LY h) (x4 : Int32) (u5 : Option Value) (u6 : Option Value) (H : (((((Int32.ofNat sc.1) - (9 : Int32)) < x4) → Q (some (.int (1 : Int32))) h) ∧ (¬ (((Int32.ofNat sc.1) - (9 : Int32)) < x4) → (¬ x4 < 0 ∧ x4.toNatClampNeg < sc.1) ∧ ((((sc.2 x4.toNatClampNeg) &&& (63 : Int32)) = 0 → (¬ (x4 + (1 : Int32)) < 0 ∧ (x4 + (1 : Int32)).toNatClampNeg < sc.1) ∧ (¬ (x4 + (2 : Int32)) < 0 ∧ (x4 + (2 : Int32)).toNatClampNeg < sc.1) ∧ (¬ (x4 + (3 : Int32)) < 0 ∧ (x4 + (3 : Int32)).toNatClampNeg < sc.1) ∧ cm_ci sc (d + 1) 11 [.ref 0, .int (sc.2 (x4 + (1 : Int32)).toNatClampNeg), .int (sc.2 (x4 + (2 : Int32)).toNatClampNeg), .int (sc.2 (x4 + (3 : Int32)).toNatClampNeg)] h (fun r h' => cm_wp sc (d + 2) 222 210 [some (.retAddr 0), some (.ref 0), some (.ref 38), some (.ref 87), some (.int x4), u5, u6] [.int r] h' Q)) ∧ (((sc.2 x4.toNatClampNeg) &&& (63 : Int32)) = 1 → cm_ci sc (d + 1) 15 [.ref 0] h (fun r h' => cm_wp sc (d + 2) 222 241 [some (.retAddr 0), some (.ref 0), some (.ref 38), some (.ref 87), some (.int x4), u5, u6] [.int r] h' Q)) ∧ (((sc.2 x4.toNatClampNeg) &&& (63 : Int32)) = 2 → (¬ (x4 + (1 : Int32)) < 0 ∧ (x4 + (1 : Int32)).toNatClampNeg < sc.1) ∧ (¬ (x4 + (2 : Int32)) < 0 ∧ (x4 + (2 : Int32)).toNatClampNeg < sc.1) ∧ (¬ (x4 + (3 : Int32)) < 0 ∧ (x4 + (3 : Int32)).toNatClampNeg < sc.1) ∧ cm_ci sc (d + 1) 16 [.ref 0, .int (sc.2 (x4 + (1 : Int32)).toNatClampNeg), .int (sc.2 (x4 + (2 : Int32)).toNatClampNeg), .int (sc.2 (x4 + (3 : Int32)).toNatClampNeg)] h (fun r h' => cm_wp sc (d + 2) 222 272 [some (.retAddr 0), some (.ref 0), some (.ref 38), some (.ref 87), some (.int x4), u5, u6] [.int r] h' Q)) ∧ (((sc.2 x4.toNatClampNeg) &&& (63 : Int32)) = 3 → (¬ (x4 + (1 : Int32)) < 0 ∧ (x4 + (1 : Int32)).toNatClampNeg < sc.1) ∧ (¬ (x4 + (2 : Int32)) < 0 ∧ (x4 + (2 : Int32)).toNatClampNeg < sc.1) ∧ (¬ (x4 + (3 : Int32)) < 0 ∧ (x4 + (3 : Int32)).toNatClampNeg < sc.1) ∧ cm_ci sc (d + 1) 20 [.ref 0, .int (sc.2 (x4 + (1 : Int32)).toNatClampNeg), .int (sc.2 (x4 + (2 : Int32)).toNatClampNeg), .int (sc.2 (x4 + (3 : Int32)).toNatClampNeg)] h (fun r h' => cm_wp sc (d + 2) 222 321 [some (.retAddr 0), some (.ref 0), some (.ref 38), some (.ref 87), some (.int x4), u5, u6] [.int r] h' Q)) ∧ (((sc.2 x4.toNatClampNeg) &&& (63 : Int32)) = 4 → (¬ (x4 + (1 : Int32)) < 0 ∧ (x4 + (1 : Int32)).toNatClampNeg < sc.1) ∧ (¬ (x4 + (2 : Int32)) < 0 ∧ (x4 + (2 : Int32)).toNatClampNeg < sc.1) ∧ (¬ (x4 + (3 : Int32)) < 0 ∧ (x4 + (3 : Int32)).toNatClampNeg < sc.1) ∧ cm_ci sc (d + 1) 21 [.ref 0, .int (sc.2 (x4 + (1 : Int32)).toNatClampNeg), .int (sc.2 (x4 + (2 : Int32)).toNatClampNeg), .int (sc.2 (x4 + (3 : Int32)).toNatClampNeg)] h (fun r h' => cm_wp sc (d + 2) 222 370 [some (.retAddr 0), some (.ref 0), some (.ref 38), some (.ref 87), some (.int x4), u5, u6] [.int r] h' Q)) ∧ (((sc.2 x4.toNatClampNeg) &&& (63 : Int32)) = 5 → (¬ (x4 + (1 : Int32)) < 0 ∧ (x4 + (1 : Int32)).toNatClampNeg < sc.1) ∧ (¬ (x4 + (2 : Int32)) < 0 ∧ (x4 + (2 : Int32)).toNatClampNeg < sc.1) ∧ (¬ (x4 + (3 : Int32)) < 0 ∧ (x4 + (3 : Int32)).toNatClampNeg < sc.1) ∧ (¬ (x4 + (4 : Int32)) < 0 ∧ (x4 + (4 : Int32)).toNatClampNeg < sc.1) ∧ cm_ci sc (d + 1) 27 [.ref 0, .int (sc.2 (x4 + (1 : Int32)).toNatClampNeg), .int (sc.2 (x4 + (2 : Int32)).toNatClampNeg), .int (sc.2 (x4 + (3 : Int32)).toNatClampNeg), .int (sc.2 (x4 + (4 : Int32)).toNatClampNeg)] h (fun r h' => cm_wp sc (d + 2) 222 425 [some (.retAddr 0), some (.ref 0), some (.ref 38), some (.ref 87), some (.int x4), u5, u6] [.int r] h' Q)) ∧ (((sc.2 x4.toNatClampNeg) &&& (63 : Int32)) = 6 → (¬ (x4 + (1 : Int32)) < 0 ∧ (x4 + (1 : Int32)).toNatClampNeg < sc.1) ∧ (¬ (x4 + (2 : Int32)) < 0 ∧ (x4 + (2 : Int32)).toNatClampNeg < sc.1) ∧ cm_ci sc (d + 1) 28 [.ref 0, .int (sc.2 (x4 + (1 : Int32)).toNatClampNeg), .int (sc.2 (x4 + (2 : Int32)).toNatClampNeg)] h (fun r h' => cm_wp sc (d + 2) 222 474 [some (.retAddr 0), some (.ref 0), some (.ref 38), some (.ref 87), some (.int x4), u5, u6] [.int r] h' Q)) ∧ (((sc.2 x4.toNatClampNeg) &&& (63 : Int32)) = 7 → (¬ (x4 + (1 : Int32)) < 0 ∧ (x4 + (1 : Int32)).toNatClampNeg < sc.1) ∧ (¬ (x4 + (2 : Int32)) < 0 ∧ (x4 + (2 : Int32)).toNatClampNeg < sc.1) ∧ cm_ci sc (d + 1) 31 [.ref 0, .int (sc.2 (x4 + (1 : Int32)).toNatClampNeg), .int (sc.2 (x4 + (2 : Int32)).toNatClampNeg)] h (fun r h' => cm_wp sc (d + 2) 222 511 [some (.retAddr 0), some (.ref 0), some (.ref 38), some (.ref 87), some (.int x4), u5, u6] [.int r] h' Q)) ∧ (((sc.2 x4.toNatClampNeg) &&& (63 : Int32)) = 8 → (¬ (x4 + (1 : Int32)) < 0 ∧ (x4 + (1 : Int32)).toNatClampNeg < sc.1) ∧ (¬ (x4 + (2 : Int32)) < 0 ∧ (x4 + (2 : Int32)).toNatClampNeg < sc.1) ∧ (¬ (x4 + (3 : Int32)) < 0 ∧ (x4 + (3 : Int32)).toNatClampNeg < sc.1) ∧ (¬ (x4 + (4 : Int32)) < 0 ∧ (x4 + (4 : Int32)).toNatClampNeg < sc.1) ∧ (¬ (x4 + (5 : Int32)) < 0 ∧ (x4 + (5 : Int32)).toNatClampNeg < sc.1) ∧ cm_ci sc (d + 1) 34 [.ref 0, .int (sc.2 (x4 + (1 : Int32)).toNatClampNeg), .int (sc.2 (x4 + (2 : Int32)).toNatClampNeg), .int (sc.2 (x4 + (3 : Int32)).toNatClampNeg), .int (sc.2 (x4 + (4 : Int32)).toNatClampNeg), .int (sc.2 (x4 + (5 : Int32)).toNatClampNeg)] h (fun r h' => cm_wp sc (d + 2) 222 566 [some (.retAddr 0), some (.ref 0), some (.ref 38), some (.ref 87), some (.int x4), u5, u6] [.int r] h' Q)) ∧ (((sc.2 x4.toNatClampNeg) &&& (63 : Int32)) = 9 → (¬ (x4 + (1 : Int32)) < 0 ∧ (x4 + (1 : Int32)).toNatClampNeg < sc.1) ∧ cm_ci sc (d + 1) 37 [.ref 0, .int (sc.2 (x4 + (1 : Int32)).toNatClampNeg)] h (fun r h' => cm_wp sc (d + 2) 222 615 [some (.retAddr 0), some (.ref 0), some (.ref 38), some (.ref 87), some (.int x4), u5, u6] [.int r] h' Q)) ∧ (((sc.2 x4.toNatClampNeg) &&& (63 : Int32)) = 10 → cm_ci sc (d + 1) 38 [.ref 0] h (fun r h' => cm_wp sc (d + 2) 222 634 [some (.retAddr 0), some (.ref 0), some (.ref 38), some (.ref 87), some (.int x4), u5, u6] [.int r] h' Q)) ∧ (((sc.2 x4.toNatClampNeg) &&& (63 : Int32)) = 11 → cm_ci sc (d + 1) 55 [.ref 0] h (fun r h' => cm_wp sc (d + 2) 222 647 [some (.retAddr 0), some (.ref 0), some (.ref 38), some (.ref 87), some (.int x4), u5, u6] [.int r] h' Q)) ∧ (((sc.2 x4.toNatClampNeg) &&& (63 : Int32)) = 12 → (¬ (x4 + (1 : Int32)) < 0 ∧ (x4 + (1 : Int32)).toNatClampNeg < sc.1) ∧ (¬ (x4 + (2 : Int32)) < 0 ∧ (x4 + (2 : Int32)).toNatClampNeg < sc.1) ∧ cm_ci sc (d + 1) 57 [.ref 0, .int (sc.2 (x4 + (1 : Int32)).toNatClampNeg), .int (sc.2 (x4 + (2 : Int32)).toNatClampNeg)] h (fun r h' => cm_wp sc (d + 2) 222 672 [some (.retAddr 0), some (.ref 0), some (.ref 38), some (.ref 87), some (.int x4), u5, u6] [.int r] h' Q)) ∧ (((sc.2 x4.toNatClampNeg) &&& (63 : Int32)) = 13 → (¬ (x4 + (1 : Int32)) < 0 ∧ (x4 + (1 : Int32)).toNatClampNeg < sc.1) ∧ (¬ (x4 + (2 : Int32)) < 0 ∧ (x4 + (2 : Int32)).toNatClampNeg < sc.1) ∧ (¬ (x4 + (3 : Int32)) < 0 ∧ (x4 + (3 : Int32)).toNatClampNeg < sc.1) ∧ (¬ (x4 + (4 : Int32)) < 0 ∧ (x4 + (4 : Int32)).toNatClampNeg < sc.1) ∧ (¬ (x4 + (5 : Int32)) < 0 ∧ (x4 + (5 : Int32)).toNatClampNeg < sc.1) ∧ (¬ (x4 + (6 : Int32)) < 0 ∧ (x4 + (6 : Int32)).toNatClampNeg < sc.1) ∧ (¬ (x4 + (7 : Int32)) < 0 ∧ (x4 + (7 : Int32)).toNatClampNeg < sc.1) ∧ (¬ (x4 + (8 : Int32)) < 0 ∧ (x4 + (8 : Int32)).toNatClampNeg < sc.1) ∧ cm_c13 sc d [.ref 0, .int (sc.2 (x4 + (1 : Int32)).toNatClampNeg), .int (sc.2 (x4 + (2 : Int32)).toNatClampNeg), .int (sc.2 (x4 + (3 : Int32)).toNatClampNeg), .int (sc.2 (x4 + (4 : Int32)).toNatClampNeg), .int (sc.2 (x4 + (5 : Int32)).toNatClampNeg), .int (sc.2 (x4 + (6 : Int32)).toNatClampNeg), .int (sc.2 (x4 + (7 : Int32)).toNatClampNeg), .int (sc.2 (x4 + (8 : Int32)).toNatClampNeg)] 87 h (fun w h' => cm_wp sc (d + 2) 222 749 [some (.retAddr 0), some (.ref 0), some (.ref 38), some (.ref 87), some (.int x4), u5, u6] [.int (0 : Int32)] (cm_setJ h' 87 0 w.toInt64) Q) (fun h' => cm_wp sc (d + 2) 222 749 [some (.retAddr 0), some (.ref 0), some (.ref 38), some (.ref 87), some (.int x4), u5, u6] [.int (1 : Int32)] h' Q)) ∧ (((sc.2 x4.toNatClampNeg) &&& (63 : Int32)) = 14 → (¬ (x4 + (1 : Int32)) < 0 ∧ (x4 + (1 : Int32)).toNatClampNeg < sc.1) ∧ cm_ci sc (d + 1) 58 [.ref 0, .int (sc.2 (x4 + (1 : Int32)).toNatClampNeg)] h (fun r h' => cm_wp sc (d + 2) 222 849 [some (.retAddr 0), some (.ref 0), some (.ref 38), some (.ref 87), some (.int x4), u5, u6] [.int r] h' Q)) ∧ (((sc.2 x4.toNatClampNeg) &&& (63 : Int32)) = 15 → (¬ (x4 + (1 : Int32)) < 0 ∧ (x4 + (1 : Int32)).toNatClampNeg < sc.1) ∧ (¬ (x4 + (2 : Int32)) < 0 ∧ (x4 + (2 : Int32)).toNatClampNeg < sc.1) ∧ cm_ci sc (d + 1) 59 [.ref 0, .int (sc.2 (x4 + (1 : Int32)).toNatClampNeg), .int (sc.2 (x4 + (2 : Int32)).toNatClampNeg)] h (fun r h' => cm_wp sc (d + 2) 222 880 [some (.retAddr 0), some (.ref 0), some (.ref 38), some (.ref 87), some (.int x4), u5, u6] [.int r] h' Q)) ∧ (((sc.2 x4.toNatClampNeg) &&& (63 : Int32)) = 16 → (¬ (x4 + (1 : Int32)) < 0 ∧ (x4 + (1 : Int32)).toNatClampNeg < sc.1) ∧ cm_ci sc (d + 1) 60 [.ref 0, .int (sc.2 (x4 + (1 : Int32)).toNatClampNeg)] h (fun r h' => cm_wp sc (d + 2) 222 911 [some (.retAddr 0), some (.ref 0), some (.ref 38), some (.ref 87), some (.int x4), u5, u6] [.int r] h' Q)) ∧ (((sc.2 x4.toNatClampNeg) &&& (63 : Int32)) = 17 → (¬ (x4 + (1 : Int32)) < 0 ∧ (x4 + (1 : Int32)).toNatClampNeg < sc.1) ∧ (¬ (x4 + (2 : Int32)) < 0 ∧ (x4 + (2 : Int32)).toNatClampNeg < sc.1) ∧ cm_ci sc (d + 1) 90 [.ref 0, .int (sc.2 (x4 + (1 : Int32)).toNatClampNeg), .int (sc.2 (x4 + (2 : Int32)).toNatClampNeg)] h (fun r h' => cm_wp sc (d + 2) 222 942 [some (.retAddr 0), some (.ref 0), some (.ref 38), some (.ref 87), some (.int x4), u5, u6] [.int r] h' Q)) ∧ (((sc.2 x4.toNatClampNeg) &&& (63 : Int32)) = 18 → (¬ (x4 + (1 : Int32)) < 0 ∧ (x4 + (1 : Int32)).toNatClampNeg < sc.1) ∧ (¬ (x4 + (2 : Int32)) < 0 ∧ (x4 + (2 : Int32)).toNatClampNeg < sc.1) ∧ (¬ (x4 + (3 : Int32)) < 0 ∧ (x4 + (3 : Int32)).toNatClampNeg < sc.1) ∧ cm_ci sc (d + 1) 91 [.ref 0, .int (sc.2 (x4 + (1 : Int32)).toNatClampNeg), .int (sc.2 (x4 + (2 : Int32)).toNatClampNeg), .int (sc.2 (x4 + (3 : Int32)).toNatClampNeg)] h (fun r h' => cm_wp sc (d + 2) 222 985 [some (.retAddr 0), some (.ref 0), some (.ref 38), some (.ref 87), some (.int x4), u5, u6] [.int r] h' Q)) ∧ (((sc.2 x4.toNatClampNeg) &&& (63 : Int32)) = 19 → (¬ (x4 + (1 : Int32)) < 0 ∧ (x4 + (1 : Int32)).toNatClampNeg < sc.1) ∧ (¬ (x4 + (2 : Int32)) < 0 ∧ (x4 + (2 : Int32)).toNatClampNeg < sc.1) ∧ cm_ci sc (d + 1) 93 [.ref 0, .int (sc.2 (x4 + (1 : Int32)).toNatClampNeg), .int (sc.2 (x4 + (2 : Int32)).toNatClampNeg)] h (fun r h' => cm_wp sc (d + 2) 222 1028 [some (.retAddr 0), some (.ref 0), some (.ref 38), some (.ref 87), some (.int x4), u5, u6] [.int r] h' Q)) ∧ (((sc.2 x4.toNatClampNeg) &&& (63 : Int32)) = 20 → (¬ (x4 + (1 : Int32)) < 0 ∧ (x4 + (1 : Int32)).toNatClampNeg < sc.1) ∧ cm_ci sc (d + 1) 95 [.ref 0, .int (sc.2 (x4 + (1 : Int32)).toNatClampNeg)] h (fun r h' => cm_wp sc (d + 2) 222 1059 [some (.retAddr 0), some (.ref 0), some (.ref 38), some (.ref 87), some (.int x4), u5, u6] [.int r] h' Q)) ∧ (((sc.2 x4.toNatClampNeg) &&& (63 : Int32)) = 21 → (¬ (x4 + (1 : Int32)) < 0 ∧ (x4 + (1 : Int32)).toNatClampNeg < sc.1) ∧ (¬ (x4 + (2 : Int32)) < 0 ∧ (x4 + (2 : Int32)).toNatClampNeg < sc.1) ∧ (¬ (x4 + (3 : Int32)) < 0 ∧ (x4 + (3 : Int32)).toNatClampNeg < sc.1) ∧ (¬ (x4 + (4 : Int32)) < 0 ∧ (x4 + (4 : Int32)).toNatClampNeg < sc.1) ∧ cm_cj' sc (d + 1) 96 [.ref 0, .int (sc.2 (x4 + (1 : Int32)).toNatClampNeg), .int (sc.2 (x4 + (2 : Int32)).toNatClampNeg), .int (sc.2 (x4 + (3 : Int32)).toNatClampNeg), .int (sc.2 (x4 + (4 : Int32)).toNatClampNeg)] h (fun r h' => cm_wp sc (d + 2) 222 1102 [some (.retAddr 0), some (.ref 0), some (.ref 38), some (.ref 87), some (.int x4), u5, u6] [.long r] h' Q)) ∧ (((sc.2 x4.toNatClampNeg) &&& (63 : Int32)) = 22 → (¬ (x4 + (1 : Int32)) < 0 ∧ (x4 + (1 : Int32)).toNatClampNeg < sc.1) ∧ (¬ (x4 + (2 : Int32)) < 0 ∧ (x4 + (2 : Int32)).toNatClampNeg < sc.1) ∧ (¬ (x4 + (3 : Int32)) < 0 ∧ (x4 + (3 : Int32)).toNatClampNeg < sc.1) ∧ cm_ci sc (d + 1) 100 [.ref 0, .int (sc.2 (x4 + (1 : Int32)).toNatClampNeg), .int (sc.2 (x4 + (2 : Int32)).toNatClampNeg), .int (sc.2 (x4 + (3 : Int32)).toNatClampNeg)] h (fun r h' => cm_wp sc (d + 2) 222 1158 [some (.retAddr 0), some (.ref 0), some (.ref 38), some (.ref 87), some (.int x4), u5, u6] [.int r] h' Q)) ∧ (((sc.2 x4.toNatClampNeg) &&& (63 : Int32)) = 23 → (¬ (x4 + (1 : Int32)) < 0 ∧ (x4 + (1 : Int32)).toNatClampNeg < sc.1) ∧ (¬ (x4 + (2 : Int32)) < 0 ∧ (x4 + (2 : Int32)).toNatClampNeg < sc.1) ∧ cm_ci sc (d + 1) 101 [.ref 0, .int (sc.2 (x4 + (1 : Int32)).toNatClampNeg), .int (sc.2 (x4 + (2 : Int32)).toNatClampNeg)] h (fun r h' => cm_wp sc (d + 2) 222 1201 [some (.retAddr 0), some (.ref 0), some (.ref 38), some (.ref 87), some (.int x4), u5, u6] [.int r] h' Q)) ∧ (((sc.2 x4.toNatClampNeg) &&& (63 : Int32)) = 24 → (¬ (x4 + (1 : Int32)) < 0 ∧ (x4 + (1 : Int32)).toNatClampNeg < sc.1) ∧ (¬ (x4 + (2 : Int32)) < 0 ∧ (x4 + (2 : Int32)).toNatClampNeg < sc.1) ∧ cm_ci sc (d + 1) 103 [.ref 0, .int (sc.2 (x4 + (1 : Int32)).toNatClampNeg), .int (sc.2 (x4 + (2 : Int32)).toNatClampNeg)] h (fun r h' => cm_wp sc (d + 2) 222 1238 [some (.retAddr 0), some (.ref 0), some (.ref 38), some (.ref 87), some (.int x4), u5, u6] [.int r] h' Q)) ∧ (((sc.2 x4.toNatClampNeg) &&& (63 : Int32)) = 25 → (¬ (x4 + (1 : Int32)) < 0 ∧ (x4 + (1 : Int32)).toNatClampNeg < sc.1) ∧ (¬ (x4 + (2 : Int32)) < 0 ∧ (x4 + (2 : Int32)).toNatClampNeg < sc.1) ∧ cm_ci sc (d + 1) 110 [.ref 0, .int (sc.2 (x4 + (1 : Int32)).toNatClampNeg), .int (sc.2 (x4 + (2 : Int32)).toNatClampNeg)] h (fun r h' => cm_wp sc (d + 2) 222 1275 [some (.retAddr 0), some (.ref 0), some (.ref 38), some (.ref 87), some (.int x4), u5, u6] [.int r] h' Q)) ∧ (((sc.2 x4.toNatClampNeg) &&& (63 : Int32)) = 26 → (¬ (x4 + (1 : Int32)) < 0 ∧ (x4 + (1 : Int32)).toNatClampNeg < sc.1) ∧ (¬ (x4 + (2 : Int32)) < 0 ∧ (x4 + (2 : Int32)).toNatClampNeg < sc.1) ∧ (¬ (x4 + (3 : Int32)) < 0 ∧ (x4 + (3 : Int32)).toNatClampNeg < sc.1) ∧ cm_ci sc (d + 1) 111 [.ref 0, .int (sc.2 (x4 + (1 : Int32)).toNatClampNeg), .int (sc.2 (x4 + (2 : Int32)).toNatClampNeg), .int (sc.2 (x4 + (3 : Int32)).toNatClampNeg)] h (fun r h' => cm_wp sc (d + 2) 222 1318 [some (.retAddr 0), some (.ref 0), some (.ref 38), some (.ref 87), some (.int x4), u5, u6] [.int r] h' Q)) ∧ (((sc.2 x4.toNatClampNeg) &&& (63 : Int32)) = 27 → (¬ (x4 + (1 : Int32)) < 0 ∧ (x4 + (1 : Int32)).toNatClampNeg < sc.1) ∧ (¬ (x4 + (2 : Int32)) < 0 ∧ (x4 + (2 : Int32)).toNatClampNeg < sc.1) ∧ (¬ (x4 + (3 : Int32)) < 0 ∧ (x4 + (3 : Int32)).toNatClampNeg < sc.1) ∧ (¬ (x4 + (4 : Int32)) < 0 ∧ (x4 + (4 : Int32)).toNatClampNeg < sc.1) ∧ cm_ci sc (d + 1) 115 [.ref 0, .int (sc.2 (x4 + (1 : Int32)).toNatClampNeg), .int (sc.2 (x4 + (2 : Int32)).toNatClampNeg), .int (sc.2 (x4 + (3 : Int32)).toNatClampNeg), .int (sc.2 (x4 + (4 : Int32)).toNatClampNeg)] h (fun r h' => cm_wp sc (d + 2) 222 1373 [some (.retAddr 0), some (.ref 0), some (.ref 38), some (.ref 87), some (.int x4), u5, u6] [.int r] h' Q)) ∧ (((sc.2 x4.toNatClampNeg) &&& (63 : Int32)) = 28 → (¬ (x4 + (1 : Int32)) < 0 ∧ (x4 + (1 : Int32)).toNatClampNeg < sc.1) ∧ (¬ (x4 + (2 : Int32)) < 0 ∧ (x4 + (2 : Int32)).toNatClampNeg < sc.1) ∧ (¬ (x4 + (3 : Int32)) < 0 ∧ (x4 + (3 : Int32)).toNatClampNeg < sc.1) ∧ (¬ (x4 + (4 : Int32)) < 0 ∧ (x4 + (4 : Int32)).toNatClampNeg < sc.1) ∧ cm_ci sc (d + 1) 117 [.ref 0, .int (sc.2 (x4 + (1 : Int32)).toNatClampNeg), .int (sc.2 (x4 + (2 : Int32)).toNatClampNeg), .int (sc.2 (x4 + (3 : Int32)).toNatClampNeg), .int (sc.2 (x4 + (4 : Int32)).toNatClampNeg)] h (fun r h' => cm_wp sc (d + 2) 222 1434 [some (.retAddr 0), some (.ref 0), some (.ref 38), some (.ref 87), some (.int x4), u5, u6] [.int r] h' Q)) ∧ (((sc.2 x4.toNatClampNeg) &&& (63 : Int32)) = 29 → (¬ (x4 + (1 : Int32)) < 0 ∧ (x4 + (1 : Int32)).toNatClampNeg < sc.1) ∧ (¬ (x4 + (2 : Int32)) < 0 ∧ (x4 + (2 : Int32)).toNatClampNeg < sc.1) ∧ (¬ (x4 + (3 : Int32)) < 0 ∧ (x4 + (3 : Int32)).toNatClampNeg < sc.1) ∧ cm_ci sc (d + 1) 124 [.ref 0, .int (sc.2 (x4 + (1 : Int32)).toNatClampNeg), .int (sc.2 (x4 + (2 : Int32)).toNatClampNeg), .int (sc.2 (x4 + (3 : Int32)).toNatClampNeg)] h (fun r h' => cm_wp sc (d + 2) 222 1489 [some (.retAddr 0), some (.ref 0), some (.ref 38), some (.ref 87), some (.int x4), u5, u6] [.int r] h' Q)) ∧ (((sc.2 x4.toNatClampNeg) &&& (63 : Int32)) = 30 → (¬ (x4 + (1 : Int32)) < 0 ∧ (x4 + (1 : Int32)).toNatClampNeg < sc.1) ∧ (¬ (x4 + (2 : Int32)) < 0 ∧ (x4 + (2 : Int32)).toNatClampNeg < sc.1) ∧ cm_ci sc (d + 1) 126 [.ref 0, .int (sc.2 (x4 + (1 : Int32)).toNatClampNeg), .int (sc.2 (x4 + (2 : Int32)).toNatClampNeg)] h (fun r h' => cm_wp sc (d + 2) 222 1532 [some (.retAddr 0), some (.ref 0), some (.ref 38), some (.ref 87), some (.int x4), u5, u6] [.int r] h' Q)) ∧ (((sc.2 x4.toNatClampNeg) &&& (63 : Int32)) = 31 → cm_ci sc (d + 1) 128 [.ref 0] h (fun r h' => cm_wp sc (d + 2) 222 1557 [some (.retAddr 0), some (.ref 0), some (.ref 38), some (.ref 87), some (.int x4), u5, u6] [.int r] h' Q)) ∧ (((sc.2 x4.toNatClampNeg) &&& (63 : Int32)) = 32 → (¬ (x4 + (1 : Int32)) < 0 ∧ (x4 + (1 : Int32)).toNatClampNeg < sc.1) ∧ cm_ci sc (d + 1) 130 [.ref 0, .int (sc.2 (x4 + (1 : Int32)).toNatClampNeg)] h (fun r h' => cm_wp sc (d + 2) 222 1576 [some (.retAddr 0), some (.ref 0), some (.ref 38), some (.ref 87), some (.int x4), u5, u6] [.int r] h' Q)) ∧ (¬ ((sc.2 x4.toNatClampNeg) &&& (63 : Int32)) = 0 → ¬ ((sc.2 x4.toNatClampNeg) &&& (63 : Int32)) = 1 → ¬ ((sc.2 x4.toNatClampNeg) &&& (63 : Int32)) = 2 → ¬ ((sc.2 x4.toNatClampNeg) &&& (63 : Int32)) = 3 → ¬ ((sc.2 x4.toNatClampNeg) &&& (63 : Int32)) = 4 → ¬ ((sc.2 x4.toNatClampNeg) &&& (63 : Int32)) = 5 → ¬ ((sc.2 x4.toNatClampNeg) &&& (63 : Int32)) = 6 → ¬ ((sc.2 x4.toNatClampNeg) &&& (63 : Int32)) = 7 → ¬ ((sc.2 x4.toNatClampNeg) &&& (63 : Int32)) = 8 → ¬ ((sc.2 x4.toNatClampNeg) &&& (63 : Int32)) = 9 → ¬ ((sc.2 x4.toNatClampNeg) &&& (63 : Int32)) = 10 → ¬ ((sc.2 x4.toNatClampNeg) &&& (63 : Int32)) = 11 → ¬ ((sc.2 x4.toNatClampNeg) &&& (63 : Int32)) = 12 → ¬ ((sc.2 x4.toNatClampNeg) &&& (63 : Int32)) = 13 → ¬ ((sc.2 x4.toNatClampNeg) &&& (63 : Int32)) = 14 → ¬ ((sc.2 x4.toNatClampNeg) &&& (63 : Int32)) = 15 → ¬ ((sc.2 x4.toNatClampNeg) &&& (63 : Int32)) = 16 → ¬ ((sc.2 x4.toNatClampNeg) &&& (63 : Int32)) = 17 → ¬ ((sc.2 x4.toNatClampNeg) &&& (63 : Int32)) = 18 → ¬ ((sc.2 x4.toNatClampNeg) &&& (63 : Int32)) = 19 → ¬ ((sc.2 x4.toNatClampNeg) &&& (63 : Int32)) = 20 → ¬ ((sc.2 x4.toNatClampNeg) &&& (63 : Int32)) = 21 → ¬ ((sc.2 x4.toNatClampNeg) &&& (63 : Int32)) = 22 → ¬ ((sc.2 x4.toNatClampNeg) &&& (63 : Int32)) = 23 → ¬ ((sc.2 x4.toNatClampNeg) &&& (63 : Int32)) = 24 → ¬ ((sc.2 x4.toNatClampNeg) &&& (63 : Int32)) = 25 → ¬ ((sc.2 x4.toNatClampNeg) &&& (63 : Int32)) = 26 → ¬ ((sc.2 x4.toNatClampNeg) &&& (63 : Int32)) = 27 → ¬ ((sc.2 x4.toNatClampNeg) &&& (63 : Int32)) = 28 → ¬ ((sc.2 x4.toNatClampNeg) &&& (63 : Int32)) = 29 → ¬ ((sc.2 x4.toNatClampNeg) &&& (63 : Int32)) = 30 → ¬ ((sc.2 x4.toNatClampNeg) &&& (63 : Int32)) = 31 → ¬ ((sc.2 x4.toNatClampNeg) &&& (63 : Int32)) = 32 → cm_wp sc (d + 2) 222 1591 [some (.retAddr 0), some (.ref 0), some (.ref 38), some (.ref 87), some (.int x4), u5, u6] [] h Q))))) : cm_wp sc (d + 2) 222 23 [some (.retAddr 0), some (.ref 0), some (.ref 38), some (.ref 87), some (.int x4), u5, u6] [] h Q :=
  wl_st d222_23 rfl rfl rfl rfl (wl_st d222_25 rfl rfl rfl rfl (wl_st d222_26 rfl rfl rfl rfl (wl_bi (v := 9) d222_27 rfl (wl_st d222_29 rfl rfl rfl rfl (wl_cb (b := ((Int32.ofNat sc.1) - (9 : Int32)) < x4) (off := 1567) (tgt := 1597) (pc3 := 33) (st' := []) d222_30 rfl rfl rfl rfl (by decide) rfl (fun c1 => wl_ic (v := 1) d222_1597 rfl (wl_rz d222_1598 rfl (by decide) (H.1 c1))) (fun c1 => wl_st d222_33 rfl rfl rfl rfl (wl_st d222_34 rfl rfl rfl rfl (And.elim (fun g2 g2k => wl_if d222_36 rfl rfl rfl rfl g2 (wl_bi (v := 63) d222_37 rfl (wl_st d222_39 rfl rfl rfl rfl ((if c81 : ((sc.2 x4.toNatClampNeg) &&& (63 : Int32)) = 0 then wl_tsI (v := 0) (tgt := 188) d222_40 c81 rfl (by decide) (by decide) (by decide) (wl_st d222_188 rfl rfl rfl rfl (wl_st d222_189 rfl rfl rfl rfl (wl_st d222_190 rfl rfl rfl rfl (wl_ic (v := 1) d222_192 rfl (wl_st d222_193 rfl rfl rfl rfl (And.elim (fun g3 g3k => wl_if d222_194 rfl rfl rfl rfl g3 (wl_st d222_195 rfl rfl rfl rfl (wl_st d222_196 rfl rfl rfl rfl (wl_ic (v := 2) d222_198 rfl (wl_st d222_199 rfl rfl rfl rfl (And.elim (fun g4 g4k => wl_if d222_200 rfl rfl rfl rfl g4 (wl_st d222_201 rfl rfl rfl rfl (wl_st d222_202 rfl rfl rfl rfl (wl_ic (v := 3) d222_204 rfl (wl_st d222_205 rfl rfl rfl rfl (And.elim (fun g5 g5k => wl_if d222_206 rfl rfl rfl rfl g5 (wl_ci d222_207 rfl rfl rfl pm12_19 (by decide) (ca_v (Or.inl rfl) rfl (Nat.le_of_ble_eq_true rfl) (Nat.le_of_ble_eq_true rfl) (ly_k L 0 rfl).2 (ly_k L 0 rfl).1 (by decide)) g5k)) g4k)))))) g3k)))))) (g2k.1 c81))))))) else (if c82 : ((sc.2 x4.toNatClampNeg) &&& (63 : Int32)) = 1 then wl_tsI (v := 1) (tgt := 237) d222_40 c82 rfl (by decide) (by decide) (by decide) (wl_st d222_237 rfl rfl rfl rfl (wl_ci d222_238 rfl rfl rfl pm12_24 (by decide) (ca_v (Or.inl rfl) rfl (Nat.le_of_ble_eq_true rfl) (Nat.le_of_ble_eq_true rfl) (ly_k L 0 rfl).2 (ly_k L 0 rfl).1 (by decide)) (g2k.2.1 c82))) else (if c83 : ((sc.2 x4.toNatClampNeg) &&& (63 : Int32)) = 2 then wl_tsI (v := 2) (tgt := 250) d222_40 c83 rfl (by decide) (by decide) (by decide) (wl_st d222_250 rfl rfl rfl rfl (wl_st d222_251 rfl rfl rfl rfl (wl_st d222_252 rfl rfl rfl rfl (wl_ic (v := 1) d222_254 rfl (wl_st d222_255 rfl rfl rfl rfl (And.elim (fun g6 g6k => wl_if d222_256 rfl rfl rfl rfl g6 (wl_st d222_257 rfl rfl rfl rfl (wl_st d222_258 rfl rfl rfl rfl (wl_ic (v := 2) d222_260 rfl (wl_st d222_261 rfl rfl rfl rfl (And.elim (fun g7 g7k => wl_if d222_262 rfl rfl rfl rfl g7 (wl_st d222_263 rfl rfl rfl rfl (wl_st d222_264 rfl rfl rfl rfl (wl_ic (v := 3) d222_266 rfl (wl_st d222_267 rfl rfl rfl rfl (And.elim (fun g8 g8k => wl_if d222_268 rfl rfl rfl rfl g8 (wl_ci d222_269 rfl rfl rfl pm12_29 (by decide) (ca_v (Or.inl rfl) rfl (Nat.le_of_ble_eq_true rfl) (Nat.le_of_ble_eq_true rfl) (ly_k L 0 rfl).2 (ly_k L 0 rfl).1 (by decide)) g8k)) g7k)))))) g6k)))))) (g2k.2.2.1 c83))))))) else (if c84 : ((sc.2 x4.toNatClampNeg) &&& (63 : Int32)) = 3 then wl_tsI (v := 3) (tgt := 299) d222_40 c84 rfl (by decide) (by decide) (by decide) (wl_st d222_299 rfl rfl rfl rfl (wl_st d222_300 rfl rfl rfl rfl (wl_st d222_301 rfl rfl rfl rfl (wl_ic (v := 1) d222_303 rfl (wl_st d222_304 rfl rfl rfl rfl (And.elim (fun g9 g9k => wl_if d222_305 rfl rfl rfl rfl g9 (wl_st d222_306 rfl rfl rfl rfl (wl_st d222_307 rfl rfl rfl rfl (wl_ic (v := 2) d222_309 rfl (wl_st d222_310 rfl rfl rfl rfl (And.elim (fun g10 g10k => wl_if d222_311 rfl rfl rfl rfl g10 (wl_st d222_312 rfl rfl rfl rfl (wl_st d222_313 rfl rfl rfl rfl (wl_ic (v := 3) d222_315 rfl (wl_st d222_316 rfl rfl rfl rfl (And.elim (fun g11 g11k => wl_if d222_317 rfl rfl rfl rfl g11 (wl_ci d222_318 rfl rfl rfl pm12_34 (by decide) (ca_v (Or.inl rfl) rfl (Nat.le_of_ble_eq_true rfl) (Nat.le_of_ble_eq_true rfl) (ly_k L 0 rfl).2 (ly_k L 0 rfl).1 (by decide)) g11k)) g10k)))))) g9k)))))) (g2k.2.2.2.1 c84))))))) else (if c85 : ((sc.2 x4.toNatClampNeg) &&& (63 : Int32)) = 4 then wl_tsI (v := 4) (tgt := 348) d222_40 c85 rfl (by decide) (by decide) (by decide) (wl_st d222_348 rfl rfl rfl rfl (wl_st d222_349 rfl rfl rfl rfl (wl_st d222_350 rfl rfl rfl rfl (wl_ic (v := 1) d222_352 rfl (wl_st d222_353 rfl rfl rfl rfl (And.elim (fun g12 g12k => wl_if d222_354 rfl rfl rfl rfl g12 (wl_st d222_355 rfl rfl rfl rfl (wl_st d222_356 rfl rfl rfl rfl (wl_ic (v := 2) d222_358 rfl (wl_st d222_359 rfl rfl rfl rfl (And.elim (fun g13 g13k => wl_if d222_360 rfl rfl rfl rfl g13 (wl_st d222_361 rfl rfl rfl rfl (wl_st d222_362 rfl rfl rfl rfl (wl_ic (v := 3) d222_364 rfl (wl_st d222_365 rfl rfl rfl rfl (And.elim (fun g14 g14k => wl_if d222_366 rfl rfl rfl rfl g14 (wl_ci d222_367 rfl rfl rfl pm12_38 (by decide) (ca_v (Or.inl rfl) rfl (Nat.le_of_ble_eq_true rfl) (Nat.le_of_ble_eq_true rfl) (ly_k L 0 rfl).2 (ly_k L 0 rfl).1 (by decide)) g14k)) g13k)))))) g12k)))))) (g2k.2.2.2.2.1 c85))))))) else (if c86 : ((sc.2 x4.toNatClampNeg) &&& (63 : Int32)) = 5 then wl_tsI (v := 5) (tgt := 397) d222_40 c86 rfl (by decide) (by decide) (by decide) (wl_st d222_397 rfl rfl rfl rfl (wl_st d222_398 rfl rfl rfl rfl (wl_st d222_399 rfl rfl rfl rfl (wl_ic (v := 1) d222_401 rfl (wl_st d222_402 rfl rfl rfl rfl (And.elim (fun g15 g15k => wl_if d222_403 rfl rfl rfl rfl g15 (wl_st d222_404 rfl rfl rfl rfl (wl_st d222_405 rfl rfl rfl rfl (wl_ic (v := 2) d222_407 rfl (wl_st d222_408 rfl rfl rfl rfl (And.elim (fun g16 g16k => wl_if d222_409 rfl rfl rfl rfl g16 (wl_st d222_410 rfl rfl rfl rfl (wl_st d222_411 rfl rfl rfl rfl (wl_ic (v := 3) d222_413 rfl (wl_st d222_414 rfl rfl rfl rfl (And.elim (fun g17 g17k => wl_if d222_415 rfl rfl rfl rfl g17 (wl_st d222_416 rfl rfl rfl rfl (wl_st d222_417 rfl rfl rfl rfl (wl_ic (v := 4) d222_419 rfl (wl_st d222_420 rfl rfl rfl rfl (And.elim (fun g18 g18k => wl_if d222_421 rfl rfl rfl rfl g18 (wl_ci d222_422 rfl rfl rfl pm12_42 (by decide) (ca_v (Or.inl rfl) rfl (Nat.le_of_ble_eq_true rfl) (Nat.le_of_ble_eq_true rfl) (ly_k L 0 rfl).2 (ly_k L 0 rfl).1 (by decide)) g18k)) g17k)))))) g16k)))))) g15k)))))) (g2k.2.2.2.2.2.1 c86))))))) else (if c87 : ((sc.2 x4.toNatClampNeg) &&& (63 : Int32)) = 6 then wl_tsI (v := 6) (tgt := 458) d222_40 c87 rfl (by decide) (by decide) (by decide) (wl_st d222_458 rfl rfl rfl rfl (wl_st d222_459 rfl rfl rfl rfl (wl_st d222_460 rfl rfl rfl rfl (wl_ic (v := 1) d222_462 rfl (wl_st d222_463 rfl rfl rfl rfl (And.elim (fun g19 g19k => wl_if d222_464 rfl rfl rfl rfl g19 (wl_st d222_465 rfl rfl rfl rfl (wl_st d222_466 rfl rfl rfl rfl (wl_ic (v := 2) d222_468 rfl (wl_st d222_469 rfl rfl rfl rfl (And.elim (fun g20 g20k => wl_if d222_470 rfl rfl rfl rfl g20 (wl_ci d222_471 rfl rfl rfl pm12_47 (by decide) (ca_v (Or.inl rfl) rfl (Nat.le_of_ble_eq_true rfl) (Nat.le_of_ble_eq_true rfl) (ly_k L 0 rfl).2 (ly_k L 0 rfl).1 (by decide)) g20k)) g19k)))))) (g2k.2.2.2.2.2.2.1 c87))))))) else (if c88 : ((sc.2 x4.toNatClampNeg) &&& (63 : Int32)) = 7 then wl_tsI (v := 7) (tgt := 495) d222_40 c88 rfl (by decide) (by decide) (by decide) (wl_st d222_495 rfl rfl rfl rfl (wl_st d222_496 rfl rfl rfl rfl (wl_st d222_497 rfl rfl rfl rfl (wl_ic (v := 1) d222_499 rfl (wl_st d222_500 rfl rfl rfl rfl (And.elim (fun g21 g21k => wl_if d222_501 rfl rfl rfl rfl g21 (wl_st d222_502 rfl rfl rfl rfl (wl_st d222_503 rfl rfl rfl rfl (wl_ic (v := 2) d222_505 rfl (wl_st d222_506 rfl rfl rfl rfl (And.elim (fun g22 g22k => wl_if d222_507 rfl rfl rfl rfl g22 (wl_ci d222_508 rfl rfl rfl pm12_52 (by decide) (ca_v (Or.inl rfl) rfl (Nat.le_of_ble_eq_true rfl) (Nat.le_of_ble_eq_true rfl) (ly_k L 0 rfl).2 (ly_k L 0 rfl).1 (by decide)) g22k)) g21k)))))) (g2k.2.2.2.2.2.2.2.1 c88))))))) else (if c89 : ((sc.2 x4.toNatClampNeg) &&& (63 : Int32)) = 8 then wl_tsI (v := 8) (tgt := 532) d222_40 c89 rfl (by decide) (by decide) (by decide) (wl_st d222_532 rfl rfl rfl rfl (wl_st d222_533 rfl rfl rfl rfl (wl_st d222_534 rfl rfl rfl rfl (wl_ic (v := 1) d222_536 rfl (wl_st d222_537 rfl rfl rfl rfl (And.elim (fun g23 g23k => wl_if d222_538 rfl rfl rfl rfl g23 (wl_st d222_539 rfl rfl rfl rfl (wl_st d222_540 rfl rfl rfl rfl (wl_ic (v := 2) d222_542 rfl (wl_st d222_543 rfl rfl rfl rfl (And.elim (fun g24 g24k => wl_if d222_544 rfl rfl rfl rfl g24 (wl_st d222_545 rfl rfl rfl rfl (wl_st d222_546 rfl rfl rfl rfl (wl_ic (v := 3) d222_548 rfl (wl_st d222_549 rfl rfl rfl rfl (And.elim (fun g25 g25k => wl_if d222_550 rfl rfl rfl rfl g25 (wl_st d222_551 rfl rfl rfl rfl (wl_st d222_552 rfl rfl rfl rfl (wl_ic (v := 4) d222_554 rfl (wl_st d222_555 rfl rfl rfl rfl (And.elim (fun g26 g26k => wl_if d222_556 rfl rfl rfl rfl g26 (wl_st d222_557 rfl rfl rfl rfl (wl_st d222_558 rfl rfl rfl rfl (wl_ic (v := 5) d222_560 rfl (wl_st d222_561 rfl rfl rfl rfl (And.elim (fun g27 g27k => wl_if d222_562 rfl rfl rfl rfl g27 (wl_ci d222_563 rfl rfl rfl pm12_56 (by decide) (ca_v (Or.inl rfl) rfl (Nat.le_of_ble_eq_true rfl) (Nat.le_of_ble_eq_true rfl) (ly_k L 0 rfl).2 (ly_k L 0 rfl).1 (by decide)) g27k)) g26k)))))) g25k)))))) g24k)))))) g23k)))))) (g2k.2.2.2.2.2.2.2.2.1 c89))))))) else (if c90 : ((sc.2 x4.toNatClampNeg) &&& (63 : Int32)) = 9 then wl_tsI (v := 9) (tgt := 605) d222_40 c90 rfl (by decide) (by decide) (by decide) (wl_st d222_605 rfl rfl rfl rfl (wl_st d222_606 rfl rfl rfl rfl (wl_st d222_607 rfl rfl rfl rfl (wl_ic (v := 1) d222_609 rfl (wl_st d222_610 rfl rfl rfl rfl (And.elim (fun g28 g28k => wl_if d222_611 rfl rfl rfl rfl g28 (wl_ci d222_612 rfl rfl rfl pm12_61 (by decide) (ca_v (Or.inl rfl) rfl (Nat.le_of_ble_eq_true rfl) (Nat.le_of_ble_eq_true rfl) (ly_k L 0 rfl).2 (ly_k L 0 rfl).1 (by decide)) g28k)) (g2k.2.2.2.2.2.2.2.2.2.1 c90))))))) else (if c91 : ((sc.2 x4.toNatClampNeg) &&& (63 : Int32)) = 10 then wl_tsI (v := 10) (tgt := 630) d222_40 c91 rfl (by decide) (by decide) (by decide) (wl_st d222_630 rfl rfl rfl rfl (wl_ci d222_631 rfl rfl rfl pm12_66 (by decide) (ca_v (Or.inl rfl) rfl (Nat.le_of_ble_eq_true rfl) (Nat.le_of_ble_eq_true rfl) (ly_k L 0 rfl).2 (ly_k L 0 rfl).1 (by decide)) (g2k.2.2.2.2.2.2.2.2.2.2.1 c91))) else (if c92 : ((sc.2 x4.toNatClampNeg) &&& (63 : Int32)) = 11 then wl_tsI (v := 11) (tgt := 643) d222_40 c92 rfl (by decide) (by decide) (by decide) (wl_st d222_643 rfl rfl rfl rfl (wl_ci d222_644 rfl rfl rfl pm12_70 (by decide) (ca_v (Or.inl rfl) rfl (Nat.le_of_ble_eq_true rfl) (Nat.le_of_ble_eq_true rfl) (ly_k L 0 rfl).2 (ly_k L 0 rfl).1 (by decide)) (g2k.2.2.2.2.2.2.2.2.2.2.2.1 c92))) else (if c93 : ((sc.2 x4.toNatClampNeg) &&& (63 : Int32)) = 12 then wl_tsI (v := 12) (tgt := 656) d222_40 c93 rfl (by decide) (by decide) (by decide) (wl_st d222_656 rfl rfl rfl rfl (wl_st d222_657 rfl rfl rfl rfl (wl_st d222_658 rfl rfl rfl rfl (wl_ic (v := 1) d222_660 rfl (wl_st d222_661 rfl rfl rfl rfl (And.elim (fun g29 g29k => wl_if d222_662 rfl rfl rfl rfl g29 (wl_st d222_663 rfl rfl rfl rfl (wl_st d222_664 rfl rfl rfl rfl (wl_ic (v := 2) d222_666 rfl (wl_st d222_667 rfl rfl rfl rfl (And.elim (fun g30 g30k => wl_if d222_668 rfl rfl rfl rfl g30 (wl_ci d222_669 rfl rfl rfl pm12_74 (by decide) (ca_v (Or.inl rfl) rfl (Nat.le_of_ble_eq_true rfl) (Nat.le_of_ble_eq_true rfl) (ly_k L 0 rfl).2 (ly_k L 0 rfl).1 (by decide)) g30k)) g29k)))))) (g2k.2.2.2.2.2.2.2.2.2.2.2.2.1 c93))))))) else (if c94 : ((sc.2 x4.toNatClampNeg) &&& (63 : Int32)) = 13 then wl_tsI (v := 13) (tgt := 693) d222_40 c94 rfl (by decide) (by decide) (by decide) (wl_st d222_693 rfl rfl rfl rfl (wl_st d222_694 rfl rfl rfl rfl (wl_st d222_695 rfl rfl rfl rfl (wl_ic (v := 1) d222_697 rfl (wl_st d222_698 rfl rfl rfl rfl (And.elim (fun g31 g31k => wl_if d222_699 rfl rfl rfl rfl g31 (wl_st d222_700 rfl rfl rfl rfl (wl_st d222_701 rfl rfl rfl rfl (wl_ic (v := 2) d222_703 rfl (wl_st d222_704 rfl rfl rfl rfl (And.elim (fun g32 g32k => wl_if d222_705 rfl rfl rfl rfl g32 (wl_st d222_706 rfl rfl rfl rfl (wl_st d222_707 rfl rfl rfl rfl (wl_ic (v := 3) d222_709 rfl (wl_st d222_710 rfl rfl rfl rfl (And.elim (fun g33 g33k => wl_if d222_711 rfl rfl rfl rfl g33 (wl_st d222_712 rfl rfl rfl rfl (wl_st d222_713 rfl rfl rfl rfl (wl_ic (v := 4) d222_715 rfl (wl_st d222_716 rfl rfl rfl rfl (And.elim (fun g34 g34k => wl_if d222_717 rfl rfl rfl rfl g34 (wl_st d222_718 rfl rfl rfl rfl (wl_st d222_719 rfl rfl rfl rfl (wl_ic (v := 5) d222_721 rfl (wl_st d222_722 rfl rfl rfl rfl (And.elim (fun g35 g35k => wl_if d222_723 rfl rfl rfl rfl g35 (wl_st d222_724 rfl rfl rfl rfl (wl_st d222_725 rfl rfl rfl rfl (wl_bi (v := 6) d222_727 rfl (wl_st d222_729 rfl rfl rfl rfl (And.elim (fun g36 g36k => wl_if d222_730 rfl rfl rfl rfl g36 (wl_st d222_731 rfl rfl rfl rfl (wl_st d222_732 rfl rfl rfl rfl (wl_bi (v := 7) d222_734 rfl (wl_st d222_736 rfl rfl rfl rfl (And.elim (fun g37 g37k => wl_if d222_737 rfl rfl rfl rfl g37 (wl_st d222_738 rfl rfl rfl rfl (wl_st d222_739 rfl rfl rfl rfl (wl_bi (v := 8) d222_741 rfl (wl_st d222_743 rfl rfl rfl rfl (And.elim (fun g38 g38k => wl_if d222_744 rfl rfl rfl rfl g38 (wl_st d222_745 rfl rfl rfl rfl (wl_13 d222_746 pm12_79 (Nat.le_of_ble_eq_true rfl) (ly_k L 0 rfl) g38k))) g37k)))))) g36k)))))) g35k)))))) g34k)))))) g33k)))))) g32k)))))) g31k)))))) (g2k.2.2.2.2.2.2.2.2.2.2.2.2.2.1 c94))))))) else (if c95 : ((sc.2 x4.toNatClampNeg) &&& (63 : Int32)) = 14 then wl_tsI (v := 14) (tgt := 839) d222_40 c95 rfl (by decide) (by decide) (by decide) (wl_st d222_839 rfl rfl rfl rfl (wl_st d222_840 rfl rfl rfl rfl (wl_st d222_841 rfl rfl rfl rfl (wl_ic (v := 1) d222_843 rfl (wl_st d222_844 rfl rfl rfl rfl (And.elim (fun g39 g39k => wl_if d222_845 rfl rfl rfl rfl g39 (wl_ci d222_846 rfl rfl rfl pm12_88 (by decide) (ca_v (Or.inl rfl) rfl (Nat.le_of_ble_eq_true rfl) (Nat.le_of_ble_eq_true rfl) (ly_k L 0 rfl).2 (ly_k L 0 rfl).1 (by decide)) g39k)) (g2k.2.2.2.2.2.2.2.2.2.2.2.2.2.2.1 c95))))))) else (if c96 : ((sc.2 x4.toNatClampNeg) &&& (63 : Int32)) = 15 then wl_tsI (v := 15) (tgt := 864) d222_40 c96 rfl (by decide) (by decide) (by decide) (wl_st d222_864 rfl rfl rfl rfl (wl_st d222_865 rfl rfl rfl rfl (wl_st d222_866 rfl rfl rfl rfl (wl_ic (v := 1) d222_868 rfl (wl_st d222_869 rfl rfl rfl rfl (And.elim (fun g40 g40k => wl_if d222_870 rfl rfl rfl rfl g40 (wl_st d222_871 rfl rfl rfl rfl (wl_st d222_872 rfl rfl rfl rfl (wl_ic (v := 2) d222_874 rfl (wl_st d222_875 rfl rfl rfl rfl (And.elim (fun g41 g41k => wl_if d222_876 rfl rfl rfl rfl g41 (wl_ci d222_877 rfl rfl rfl pm12_92 (by decide) (ca_v (Or.inl rfl) rfl (Nat.le_of_ble_eq_true rfl) (Nat.le_of_ble_eq_true rfl) (ly_k L 0 rfl).2 (ly_k L 0 rfl).1 (by decide)) g41k)) g40k)))))) (g2k.2.2.2.2.2.2.2.2.2.2.2.2.2.2.2.1 c96))))))) else (if c97 : ((sc.2 x4.toNatClampNeg) &&& (63 : Int32)) = 16 then wl_tsI (v := 16) (tgt := 901) d222_40 c97 rfl (by decide) (by decide) (by decide) (wl_st d222_901 rfl rfl rfl rfl (wl_st d222_902 rfl rfl rfl rfl (wl_st d222_903 rfl rfl rfl rfl (wl_ic (v := 1) d222_905 rfl (wl_st d222_906 rfl rfl rfl rfl (And.elim (fun g42 g42k => wl_if d222_907 rfl rfl rfl rfl g42 (wl_ci d222_908 rfl rfl rfl pm12_96 (by decide) (ca_v (Or.inl rfl) rfl (Nat.le_of_ble_eq_true rfl) (Nat.le_of_ble_eq_true rfl) (ly_k L 0 rfl).2 (ly_k L 0 rfl).1 (by decide)) g42k)) (g2k.2.2.2.2.2.2.2.2.2.2.2.2.2.2.2.2.1 c97))))))) else (if c98 : ((sc.2 x4.toNatClampNeg) &&& (63 : Int32)) = 17 then wl_tsI (v := 17) (tgt := 926) d222_40 c98 rfl (by decide) (by decide) (by decide) (wl_st d222_926 rfl rfl rfl rfl (wl_st d222_927 rfl rfl rfl rfl (wl_st d222_928 rfl rfl rfl rfl (wl_ic (v := 1) d222_930 rfl (wl_st d222_931 rfl rfl rfl rfl (And.elim (fun g43 g43k => wl_if d222_932 rfl rfl rfl rfl g43 (wl_st d222_933 rfl rfl rfl rfl (wl_st d222_934 rfl rfl rfl rfl (wl_ic (v := 2) d222_936 rfl (wl_st d222_937 rfl rfl rfl rfl (And.elim (fun g44 g44k => wl_if d222_938 rfl rfl rfl rfl g44 (wl_ci d222_939 rfl rfl rfl pm12_101 (by decide) (ca_v (Or.inl rfl) rfl (Nat.le_of_ble_eq_true rfl) (Nat.le_of_ble_eq_true rfl) (ly_k L 0 rfl).2 (ly_k L 0 rfl).1 (by decide)) g44k)) g43k)))))) (g2k.2.2.2.2.2.2.2.2.2.2.2.2.2.2.2.2.2.1 c98))))))) else (if c99 : ((sc.2 x4.toNatClampNeg) &&& (63 : Int32)) = 18 then wl_tsI (v := 18) (tgt := 963) d222_40 c99 rfl (by decide) (by decide) (by decide) (wl_st d222_963 rfl rfl rfl rfl (wl_st d222_964 rfl rfl rfl rfl (wl_st d222_965 rfl rfl rfl rfl (wl_ic (v := 1) d222_967 rfl (wl_st d222_968 rfl rfl rfl rfl (And.elim (fun g45 g45k => wl_if d222_969 rfl rfl rfl rfl g45 (wl_st d222_970 rfl rfl rfl rfl (wl_st d222_971 rfl rfl rfl rfl (wl_ic (v := 2) d222_973 rfl (wl_st d222_974 rfl rfl rfl rfl (And.elim (fun g46 g46k => wl_if d222_975 rfl rfl rfl rfl g46 (wl_st d222_976 rfl rfl rfl rfl (wl_st d222_977 rfl rfl rfl rfl (wl_ic (v := 3) d222_979 rfl (wl_st d222_980 rfl rfl rfl rfl (And.elim (fun g47 g47k => wl_if d222_981 rfl rfl rfl rfl g47 (wl_ci d222_982 rfl rfl rfl pm12_105 (by decide) (ca_v (Or.inl rfl) rfl (Nat.le_of_ble_eq_true rfl) (Nat.le_of_ble_eq_true rfl) (ly_k L 0 rfl).2 (ly_k L 0 rfl).1 (by decide)) g47k)) g46k)))))) g45k)))))) (g2k.2.2.2.2.2.2.2.2.2.2.2.2.2.2.2.2.2.2.1 c99))))))) else (if c100 : ((sc.2 x4.toNatClampNeg) &&& (63 : Int32)) = 19 then wl_tsI (v := 19) (tgt := 1012) d222_40 c100 rfl (by decide) (by decide) (by decide) (wl_st d222_1012 rfl rfl rfl rfl (wl_st d222_1013 rfl rfl rfl rfl (wl_st d222_1014 rfl rfl rfl rfl (wl_ic (v := 1) d222_1016 rfl (wl_st d222_1017 rfl rfl rfl rfl (And.elim (fun g48 g48k => wl_if d222_1018 rfl rfl rfl rfl g48 (wl_st d222_1019 rfl rfl rfl rfl (wl_st d222_1020 rfl rfl rfl rfl (wl_ic (v := 2) d222_1022 rfl (wl_st d222_1023 rfl rfl rfl rfl (And.elim (fun g49 g49k => wl_if d222_1024 rfl rfl rfl rfl g49 (wl_ci d222_1025 rfl rfl rfl pm12_109 (by decide) (ca_v (Or.inl rfl) rfl (Nat.le_of_ble_eq_true rfl) (Nat.le_of_ble_eq_true rfl) (ly_k L 0 rfl).2 (ly_k L 0 rfl).1 (by decide)) g49k)) g48k)))))) (g2k.2.2.2.2.2.2.2.2.2.2.2.2.2.2.2.2.2.2.2.1 c100))))))) else (if c101 : ((sc.2 x4.toNatClampNeg) &&& (63 : Int32)) = 20 then wl_tsI (v := 20) (tgt := 1049) d222_40 c101 rfl (by decide) (by decide) (by decide) (wl_st d222_1049 rfl rfl rfl rfl (wl_st d222_1050 rfl rfl rfl rfl (wl_st d222_1051 rfl rfl rfl rfl (wl_ic (v := 1) d222_1053 rfl (wl_st d222_1054 rfl rfl rfl rfl (And.elim (fun g50 g50k => wl_if d222_1055 rfl rfl rfl rfl g50 (wl_ci d222_1056 rfl rfl rfl pm12_113 (by decide) (ca_v (Or.inl rfl) rfl (Nat.le_of_ble_eq_true rfl) (Nat.le_of_ble_eq_true rfl) (ly_k L 0 rfl).2 (ly_k L 0 rfl).1 (by decide)) g50k)) (g2k.2.2.2.2.2.2.2.2.2.2.2.2.2.2.2.2.2.2.2.2.1 c101))))))) else (if c102 : ((sc.2 x4.toNatClampNeg) &&& (63 : Int32)) = 21 then wl_tsI (v := 21) (tgt := 1074) d222_40 c102 rfl (by decide) (by decide) (by decide) (wl_st d222_1074 rfl rfl rfl rfl (wl_st d222_1075 rfl rfl rfl rfl (wl_st d222_1076 rfl rfl rfl rfl (wl_ic (v := 1) d222_1078 rfl (wl_st d222_1079 rfl rfl rfl rfl (And.elim (fun g51 g51k => wl_if d222_1080 rfl rfl rfl rfl g51 (wl_st d222_1081 rfl rfl rfl rfl (wl_st d222_1082 rfl rfl rfl rfl (wl_ic (v := 2) d222_1084 rfl (wl_st d222_1085 rfl rfl rfl rfl (And.elim (fun g52 g52k => wl_if d222_1086 rfl rfl rfl rfl g52 (wl_st d222_1087 rfl rfl rfl rfl (wl_st d222_1088 rfl rfl rfl rfl (wl_ic (v := 3) d222_1090 rfl (wl_st d222_1091 rfl rfl rfl rfl (And.elim (fun g53 g53k => wl_if d222_1092 rfl rfl rfl rfl g53 (wl_st d222_1093 rfl rfl rfl rfl (wl_st d222_1094 rfl rfl rfl rfl (wl_ic (v := 4) d222_1096 rfl (wl_st d222_1097 rfl rfl rfl rfl (And.elim (fun g54 g54k => wl_if d222_1098 rfl rfl rfl rfl g54 (wl_cj d222_1099 rfl rfl rfl pm12_117 (by decide) (ca_v (Or.inl rfl) rfl (Nat.le_of_ble_eq_true rfl) (Nat.le_of_ble_eq_true rfl) (ly_k L 0 rfl).2 (ly_k L 0 rfl).1 (by decide)) g54k)) g53k)))))) g52k)))))) g51k)))))) (g2k.2.2.2.2.2.2.2.2.2.2.2.2.2.2.2.2.2.2.2.2.2.1 c102))))))) else (if c103 : ((sc.2 x4.toNatClampNeg) &&& (63 : Int32)) = 22 then wl_tsI (v := 22) (tgt := 1136) d222_40 c103 rfl (by decide) (by decide) (by decide) (wl_st d222_1136 rfl rfl rfl rfl (wl_st d222_1137 rfl rfl rfl rfl (wl_st d222_1138 rfl rfl rfl rfl (wl_ic (v := 1) d222_1140 rfl (wl_st d222_1141 rfl rfl rfl rfl (And.elim (fun g55 g55k => wl_if d222_1142 rfl rfl rfl rfl g55 (wl_st d222_1143 rfl rfl rfl rfl (wl_st d222_1144 rfl rfl rfl rfl (wl_ic (v := 2) d222_1146 rfl (wl_st d222_1147 rfl rfl rfl rfl (And.elim (fun g56 g56k => wl_if d222_1148 rfl rfl rfl rfl g56 (wl_st d222_1149 rfl rfl rfl rfl (wl_st d222_1150 rfl rfl rfl rfl (wl_ic (v := 3) d222_1152 rfl (wl_st d222_1153 rfl rfl rfl rfl (And.elim (fun g57 g57k => wl_if d222_1154 rfl rfl rfl rfl g57 (wl_ci d222_1155 rfl rfl rfl pm12_122 (by decide) (ca_v (Or.inl rfl) rfl (Nat.le_of_ble_eq_true rfl) (Nat.le_of_ble_eq_true rfl) (ly_k L 0 rfl).2 (ly_k L 0 rfl).1 (by decide)) g57k)) g56k)))))) g55k)))))) (g2k.2.2.2.2.2.2.2.2.2.2.2.2.2.2.2.2.2.2.2.2.2.2.1 c103))))))) else (if c104 : ((sc.2 x4.toNatClampNeg) &&& (63 : Int32)) = 23 then wl_tsI (v := 23) (tgt := 1185) d222_40 c104 rfl (by decide) (by decide) (by decide) (wl_st d222_1185 rfl rfl rfl rfl (wl_st d222_1186 rfl rfl rfl rfl (wl_st d222_1187 rfl rfl rfl rfl (wl_ic (v := 1) d222_1189 rfl (wl_st d222_1190 rfl rfl rfl rfl (And.elim (fun g58 g58k => wl_if d222_1191 rfl rfl rfl rfl g58 (wl_st d222_1192 rfl rfl rfl rfl (wl_st d222_1193 rfl rfl rfl rfl (wl_ic (v := 2) d222_1195 rfl (wl_st d222_1196 rfl rfl rfl rfl (And.elim (fun g59 g59k => wl_if d222_1197 rfl rfl rfl rfl g59 (wl_ci d222_1198 rfl rfl rfl pm12_126 (by decide) (ca_v (Or.inl rfl) rfl (Nat.le_of_ble_eq_true rfl) (Nat.le_of_ble_eq_true rfl) (ly_k L 0 rfl).2 (ly_k L 0 rfl).1 (by decide)) g59k)) g58k)))))) (g2k.2.2.2.2.2.2.2.2.2.2.2.2.2.2.2.2.2.2.2.2.2.2.2.1 c104))))))) else (if c105 : ((sc.2 x4.toNatClampNeg) &&& (63 : Int32)) = 24 then wl_tsI (v := 24) (tgt := 1222) d222_40 c105 rfl (by decide) (by decide) (by decide) (wl_st d222_1222 rfl rfl rfl rfl (wl_st d222_1223 rfl rfl rfl rfl (wl_st d222_1224 rfl rfl rfl rfl (wl_ic (v := 1) d222_1226 rfl (wl_st d222_1227 rfl rfl rfl rfl (And.elim (fun g60 g60k => wl_if d222_1228 rfl rfl rfl rfl g60 (wl_st d222_1229 rfl rfl rfl rfl (wl_st d222_1230 rfl rfl rfl rfl (wl_ic (v := 2) d222_1232 rfl (wl_st d222_1233 rfl rfl rfl rfl (And.elim (fun g61 g61k => wl_if d222_1234 rfl rfl rfl rfl g61 (wl_ci d222_1235 rfl rfl rfl pm12_130 (by decide) (ca_v (Or.inl rfl) rfl (Nat.le_of_ble_eq_true rfl) (Nat.le_of_ble_eq_true rfl) (ly_k L 0 rfl).2 (ly_k L 0 rfl).1 (by decide)) g61k)) g60k)))))) (g2k.2.2.2.2.2.2.2.2.2.2.2.2.2.2.2.2.2.2.2.2.2.2.2.2.1 c105))))))) else (if c106 : ((sc.2 x4.toNatClampNeg) &&& (63 : Int32)) = 25 then wl_tsI (v := 25) (tgt := 1259) d222_40 c106 rfl (by decide) (by decide) (by decide) (wl_st d222_1259 rfl rfl rfl rfl (wl_st d222_1260 rfl rfl rfl rfl (wl_st d222_1261 rfl rfl rfl rfl (wl_ic (v := 1) d222_1263 rfl (wl_st d222_1264 rfl rfl rfl rfl (And.elim (fun g62 g62k => wl_if d222_1265 rfl rfl rfl rfl g62 (wl_st d222_1266 rfl rfl rfl rfl (wl_st d222_1267 rfl rfl rfl rfl (wl_ic (v := 2) d222_1269 rfl (wl_st d222_1270 rfl rfl rfl rfl (And.elim (fun g63 g63k => wl_if d222_1271 rfl rfl rfl rfl g63 (wl_ci d222_1272 rfl rfl rfl pm12_134 (by decide) (ca_v (Or.inl rfl) rfl (Nat.le_of_ble_eq_true rfl) (Nat.le_of_ble_eq_true rfl) (ly_k L 0 rfl).2 (ly_k L 0 rfl).1 (by decide)) g63k)) g62k)))))) (g2k.2.2.2.2.2.2.2.2.2.2.2.2.2.2.2.2.2.2.2.2.2.2.2.2.2.1 c106))))))) else (if c107 : ((sc.2 x4.toNatClampNeg) &&& (63 : Int32)) = 26 then wl_tsI (v := 26) (tgt := 1296) d222_40 c107 rfl (by decide) (by decide) (by decide) (wl_st d222_1296 rfl rfl rfl rfl (wl_st d222_1297 rfl rfl rfl rfl (wl_st d222_1298 rfl rfl rfl rfl (wl_ic (v := 1) d222_1300 rfl (wl_st d222_1301 rfl rfl rfl rfl (And.elim (fun g64 g64k => wl_if d222_1302 rfl rfl rfl rfl g64 (wl_st d222_1303 rfl rfl rfl rfl (wl_st d222_1304 rfl rfl rfl rfl (wl_ic (v := 2) d222_1306 rfl (wl_st d222_1307 rfl rfl rfl rfl (And.elim (fun g65 g65k => wl_if d222_1308 rfl rfl rfl rfl g65 (wl_st d222_1309 rfl rfl rfl rfl (wl_st d222_1310 rfl rfl rfl rfl (wl_ic (v := 3) d222_1312 rfl (wl_st d222_1313 rfl rfl rfl rfl (And.elim (fun g66 g66k => wl_if d222_1314 rfl rfl rfl rfl g66 (wl_ci d222_1315 rfl rfl rfl pm12_138 (by decide) (ca_v (Or.inl rfl) rfl (Nat.le_of_ble_eq_true rfl) (Nat.le_of_ble_eq_true rfl) (ly_k L 0 rfl).2 (ly_k L 0 rfl).1 (by decide)) g66k)) g65k)))))) g64k)))))) (g2k.2.2.2.2.2.2.2.2.2.2.2.2.2.2.2.2.2.2.2.2.2.2.2.2.2.2.1 c107))))))) else (if c108 : ((sc.2 x4.toNatClampNeg) &&& (63 : Int32)) = 27 then wl_tsI (v := 27) (tgt := 1345) d222_40 c108 rfl (by decide) (by decide) (by decide) (wl_st d222_1345 rfl rfl rfl rfl (wl_st d222_1346 rfl rfl rfl rfl (wl_st d222_1347 rfl rfl rfl rfl (wl_ic (v := 1) d222_1349 rfl (wl_st d222_1350 rfl rfl rfl rfl (And.elim (fun g67 g67k => wl_if d222_1351 rfl rfl rfl rfl g67 (wl_st d222_1352 rfl rfl rfl rfl (wl_st d222_1353 rfl rfl rfl rfl (wl_ic (v := 2) d222_1355 rfl (wl_st d222_1356 rfl rfl rfl rfl (And.elim (fun g68 g68k => wl_if d222_1357 rfl rfl rfl rfl g68 (wl_st d222_1358 rfl rfl rfl rfl (wl_st d222_1359 rfl rfl rfl rfl (wl_ic (v := 3) d222_1361 rfl (wl_st d222_1362 rfl rfl rfl rfl (And.elim (fun g69 g69k => wl_if d222_1363 rfl rfl rfl rfl g69 (wl_st d222_1364 rfl rfl rfl rfl (wl_st d222_1365 rfl rfl rfl rfl (wl_ic (v := 4) d222_1367 rfl (wl_st d222_1368 rfl rfl rfl rfl (And.elim (fun g70 g70k => wl_if d222_1369 rfl rfl rfl rfl g70 (wl_ci d222_1370 rfl rfl rfl pm12_142 (by decide) (ca_v (Or.inl rfl) rfl (Nat.le_of_ble_eq_true rfl) (Nat.le_of_ble_eq_true rfl) (ly_k L 0 rfl).2 (ly_k L 0 rfl).1 (by decide)) g70k)) g69k)))))) g68k)))))) g67k)))))) (g2k.2.2.2.2.2.2.2.2.2.2.2.2.2.2.2.2.2.2.2.2.2.2.2.2.2.2.2.1 c108))))))) else (if c109 : ((sc.2 x4.toNatClampNeg) &&& (63 : Int32)) = 28 then wl_tsI (v := 28) (tgt := 1406) d222_40 c109 rfl (by decide) (by decide) (by decide) (wl_st d222_1406 rfl rfl rfl rfl (wl_st d222_1407 rfl rfl rfl rfl (wl_st d222_1408 rfl rfl rfl rfl (wl_ic (v := 1) d222_1410 rfl (wl_st d222_1411 rfl rfl rfl rfl (And.elim (fun g71 g71k => wl_if d222_1412 rfl rfl rfl rfl g71 (wl_st d222_1413 rfl rfl rfl rfl (wl_st d222_1414 rfl rfl rfl rfl (wl_ic (v := 2) d222_1416 rfl (wl_st d222_1417 rfl rfl rfl rfl (And.elim (fun g72 g72k => wl_if d222_1418 rfl rfl rfl rfl g72 (wl_st d222_1419 rfl rfl rfl rfl (wl_st d222_1420 rfl rfl rfl rfl (wl_ic (v := 3) d222_1422 rfl (wl_st d222_1423 rfl rfl rfl rfl (And.elim (fun g73 g73k => wl_if d222_1424 rfl rfl rfl rfl g73 (wl_st d222_1425 rfl rfl rfl rfl (wl_st d222_1426 rfl rfl rfl rfl (wl_ic (v := 4) d222_1428 rfl (wl_st d222_1429 rfl rfl rfl rfl (And.elim (fun g74 g74k => wl_if d222_1430 rfl rfl rfl rfl g74 (wl_ci d222_1431 rfl rfl rfl pm12_146 (by decide) (ca_v (Or.inl rfl) rfl (Nat.le_of_ble_eq_true rfl) (Nat.le_of_ble_eq_true rfl) (ly_k L 0 rfl).2 (ly_k L 0 rfl).1 (by decide)) g74k)) g73k)))))) g72k)))))) g71k)))))) (g2k.2.2.2.2.2.2.2.2.2.2.2.2.2.2.2.2.2.2.2.2.2.2.2.2.2.2.2.2.1 c109))))))) else (if c110 : ((sc.2 x4.toNatClampNeg) &&& (63 : Int32)) = 29 then wl_tsI (v := 29) (tgt := 1467) d222_40 c110 rfl (by decide) (by decide) (by decide) (wl_st d222_1467 rfl rfl rfl rfl (wl_st d222_1468 rfl rfl rfl rfl (wl_st d222_1469 rfl rfl rfl rfl (wl_ic (v := 1) d222_1471 rfl (wl_st d222_1472 rfl rfl rfl rfl (And.elim (fun g75 g75k => wl_if d222_1473 rfl rfl rfl rfl g75 (wl_st d222_1474 rfl rfl rfl rfl (wl_st d222_1475 rfl rfl rfl rfl (wl_ic (v := 2) d222_1477 rfl (wl_st d222_1478 rfl rfl rfl rfl (And.elim (fun g76 g76k => wl_if d222_1479 rfl rfl rfl rfl g76 (wl_st d222_1480 rfl rfl rfl rfl (wl_st d222_1481 rfl rfl rfl rfl (wl_ic (v := 3) d222_1483 rfl (wl_st d222_1484 rfl rfl rfl rfl (And.elim (fun g77 g77k => wl_if d222_1485 rfl rfl rfl rfl g77 (wl_ci d222_1486 rfl rfl rfl pm12_150 (by decide) (ca_v (Or.inl rfl) rfl (Nat.le_of_ble_eq_true rfl) (Nat.le_of_ble_eq_true rfl) (ly_k L 0 rfl).2 (ly_k L 0 rfl).1 (by decide)) g77k)) g76k)))))) g75k)))))) (g2k.2.2.2.2.2.2.2.2.2.2.2.2.2.2.2.2.2.2.2.2.2.2.2.2.2.2.2.2.2.1 c110))))))) else (if c111 : ((sc.2 x4.toNatClampNeg) &&& (63 : Int32)) = 30 then wl_tsI (v := 30) (tgt := 1516) d222_40 c111 rfl (by decide) (by decide) (by decide) (wl_st d222_1516 rfl rfl rfl rfl (wl_st d222_1517 rfl rfl rfl rfl (wl_st d222_1518 rfl rfl rfl rfl (wl_ic (v := 1) d222_1520 rfl (wl_st d222_1521 rfl rfl rfl rfl (And.elim (fun g78 g78k => wl_if d222_1522 rfl rfl rfl rfl g78 (wl_st d222_1523 rfl rfl rfl rfl (wl_st d222_1524 rfl rfl rfl rfl (wl_ic (v := 2) d222_1526 rfl (wl_st d222_1527 rfl rfl rfl rfl (And.elim (fun g79 g79k => wl_if d222_1528 rfl rfl rfl rfl g79 (wl_ci d222_1529 rfl rfl rfl pm12_154 (by decide) (ca_v (Or.inl rfl) rfl (Nat.le_of_ble_eq_true rfl) (Nat.le_of_ble_eq_true rfl) (ly_k L 0 rfl).2 (ly_k L 0 rfl).1 (by decide)) g79k)) g78k)))))) (g2k.2.2.2.2.2.2.2.2.2.2.2.2.2.2.2.2.2.2.2.2.2.2.2.2.2.2.2.2.2.2.1 c111))))))) else (if c112 : ((sc.2 x4.toNatClampNeg) &&& (63 : Int32)) = 31 then wl_tsI (v := 31) (tgt := 1553) d222_40 c112 rfl (by decide) (by decide) (by decide) (wl_st d222_1553 rfl rfl rfl rfl (wl_ci d222_1554 rfl rfl rfl pm12_158 (by decide) (ca_v (Or.inl rfl) rfl (Nat.le_of_ble_eq_true rfl) (Nat.le_of_ble_eq_true rfl) (ly_k L 0 rfl).2 (ly_k L 0 rfl).1 (by decide)) (g2k.2.2.2.2.2.2.2.2.2.2.2.2.2.2.2.2.2.2.2.2.2.2.2.2.2.2.2.2.2.2.2.1 c112))) else (if c113 : ((sc.2 x4.toNatClampNeg) &&& (63 : Int32)) = 32 then wl_tsI (v := 32) (tgt := 1566) d222_40 c113 rfl (by decide) (by decide) (by decide) (wl_st d222_1566 rfl rfl rfl rfl (wl_st d222_1567 rfl rfl rfl rfl (wl_st d222_1568 rfl rfl rfl rfl (wl_ic (v := 1) d222_1570 rfl (wl_st d222_1571 rfl rfl rfl rfl (And.elim (fun g80 g80k => wl_if d222_1572 rfl rfl rfl rfl g80 (wl_ci d222_1573 rfl rfl rfl pm12_162 (by decide) (ca_v (Or.inl rfl) rfl (Nat.le_of_ble_eq_true rfl) (Nat.le_of_ble_eq_true rfl) (ly_k L 0 rfl).2 (ly_k L 0 rfl).1 (by decide)) g80k)) (g2k.2.2.2.2.2.2.2.2.2.2.2.2.2.2.2.2.2.2.2.2.2.2.2.2.2.2.2.2.2.2.2.2.1 c113))))))) else wl_tsO (tgt := 1591) d222_40 (by rcases (by omega : (((sc.2 x4.toNatClampNeg) &&& (63 : Int32))).toInt < 0 ∨ 32 < (((sc.2 x4.toNatClampNeg) &&& (63 : Int32))).toInt ∨ (((sc.2 x4.toNatClampNeg) &&& (63 : Int32))).toInt = 0 ∨ (((sc.2 x4.toNatClampNeg) &&& (63 : Int32))).toInt = 1 ∨ (((sc.2 x4.toNatClampNeg) &&& (63 : Int32))).toInt = 2 ∨ (((sc.2 x4.toNatClampNeg) &&& (63 : Int32))).toInt = 3 ∨ (((sc.2 x4.toNatClampNeg) &&& (63 : Int32))).toInt = 4 ∨ (((sc.2 x4.toNatClampNeg) &&& (63 : Int32))).toInt = 5 ∨ (((sc.2 x4.toNatClampNeg) &&& (63 : Int32))).toInt = 6 ∨ (((sc.2 x4.toNatClampNeg) &&& (63 : Int32))).toInt = 7 ∨ (((sc.2 x4.toNatClampNeg) &&& (63 : Int32))).toInt = 8 ∨ (((sc.2 x4.toNatClampNeg) &&& (63 : Int32))).toInt = 9 ∨ (((sc.2 x4.toNatClampNeg) &&& (63 : Int32))).toInt = 10 ∨ (((sc.2 x4.toNatClampNeg) &&& (63 : Int32))).toInt = 11 ∨ (((sc.2 x4.toNatClampNeg) &&& (63 : Int32))).toInt = 12 ∨ (((sc.2 x4.toNatClampNeg) &&& (63 : Int32))).toInt = 13 ∨ (((sc.2 x4.toNatClampNeg) &&& (63 : Int32))).toInt = 14 ∨ (((sc.2 x4.toNatClampNeg) &&& (63 : Int32))).toInt = 15 ∨ (((sc.2 x4.toNatClampNeg) &&& (63 : Int32))).toInt = 16 ∨ (((sc.2 x4.toNatClampNeg) &&& (63 : Int32))).toInt = 17 ∨ (((sc.2 x4.toNatClampNeg) &&& (63 : Int32))).toInt = 18 ∨ (((sc.2 x4.toNatClampNeg) &&& (63 : Int32))).toInt = 19 ∨ (((sc.2 x4.toNatClampNeg) &&& (63 : Int32))).toInt = 20 ∨ (((sc.2 x4.toNatClampNeg) &&& (63 : Int32))).toInt = 21 ∨ (((sc.2 x4.toNatClampNeg) &&& (63 : Int32))).toInt = 22 ∨ (((sc.2 x4.toNatClampNeg) &&& (63 : Int32))).toInt = 23 ∨ (((sc.2 x4.toNatClampNeg) &&& (63 : Int32))).toInt = 24 ∨ (((sc.2 x4.toNatClampNeg) &&& (63 : Int32))).toInt = 25 ∨ (((sc.2 x4.toNatClampNeg) &&& (63 : Int32))).toInt = 26 ∨ (((sc.2 x4.toNatClampNeg) &&& (63 : Int32))).toInt = 27 ∨ (((sc.2 x4.toNatClampNeg) &&& (63 : Int32))).toInt = 28 ∨ (((sc.2 x4.toNatClampNeg) &&& (63 : Int32))).toInt = 29 ∨ (((sc.2 x4.toNatClampNeg) &&& (63 : Int32))).toInt = 30 ∨ (((sc.2 x4.toNatClampNeg) &&& (63 : Int32))).toInt = 31 ∨ (((sc.2 x4.toNatClampNeg) &&& (63 : Int32))).toInt = 32) with qq | qq | qq | qq | qq | qq | qq | qq | qq | qq | qq | qq | qq | qq | qq | qq | qq | qq | qq | qq | qq | qq | qq | qq | qq | qq | qq | qq | qq | qq | qq | qq | qq | qq | qq <;> first | exact Or.inl qq | exact Or.inr qq | exact absurd (Int32.toInt_inj.mp qq) c81 | exact absurd (Int32.toInt_inj.mp qq) c82 | exact absurd (Int32.toInt_inj.mp qq) c83 | exact absurd (Int32.toInt_inj.mp qq) c84 | exact absurd (Int32.toInt_inj.mp qq) c85 | exact absurd (Int32.toInt_inj.mp qq) c86 | exact absurd (Int32.toInt_inj.mp qq) c87 | exact absurd (Int32.toInt_inj.mp qq) c88 | exact absurd (Int32.toInt_inj.mp qq) c89 | exact absurd (Int32.toInt_inj.mp qq) c90 | exact absurd (Int32.toInt_inj.mp qq) c91 | exact absurd (Int32.toInt_inj.mp qq) c92 | exact absurd (Int32.toInt_inj.mp qq) c93 | exact absurd (Int32.toInt_inj.mp qq) c94 | exact absurd (Int32.toInt_inj.mp qq) c95 | exact absurd (Int32.toInt_inj.mp qq) c96 | exact absurd (Int32.toInt_inj.mp qq) c97 | exact absurd (Int32.toInt_inj.mp qq) c98 | exact absurd (Int32.toInt_inj.mp qq) c99 | exact absurd (Int32.toInt_inj.mp qq) c100 | exact absurd (Int32.toInt_inj.mp qq) c101 | exact absurd (Int32.toInt_inj.mp qq) c102 | exact absurd (Int32.toInt_inj.mp qq) c103 | exact absurd (Int32.toInt_inj.mp qq) c104 | exact absurd (Int32.toInt_inj.mp qq) c105 | exact absurd (Int32.toInt_inj.mp qq) c106 | exact absurd (Int32.toInt_inj.mp qq) c107 | exact absurd (Int32.toInt_inj.mp qq) c108 | exact absurd (Int32.toInt_inj.mp qq) c109 | exact absurd (Int32.toInt_inj.mp qq) c110 | exact absurd (Int32.toInt_inj.mp qq) c111 | exact absurd (Int32.toInt_inj.mp qq) c112 | exact absurd (Int32.toInt_inj.mp qq) c113) (by decide) ((g2k.2.2.2.2.2.2.2.2.2.2.2.2.2.2.2.2.2.2.2.2.2.2.2.2.2.2.2.2.2.2.2.2.2 c81 c82 c83 c84 c85 c86 c87 c88 c89 c90 c91 c92 c93 c94 c95 c96 c97 c98 c99 c100 c101 c102 c103 c104 c105 c106 c107 c108 c109 c110 c111 c112 c113))))))))))))))))))))))))))))))))))))))) (H.2 c1)))))))))
theorem s222_210 {sc : cmS} {d : Nat} {h : cmH} {Q : Option Value → cmH → Prop} (L : LY h) (x4 : Int32) (u5 : Option Value) (u6 : Option Value) (sx0 : Int32) (H : (¬ (x4 + (1 : Int32)) < 0 ∧ (x4 + (1 : Int32)).toNatClampNeg < sc.1) ∧ (¬ (x4 + (2 : Int32)) < 0 ∧ (x4 + (2 : Int32)).toNatClampNeg < sc.1) ∧ (¬ (x4 + (3 : Int32)) < 0 ∧ (x4 + (3 : Int32)).toNatClampNeg < sc.1) ∧ cm_ci sc d 136 [.ref 38, .int (sc.2 (x4 + (1 : Int32)).toNatClampNeg), .int (sc.2 (x4 + (2 : Int32)).toNatClampNeg), .int (sc.2 (x4 + (3 : Int32)).toNatClampNeg)] h (fun r h' => cm_wp sc (d + 1) 222 232 [some (.retAddr 0), some (.ref 0), some (.ref 38), some (.ref 87), some (.int x4), u5, u6] [.int r, .int sx0] h' Q)) : cm_wp sc (d + 1) 222 210 [some (.retAddr 0), some (.ref 0), some (.ref 38), some (.ref 87), some (.int x4), u5, u6] [.int sx0] h Q :=
  wl_st d222_210 rfl rfl rfl rfl (wl_st d222_211 rfl rfl rfl rfl (wl_st d222_212 rfl rfl rfl rfl (wl_ic (v := 1) d222_214 rfl (wl_st d222_215 rfl rfl rfl rfl (And.elim (fun g1 g1k => wl_if d222_216 rfl rfl rfl rfl g1 (wl_st d222_217 rfl rfl rfl rfl (wl_st d222_218 rfl rfl rfl rfl (wl_ic (v := 2) d222_220 rfl (wl_st d222_221 rfl rfl rfl rfl (And.elim (fun g2 g2k => wl_if d222_222 rfl rfl rfl rfl g2 (wl_st d222_223 rfl rfl rfl rfl (wl_st d222_224 rfl rfl rfl rfl (wl_ic (v := 3) d222_226 rfl (wl_st d222_227 rfl rfl rfl rfl (And.elim (fun g3 g3k => wl_if d222_228 rfl rfl rfl rfl g3 (wl_ci d222_229 rfl rfl rfl pm12_23 (by decide) (ca_v (Or.inl rfl) rfl (Nat.le_of_ble_eq_true rfl) (Nat.le_of_ble_eq_true rfl) (ly_k L 38 rfl).2 (ly_k L 38 rfl).1 (by decide)) g3k)) g2k)))))) g1k)))))) H)))))
theorem s222_232 {sc : cmS} {d : Nat} {h : cmH} {Q : Option Value → cmH → Prop} (x4 : Int32) (u5 : Option Value) (u6 : Option Value) (sx0 : Int32) (sx1 : Int32) (H : (((sx1 = sx0) → cm_wp sc d 222 1591 [some (.retAddr 0), some (.ref 0), some (.ref 38), some (.ref 87), some (.int x4), u5, u6] [] h Q) ∧ (¬ (sx1 = sx0) → Q (some (.int (0 : Int32))) h))) : cm_wp sc d 222 232 [some (.retAddr 0), some (.ref 0), some (.ref 38), some (.ref 87), some (.int x4), u5, u6] [.int sx0, .int sx1] h Q :=
  wl_cb (b := sx1 = sx0) (off := 1359) (tgt := 1591) (pc3 := 235) (st' := []) d222_232 rfl rfl rfl rfl (by decide) rfl (fun c1 => (H.1 c1)) (fun c1 => wl_ic (v := 0) d222_235 rfl (wl_rz d222_236 rfl (by decide) (H.2 c1)))
theorem s222_241 {sc : cmS} {d : Nat} {h : cmH} {Q : Option Value → cmH → Prop} (L : LY h) (x4 : Int32) (u5 : Option Value) (u6 : Option Value) (sx0 : Int32) (H : cm_ci sc d 138 [.ref 38] h (fun r h' => cm_wp sc (d + 1) 222 245 [some (.retAddr 0), some (.ref 0), some (.ref 38), some (.ref 87), some (.int x4), u5, u6] [.int r, .int sx0] h' Q)) : cm_wp sc (d + 1) 222 241 [some (.retAddr 0), some (.ref 0), some (.ref 38), some (.ref 87), some (.int x4), u5, u6] [.int sx0] h Q :=
  wl_st d222_241 rfl rfl rfl rfl (wl_ci d222_242 rfl rfl rfl pm12_28 (by decide) (ca_v (Or.inl rfl) rfl (Nat.le_of_ble_eq_true rfl) (Nat.le_of_ble_eq_true rfl) (ly_k L 38 rfl).2 (ly_k L 38 rfl).1 (by decide)) H)
theorem s222_245 {sc : cmS} {d : Nat} {h : cmH} {Q : Option Value → cmH → Prop} (x4 : Int32) (u5 : Option Value) (u6 : Option Value) (sx0 : Int32) (sx1 : Int32) (H : (((sx1 = sx0) → cm_wp sc d 222 1591 [some (.retAddr 0), some (.ref 0), some (.ref 38), some (.ref 87), some (.int x4), u5, u6] [] h Q) ∧ (¬ (sx1 = sx0) → Q (some (.int (0 : Int32))) h))) : cm_wp sc d 222 245 [some (.retAddr 0), some (.ref 0), some (.ref 38), some (.ref 87), some (.int x4), u5, u6] [.int sx0, .int sx1] h Q :=
  wl_cb (b := sx1 = sx0) (off := 1346) (tgt := 1591) (pc3 := 248) (st' := []) d222_245 rfl rfl rfl rfl (by decide) rfl (fun c1 => (H.1 c1)) (fun c1 => wl_ic (v := 0) d222_248 rfl (wl_rz d222_249 rfl (by decide) (H.2 c1)))
theorem s222_272 {sc : cmS} {d : Nat} {h : cmH} {Q : Option Value → cmH → Prop} (L : LY h) (x4 : Int32) (u5 : Option Value) (u6 : Option Value) (sx0 : Int32) (H : (¬ (x4 + (1 : Int32)) < 0 ∧ (x4 + (1 : Int32)).toNatClampNeg < sc.1) ∧ (¬ (x4 + (2 : Int32)) < 0 ∧ (x4 + (2 : Int32)).toNatClampNeg < sc.1) ∧ (¬ (x4 + (3 : Int32)) < 0 ∧ (x4 + (3 : Int32)).toNatClampNeg < sc.1) ∧ cm_ci sc d 139 [.ref 38, .int (sc.2 (x4 + (1 : Int32)).toNatClampNeg), .int (sc.2 (x4 + (2 : Int32)).toNatClampNeg), .int (sc.2 (x4 + (3 : Int32)).toNatClampNeg)] h (fun r h' => cm_wp sc (d + 1) 222 294 [some (.retAddr 0), some (.ref 0), some (.ref 38), some (.ref 87), some (.int x4), u5, u6] [.int r, .int sx0] h' Q)) : cm_wp sc (d + 1) 222 272 [some (.retAddr 0), some (.ref 0), some (.ref 38), some (.ref 87), some (.int x4), u5, u6] [.int sx0] h Q :=
  wl_st d222_272 rfl rfl rfl rfl (wl_st d222_273 rfl rfl rfl rfl (wl_st d222_274 rfl rfl rfl rfl (wl_ic (v := 1) d222_276 rfl (wl_st d222_277 rfl rfl rfl rfl (And.elim (fun g1 g1k => wl_if d222_278 rfl rfl rfl rfl g1 (wl_st d222_279 rfl rfl rfl rfl (wl_st d222_280 rfl rfl rfl rfl (wl_ic (v := 2) d222_282 rfl (wl_st d222_283 rfl rfl rfl rfl (And.elim (fun g2 g2k => wl_if d222_284 rfl rfl rfl rfl g2 (wl_st d222_285 rfl rfl rfl rfl (wl_st d222_286 rfl rfl rfl rfl (wl_ic (v := 3) d222_288 rfl (wl_st d222_289 rfl rfl rfl rfl (And.elim (fun g3 g3k => wl_if d222_290 rfl rfl rfl rfl g3 (wl_ci d222_291 rfl rfl rfl pm12_33 (by decide) (ca_v (Or.inl rfl) rfl (Nat.le_of_ble_eq_true rfl) (Nat.le_of_ble_eq_true rfl) (ly_k L 38 rfl).2 (ly_k L 38 rfl).1 (by decide)) g3k)) g2k)))))) g1k)))))) H)))))
theorem s222_294 {sc : cmS} {d : Nat} {h : cmH} {Q : Option Value → cmH → Prop} (x4 : Int32) (u5 : Option Value) (u6 : Option Value) (sx0 : Int32) (sx1 : Int32) (H : (((sx1 = sx0) → cm_wp sc d 222 1591 [some (.retAddr 0), some (.ref 0), some (.ref 38), some (.ref 87), some (.int x4), u5, u6] [] h Q) ∧ (¬ (sx1 = sx0) → Q (some (.int (0 : Int32))) h))) : cm_wp sc d 222 294 [some (.retAddr 0), some (.ref 0), some (.ref 38), some (.ref 87), some (.int x4), u5, u6] [.int sx0, .int sx1] h Q :=
  wl_cb (b := sx1 = sx0) (off := 1297) (tgt := 1591) (pc3 := 297) (st' := []) d222_294 rfl rfl rfl rfl (by decide) rfl (fun c1 => (H.1 c1)) (fun c1 => wl_ic (v := 0) d222_297 rfl (wl_rz d222_298 rfl (by decide) (H.2 c1)))
theorem s222_321 {sc : cmS} {d : Nat} {h : cmH} {Q : Option Value → cmH → Prop} (L : LY h) (x4 : Int32) (u5 : Option Value) (u6 : Option Value) (sx0 : Int32) (H : (¬ (x4 + (1 : Int32)) < 0 ∧ (x4 + (1 : Int32)).toNatClampNeg < sc.1) ∧ (¬ (x4 + (2 : Int32)) < 0 ∧ (x4 + (2 : Int32)).toNatClampNeg < sc.1) ∧ (¬ (x4 + (3 : Int32)) < 0 ∧ (x4 + (3 : Int32)).toNatClampNeg < sc.1) ∧ cm_ci sc d 141 [.ref 38, .int (sc.2 (x4 + (1 : Int32)).toNatClampNeg), .int (sc.2 (x4 + (2 : Int32)).toNatClampNeg), .int (sc.2 (x4 + (3 : Int32)).toNatClampNeg)] h (fun r h' => cm_wp sc (d + 1) 222 343 [some (.retAddr 0), some (.ref 0), some (.ref 38), some (.ref 87), some (.int x4), u5, u6] [.int r, .int sx0] h' Q)) : cm_wp sc (d + 1) 222 321 [some (.retAddr 0), some (.ref 0), some (.ref 38), some (.ref 87), some (.int x4), u5, u6] [.int sx0] h Q :=
  wl_st d222_321 rfl rfl rfl rfl (wl_st d222_322 rfl rfl rfl rfl (wl_st d222_323 rfl rfl rfl rfl (wl_ic (v := 1) d222_325 rfl (wl_st d222_326 rfl rfl rfl rfl (And.elim (fun g1 g1k => wl_if d222_327 rfl rfl rfl rfl g1 (wl_st d222_328 rfl rfl rfl rfl (wl_st d222_329 rfl rfl rfl rfl (wl_ic (v := 2) d222_331 rfl (wl_st d222_332 rfl rfl rfl rfl (And.elim (fun g2 g2k => wl_if d222_333 rfl rfl rfl rfl g2 (wl_st d222_334 rfl rfl rfl rfl (wl_st d222_335 rfl rfl rfl rfl (wl_ic (v := 3) d222_337 rfl (wl_st d222_338 rfl rfl rfl rfl (And.elim (fun g3 g3k => wl_if d222_339 rfl rfl rfl rfl g3 (wl_ci d222_340 rfl rfl rfl pm12_37 (by decide) (ca_v (Or.inl rfl) rfl (Nat.le_of_ble_eq_true rfl) (Nat.le_of_ble_eq_true rfl) (ly_k L 38 rfl).2 (ly_k L 38 rfl).1 (by decide)) g3k)) g2k)))))) g1k)))))) H)))))
theorem s222_343 {sc : cmS} {d : Nat} {h : cmH} {Q : Option Value → cmH → Prop} (x4 : Int32) (u5 : Option Value) (u6 : Option Value) (sx0 : Int32) (sx1 : Int32) (H : (((sx1 = sx0) → cm_wp sc d 222 1591 [some (.retAddr 0), some (.ref 0), some (.ref 38), some (.ref 87), some (.int x4), u5, u6] [] h Q) ∧ (¬ (sx1 = sx0) → Q (some (.int (0 : Int32))) h))) : cm_wp sc d 222 343 [some (.retAddr 0), some (.ref 0), some (.ref 38), some (.ref 87), some (.int x4), u5, u6] [.int sx0, .int sx1] h Q :=
  wl_cb (b := sx1 = sx0) (off := 1248) (tgt := 1591) (pc3 := 346) (st' := []) d222_343 rfl rfl rfl rfl (by decide) rfl (fun c1 => (H.1 c1)) (fun c1 => wl_ic (v := 0) d222_346 rfl (wl_rz d222_347 rfl (by decide) (H.2 c1)))
theorem s222_370 {sc : cmS} {d : Nat} {h : cmH} {Q : Option Value → cmH → Prop} (L : LY h) (x4 : Int32) (u5 : Option Value) (u6 : Option Value) (sx0 : Int32) (H : (¬ (x4 + (1 : Int32)) < 0 ∧ (x4 + (1 : Int32)).toNatClampNeg < sc.1) ∧ (¬ (x4 + (2 : Int32)) < 0 ∧ (x4 + (2 : Int32)).toNatClampNeg < sc.1) ∧ (¬ (x4 + (3 : Int32)) < 0 ∧ (x4 + (3 : Int32)).toNatClampNeg < sc.1) ∧ cm_ci sc d 150 [.ref 38, .int (sc.2 (x4 + (1 : Int32)).toNatClampNeg), .int (sc.2 (x4 + (2 : Int32)).toNatClampNeg), .int (sc.2 (x4 + (3 : Int32)).toNatClampNeg)] h (fun r h' => cm_wp sc (d + 1) 222 392 [some (.retAddr 0), some (.ref 0), some (.ref 38), some (.ref 87), some (.int x4), u5, u6] [.int r, .int sx0] h' Q)) : cm_wp sc (d + 1) 222 370 [some (.retAddr 0), some (.ref 0), some (.ref 38), some (.ref 87), some (.int x4), u5, u6] [.int sx0] h Q :=
  wl_st d222_370 rfl rfl rfl rfl (wl_st d222_371 rfl rfl rfl rfl (wl_st d222_372 rfl rfl rfl rfl (wl_ic (v := 1) d222_374 rfl (wl_st d222_375 rfl rfl rfl rfl (And.elim (fun g1 g1k => wl_if d222_376 rfl rfl rfl rfl g1 (wl_st d222_377 rfl rfl rfl rfl (wl_st d222_378 rfl rfl rfl rfl (wl_ic (v := 2) d222_380 rfl (wl_st d222_381 rfl rfl rfl rfl (And.elim (fun g2 g2k => wl_if d222_382 rfl rfl rfl rfl g2 (wl_st d222_383 rfl rfl rfl rfl (wl_st d222_384 rfl rfl rfl rfl (wl_ic (v := 3) d222_386 rfl (wl_st d222_387 rfl rfl rfl rfl (And.elim (fun g3 g3k => wl_if d222_388 rfl rfl rfl rfl g3 (wl_ci d222_389 rfl rfl rfl pm12_41 (by decide) (ca_v (Or.inl rfl) rfl (Nat.le_of_ble_eq_true rfl) (Nat.le_of_ble_eq_true rfl) (ly_k L 38 rfl).2 (ly_k L 38 rfl).1 (by decide)) g3k)) g2k)))))) g1k)))))) H)))))
theorem s222_392 {sc : cmS} {d : Nat} {h : cmH} {Q : Option Value → cmH → Prop} (x4 : Int32) (u5 : Option Value) (u6 : Option Value) (sx0 : Int32) (sx1 : Int32) (H : (((sx1 = sx0) → cm_wp sc d 222 1591 [some (.retAddr 0), some (.ref 0), some (.ref 38), some (.ref 87), some (.int x4), u5, u6] [] h Q) ∧ (¬ (sx1 = sx0) → Q (some (.int (0 : Int32))) h))) : cm_wp sc d 222 392 [some (.retAddr 0), some (.ref 0), some (.ref 38), some (.ref 87), some (.int x4), u5, u6] [.int sx0, .int sx1] h Q :=
  wl_cb (b := sx1 = sx0) (off := 1199) (tgt := 1591) (pc3 := 395) (st' := []) d222_392 rfl rfl rfl rfl (by decide) rfl (fun c1 => (H.1 c1)) (fun c1 => wl_ic (v := 0) d222_395 rfl (wl_rz d222_396 rfl (by decide) (H.2 c1)))
theorem s222_425 {sc : cmS} {d : Nat} {h : cmH} {Q : Option Value → cmH → Prop} (L : LY h) (x4 : Int32) (u5 : Option Value) (u6 : Option Value) (sx0 : Int32) (H : (¬ (x4 + (1 : Int32)) < 0 ∧ (x4 + (1 : Int32)).toNatClampNeg < sc.1) ∧ (¬ (x4 + (2 : Int32)) < 0 ∧ (x4 + (2 : Int32)).toNatClampNeg < sc.1) ∧ (¬ (x4 + (3 : Int32)) < 0 ∧ (x4 + (3 : Int32)).toNatClampNeg < sc.1) ∧ (¬ (x4 + (4 : Int32)) < 0 ∧ (x4 + (4 : Int32)).toNatClampNeg < sc.1) ∧ cm_ci sc d 152 [.ref 38, .int (sc.2 (x4 + (1 : Int32)).toNatClampNeg), .int (sc.2 (x4 + (2 : Int32)).toNatClampNeg), .int (sc.2 (x4 + (3 : Int32)).toNatClampNeg), .int (sc.2 (x4 + (4 : Int32)).toNatClampNeg)] h (fun r h' => cm_wp sc (d + 1) 222 453 [some (.retAddr 0), some (.ref 0), some (.ref 38), some (.ref 87), some (.int x4), u5, u6] [.int r, .int sx0] h' Q)) : cm_wp sc (d + 1) 222 425 [some (.retAddr 0), some (.ref 0), some (.ref 38), some (.ref 87), some (.int x4), u5, u6] [.int sx0] h Q :=
  wl_st d222_425 rfl rfl rfl rfl (wl_st d222_426 rfl rfl rfl rfl (wl_st d222_427 rfl rfl rfl rfl (wl_ic (v := 1) d222_429 rfl (wl_st d222_430 rfl rfl rfl rfl (And.elim (fun g1 g1k => wl_if d222_431 rfl rfl rfl rfl g1 (wl_st d222_432 rfl rfl rfl rfl (wl_st d222_433 rfl rfl rfl rfl (wl_ic (v := 2) d222_435 rfl (wl_st d222_436 rfl rfl rfl rfl (And.elim (fun g2 g2k => wl_if d222_437 rfl rfl rfl rfl g2 (wl_st d222_438 rfl rfl rfl rfl (wl_st d222_439 rfl rfl rfl rfl (wl_ic (v := 3) d222_441 rfl (wl_st d222_442 rfl rfl rfl rfl (And.elim (fun g3 g3k => wl_if d222_443 rfl rfl rfl rfl g3 (wl_st d222_444 rfl rfl rfl rfl (wl_st d222_445 rfl rfl rfl rfl (wl_ic (v := 4) d222_447 rfl (wl_st d222_448 rfl rfl rfl rfl (And.elim (fun g4 g4k => wl_if d222_449 rfl rfl rfl rfl g4 (wl_ci d222_450 rfl rfl rfl pm12_46 (by decide) (ca_v (Or.inl rfl) rfl (Nat.le_of_ble_eq_true rfl) (Nat.le_of_ble_eq_true rfl) (ly_k L 38 rfl).2 (ly_k L 38 rfl).1 (by decide)) g4k)) g3k)))))) g2k)))))) g1k)))))) H)))))
theorem s222_453 {sc : cmS} {d : Nat} {h : cmH} {Q : Option Value → cmH → Prop} (x4 : Int32) (u5 : Option Value) (u6 : Option Value) (sx0 : Int32) (sx1 : Int32) (H : (((sx1 = sx0) → cm_wp sc d 222 1591 [some (.retAddr 0), some (.ref 0), some (.ref 38), some (.ref 87), some (.int x4), u5, u6] [] h Q) ∧ (¬ (sx1 = sx0) → Q (some (.int (0 : Int32))) h))) : cm_wp sc d 222 453 [some (.retAddr 0), some (.ref 0), some (.ref 38), some (.ref 87), some (.int x4), u5, u6] [.int sx0, .int sx1] h Q :=
  wl_cb (b := sx1 = sx0) (off := 1138) (tgt := 1591) (pc3 := 456) (st' := []) d222_453 rfl rfl rfl rfl (by decide) rfl (fun c1 => (H.1 c1)) (fun c1 => wl_ic (v := 0) d222_456 rfl (wl_rz d222_457 rfl (by decide) (H.2 c1)))
theorem s222_474 {sc : cmS} {d : Nat} {h : cmH} {Q : Option Value → cmH → Prop} (L : LY h) (x4 : Int32) (u5 : Option Value) (u6 : Option Value) (sx0 : Int32) (H : (¬ (x4 + (1 : Int32)) < 0 ∧ (x4 + (1 : Int32)).toNatClampNeg < sc.1) ∧ (¬ (x4 + (2 : Int32)) < 0 ∧ (x4 + (2 : Int32)).toNatClampNeg < sc.1) ∧ cm_ci sc d 153 [.ref 38, .int (sc.2 (x4 + (1 : Int32)).toNatClampNeg), .int (sc.2 (x4 + (2 : Int32)).toNatClampNeg)] h (fun r h' => cm_wp sc (d + 1) 222 490 [some (.retAddr 0), some (.ref 0), some (.ref 38), some (.ref 87), some (.int x4), u5, u6] [.int r, .int sx0] h' Q)) : cm_wp sc (d + 1) 222 474 [some (.retAddr 0), some (.ref 0), some (.ref 38), some (.ref 87), some (.int x4), u5, u6] [.int sx0] h Q :=
  wl_st d222_474 rfl rfl rfl rfl (wl_st d222_475 rfl rfl rfl rfl (wl_st d222_476 rfl rfl rfl rfl (wl_ic (v := 1) d222_478 rfl (wl_st d222_479 rfl rfl rfl rfl (And.elim (fun g1 g1k => wl_if d222_480 rfl rfl rfl rfl g1 (wl_st d222_481 rfl rfl rfl rfl (wl_st d222_482 rfl rfl rfl rfl (wl_ic (v := 2) d222_484 rfl (wl_st d222_485 rfl rfl rfl rfl (And.elim (fun g2 g2k => wl_if d222_486 rfl rfl rfl rfl g2 (wl_ci d222_487 rfl rfl rfl pm12_51 (by decide) (ca_v (Or.inl rfl) rfl (Nat.le_of_ble_eq_true rfl) (Nat.le_of_ble_eq_true rfl) (ly_k L 38 rfl).2 (ly_k L 38 rfl).1 (by decide)) g2k)) g1k)))))) H)))))
theorem s222_490 {sc : cmS} {d : Nat} {h : cmH} {Q : Option Value → cmH → Prop} (x4 : Int32) (u5 : Option Value) (u6 : Option Value) (sx0 : Int32) (sx1 : Int32) (H : (((sx1 = sx0) → cm_wp sc d 222 1591 [some (.retAddr 0), some (.ref 0), some (.ref 38), some (.ref 87), some (.int x4), u5, u6] [] h Q) ∧ (¬ (sx1 = sx0) → Q (some (.int (0 : Int32))) h))) : cm_wp sc d 222 490 [some (.retAddr 0), some (.ref 0), some (.ref 38), some (.ref 87), some (.int x4), u5, u6] [.int sx0, .int sx1] h Q :=
  wl_cb (b := sx1 = sx0) (off := 1101) (tgt := 1591) (pc3 := 493) (st' := []) d222_490 rfl rfl rfl rfl (by decide) rfl (fun c1 => (H.1 c1)) (fun c1 => wl_ic (v := 0) d222_493 rfl (wl_rz d222_494 rfl (by decide) (H.2 c1)))
theorem s222_511 {sc : cmS} {d : Nat} {h : cmH} {Q : Option Value → cmH → Prop} (L : LY h) (x4 : Int32) (u5 : Option Value) (u6 : Option Value) (sx0 : Int32) (H : (¬ (x4 + (1 : Int32)) < 0 ∧ (x4 + (1 : Int32)).toNatClampNeg < sc.1) ∧ (¬ (x4 + (2 : Int32)) < 0 ∧ (x4 + (2 : Int32)).toNatClampNeg < sc.1) ∧ cm_ci sc d 142 [.ref 38, .int (sc.2 (x4 + (1 : Int32)).toNatClampNeg), .int (sc.2 (x4 + (2 : Int32)).toNatClampNeg)] h (fun r h' => cm_wp sc (d + 1) 222 527 [some (.retAddr 0), some (.ref 0), some (.ref 38), some (.ref 87), some (.int x4), u5, u6] [.int r, .int sx0] h' Q)) : cm_wp sc (d + 1) 222 511 [some (.retAddr 0), some (.ref 0), some (.ref 38), some (.ref 87), some (.int x4), u5, u6] [.int sx0] h Q :=
  wl_st d222_511 rfl rfl rfl rfl (wl_st d222_512 rfl rfl rfl rfl (wl_st d222_513 rfl rfl rfl rfl (wl_ic (v := 1) d222_515 rfl (wl_st d222_516 rfl rfl rfl rfl (And.elim (fun g1 g1k => wl_if d222_517 rfl rfl rfl rfl g1 (wl_st d222_518 rfl rfl rfl rfl (wl_st d222_519 rfl rfl rfl rfl (wl_ic (v := 2) d222_521 rfl (wl_st d222_522 rfl rfl rfl rfl (And.elim (fun g2 g2k => wl_if d222_523 rfl rfl rfl rfl g2 (wl_ci d222_524 rfl rfl rfl pm12_55 (by decide) (ca_v (Or.inl rfl) rfl (Nat.le_of_ble_eq_true rfl) (Nat.le_of_ble_eq_true rfl) (ly_k L 38 rfl).2 (ly_k L 38 rfl).1 (by decide)) g2k)) g1k)))))) H)))))
theorem s222_527 {sc : cmS} {d : Nat} {h : cmH} {Q : Option Value → cmH → Prop} (x4 : Int32) (u5 : Option Value) (u6 : Option Value) (sx0 : Int32) (sx1 : Int32) (H : (((sx1 = sx0) → cm_wp sc d 222 1591 [some (.retAddr 0), some (.ref 0), some (.ref 38), some (.ref 87), some (.int x4), u5, u6] [] h Q) ∧ (¬ (sx1 = sx0) → Q (some (.int (0 : Int32))) h))) : cm_wp sc d 222 527 [some (.retAddr 0), some (.ref 0), some (.ref 38), some (.ref 87), some (.int x4), u5, u6] [.int sx0, .int sx1] h Q :=
  wl_cb (b := sx1 = sx0) (off := 1064) (tgt := 1591) (pc3 := 530) (st' := []) d222_527 rfl rfl rfl rfl (by decide) rfl (fun c1 => (H.1 c1)) (fun c1 => wl_ic (v := 0) d222_530 rfl (wl_rz d222_531 rfl (by decide) (H.2 c1)))
theorem s222_566 {sc : cmS} {d : Nat} {h : cmH} {Q : Option Value → cmH → Prop} (L : LY h) (x4 : Int32) (u5 : Option Value) (u6 : Option Value) (sx0 : Int32) (H : (¬ (x4 + (1 : Int32)) < 0 ∧ (x4 + (1 : Int32)).toNatClampNeg < sc.1) ∧ (¬ (x4 + (2 : Int32)) < 0 ∧ (x4 + (2 : Int32)).toNatClampNeg < sc.1) ∧ (¬ (x4 + (3 : Int32)) < 0 ∧ (x4 + (3 : Int32)).toNatClampNeg < sc.1) ∧ (¬ (x4 + (4 : Int32)) < 0 ∧ (x4 + (4 : Int32)).toNatClampNeg < sc.1) ∧ (¬ (x4 + (5 : Int32)) < 0 ∧ (x4 + (5 : Int32)).toNatClampNeg < sc.1) ∧ cm_ci sc d 154 [.ref 38, .int (sc.2 (x4 + (1 : Int32)).toNatClampNeg), .int (sc.2 (x4 + (2 : Int32)).toNatClampNeg), .int (sc.2 (x4 + (3 : Int32)).toNatClampNeg), .int (sc.2 (x4 + (4 : Int32)).toNatClampNeg), .int (sc.2 (x4 + (5 : Int32)).toNatClampNeg)] h (fun r h' => cm_wp sc (d + 1) 222 600 [some (.retAddr 0), some (.ref 0), some (.ref 38), some (.ref 87), some (.int x4), u5, u6] [.int r, .int sx0] h' Q)) : cm_wp sc (d + 1) 222 566 [some (.retAddr 0), some (.ref 0), some (.ref 38), some (.ref 87), some (.int x4), u5, u6] [.int sx0] h Q :=
  wl_st d222_566 rfl rfl rfl rfl (wl_st d222_567 rfl rfl rfl rfl (wl_st d222_568 rfl rfl rfl rfl (wl_ic (v := 1) d222_570 rfl (wl_st d222_571 rfl rfl rfl rfl (And.elim (fun g1 g1k => wl_if d222_572 rfl rfl rfl rfl g1 (wl_st d222_573 rfl rfl rfl rfl (wl_st d222_574 rfl rfl rfl rfl (wl_ic (v := 2) d222_576 rfl (wl_st d222_577 rfl rfl rfl rfl (And.elim (fun g2 g2k => wl_if d222_578 rfl rfl rfl rfl g2 (wl_st d222_579 rfl rfl rfl rfl (wl_st d222_580 rfl rfl rfl rfl (wl_ic (v := 3) d222_582 rfl (wl_st d222_583 rfl rfl rfl rfl (And.elim (fun g3 g3k => wl_if d222_584 rfl rfl rfl rfl g3 (wl_st d222_585 rfl rfl rfl rfl (wl_st d222_586 rfl rfl rfl rfl (wl_ic (v := 4) d222_588 rfl (wl_st d222_589 rfl rfl rfl rfl (And.elim (fun g4 g4k => wl_if d222_590 rfl rfl rfl rfl g4 (wl_st d222_591 rfl rfl rfl rfl (wl_st d222_592 rfl rfl rfl rfl (wl_ic (v := 5) d222_594 rfl (wl_st d222_595 rfl rfl rfl rfl (And.elim (fun g5 g5k => wl_if d222_596 rfl rfl rfl rfl g5 (wl_ci d222_597 rfl rfl rfl pm12_60 (by decide) (ca_v (Or.inl rfl) rfl (Nat.le_of_ble_eq_true rfl) (Nat.le_of_ble_eq_true rfl) (ly_k L 38 rfl).2 (ly_k L 38 rfl).1 (by decide)) g5k)) g4k)))))) g3k)))))) g2k)))))) g1k)))))) H)))))
theorem s222_600 {sc : cmS} {d : Nat} {h : cmH} {Q : Option Value → cmH → Prop} (x4 : Int32) (u5 : Option Value) (u6 : Option Value) (sx0 : Int32) (sx1 : Int32) (H : (((sx1 = sx0) → cm_wp sc d 222 1591 [some (.retAddr 0), some (.ref 0), some (.ref 38), some (.ref 87), some (.int x4), u5, u6] [] h Q) ∧ (¬ (sx1 = sx0) → Q (some (.int (0 : Int32))) h))) : cm_wp sc d 222 600 [some (.retAddr 0), some (.ref 0), some (.ref 38), some (.ref 87), some (.int x4), u5, u6] [.int sx0, .int sx1] h Q :=
  wl_cb (b := sx1 = sx0) (off := 991) (tgt := 1591) (pc3 := 603) (st' := []) d222_600 rfl rfl rfl rfl (by decide) rfl (fun c1 => (H.1 c1)) (fun c1 => wl_ic (v := 0) d222_603 rfl (wl_rz d222_604 rfl (by decide) (H.2 c1)))
theorem s222_615 {sc : cmS} {d : Nat} {h : cmH} {Q : Option Value → cmH → Prop} (L : LY h) (x4 : Int32) (u5 : Option Value) (u6 : Option Value) (sx0 : Int32) (H : (¬ (x4 + (1 : Int32)) < 0 ∧ (x4 + (1 : Int32)).toNatClampNeg < sc.1) ∧ cm_ci sc d 156 [.ref 38, .int (sc.2 (x4 + (1 : Int32)).toNatClampNeg)] h (fun r h' => cm_wp sc (d + 1) 222 625 [some (.retAddr 0), some (.ref 0), some (.ref 38), some (.ref 87), some (.int x4), u5, u6] [.int r, .int sx0] h' Q)) : cm_wp sc (d + 1) 222 615 [some (.retAddr 0), some (.ref 0), some (.ref 38), some (.ref 87), some (.int x4), u5, u6] [.int sx0] h Q :=
  wl_st d222_615 rfl rfl rfl rfl (wl_st d222_616 rfl rfl rfl rfl (wl_st d222_617 rfl rfl rfl rfl (wl_ic (v := 1) d222_619 rfl (wl_st d222_620 rfl rfl rfl rfl (And.elim (fun g1 g1k => wl_if d222_621 rfl rfl rfl rfl g1 (wl_ci d222_622 rfl rfl rfl pm12_65 (by decide) (ca_v (Or.inl rfl) rfl (Nat.le_of_ble_eq_true rfl) (Nat.le_of_ble_eq_true rfl) (ly_k L 38 rfl).2 (ly_k L 38 rfl).1 (by decide)) g1k)) H)))))
theorem s222_625 {sc : cmS} {d : Nat} {h : cmH} {Q : Option Value → cmH → Prop} (x4 : Int32) (u5 : Option Value) (u6 : Option Value) (sx0 : Int32) (sx1 : Int32) (H : (((sx1 = sx0) → cm_wp sc d 222 1591 [some (.retAddr 0), some (.ref 0), some (.ref 38), some (.ref 87), some (.int x4), u5, u6] [] h Q) ∧ (¬ (sx1 = sx0) → Q (some (.int (0 : Int32))) h))) : cm_wp sc d 222 625 [some (.retAddr 0), some (.ref 0), some (.ref 38), some (.ref 87), some (.int x4), u5, u6] [.int sx0, .int sx1] h Q :=
  wl_cb (b := sx1 = sx0) (off := 966) (tgt := 1591) (pc3 := 628) (st' := []) d222_625 rfl rfl rfl rfl (by decide) rfl (fun c1 => (H.1 c1)) (fun c1 => wl_ic (v := 0) d222_628 rfl (wl_rz d222_629 rfl (by decide) (H.2 c1)))
theorem s222_634 {sc : cmS} {d : Nat} {h : cmH} {Q : Option Value → cmH → Prop} (L : LY h) (x4 : Int32) (u5 : Option Value) (u6 : Option Value) (sx0 : Int32) (H : cm_ci sc d 157 [.ref 38] h (fun r h' => cm_wp sc (d + 1) 222 638 [some (.retAddr 0), some (.ref 0), some (.ref 38), some (.ref 87), some (.int x4), u5, u6] [.int r, .int sx0] h' Q)) : cm_wp sc (d + 1) 222 634 [some (.retAddr 0), some (.ref 0), some (.ref 38), some (.ref 87), some (.int x4), u5, u6] [.int sx0] h Q :=
  wl_st d222_634 rfl rfl rfl rfl (wl_ci d222_635 rfl rfl rfl pm12_69 (by decide) (ca_v (Or.inl rfl) rfl (Nat.le_of_ble_eq_true rfl) (Nat.le_of_ble_eq_true rfl) (ly_k L 38 rfl).2 (ly_k L 38 rfl).1 (by decide)) H)
theorem s222_638 {sc : cmS} {d : Nat} {h : cmH} {Q : Option Value → cmH → Prop} (x4 : Int32) (u5 : Option Value) (u6 : Option Value) (sx0 : Int32) (sx1 : Int32) (H : (((sx1 = sx0) → cm_wp sc d 222 1591 [some (.retAddr 0), some (.ref 0), some (.ref 38), some (.ref 87), some (.int x4), u5, u6] [] h Q) ∧ (¬ (sx1 = sx0) → Q (some (.int (0 : Int32))) h))) : cm_wp sc d 222 638 [some (.retAddr 0), some (.ref 0), some (.ref 38), some (.ref 87), some (.int x4), u5, u6] [.int sx0, .int sx1] h Q :=
  wl_cb (b := sx1 = sx0) (off := 953) (tgt := 1591) (pc3 := 641) (st' := []) d222_638 rfl rfl rfl rfl (by decide) rfl (fun c1 => (H.1 c1)) (fun c1 => wl_ic (v := 0) d222_641 rfl (wl_rz d222_642 rfl (by decide) (H.2 c1)))
theorem s222_647 {sc : cmS} {d : Nat} {h : cmH} {Q : Option Value → cmH → Prop} (L : LY h) (x4 : Int32) (u5 : Option Value) (u6 : Option Value) (sx0 : Int32) (H : cm_ci sc d 176 [.ref 38] h (fun r h' => cm_wp sc (d + 1) 222 651 [some (.retAddr 0), some (.ref 0), some (.ref 38), some (.ref 87), some (.int x4), u5, u6] [.int r, .int sx0] h' Q)) : cm_wp sc (d + 1) 222 647 [some (.retAddr 0), some (.ref 0), some (.ref 38), some (.ref 87), some (.int x4), u5, u6] [.int sx0] h Q :=
  wl_st d222_647 rfl rfl rfl rfl (wl_ci d222_648 rfl rfl rfl pm12_73 (by decide) (ca_v (Or.inl rfl) rfl (Nat.le_of_ble_eq_true rfl) (Nat.le_of_ble_eq_true rfl) (ly_k L 38 rfl).2 (ly_k L 38 rfl).1 (by decide)) H)
theorem s222_651 {sc : cmS} {d : Nat} {h : cmH} {Q : Option Value → cmH → Prop} (x4 : Int32) (u5 : Option Value) (u6 : Option Value) (sx0 : Int32) (sx1 : Int32) (H : (((sx1 = sx0) → cm_wp sc d 222 1591 [some (.retAddr 0), some (.ref 0), some (.ref 38), some (.ref 87), some (.int x4), u5, u6] [] h Q) ∧ (¬ (sx1 = sx0) → Q (some (.int (0 : Int32))) h))) : cm_wp sc d 222 651 [some (.retAddr 0), some (.ref 0), some (.ref 38), some (.ref 87), some (.int x4), u5, u6] [.int sx0, .int sx1] h Q :=
  wl_cb (b := sx1 = sx0) (off := 940) (tgt := 1591) (pc3 := 654) (st' := []) d222_651 rfl rfl rfl rfl (by decide) rfl (fun c1 => (H.1 c1)) (fun c1 => wl_ic (v := 0) d222_654 rfl (wl_rz d222_655 rfl (by decide) (H.2 c1)))
theorem s222_672 {sc : cmS} {d : Nat} {h : cmH} {Q : Option Value → cmH → Prop} (L : LY h) (x4 : Int32) (u5 : Option Value) (u6 : Option Value) (sx0 : Int32) (H : (¬ (x4 + (1 : Int32)) < 0 ∧ (x4 + (1 : Int32)).toNatClampNeg < sc.1) ∧ (¬ (x4 + (2 : Int32)) < 0 ∧ (x4 + (2 : Int32)).toNatClampNeg < sc.1) ∧ cm_ci sc d 177 [.ref 38, .int (sc.2 (x4 + (1 : Int32)).toNatClampNeg), .int (sc.2 (x4 + (2 : Int32)).toNatClampNeg)] h (fun r h' => cm_wp sc (d + 1) 222 688 [some (.retAddr 0), some (.ref 0), some (.ref 38), some (.ref 87), some (.int x4), u5, u6] [.int r, .int sx0] h' Q)) : cm_wp sc (d + 1) 222 672 [some (.retAddr 0), some (.ref 0), some (.ref 38), some (.ref 87), some (.int x4), u5, u6] [.int sx0] h Q :=
  wl_st d222_672 rfl rfl rfl rfl (wl_st d222_673 rfl rfl rfl rfl (wl_st d222_674 rfl rfl rfl rfl (wl_ic (v := 1) d222_676 rfl (wl_st d222_677 rfl rfl rfl rfl (And.elim (fun g1 g1k => wl_if d222_678 rfl rfl rfl rfl g1 (wl_st d222_679 rfl rfl rfl rfl (wl_st d222_680 rfl rfl rfl rfl (wl_ic (v := 2) d222_682 rfl (wl_st d222_683 rfl rfl rfl rfl (And.elim (fun g2 g2k => wl_if d222_684 rfl rfl rfl rfl g2 (wl_ci d222_685 rfl rfl rfl pm12_78 (by decide) (ca_v (Or.inl rfl) rfl (Nat.le_of_ble_eq_true rfl) (Nat.le_of_ble_eq_true rfl) (ly_k L 38 rfl).2 (ly_k L 38 rfl).1 (by decide)) g2k)) g1k)))))) H)))))
theorem s222_688 {sc : cmS} {d : Nat} {h : cmH} {Q : Option Value → cmH → Prop} (x4 : Int32) (u5 : Option Value) (u6 : Option Value) (sx0 : Int32) (sx1 : Int32) (H : (((sx1 = sx0) → cm_wp sc d 222 1591 [some (.retAddr 0), some (.ref 0), some (.ref 38), some (.ref 87), some (.int x4), u5, u6] [] h Q) ∧ (¬ (sx1 = sx0) → Q (some (.int (0 : Int32))) h))) : cm_wp sc d 222 688 [some (.retAddr 0), some (.ref 0), some (.ref 38), some (.ref 87), some (.int x4), u5, u6] [.int sx0, .int sx1] h Q :=
  wl_cb (b := sx1 = sx0) (off := 903) (tgt := 1591) (pc3 := 691) (st' := []) d222_688 rfl rfl rfl rfl (by decide) rfl (fun c1 => (H.1 c1)) (fun c1 => wl_ic (v := 0) d222_691 rfl (wl_rz d222_692 rfl (by decide) (H.2 c1)))
theorem s222_749 {sc : cmS} {d : Nat} {h : cmH} {Q : Option Value → cmH → Prop} (L : LY h) (x4 : Int32) (u5 : Option Value) (u6 : Option Value) (sx0 : Int32) (H : (¬ (x4 + (1 : Int32)) < 0 ∧ (x4 + (1 : Int32)).toNatClampNeg < sc.1) ∧ (¬ (x4 + (2 : Int32)) < 0 ∧ (x4 + (2 : Int32)).toNatClampNeg < sc.1) ∧ (¬ (x4 + (3 : Int32)) < 0 ∧ (x4 + (3 : Int32)).toNatClampNeg < sc.1) ∧ (¬ (x4 + (4 : Int32)) < 0 ∧ (x4 + (4 : Int32)).toNatClampNeg < sc.1) ∧ (¬ (x4 + (5 : Int32)) < 0 ∧ (x4 + (5 : Int32)).toNatClampNeg < sc.1) ∧ (¬ (x4 + (6 : Int32)) < 0 ∧ (x4 + (6 : Int32)).toNatClampNeg < sc.1) ∧ (¬ (x4 + (7 : Int32)) < 0 ∧ (x4 + (7 : Int32)).toNatClampNeg < sc.1) ∧ (¬ (x4 + (8 : Int32)) < 0 ∧ (x4 + (8 : Int32)).toNatClampNeg < sc.1) ∧ cm_ci sc d 178 [.ref 38, .int (sc.2 (x4 + (1 : Int32)).toNatClampNeg), .int (sc.2 (x4 + (2 : Int32)).toNatClampNeg), .int (sc.2 (x4 + (3 : Int32)).toNatClampNeg), .int (sc.2 (x4 + (4 : Int32)).toNatClampNeg), .int (sc.2 (x4 + (5 : Int32)).toNatClampNeg), .int (sc.2 (x4 + (6 : Int32)).toNatClampNeg), .int (sc.2 (x4 + (7 : Int32)).toNatClampNeg), .int (sc.2 (x4 + (8 : Int32)).toNatClampNeg)] h (fun r h' => cm_wp sc (d + 1) 222 806 [some (.retAddr 0), some (.ref 0), some (.ref 38), some (.ref 87), some (.int x4), some (.int sx0), u6] [.int r] h' Q)) : cm_wp sc (d + 1) 222 749 [some (.retAddr 0), some (.ref 0), some (.ref 38), some (.ref 87), some (.int x4), u5, u6] [.int sx0] h Q :=
  wl_st (ls' := [some (.retAddr 0), some (.ref 0), some (.ref 38), some (.ref 87), some (.int x4), some (.int sx0), u6]) d222_749 rfl rfl rfl rfl (wl_st d222_751 rfl rfl rfl rfl (wl_st d222_752 rfl rfl rfl rfl (wl_st d222_753 rfl rfl rfl rfl (wl_ic (v := 1) d222_755 rfl (wl_st d222_756 rfl rfl rfl rfl (And.elim (fun g1 g1k => wl_if d222_757 rfl rfl rfl rfl g1 (wl_st d222_758 rfl rfl rfl rfl (wl_st d222_759 rfl rfl rfl rfl (wl_ic (v := 2) d222_761 rfl (wl_st d222_762 rfl rfl rfl rfl (And.elim (fun g2 g2k => wl_if d222_763 rfl rfl rfl rfl g2 (wl_st d222_764 rfl rfl rfl rfl (wl_st d222_765 rfl rfl rfl rfl (wl_ic (v := 3) d222_767 rfl (wl_st d222_768 rfl rfl rfl rfl (And.elim (fun g3 g3k => wl_if d222_769 rfl rfl rfl rfl g3 (wl_st d222_770 rfl rfl rfl rfl (wl_st d222_771 rfl rfl rfl rfl (wl_ic (v := 4) d222_773 rfl (wl_st d222_774 rfl rfl rfl rfl (And.elim (fun g4 g4k => wl_if d222_775 rfl rfl rfl rfl g4 (wl_st d222_776 rfl rfl rfl rfl (wl_st d222_777 rfl rfl rfl rfl (wl_ic (v := 5) d222_779 rfl (wl_st d222_780 rfl rfl rfl rfl (And.elim (fun g5 g5k => wl_if d222_781 rfl rfl rfl rfl g5 (wl_st d222_782 rfl rfl rfl rfl (wl_st d222_783 rfl rfl rfl rfl (wl_bi (v := 6) d222_785 rfl (wl_st d222_787 rfl rfl rfl rfl (And.elim (fun g6 g6k => wl_if d222_788 rfl rfl rfl rfl g6 (wl_st d222_789 rfl rfl rfl rfl (wl_st d222_790 rfl rfl rfl rfl (wl_bi (v := 7) d222_792 rfl (wl_st d222_794 rfl rfl rfl rfl (And.elim (fun g7 g7k => wl_if d222_795 rfl rfl rfl rfl g7 (wl_st d222_796 rfl rfl rfl rfl (wl_st d222_797 rfl rfl rfl rfl (wl_bi (v := 8) d222_799 rfl (wl_st d222_801 rfl rfl rfl rfl (And.elim (fun g8 g8k => wl_if d222_802 rfl rfl rfl rfl g8 (wl_ci d222_803 rfl rfl rfl pm12_84 (by decide) (ca_v (Or.inl rfl) rfl (Nat.le_of_ble_eq_true rfl) (Nat.le_of_ble_eq_true rfl) (ly_k L 38 rfl).2 (ly_k L 38 rfl).1 (by decide)) g8k)) g7k)))))) g6k)))))) g5k)))))) g4k)))))) g3k)))))) g2k)))))) g1k)))))) H))))))
theorem s222_806 {sc : cmS} {d : Nat} {h : cmH} {Q : Option Value → cmH → Prop} (L : LY h) (x4 : Int32) (x5 : Int32) (u6 : Option Value) (sx0 : Int32) (H : cm_ci sc d 135 [.ref 38] h (fun r h' => cm_wp sc (d + 1) 222 812 [some (.retAddr 0), some (.ref 0), some (.ref 38), some (.ref 87), some (.int x4), some (.int x5), some (.int sx0)] [.int r] h' Q)) : cm_wp sc (d + 1) 222 806 [some (.retAddr 0), some (.ref 0), some (.ref 38), some (.ref 87), some (.int x4), some (.int x5), u6] [.int sx0] h Q :=
  wl_st (ls' := [some (.retAddr 0), some (.ref 0), some (.ref 38), some (.ref 87), some (.int x4), some (.int x5), some (.int sx0)]) d222_806 rfl rfl rfl rfl (wl_st d222_808 rfl rfl rfl rfl (wl_ci d222_809 rfl rfl rfl pm12_85 (by decide) (ca_v (Or.inl rfl) rfl (Nat.le_of_ble_eq_true rfl) (Nat.le_of_ble_eq_true rfl) (ly_k L 38 rfl).2 (ly_k L 38 rfl).1 (by decide)) H))
theorem s222_812 {sc : cmS} {d : Nat} {h : cmH} {Q : Option Value → cmH → Prop} (L : LY h) (x4 : Int32) (x5 : Int32) (x6 : Int32) (sx0 : Int32) (H : (((sx0 = x5) → (((¬ x5 = 0) → cm_wp sc d 222 836 [some (.retAddr 0), some (.ref 0), some (.ref 38), some (.ref 87), some (.int x4), some (.int x5), some (.int x6)] [] h Q) ∧ (¬ (¬ x5 = 0) → ((((lg_cmp (cm_J h 87 0) (x6.toInt64)) = 0) → cm_wp sc d 222 836 [some (.retAddr 0), some (.ref 0), some (.ref 38), some (.ref 87), some (.int x4), some (.int x5), some (.int x6)] [] h Q) ∧ (¬ ((lg_cmp (cm_J h 87 0) (x6.toInt64)) = 0) → Q (some (.int (0 : Int32))) h))))) ∧ (¬ (sx0 = x5) → Q (some (.int (0 : Int32))) h))) : cm_wp sc d 222 812 [some (.retAddr 0), some (.ref 0), some (.ref 38), some (.ref 87), some (.int x4), some (.int x5), some (.int x6)] [.int sx0] h Q :=
  wl_st d222_812 rfl rfl rfl rfl (wl_cb (b := sx0 = x5) (off := 5) (tgt := 819) (pc3 := 817) (st' := []) d222_814 rfl rfl rfl rfl (by decide) rfl (fun c1 => wl_st d222_819 rfl rfl rfl rfl (wl_cb (b := ¬ x5 = 0) (off := 15) (tgt := 836) (pc3 := 824) (st' := []) d222_821 rfl rfl rfl rfl (by decide) rfl (fun c2 => ((H.1 c1).1 c2)) (fun c2 => wl_st d222_824 rfl rfl rfl rfl (wl_ic (v := 0) d222_825 rfl (wl_if (g := cm_ok h 14 87 (0 : Int32)) (st' := [.long (cm_J h 87 0)]) d222_826 rfl rfl rfl rfl (ly_o L 87 rfl (by decide)) (wl_st d222_827 rfl rfl rfl rfl (wl_st d222_829 rfl rfl rfl rfl (wl_st d222_830 rfl rfl rfl rfl (wl_cb (b := (lg_cmp (cm_J h 87 0) (x6.toInt64)) = 0) (off := 5) (tgt := 836) (pc3 := 834) (st' := []) d222_831 rfl rfl rfl rfl (by decide) rfl (fun c3 => (((H.1 c1).2 c2).1 c3)) (fun c3 => wl_ic (v := 0) d222_834 rfl (wl_rz d222_835 rfl (by decide) (((H.1 c1).2 c2).2 c3)))))))))))) (fun c1 => wl_ic (v := 0) d222_817 rfl (wl_rz d222_818 rfl (by decide) (H.2 c1))))
theorem s222_836 {sc : cmS} {d : Nat} {h : cmH} {Q : Option Value → cmH → Prop} (x4 : Int32) (x5 : Int32) (x6 : Int32) (H : cm_wp sc d 222 1591 [some (.retAddr 0), some (.ref 0), some (.ref 38), some (.ref 87), some (.int x4), some (.int x5), some (.int x6)] [] h Q) : cm_wp sc d 222 836 [some (.retAddr 0), some (.ref 0), some (.ref 38), some (.ref 87), some (.int x4), some (.int x5), some (.int x6)] [] h Q :=
  wl_go (tgt := 1591) d222_836 (by decide) (H)
theorem s222_849 {sc : cmS} {d : Nat} {h : cmH} {Q : Option Value → cmH → Prop} (L : LY h) (x4 : Int32) (u5 : Option Value) (u6 : Option Value) (sx0 : Int32) (H : (¬ (x4 + (1 : Int32)) < 0 ∧ (x4 + (1 : Int32)).toNatClampNeg < sc.1) ∧ cm_ci sc d 183 [.ref 38, .int (sc.2 (x4 + (1 : Int32)).toNatClampNeg)] h (fun r h' => cm_wp sc (d + 1) 222 859 [some (.retAddr 0), some (.ref 0), some (.ref 38), some (.ref 87), some (.int x4), u5, u6] [.int r, .int sx0] h' Q)) : cm_wp sc (d + 1) 222 849 [some (.retAddr 0), some (.ref 0), some (.ref 38), some (.ref 87), some (.int x4), u5, u6] [.int sx0] h Q :=
  wl_st d222_849 rfl rfl rfl rfl (wl_st d222_850 rfl rfl rfl rfl (wl_st d222_851 rfl rfl rfl rfl (wl_ic (v := 1) d222_853 rfl (wl_st d222_854 rfl rfl rfl rfl (And.elim (fun g1 g1k => wl_if d222_855 rfl rfl rfl rfl g1 (wl_ci d222_856 rfl rfl rfl pm12_91 (by decide) (ca_v (Or.inl rfl) rfl (Nat.le_of_ble_eq_true rfl) (Nat.le_of_ble_eq_true rfl) (ly_k L 38 rfl).2 (ly_k L 38 rfl).1 (by decide)) g1k)) H)))))
theorem s222_859 {sc : cmS} {d : Nat} {h : cmH} {Q : Option Value → cmH → Prop} (x4 : Int32) (u5 : Option Value) (u6 : Option Value) (sx0 : Int32) (sx1 : Int32) (H : (((sx1 = sx0) → cm_wp sc d 222 1591 [some (.retAddr 0), some (.ref 0), some (.ref 38), some (.ref 87), some (.int x4), u5, u6] [] h Q) ∧ (¬ (sx1 = sx0) → Q (some (.int (0 : Int32))) h))) : cm_wp sc d 222 859 [some (.retAddr 0), some (.ref 0), some (.ref 38), some (.ref 87), some (.int x4), u5, u6] [.int sx0, .int sx1] h Q :=
  wl_cb (b := sx1 = sx0) (off := 732) (tgt := 1591) (pc3 := 862) (st' := []) d222_859 rfl rfl rfl rfl (by decide) rfl (fun c1 => (H.1 c1)) (fun c1 => wl_ic (v := 0) d222_862 rfl (wl_rz d222_863 rfl (by decide) (H.2 c1)))
theorem s222_880 {sc : cmS} {d : Nat} {h : cmH} {Q : Option Value → cmH → Prop} (L : LY h) (x4 : Int32) (u5 : Option Value) (u6 : Option Value) (sx0 : Int32) (H : (¬ (x4 + (1 : Int32)) < 0 ∧ (x4 + (1 : Int32)).toNatClampNeg < sc.1) ∧ (¬ (x4 + (2 : Int32)) < 0 ∧ (x4 + (2 : Int32)).toNatClampNeg < sc.1) ∧ cm_ci sc d 184 [.ref 38, .int (sc.2 (x4 + (1 : Int32)).toNatClampNeg), .int (sc.2 (x4 + (2 : Int32)).toNatClampNeg)] h (fun r h' => cm_wp sc (d + 1) 222 896 [some (.retAddr 0), some (.ref 0), some (.ref 38), some (.ref 87), some (.int x4), u5, u6] [.int r, .int sx0] h' Q)) : cm_wp sc (d + 1) 222 880 [some (.retAddr 0), some (.ref 0), some (.ref 38), some (.ref 87), some (.int x4), u5, u6] [.int sx0] h Q :=
  wl_st d222_880 rfl rfl rfl rfl (wl_st d222_881 rfl rfl rfl rfl (wl_st d222_882 rfl rfl rfl rfl (wl_ic (v := 1) d222_884 rfl (wl_st d222_885 rfl rfl rfl rfl (And.elim (fun g1 g1k => wl_if d222_886 rfl rfl rfl rfl g1 (wl_st d222_887 rfl rfl rfl rfl (wl_st d222_888 rfl rfl rfl rfl (wl_ic (v := 2) d222_890 rfl (wl_st d222_891 rfl rfl rfl rfl (And.elim (fun g2 g2k => wl_if d222_892 rfl rfl rfl rfl g2 (wl_ci d222_893 rfl rfl rfl pm12_95 (by decide) (ca_v (Or.inl rfl) rfl (Nat.le_of_ble_eq_true rfl) (Nat.le_of_ble_eq_true rfl) (ly_k L 38 rfl).2 (ly_k L 38 rfl).1 (by decide)) g2k)) g1k)))))) H)))))
theorem s222_896 {sc : cmS} {d : Nat} {h : cmH} {Q : Option Value → cmH → Prop} (x4 : Int32) (u5 : Option Value) (u6 : Option Value) (sx0 : Int32) (sx1 : Int32) (H : (((sx1 = sx0) → cm_wp sc d 222 1591 [some (.retAddr 0), some (.ref 0), some (.ref 38), some (.ref 87), some (.int x4), u5, u6] [] h Q) ∧ (¬ (sx1 = sx0) → Q (some (.int (0 : Int32))) h))) : cm_wp sc d 222 896 [some (.retAddr 0), some (.ref 0), some (.ref 38), some (.ref 87), some (.int x4), u5, u6] [.int sx0, .int sx1] h Q :=
  wl_cb (b := sx1 = sx0) (off := 695) (tgt := 1591) (pc3 := 899) (st' := []) d222_896 rfl rfl rfl rfl (by decide) rfl (fun c1 => (H.1 c1)) (fun c1 => wl_ic (v := 0) d222_899 rfl (wl_rz d222_900 rfl (by decide) (H.2 c1)))
theorem s222_911 {sc : cmS} {d : Nat} {h : cmH} {Q : Option Value → cmH → Prop} (L : LY h) (x4 : Int32) (u5 : Option Value) (u6 : Option Value) (sx0 : Int32) (H : (¬ (x4 + (1 : Int32)) < 0 ∧ (x4 + (1 : Int32)).toNatClampNeg < sc.1) ∧ cm_ci sc d 185 [.ref 38, .int (sc.2 (x4 + (1 : Int32)).toNatClampNeg)] h (fun r h' => cm_wp sc (d + 1) 222 921 [some (.retAddr 0), some (.ref 0), some (.ref 38), some (.ref 87), some (.int x4), u5, u6] [.int r, .int sx0] h' Q)) : cm_wp sc (d + 1) 222 911 [some (.retAddr 0), some (.ref 0), some (.ref 38), some (.ref 87), some (.int x4), u5, u6] [.int sx0] h Q :=
  wl_st d222_911 rfl rfl rfl rfl (wl_st d222_912 rfl rfl rfl rfl (wl_st d222_913 rfl rfl rfl rfl (wl_ic (v := 1) d222_915 rfl (wl_st d222_916 rfl rfl rfl rfl (And.elim (fun g1 g1k => wl_if d222_917 rfl rfl rfl rfl g1 (wl_ci d222_918 rfl rfl rfl pm12_100 (by decide) (ca_v (Or.inl rfl) rfl (Nat.le_of_ble_eq_true rfl) (Nat.le_of_ble_eq_true rfl) (ly_k L 38 rfl).2 (ly_k L 38 rfl).1 (by decide)) g1k)) H)))))
theorem s222_921 {sc : cmS} {d : Nat} {h : cmH} {Q : Option Value → cmH → Prop} (x4 : Int32) (u5 : Option Value) (u6 : Option Value) (sx0 : Int32) (sx1 : Int32) (H : (((sx1 = sx0) → cm_wp sc d 222 1591 [some (.retAddr 0), some (.ref 0), some (.ref 38), some (.ref 87), some (.int x4), u5, u6] [] h Q) ∧ (¬ (sx1 = sx0) → Q (some (.int (0 : Int32))) h))) : cm_wp sc d 222 921 [some (.retAddr 0), some (.ref 0), some (.ref 38), some (.ref 87), some (.int x4), u5, u6] [.int sx0, .int sx1] h Q :=
  wl_cb (b := sx1 = sx0) (off := 670) (tgt := 1591) (pc3 := 924) (st' := []) d222_921 rfl rfl rfl rfl (by decide) rfl (fun c1 => (H.1 c1)) (fun c1 => wl_ic (v := 0) d222_924 rfl (wl_rz d222_925 rfl (by decide) (H.2 c1)))
theorem s222_942 {sc : cmS} {d : Nat} {h : cmH} {Q : Option Value → cmH → Prop} (L : LY h) (x4 : Int32) (u5 : Option Value) (u6 : Option Value) (sx0 : Int32) (H : (¬ (x4 + (1 : Int32)) < 0 ∧ (x4 + (1 : Int32)).toNatClampNeg < sc.1) ∧ (¬ (x4 + (2 : Int32)) < 0 ∧ (x4 + (2 : Int32)).toNatClampNeg < sc.1) ∧ cm_ci sc d 197 [.ref 38, .int (sc.2 (x4 + (1 : Int32)).toNatClampNeg), .int (sc.2 (x4 + (2 : Int32)).toNatClampNeg)] h (fun r h' => cm_wp sc (d + 1) 222 958 [some (.retAddr 0), some (.ref 0), some (.ref 38), some (.ref 87), some (.int x4), u5, u6] [.int r, .int sx0] h' Q)) : cm_wp sc (d + 1) 222 942 [some (.retAddr 0), some (.ref 0), some (.ref 38), some (.ref 87), some (.int x4), u5, u6] [.int sx0] h Q :=
  wl_st d222_942 rfl rfl rfl rfl (wl_st d222_943 rfl rfl rfl rfl (wl_st d222_944 rfl rfl rfl rfl (wl_ic (v := 1) d222_946 rfl (wl_st d222_947 rfl rfl rfl rfl (And.elim (fun g1 g1k => wl_if d222_948 rfl rfl rfl rfl g1 (wl_st d222_949 rfl rfl rfl rfl (wl_st d222_950 rfl rfl rfl rfl (wl_ic (v := 2) d222_952 rfl (wl_st d222_953 rfl rfl rfl rfl (And.elim (fun g2 g2k => wl_if d222_954 rfl rfl rfl rfl g2 (wl_ci d222_955 rfl rfl rfl pm12_104 (by decide) (ca_v (Or.inl rfl) rfl (Nat.le_of_ble_eq_true rfl) (Nat.le_of_ble_eq_true rfl) (ly_k L 38 rfl).2 (ly_k L 38 rfl).1 (by decide)) g2k)) g1k)))))) H)))))
theorem s222_958 {sc : cmS} {d : Nat} {h : cmH} {Q : Option Value → cmH → Prop} (x4 : Int32) (u5 : Option Value) (u6 : Option Value) (sx0 : Int32) (sx1 : Int32) (H : (((sx1 = sx0) → cm_wp sc d 222 1591 [some (.retAddr 0), some (.ref 0), some (.ref 38), some (.ref 87), some (.int x4), u5, u6] [] h Q) ∧ (¬ (sx1 = sx0) → Q (some (.int (0 : Int32))) h))) : cm_wp sc d 222 958 [some (.retAddr 0), some (.ref 0), some (.ref 38), some (.ref 87), some (.int x4), u5, u6] [.int sx0, .int sx1] h Q :=
  wl_cb (b := sx1 = sx0) (off := 633) (tgt := 1591) (pc3 := 961) (st' := []) d222_958 rfl rfl rfl rfl (by decide) rfl (fun c1 => (H.1 c1)) (fun c1 => wl_ic (v := 0) d222_961 rfl (wl_rz d222_962 rfl (by decide) (H.2 c1)))
theorem s222_985 {sc : cmS} {d : Nat} {h : cmH} {Q : Option Value → cmH → Prop} (L : LY h) (x4 : Int32) (u5 : Option Value) (u6 : Option Value) (sx0 : Int32) (H : (¬ (x4 + (1 : Int32)) < 0 ∧ (x4 + (1 : Int32)).toNatClampNeg < sc.1) ∧ (¬ (x4 + (2 : Int32)) < 0 ∧ (x4 + (2 : Int32)).toNatClampNeg < sc.1) ∧ (¬ (x4 + (3 : Int32)) < 0 ∧ (x4 + (3 : Int32)).toNatClampNeg < sc.1) ∧ cm_ci sc d 198 [.ref 38, .int (sc.2 (x4 + (1 : Int32)).toNatClampNeg), .int (sc.2 (x4 + (2 : Int32)).toNatClampNeg), .int (sc.2 (x4 + (3 : Int32)).toNatClampNeg)] h (fun r h' => cm_wp sc (d + 1) 222 1007 [some (.retAddr 0), some (.ref 0), some (.ref 38), some (.ref 87), some (.int x4), u5, u6] [.int r, .int sx0] h' Q)) : cm_wp sc (d + 1) 222 985 [some (.retAddr 0), some (.ref 0), some (.ref 38), some (.ref 87), some (.int x4), u5, u6] [.int sx0] h Q :=
  wl_st d222_985 rfl rfl rfl rfl (wl_st d222_986 rfl rfl rfl rfl (wl_st d222_987 rfl rfl rfl rfl (wl_ic (v := 1) d222_989 rfl (wl_st d222_990 rfl rfl rfl rfl (And.elim (fun g1 g1k => wl_if d222_991 rfl rfl rfl rfl g1 (wl_st d222_992 rfl rfl rfl rfl (wl_st d222_993 rfl rfl rfl rfl (wl_ic (v := 2) d222_995 rfl (wl_st d222_996 rfl rfl rfl rfl (And.elim (fun g2 g2k => wl_if d222_997 rfl rfl rfl rfl g2 (wl_st d222_998 rfl rfl rfl rfl (wl_st d222_999 rfl rfl rfl rfl (wl_ic (v := 3) d222_1001 rfl (wl_st d222_1002 rfl rfl rfl rfl (And.elim (fun g3 g3k => wl_if d222_1003 rfl rfl rfl rfl g3 (wl_ci d222_1004 rfl rfl rfl pm12_108 (by decide) (ca_v (Or.inl rfl) rfl (Nat.le_of_ble_eq_true rfl) (Nat.le_of_ble_eq_true rfl) (ly_k L 38 rfl).2 (ly_k L 38 rfl).1 (by decide)) g3k)) g2k)))))) g1k)))))) H)))))
theorem s222_1007 {sc : cmS} {d : Nat} {h : cmH} {Q : Option Value → cmH → Prop} (x4 : Int32) (u5 : Option Value) (u6 : Option Value) (sx0 : Int32) (sx1 : Int32) (H : (((sx1 = sx0) → cm_wp sc d 222 1591 [some (.retAddr 0), some (.ref 0), some (.ref 38), some (.ref 87), some (.int x4), u5, u6] [] h Q) ∧ (¬ (sx1 = sx0) → Q (some (.int (0 : Int32))) h))) : cm_wp sc d 222 1007 [some (.retAddr 0), some (.ref 0), some (.ref 38), some (.ref 87), some (.int x4), u5, u6] [.int sx0, .int sx1] h Q :=
  wl_cb (b := sx1 = sx0) (off := 584) (tgt := 1591) (pc3 := 1010) (st' := []) d222_1007 rfl rfl rfl rfl (by decide) rfl (fun c1 => (H.1 c1)) (fun c1 => wl_ic (v := 0) d222_1010 rfl (wl_rz d222_1011 rfl (by decide) (H.2 c1)))
theorem s222_1028 {sc : cmS} {d : Nat} {h : cmH} {Q : Option Value → cmH → Prop} (L : LY h) (x4 : Int32) (u5 : Option Value) (u6 : Option Value) (sx0 : Int32) (H : (¬ (x4 + (1 : Int32)) < 0 ∧ (x4 + (1 : Int32)).toNatClampNeg < sc.1) ∧ (¬ (x4 + (2 : Int32)) < 0 ∧ (x4 + (2 : Int32)).toNatClampNeg < sc.1) ∧ cm_ci sc d 199 [.ref 38, .int (sc.2 (x4 + (1 : Int32)).toNatClampNeg), .int (sc.2 (x4 + (2 : Int32)).toNatClampNeg)] h (fun r h' => cm_wp sc (d + 1) 222 1044 [some (.retAddr 0), some (.ref 0), some (.ref 38), some (.ref 87), some (.int x4), u5, u6] [.int r, .int sx0] h' Q)) : cm_wp sc (d + 1) 222 1028 [some (.retAddr 0), some (.ref 0), some (.ref 38), some (.ref 87), some (.int x4), u5, u6] [.int sx0] h Q :=
  wl_st d222_1028 rfl rfl rfl rfl (wl_st d222_1029 rfl rfl rfl rfl (wl_st d222_1030 rfl rfl rfl rfl (wl_ic (v := 1) d222_1032 rfl (wl_st d222_1033 rfl rfl rfl rfl (And.elim (fun g1 g1k => wl_if d222_1034 rfl rfl rfl rfl g1 (wl_st d222_1035 rfl rfl rfl rfl (wl_st d222_1036 rfl rfl rfl rfl (wl_ic (v := 2) d222_1038 rfl (wl_st d222_1039 rfl rfl rfl rfl (And.elim (fun g2 g2k => wl_if d222_1040 rfl rfl rfl rfl g2 (wl_ci d222_1041 rfl rfl rfl pm12_112 (by decide) (ca_v (Or.inl rfl) rfl (Nat.le_of_ble_eq_true rfl) (Nat.le_of_ble_eq_true rfl) (ly_k L 38 rfl).2 (ly_k L 38 rfl).1 (by decide)) g2k)) g1k)))))) H)))))
theorem s222_1044 {sc : cmS} {d : Nat} {h : cmH} {Q : Option Value → cmH → Prop} (x4 : Int32) (u5 : Option Value) (u6 : Option Value) (sx0 : Int32) (sx1 : Int32) (H : (((sx1 = sx0) → cm_wp sc d 222 1591 [some (.retAddr 0), some (.ref 0), some (.ref 38), some (.ref 87), some (.int x4), u5, u6] [] h Q) ∧ (¬ (sx1 = sx0) → Q (some (.int (0 : Int32))) h))) : cm_wp sc d 222 1044 [some (.retAddr 0), some (.ref 0), some (.ref 38), some (.ref 87), some (.int x4), u5, u6] [.int sx0, .int sx1] h Q :=
  wl_cb (b := sx1 = sx0) (off := 547) (tgt := 1591) (pc3 := 1047) (st' := []) d222_1044 rfl rfl rfl rfl (by decide) rfl (fun c1 => (H.1 c1)) (fun c1 => wl_ic (v := 0) d222_1047 rfl (wl_rz d222_1048 rfl (by decide) (H.2 c1)))
theorem s222_1059 {sc : cmS} {d : Nat} {h : cmH} {Q : Option Value → cmH → Prop} (L : LY h) (x4 : Int32) (u5 : Option Value) (u6 : Option Value) (sx0 : Int32) (H : (¬ (x4 + (1 : Int32)) < 0 ∧ (x4 + (1 : Int32)).toNatClampNeg < sc.1) ∧ cm_ci sc d 200 [.ref 38, .int (sc.2 (x4 + (1 : Int32)).toNatClampNeg)] h (fun r h' => cm_wp sc (d + 1) 222 1069 [some (.retAddr 0), some (.ref 0), some (.ref 38), some (.ref 87), some (.int x4), u5, u6] [.int r, .int sx0] h' Q)) : cm_wp sc (d + 1) 222 1059 [some (.retAddr 0), some (.ref 0), some (.ref 38), some (.ref 87), some (.int x4), u5, u6] [.int sx0] h Q :=
  wl_st d222_1059 rfl rfl rfl rfl (wl_st d222_1060 rfl rfl rfl rfl (wl_st d222_1061 rfl rfl rfl rfl (wl_ic (v := 1) d222_1063 rfl (wl_st d222_1064 rfl rfl rfl rfl (And.elim (fun g1 g1k => wl_if d222_1065 rfl rfl rfl rfl g1 (wl_ci d222_1066 rfl rfl rfl pm12_116 (by decide) (ca_v (Or.inl rfl) rfl (Nat.le_of_ble_eq_true rfl) (Nat.le_of_ble_eq_true rfl) (ly_k L 38 rfl).2 (ly_k L 38 rfl).1 (by decide)) g1k)) H)))))
theorem s222_1069 {sc : cmS} {d : Nat} {h : cmH} {Q : Option Value → cmH → Prop} (x4 : Int32) (u5 : Option Value) (u6 : Option Value) (sx0 : Int32) (sx1 : Int32) (H : (((sx1 = sx0) → cm_wp sc d 222 1591 [some (.retAddr 0), some (.ref 0), some (.ref 38), some (.ref 87), some (.int x4), u5, u6] [] h Q) ∧ (¬ (sx1 = sx0) → Q (some (.int (0 : Int32))) h))) : cm_wp sc d 222 1069 [some (.retAddr 0), some (.ref 0), some (.ref 38), some (.ref 87), some (.int x4), u5, u6] [.int sx0, .int sx1] h Q :=
  wl_cb (b := sx1 = sx0) (off := 522) (tgt := 1591) (pc3 := 1072) (st' := []) d222_1069 rfl rfl rfl rfl (by decide) rfl (fun c1 => (H.1 c1)) (fun c1 => wl_ic (v := 0) d222_1072 rfl (wl_rz d222_1073 rfl (by decide) (H.2 c1)))
theorem s222_1102 {sc : cmS} {d : Nat} {h : cmH} {Q : Option Value → cmH → Prop} (L : LY h) (x4 : Int32) (u5 : Option Value) (u6 : Option Value) (sy0 : Int64) (H : (¬ (x4 + (1 : Int32)) < 0 ∧ (x4 + (1 : Int32)).toNatClampNeg < sc.1) ∧ (¬ (x4 + (2 : Int32)) < 0 ∧ (x4 + (2 : Int32)).toNatClampNeg < sc.1) ∧ (¬ (x4 + (3 : Int32)) < 0 ∧ (x4 + (3 : Int32)).toNatClampNeg < sc.1) ∧ (¬ (x4 + (4 : Int32)) < 0 ∧ (x4 + (4 : Int32)).toNatClampNeg < sc.1) ∧ cm_cj' sc d 203 [.ref 38, .int (sc.2 (x4 + (1 : Int32)).toNatClampNeg), .int (sc.2 (x4 + (2 : Int32)).toNatClampNeg), .int (sc.2 (x4 + (3 : Int32)).toNatClampNeg), .int (sc.2 (x4 + (4 : Int32)).toNatClampNeg)] h (fun r h' => cm_wp sc (d + 1) 222 1130 [some (.retAddr 0), some (.ref 0), some (.ref 38), some (.ref 87), some (.int x4), u5, u6] [.long r, .long sy0] h' Q)) : cm_wp sc (d + 1) 222 1102 [some (.retAddr 0), some (.ref 0), some (.ref 38), some (.ref 87), some (.int x4), u5, u6] [.long sy0] h Q :=
  wl_st d222_1102 rfl rfl rfl rfl (wl_st d222_1103 rfl rfl rfl rfl (wl_st d222_1104 rfl rfl rfl rfl (wl_ic (v := 1) d222_1106 rfl (wl_st d222_1107 rfl rfl rfl rfl (And.elim (fun g1 g1k => wl_if d222_1108 rfl rfl rfl rfl g1 (wl_st d222_1109 rfl rfl rfl rfl (wl_st d222_1110 rfl rfl rfl rfl (wl_ic (v := 2) d222_1112 rfl (wl_st d222_1113 rfl rfl rfl rfl (And.elim (fun g2 g2k => wl_if d222_1114 rfl rfl rfl rfl g2 (wl_st d222_1115 rfl rfl rfl rfl (wl_st d222_1116 rfl rfl rfl rfl (wl_ic (v := 3) d222_1118 rfl (wl_st d222_1119 rfl rfl rfl rfl (And.elim (fun g3 g3k => wl_if d222_1120 rfl rfl rfl rfl g3 (wl_st d222_1121 rfl rfl rfl rfl (wl_st d222_1122 rfl rfl rfl rfl (wl_ic (v := 4) d222_1124 rfl (wl_st d222_1125 rfl rfl rfl rfl (And.elim (fun g4 g4k => wl_if d222_1126 rfl rfl rfl rfl g4 (wl_cj d222_1127 rfl rfl rfl pm12_121 (by decide) (ca_v (Or.inl rfl) rfl (Nat.le_of_ble_eq_true rfl) (Nat.le_of_ble_eq_true rfl) (ly_k L 38 rfl).2 (ly_k L 38 rfl).1 (by decide)) g4k)) g3k)))))) g2k)))))) g1k)))))) H)))))
theorem s222_1130 {sc : cmS} {d : Nat} {h : cmH} {Q : Option Value → cmH → Prop} (x4 : Int32) (u5 : Option Value) (u6 : Option Value) (sy0 : Int64) (sy1 : Int64) (H : ((((lg_cmp sy1 sy0) = 0) → cm_wp sc d 222 1591 [some (.retAddr 0), some (.ref 0), some (.ref 38), some (.ref 87), some (.int x4), u5, u6] [] h Q) ∧ (¬ ((lg_cmp sy1 sy0) = 0) → Q (some (.int (0 : Int32))) h))) : cm_wp sc d 222 1130 [some (.retAddr 0), some (.ref 0), some (.ref 38), some (.ref 87), some (.int x4), u5, u6] [.long sy0, .long sy1] h Q :=
  wl_st d222_1130 rfl rfl rfl rfl (wl_cb (b := (lg_cmp sy1 sy0) = 0) (off := 460) (tgt := 1591) (pc3 := 1134) (st' := []) d222_1131 rfl rfl rfl rfl (by decide) rfl (fun c1 => (H.1 c1)) (fun c1 => wl_ic (v := 0) d222_1134 rfl (wl_rz d222_1135 rfl (by decide) (H.2 c1))))
theorem s222_1158 {sc : cmS} {d : Nat} {h : cmH} {Q : Option Value → cmH → Prop} (L : LY h) (x4 : Int32) (u5 : Option Value) (u6 : Option Value) (sx0 : Int32) (H : (¬ (x4 + (1 : Int32)) < 0 ∧ (x4 + (1 : Int32)).toNatClampNeg < sc.1) ∧ (¬ (x4 + (2 : Int32)) < 0 ∧ (x4 + (2 : Int32)).toNatClampNeg < sc.1) ∧ (¬ (x4 + (3 : Int32)) < 0 ∧ (x4 + (3 : Int32)).toNatClampNeg < sc.1) ∧ cm_ci sc d 207 [.ref 38, .int (sc.2 (x4 + (1 : Int32)).toNatClampNeg), .int (sc.2 (x4 + (2 : Int32)).toNatClampNeg), .int (sc.2 (x4 + (3 : Int32)).toNatClampNeg)] h (fun r h' => cm_wp sc (d + 1) 222 1180 [some (.retAddr 0), some (.ref 0), some (.ref 38), some (.ref 87), some (.int x4), u5, u6] [.int r, .int sx0] h' Q)) : cm_wp sc (d + 1) 222 1158 [some (.retAddr 0), some (.ref 0), some (.ref 38), some (.ref 87), some (.int x4), u5, u6] [.int sx0] h Q :=
  wl_st d222_1158 rfl rfl rfl rfl (wl_st d222_1159 rfl rfl rfl rfl (wl_st d222_1160 rfl rfl rfl rfl (wl_ic (v := 1) d222_1162 rfl (wl_st d222_1163 rfl rfl rfl rfl (And.elim (fun g1 g1k => wl_if d222_1164 rfl rfl rfl rfl g1 (wl_st d222_1165 rfl rfl rfl rfl (wl_st d222_1166 rfl rfl rfl rfl (wl_ic (v := 2) d222_1168 rfl (wl_st d222_1169 rfl rfl rfl rfl (And.elim (fun g2 g2k => wl_if d222_1170 rfl rfl rfl rfl g2 (wl_st d222_1171 rfl rfl rfl rfl (wl_st d222_1172 rfl rfl rfl rfl (wl_ic (v := 3) d222_1174 rfl (wl_st d222_1175 rfl rfl rfl rfl (And.elim (fun g3 g3k => wl_if d222_1176 rfl rfl rfl rfl g3 (wl_ci d222_1177 rfl rfl rfl pm12_125 (by decide) (ca_v (Or.inl rfl) rfl (Nat.le_of_ble_eq_true rfl) (Nat.le_of_ble_eq_true rfl) (ly_k L 38 rfl).2 (ly_k L 38 rfl).1 (by decide)) g3k)) g2k)))))) g1k)))))) H)))))
theorem s222_1180 {sc : cmS} {d : Nat} {h : cmH} {Q : Option Value → cmH → Prop} (x4 : Int32) (u5 : Option Value) (u6 : Option Value) (sx0 : Int32) (sx1 : Int32) (H : (((sx1 = sx0) → cm_wp sc d 222 1591 [some (.retAddr 0), some (.ref 0), some (.ref 38), some (.ref 87), some (.int x4), u5, u6] [] h Q) ∧ (¬ (sx1 = sx0) → Q (some (.int (0 : Int32))) h))) : cm_wp sc d 222 1180 [some (.retAddr 0), some (.ref 0), some (.ref 38), some (.ref 87), some (.int x4), u5, u6] [.int sx0, .int sx1] h Q :=
  wl_cb (b := sx1 = sx0) (off := 411) (tgt := 1591) (pc3 := 1183) (st' := []) d222_1180 rfl rfl rfl rfl (by decide) rfl (fun c1 => (H.1 c1)) (fun c1 => wl_ic (v := 0) d222_1183 rfl (wl_rz d222_1184 rfl (by decide) (H.2 c1)))
theorem s222_1201 {sc : cmS} {d : Nat} {h : cmH} {Q : Option Value → cmH → Prop} (L : LY h) (x4 : Int32) (u5 : Option Value) (u6 : Option Value) (sx0 : Int32) (H : (¬ (x4 + (1 : Int32)) < 0 ∧ (x4 + (1 : Int32)).toNatClampNeg < sc.1) ∧ (¬ (x4 + (2 : Int32)) < 0 ∧ (x4 + (2 : Int32)).toNatClampNeg < sc.1) ∧ cm_ci sc d 208 [.ref 38, .int (sc.2 (x4 + (1 : Int32)).toNatClampNeg), .int (sc.2 (x4 + (2 : Int32)).toNatClampNeg)] h (fun r h' => cm_wp sc (d + 1) 222 1217 [some (.retAddr 0), some (.ref 0), some (.ref 38), some (.ref 87), some (.int x4), u5, u6] [.int r, .int sx0] h' Q)) : cm_wp sc (d + 1) 222 1201 [some (.retAddr 0), some (.ref 0), some (.ref 38), some (.ref 87), some (.int x4), u5, u6] [.int sx0] h Q :=
  wl_st d222_1201 rfl rfl rfl rfl (wl_st d222_1202 rfl rfl rfl rfl (wl_st d222_1203 rfl rfl rfl rfl (wl_ic (v := 1) d222_1205 rfl (wl_st d222_1206 rfl rfl rfl rfl (And.elim (fun g1 g1k => wl_if d222_1207 rfl rfl rfl rfl g1 (wl_st d222_1208 rfl rfl rfl rfl (wl_st d222_1209 rfl rfl rfl rfl (wl_ic (v := 2) d222_1211 rfl (wl_st d222_1212 rfl rfl rfl rfl (And.elim (fun g2 g2k => wl_if d222_1213 rfl rfl rfl rfl g2 (wl_ci d222_1214 rfl rfl rfl pm12_129 (by decide) (ca_v (Or.inl rfl) rfl (Nat.le_of_ble_eq_true rfl) (Nat.le_of_ble_eq_true rfl) (ly_k L 38 rfl).2 (ly_k L 38 rfl).1 (by decide)) g2k)) g1k)))))) H)))))
theorem s222_1217 {sc : cmS} {d : Nat} {h : cmH} {Q : Option Value → cmH → Prop} (x4 : Int32) (u5 : Option Value) (u6 : Option Value) (sx0 : Int32) (sx1 : Int32) (H : (((sx1 = sx0) → cm_wp sc d 222 1591 [some (.retAddr 0), some (.ref 0), some (.ref 38), some (.ref 87), some (.int x4), u5, u6] [] h Q) ∧ (¬ (sx1 = sx0) → Q (some (.int (0 : Int32))) h))) : cm_wp sc d 222 1217 [some (.retAddr 0), some (.ref 0), some (.ref 38), some (.ref 87), some (.int x4), u5, u6] [.int sx0, .int sx1] h Q :=
  wl_cb (b := sx1 = sx0) (off := 374) (tgt := 1591) (pc3 := 1220) (st' := []) d222_1217 rfl rfl rfl rfl (by decide) rfl (fun c1 => (H.1 c1)) (fun c1 => wl_ic (v := 0) d222_1220 rfl (wl_rz d222_1221 rfl (by decide) (H.2 c1)))
theorem s222_1238 {sc : cmS} {d : Nat} {h : cmH} {Q : Option Value → cmH → Prop} (L : LY h) (x4 : Int32) (u5 : Option Value) (u6 : Option Value) (sx0 : Int32) (H : (¬ (x4 + (1 : Int32)) < 0 ∧ (x4 + (1 : Int32)).toNatClampNeg < sc.1) ∧ (¬ (x4 + (2 : Int32)) < 0 ∧ (x4 + (2 : Int32)).toNatClampNeg < sc.1) ∧ cm_ci sc d 209 [.ref 38, .int (sc.2 (x4 + (1 : Int32)).toNatClampNeg), .int (sc.2 (x4 + (2 : Int32)).toNatClampNeg)] h (fun r h' => cm_wp sc (d + 1) 222 1254 [some (.retAddr 0), some (.ref 0), some (.ref 38), some (.ref 87), some (.int x4), u5, u6] [.int r, .int sx0] h' Q)) : cm_wp sc (d + 1) 222 1238 [some (.retAddr 0), some (.ref 0), some (.ref 38), some (.ref 87), some (.int x4), u5, u6] [.int sx0] h Q :=
  wl_st d222_1238 rfl rfl rfl rfl (wl_st d222_1239 rfl rfl rfl rfl (wl_st d222_1240 rfl rfl rfl rfl (wl_ic (v := 1) d222_1242 rfl (wl_st d222_1243 rfl rfl rfl rfl (And.elim (fun g1 g1k => wl_if d222_1244 rfl rfl rfl rfl g1 (wl_st d222_1245 rfl rfl rfl rfl (wl_st d222_1246 rfl rfl rfl rfl (wl_ic (v := 2) d222_1248 rfl (wl_st d222_1249 rfl rfl rfl rfl (And.elim (fun g2 g2k => wl_if d222_1250 rfl rfl rfl rfl g2 (wl_ci d222_1251 rfl rfl rfl pm12_133 (by decide) (ca_v (Or.inl rfl) rfl (Nat.le_of_ble_eq_true rfl) (Nat.le_of_ble_eq_true rfl) (ly_k L 38 rfl).2 (ly_k L 38 rfl).1 (by decide)) g2k)) g1k)))))) H)))))
theorem s222_1254 {sc : cmS} {d : Nat} {h : cmH} {Q : Option Value → cmH → Prop} (x4 : Int32) (u5 : Option Value) (u6 : Option Value) (sx0 : Int32) (sx1 : Int32) (H : (((sx1 = sx0) → cm_wp sc d 222 1591 [some (.retAddr 0), some (.ref 0), some (.ref 38), some (.ref 87), some (.int x4), u5, u6] [] h Q) ∧ (¬ (sx1 = sx0) → Q (some (.int (0 : Int32))) h))) : cm_wp sc d 222 1254 [some (.retAddr 0), some (.ref 0), some (.ref 38), some (.ref 87), some (.int x4), u5, u6] [.int sx0, .int sx1] h Q :=
  wl_cb (b := sx1 = sx0) (off := 337) (tgt := 1591) (pc3 := 1257) (st' := []) d222_1254 rfl rfl rfl rfl (by decide) rfl (fun c1 => (H.1 c1)) (fun c1 => wl_ic (v := 0) d222_1257 rfl (wl_rz d222_1258 rfl (by decide) (H.2 c1)))
theorem s222_1275 {sc : cmS} {d : Nat} {h : cmH} {Q : Option Value → cmH → Prop} (L : LY h) (x4 : Int32) (u5 : Option Value) (u6 : Option Value) (sx0 : Int32) (H : (¬ (x4 + (1 : Int32)) < 0 ∧ (x4 + (1 : Int32)).toNatClampNeg < sc.1) ∧ (¬ (x4 + (2 : Int32)) < 0 ∧ (x4 + (2 : Int32)).toNatClampNeg < sc.1) ∧ cm_ci sc d 212 [.ref 38, .int (sc.2 (x4 + (1 : Int32)).toNatClampNeg), .int (sc.2 (x4 + (2 : Int32)).toNatClampNeg)] h (fun r h' => cm_wp sc (d + 1) 222 1291 [some (.retAddr 0), some (.ref 0), some (.ref 38), some (.ref 87), some (.int x4), u5, u6] [.int r, .int sx0] h' Q)) : cm_wp sc (d + 1) 222 1275 [some (.retAddr 0), some (.ref 0), some (.ref 38), some (.ref 87), some (.int x4), u5, u6] [.int sx0] h Q :=
  wl_st d222_1275 rfl rfl rfl rfl (wl_st d222_1276 rfl rfl rfl rfl (wl_st d222_1277 rfl rfl rfl rfl (wl_ic (v := 1) d222_1279 rfl (wl_st d222_1280 rfl rfl rfl rfl (And.elim (fun g1 g1k => wl_if d222_1281 rfl rfl rfl rfl g1 (wl_st d222_1282 rfl rfl rfl rfl (wl_st d222_1283 rfl rfl rfl rfl (wl_ic (v := 2) d222_1285 rfl (wl_st d222_1286 rfl rfl rfl rfl (And.elim (fun g2 g2k => wl_if d222_1287 rfl rfl rfl rfl g2 (wl_ci d222_1288 rfl rfl rfl pm12_137 (by decide) (ca_v (Or.inl rfl) rfl (Nat.le_of_ble_eq_true rfl) (Nat.le_of_ble_eq_true rfl) (ly_k L 38 rfl).2 (ly_k L 38 rfl).1 (by decide)) g2k)) g1k)))))) H)))))
theorem s222_1291 {sc : cmS} {d : Nat} {h : cmH} {Q : Option Value → cmH → Prop} (x4 : Int32) (u5 : Option Value) (u6 : Option Value) (sx0 : Int32) (sx1 : Int32) (H : (((sx1 = sx0) → cm_wp sc d 222 1591 [some (.retAddr 0), some (.ref 0), some (.ref 38), some (.ref 87), some (.int x4), u5, u6] [] h Q) ∧ (¬ (sx1 = sx0) → Q (some (.int (0 : Int32))) h))) : cm_wp sc d 222 1291 [some (.retAddr 0), some (.ref 0), some (.ref 38), some (.ref 87), some (.int x4), u5, u6] [.int sx0, .int sx1] h Q :=
  wl_cb (b := sx1 = sx0) (off := 300) (tgt := 1591) (pc3 := 1294) (st' := []) d222_1291 rfl rfl rfl rfl (by decide) rfl (fun c1 => (H.1 c1)) (fun c1 => wl_ic (v := 0) d222_1294 rfl (wl_rz d222_1295 rfl (by decide) (H.2 c1)))
theorem s222_1318 {sc : cmS} {d : Nat} {h : cmH} {Q : Option Value → cmH → Prop} (L : LY h) (x4 : Int32) (u5 : Option Value) (u6 : Option Value) (sx0 : Int32) (H : (¬ (x4 + (1 : Int32)) < 0 ∧ (x4 + (1 : Int32)).toNatClampNeg < sc.1) ∧ (¬ (x4 + (2 : Int32)) < 0 ∧ (x4 + (2 : Int32)).toNatClampNeg < sc.1) ∧ (¬ (x4 + (3 : Int32)) < 0 ∧ (x4 + (3 : Int32)).toNatClampNeg < sc.1) ∧ cm_ci sc d 213 [.ref 38, .int (sc.2 (x4 + (1 : Int32)).toNatClampNeg), .int (sc.2 (x4 + (2 : Int32)).toNatClampNeg), .int (sc.2 (x4 + (3 : Int32)).toNatClampNeg)] h (fun r h' => cm_wp sc (d + 1) 222 1340 [some (.retAddr 0), some (.ref 0), some (.ref 38), some (.ref 87), some (.int x4), u5, u6] [.int r, .int sx0] h' Q)) : cm_wp sc (d + 1) 222 1318 [some (.retAddr 0), some (.ref 0), some (.ref 38), some (.ref 87), some (.int x4), u5, u6] [.int sx0] h Q :=
  wl_st d222_1318 rfl rfl rfl rfl (wl_st d222_1319 rfl rfl rfl rfl (wl_st d222_1320 rfl rfl rfl rfl (wl_ic (v := 1) d222_1322 rfl (wl_st d222_1323 rfl rfl rfl rfl (And.elim (fun g1 g1k => wl_if d222_1324 rfl rfl rfl rfl g1 (wl_st d222_1325 rfl rfl rfl rfl (wl_st d222_1326 rfl rfl rfl rfl (wl_ic (v := 2) d222_1328 rfl (wl_st d222_1329 rfl rfl rfl rfl (And.elim (fun g2 g2k => wl_if d222_1330 rfl rfl rfl rfl g2 (wl_st d222_1331 rfl rfl rfl rfl (wl_st d222_1332 rfl rfl rfl rfl (wl_ic (v := 3) d222_1334 rfl (wl_st d222_1335 rfl rfl rfl rfl (And.elim (fun g3 g3k => wl_if d222_1336 rfl rfl rfl rfl g3 (wl_ci d222_1337 rfl rfl rfl pm12_141 (by decide) (ca_v (Or.inl rfl) rfl (Nat.le_of_ble_eq_true rfl) (Nat.le_of_ble_eq_true rfl) (ly_k L 38 rfl).2 (ly_k L 38 rfl).1 (by decide)) g3k)) g2k)))))) g1k)))))) H)))))
theorem s222_1340 {sc : cmS} {d : Nat} {h : cmH} {Q : Option Value → cmH → Prop} (x4 : Int32) (u5 : Option Value) (u6 : Option Value) (sx0 : Int32) (sx1 : Int32) (H : (((sx1 = sx0) → cm_wp sc d 222 1591 [some (.retAddr 0), some (.ref 0), some (.ref 38), some (.ref 87), some (.int x4), u5, u6] [] h Q) ∧ (¬ (sx1 = sx0) → Q (some (.int (0 : Int32))) h))) : cm_wp sc d 222 1340 [some (.retAddr 0), some (.ref 0), some (.ref 38), some (.ref 87), some (.int x4), u5, u6] [.int sx0, .int sx1] h Q :=
  wl_cb (b := sx1 = sx0) (off := 251) (tgt := 1591) (pc3 := 1343) (st' := []) d222_1340 rfl rfl rfl rfl (by decide) rfl (fun c1 => (H.1 c1)) (fun c1 => wl_ic (v := 0) d222_1343 rfl (wl_rz d222_1344 rfl (by decide) (H.2 c1)))
theorem s222_1373 {sc : cmS} {d : Nat} {h : cmH} {Q : Option Value → cmH → Prop} (L : LY h) (x4 : Int32) (u5 : Option Value) (u6 : Option Value) (sx0 : Int32) (H : (¬ (x4 + (1 : Int32)) < 0 ∧ (x4 + (1 : Int32)).toNatClampNeg < sc.1) ∧ (¬ (x4 + (2 : Int32)) < 0 ∧ (x4 + (2 : Int32)).toNatClampNeg < sc.1) ∧ (¬ (x4 + (3 : Int32)) < 0 ∧ (x4 + (3 : Int32)).toNatClampNeg < sc.1) ∧ (¬ (x4 + (4 : Int32)) < 0 ∧ (x4 + (4 : Int32)).toNatClampNeg < sc.1) ∧ cm_ci sc d 215 [.ref 38, .int (sc.2 (x4 + (1 : Int32)).toNatClampNeg), .int (sc.2 (x4 + (2 : Int32)).toNatClampNeg), .int (sc.2 (x4 + (3 : Int32)).toNatClampNeg), .int (sc.2 (x4 + (4 : Int32)).toNatClampNeg)] h (fun r h' => cm_wp sc (d + 1) 222 1401 [some (.retAddr 0), some (.ref 0), some (.ref 38), some (.ref 87), some (.int x4), u5, u6] [.int r, .int sx0] h' Q)) : cm_wp sc (d + 1) 222 1373 [some (.retAddr 0), some (.ref 0), some (.ref 38), some (.ref 87), some (.int x4), u5, u6] [.int sx0] h Q :=
  wl_st d222_1373 rfl rfl rfl rfl (wl_st d222_1374 rfl rfl rfl rfl (wl_st d222_1375 rfl rfl rfl rfl (wl_ic (v := 1) d222_1377 rfl (wl_st d222_1378 rfl rfl rfl rfl (And.elim (fun g1 g1k => wl_if d222_1379 rfl rfl rfl rfl g1 (wl_st d222_1380 rfl rfl rfl rfl (wl_st d222_1381 rfl rfl rfl rfl (wl_ic (v := 2) d222_1383 rfl (wl_st d222_1384 rfl rfl rfl rfl (And.elim (fun g2 g2k => wl_if d222_1385 rfl rfl rfl rfl g2 (wl_st d222_1386 rfl rfl rfl rfl (wl_st d222_1387 rfl rfl rfl rfl (wl_ic (v := 3) d222_1389 rfl (wl_st d222_1390 rfl rfl rfl rfl (And.elim (fun g3 g3k => wl_if d222_1391 rfl rfl rfl rfl g3 (wl_st d222_1392 rfl rfl rfl rfl (wl_st d222_1393 rfl rfl rfl rfl (wl_ic (v := 4) d222_1395 rfl (wl_st d222_1396 rfl rfl rfl rfl (And.elim (fun g4 g4k => wl_if d222_1397 rfl rfl rfl rfl g4 (wl_ci d222_1398 rfl rfl rfl pm12_145 (by decide) (ca_v (Or.inl rfl) rfl (Nat.le_of_ble_eq_true rfl) (Nat.le_of_ble_eq_true rfl) (ly_k L 38 rfl).2 (ly_k L 38 rfl).1 (by decide)) g4k)) g3k)))))) g2k)))))) g1k)))))) H)))))
theorem s222_1401 {sc : cmS} {d : Nat} {h : cmH} {Q : Option Value → cmH → Prop} (x4 : Int32) (u5 : Option Value) (u6 : Option Value) (sx0 : Int32) (sx1 : Int32) (H : (((sx1 = sx0) → cm_wp sc d 222 1591 [some (.retAddr 0), some (.ref 0), some (.ref 38), some (.ref 87), some (.int x4), u5, u6] [] h Q) ∧ (¬ (sx1 = sx0) → Q (some (.int (0 : Int32))) h))) : cm_wp sc d 222 1401 [some (.retAddr 0), some (.ref 0), some (.ref 38), some (.ref 87), some (.int x4), u5, u6] [.int sx0, .int sx1] h Q :=
  wl_cb (b := sx1 = sx0) (off := 190) (tgt := 1591) (pc3 := 1404) (st' := []) d222_1401 rfl rfl rfl rfl (by decide) rfl (fun c1 => (H.1 c1)) (fun c1 => wl_ic (v := 0) d222_1404 rfl (wl_rz d222_1405 rfl (by decide) (H.2 c1)))
theorem s222_1434 {sc : cmS} {d : Nat} {h : cmH} {Q : Option Value → cmH → Prop} (L : LY h) (x4 : Int32) (u5 : Option Value) (u6 : Option Value) (sx0 : Int32) (H : (¬ (x4 + (1 : Int32)) < 0 ∧ (x4 + (1 : Int32)).toNatClampNeg < sc.1) ∧ (¬ (x4 + (2 : Int32)) < 0 ∧ (x4 + (2 : Int32)).toNatClampNeg < sc.1) ∧ (¬ (x4 + (3 : Int32)) < 0 ∧ (x4 + (3 : Int32)).toNatClampNeg < sc.1) ∧ (¬ (x4 + (4 : Int32)) < 0 ∧ (x4 + (4 : Int32)).toNatClampNeg < sc.1) ∧ cm_ci sc d 216 [.ref 38, .int (sc.2 (x4 + (1 : Int32)).toNatClampNeg), .int (sc.2 (x4 + (2 : Int32)).toNatClampNeg), .int (sc.2 (x4 + (3 : Int32)).toNatClampNeg), .int (sc.2 (x4 + (4 : Int32)).toNatClampNeg)] h (fun r h' => cm_wp sc (d + 1) 222 1462 [some (.retAddr 0), some (.ref 0), some (.ref 38), some (.ref 87), some (.int x4), u5, u6] [.int r, .int sx0] h' Q)) : cm_wp sc (d + 1) 222 1434 [some (.retAddr 0), some (.ref 0), some (.ref 38), some (.ref 87), some (.int x4), u5, u6] [.int sx0] h Q :=
  wl_st d222_1434 rfl rfl rfl rfl (wl_st d222_1435 rfl rfl rfl rfl (wl_st d222_1436 rfl rfl rfl rfl (wl_ic (v := 1) d222_1438 rfl (wl_st d222_1439 rfl rfl rfl rfl (And.elim (fun g1 g1k => wl_if d222_1440 rfl rfl rfl rfl g1 (wl_st d222_1441 rfl rfl rfl rfl (wl_st d222_1442 rfl rfl rfl rfl (wl_ic (v := 2) d222_1444 rfl (wl_st d222_1445 rfl rfl rfl rfl (And.elim (fun g2 g2k => wl_if d222_1446 rfl rfl rfl rfl g2 (wl_st d222_1447 rfl rfl rfl rfl (wl_st d222_1448 rfl rfl rfl rfl (wl_ic (v := 3) d222_1450 rfl (wl_st d222_1451 rfl rfl rfl rfl (And.elim (fun g3 g3k => wl_if d222_1452 rfl rfl rfl rfl g3 (wl_st d222_1453 rfl rfl rfl rfl (wl_st d222_1454 rfl rfl rfl rfl (wl_ic (v := 4) d222_1456 rfl (wl_st d222_1457 rfl rfl rfl rfl (And.elim (fun g4 g4k => wl_if d222_1458 rfl rfl rfl rfl g4 (wl_ci d222_1459 rfl rfl rfl pm12_149 (by decide) (ca_v (Or.inl rfl) rfl (Nat.le_of_ble_eq_true rfl) (Nat.le_of_ble_eq_true rfl) (ly_k L 38 rfl).2 (ly_k L 38 rfl).1 (by decide)) g4k)) g3k)))))) g2k)))))) g1k)))))) H)))))
theorem s222_1462 {sc : cmS} {d : Nat} {h : cmH} {Q : Option Value → cmH → Prop} (x4 : Int32) (u5 : Option Value) (u6 : Option Value) (sx0 : Int32) (sx1 : Int32) (H : (((sx1 = sx0) → cm_wp sc d 222 1591 [some (.retAddr 0), some (.ref 0), some (.ref 38), some (.ref 87), some (.int x4), u5, u6] [] h Q) ∧ (¬ (sx1 = sx0) → Q (some (.int (0 : Int32))) h))) : cm_wp sc d 222 1462 [some (.retAddr 0), some (.ref 0), some (.ref 38), some (.ref 87), some (.int x4), u5, u6] [.int sx0, .int sx1] h Q :=
  wl_cb (b := sx1 = sx0) (off := 129) (tgt := 1591) (pc3 := 1465) (st' := []) d222_1462 rfl rfl rfl rfl (by decide) rfl (fun c1 => (H.1 c1)) (fun c1 => wl_ic (v := 0) d222_1465 rfl (wl_rz d222_1466 rfl (by decide) (H.2 c1)))
theorem s222_1489 {sc : cmS} {d : Nat} {h : cmH} {Q : Option Value → cmH → Prop} (L : LY h) (x4 : Int32) (u5 : Option Value) (u6 : Option Value) (sx0 : Int32) (H : (¬ (x4 + (1 : Int32)) < 0 ∧ (x4 + (1 : Int32)).toNatClampNeg < sc.1) ∧ (¬ (x4 + (2 : Int32)) < 0 ∧ (x4 + (2 : Int32)).toNatClampNeg < sc.1) ∧ (¬ (x4 + (3 : Int32)) < 0 ∧ (x4 + (3 : Int32)).toNatClampNeg < sc.1) ∧ cm_ci sc d 220 [.ref 38, .int (sc.2 (x4 + (1 : Int32)).toNatClampNeg), .int (sc.2 (x4 + (2 : Int32)).toNatClampNeg), .int (sc.2 (x4 + (3 : Int32)).toNatClampNeg)] h (fun r h' => cm_wp sc (d + 1) 222 1511 [some (.retAddr 0), some (.ref 0), some (.ref 38), some (.ref 87), some (.int x4), u5, u6] [.int r, .int sx0] h' Q)) : cm_wp sc (d + 1) 222 1489 [some (.retAddr 0), some (.ref 0), some (.ref 38), some (.ref 87), some (.int x4), u5, u6] [.int sx0] h Q :=
  wl_st d222_1489 rfl rfl rfl rfl (wl_st d222_1490 rfl rfl rfl rfl (wl_st d222_1491 rfl rfl rfl rfl (wl_ic (v := 1) d222_1493 rfl (wl_st d222_1494 rfl rfl rfl rfl (And.elim (fun g1 g1k => wl_if d222_1495 rfl rfl rfl rfl g1 (wl_st d222_1496 rfl rfl rfl rfl (wl_st d222_1497 rfl rfl rfl rfl (wl_ic (v := 2) d222_1499 rfl (wl_st d222_1500 rfl rfl rfl rfl (And.elim (fun g2 g2k => wl_if d222_1501 rfl rfl rfl rfl g2 (wl_st d222_1502 rfl rfl rfl rfl (wl_st d222_1503 rfl rfl rfl rfl (wl_ic (v := 3) d222_1505 rfl (wl_st d222_1506 rfl rfl rfl rfl (And.elim (fun g3 g3k => wl_if d222_1507 rfl rfl rfl rfl g3 (wl_ci d222_1508 rfl rfl rfl pm12_153 (by decide) (ca_v (Or.inl rfl) rfl (Nat.le_of_ble_eq_true rfl) (Nat.le_of_ble_eq_true rfl) (ly_k L 38 rfl).2 (ly_k L 38 rfl).1 (by decide)) g3k)) g2k)))))) g1k)))))) H)))))
theorem s222_1511 {sc : cmS} {d : Nat} {h : cmH} {Q : Option Value → cmH → Prop} (x4 : Int32) (u5 : Option Value) (u6 : Option Value) (sx0 : Int32) (sx1 : Int32) (H : (((sx1 = sx0) → cm_wp sc d 222 1591 [some (.retAddr 0), some (.ref 0), some (.ref 38), some (.ref 87), some (.int x4), u5, u6] [] h Q) ∧ (¬ (sx1 = sx0) → Q (some (.int (0 : Int32))) h))) : cm_wp sc d 222 1511 [some (.retAddr 0), some (.ref 0), some (.ref 38), some (.ref 87), some (.int x4), u5, u6] [.int sx0, .int sx1] h Q :=
  wl_cb (b := sx1 = sx0) (off := 80) (tgt := 1591) (pc3 := 1514) (st' := []) d222_1511 rfl rfl rfl rfl (by decide) rfl (fun c1 => (H.1 c1)) (fun c1 => wl_ic (v := 0) d222_1514 rfl (wl_rz d222_1515 rfl (by decide) (H.2 c1)))
theorem s222_1532 {sc : cmS} {d : Nat} {h : cmH} {Q : Option Value → cmH → Prop} (L : LY h) (x4 : Int32) (u5 : Option Value) (u6 : Option Value) (sx0 : Int32) (H : (¬ (x4 + (1 : Int32)) < 0 ∧ (x4 + (1 : Int32)).toNatClampNeg < sc.1) ∧ (¬ (x4 + (2 : Int32)) < 0 ∧ (x4 + (2 : Int32)).toNatClampNeg < sc.1) ∧ cm_ci sc d 201 [.ref 38, .int (sc.2 (x4 + (1 : Int32)).toNatClampNeg), .int (sc.2 (x4 + (2 : Int32)).toNatClampNeg)] h (fun r h' => cm_wp sc (d + 1) 222 1548 [some (.retAddr 0), some (.ref 0), some (.ref 38), some (.ref 87), some (.int x4), u5, u6] [.int r, .int sx0] h' Q)) : cm_wp sc (d + 1) 222 1532 [some (.retAddr 0), some (.ref 0), some (.ref 38), some (.ref 87), some (.int x4), u5, u6] [.int sx0] h Q :=
  wl_st d222_1532 rfl rfl rfl rfl (wl_st d222_1533 rfl rfl rfl rfl (wl_st d222_1534 rfl rfl rfl rfl (wl_ic (v := 1) d222_1536 rfl (wl_st d222_1537 rfl rfl rfl rfl (And.elim (fun g1 g1k => wl_if d222_1538 rfl rfl rfl rfl g1 (wl_st d222_1539 rfl rfl rfl rfl (wl_st d222_1540 rfl rfl rfl rfl (wl_ic (v := 2) d222_1542 rfl (wl_st d222_1543 rfl rfl rfl rfl (And.elim (fun g2 g2k => wl_if d222_1544 rfl rfl rfl rfl g2 (wl_ci d222_1545 rfl rfl rfl pm12_157 (by decide) (ca_v (Or.inl rfl) rfl (Nat.le_of_ble_eq_true rfl) (Nat.le_of_ble_eq_true rfl) (ly_k L 38 rfl).2 (ly_k L 38 rfl).1 (by decide)) g2k)) g1k)))))) H)))))
theorem s222_1548 {sc : cmS} {d : Nat} {h : cmH} {Q : Option Value → cmH → Prop} (x4 : Int32) (u5 : Option Value) (u6 : Option Value) (sx0 : Int32) (sx1 : Int32) (H : (((sx1 = sx0) → cm_wp sc d 222 1591 [some (.retAddr 0), some (.ref 0), some (.ref 38), some (.ref 87), some (.int x4), u5, u6] [] h Q) ∧ (¬ (sx1 = sx0) → Q (some (.int (0 : Int32))) h))) : cm_wp sc d 222 1548 [some (.retAddr 0), some (.ref 0), some (.ref 38), some (.ref 87), some (.int x4), u5, u6] [.int sx0, .int sx1] h Q :=
  wl_cb (b := sx1 = sx0) (off := 43) (tgt := 1591) (pc3 := 1551) (st' := []) d222_1548 rfl rfl rfl rfl (by decide) rfl (fun c1 => (H.1 c1)) (fun c1 => wl_ic (v := 0) d222_1551 rfl (wl_rz d222_1552 rfl (by decide) (H.2 c1)))
theorem s222_1557 {sc : cmS} {d : Nat} {h : cmH} {Q : Option Value → cmH → Prop} (L : LY h) (x4 : Int32) (u5 : Option Value) (u6 : Option Value) (sx0 : Int32) (H : cm_ci sc d 202 [.ref 38] h (fun r h' => cm_wp sc (d + 1) 222 1561 [some (.retAddr 0), some (.ref 0), some (.ref 38), some (.ref 87), some (.int x4), u5, u6] [.int r, .int sx0] h' Q)) : cm_wp sc (d + 1) 222 1557 [some (.retAddr 0), some (.ref 0), some (.ref 38), some (.ref 87), some (.int x4), u5, u6] [.int sx0] h Q :=
  wl_st d222_1557 rfl rfl rfl rfl (wl_ci d222_1558 rfl rfl rfl pm12_161 (by decide) (ca_v (Or.inl rfl) rfl (Nat.le_of_ble_eq_true rfl) (Nat.le_of_ble_eq_true rfl) (ly_k L 38 rfl).2 (ly_k L 38 rfl).1 (by decide)) H)
theorem s222_1561 {sc : cmS} {d : Nat} {h : cmH} {Q : Option Value → cmH → Prop} (x4 : Int32) (u5 : Option Value) (u6 : Option Value) (sx0 : Int32) (sx1 : Int32) (H : (((sx1 = sx0) → cm_wp sc d 222 1591 [some (.retAddr 0), some (.ref 0), some (.ref 38), some (.ref 87), some (.int x4), u5, u6] [] h Q) ∧ (¬ (sx1 = sx0) → Q (some (.int (0 : Int32))) h))) : cm_wp sc d 222 1561 [some (.retAddr 0), some (.ref 0), some (.ref 38), some (.ref 87), some (.int x4), u5, u6] [.int sx0, .int sx1] h Q :=
  wl_cb (b := sx1 = sx0) (off := 30) (tgt := 1591) (pc3 := 1564) (st' := []) d222_1561 rfl rfl rfl rfl (by decide) rfl (fun c1 => (H.1 c1)) (fun c1 => wl_ic (v := 0) d222_1564 rfl (wl_rz d222_1565 rfl (by decide) (H.2 c1)))
theorem s222_1576 {sc : cmS} {d : Nat} {h : cmH} {Q : Option Value → cmH → Prop} (L : LY h) (x4 : Int32) (u5 : Option Value) (u6 : Option Value) (sx0 : Int32) (H : (¬ (x4 + (1 : Int32)) < 0 ∧ (x4 + (1 : Int32)).toNatClampNeg < sc.1) ∧ cm_ci sc d 221 [.ref 38, .int (sc.2 (x4 + (1 : Int32)).toNatClampNeg)] h (fun r h' => cm_wp sc (d + 1) 222 1586 [some (.retAddr 0), some (.ref 0), some (.ref 38), some (.ref 87), some (.int x4), u5, u6] [.int r, .int sx0] h' Q)) : cm_wp sc (d + 1) 222 1576 [some (.retAddr 0), some (.ref 0), some (.ref 38), some (.ref 87), some (.int x4), u5, u6] [.int sx0] h Q :=
  wl_st d222_1576 rfl rfl rfl rfl (wl_st d222_1577 rfl rfl rfl rfl (wl_st d222_1578 rfl rfl rfl rfl (wl_ic (v := 1) d222_1580 rfl (wl_st d222_1581 rfl rfl rfl rfl (And.elim (fun g1 g1k => wl_if d222_1582 rfl rfl rfl rfl g1 (wl_ci d222_1583 rfl rfl rfl pm12_165 (by decide) (ca_v (Or.inl rfl) rfl (Nat.le_of_ble_eq_true rfl) (Nat.le_of_ble_eq_true rfl) (ly_k L 38 rfl).2 (ly_k L 38 rfl).1 (by decide)) g1k)) H)))))
theorem s222_1586 {sc : cmS} {d : Nat} {h : cmH} {Q : Option Value → cmH → Prop} (x4 : Int32) (u5 : Option Value) (u6 : Option Value) (sx0 : Int32) (sx1 : Int32) (H : (((sx1 = sx0) → cm_wp sc d 222 1591 [some (.retAddr 0), some (.ref 0), some (.ref 38), some (.ref 87), some (.int x4), u5, u6] [] h Q) ∧ (¬ (sx1 = sx0) → Q (some (.int (0 : Int32))) h))) : cm_wp sc d 222 1586 [some (.retAddr 0), some (.ref 0), some (.ref 38), some (.ref 87), some (.int x4), u5, u6] [.int sx0, .int sx1] h Q :=
  wl_cb (b := sx1 = sx0) (off := 5) (tgt := 1591) (pc3 := 1589) (st' := []) d222_1586 rfl rfl rfl rfl (by decide) rfl (fun c1 => (H.1 c1)) (fun c1 => wl_ic (v := 0) d222_1589 rfl (wl_rz d222_1590 rfl (by decide) (H.2 c1)))
theorem s222_1591 {sc : cmS} {d : Nat} {h : cmH} {Q : Option Value → cmH → Prop} (x4 : Int32) (u5 : Option Value) (u6 : Option Value) (H : cm_wp sc d 222 23 [some (.retAddr 0), some (.ref 0), some (.ref 38), some (.ref 87), some (.int (x4 + 9)), u5, u6] [] h Q) : cm_wp sc d 222 1591 [some (.retAddr 0), some (.ref 0), some (.ref 38), some (.ref 87), some (.int x4), u5, u6] [] h Q :=
  wl_st (ls' := [some (.retAddr 0), some (.ref 0), some (.ref 38), some (.ref 87), some (.int (x4 + 9)), u5, u6]) d222_1591 rfl rfl rfl rfl (wl_go (tgt := 23) d222_1594 (by decide) (H))
