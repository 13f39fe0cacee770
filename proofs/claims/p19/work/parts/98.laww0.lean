/-! the law: by program (wip/tools/gen_body.py) -/
theorem d_law_0 : decode code 0 = .ok (.new 8, 3) := by decide +kernel
theorem d_law_3 : decode code 3 = .ok (.dup, 1) := by decide +kernel
theorem d_law_4 : decode code 4 = .ok (.invokespecial 66, 3) := by decide +kernel
theorem d_law_7 : decode code 7 = .ok (.astore_n 1, 1) := by decide +kernel
theorem d_law_8 : decode code 8 = .ok (.new 67, 3) := by decide +kernel
theorem d_law_11 : decode code 11 = .ok (.dup, 1) := by decide +kernel
theorem d_law_12 : decode code 12 = .ok (.invokespecial 69, 3) := by decide +kernel
theorem d_law_15 : decode code 15 = .ok (.astore_n 2, 1) := by decide +kernel
theorem d_law_16 : decode code 16 = .ok (.iconst 1, 1) := by decide +kernel
theorem d_law_17 : decode code 17 = .ok (.newarray .long, 2) := by decide +kernel
theorem d_law_19 : decode code 19 = .ok (.astore_n 3, 1) := by decide +kernel
theorem d_law_20 : decode code 20 = .ok (.iconst 0, 1) := by decide +kernel
theorem d_law_21 : decode code 21 = .ok (.istore 4, 2) := by decide +kernel
theorem d_law_23 : decode code 23 = .ok (.iload 4, 2) := by decide +kernel
theorem d_law_25 : decode code 25 = .ok (.aload_n 0, 1) := by decide +kernel
theorem d_law_26 : decode code 26 = .ok (.arraylength, 1) := by decide +kernel
theorem d_law_27 : decode code 27 = .ok (.bipush 6, 2) := by decide +kernel
theorem d_law_29 : decode code 29 = .ok (.isub, 1) := by decide +kernel
theorem d_law_30 : decode code 30 = .ok (.if_icmp .gt 960, 3) := by decide +kernel
theorem d_law_33 : decode code 33 = .ok (.aload_n 0, 1) := by decide +kernel
theorem d_law_34 : decode code 34 = .ok (.iload 4, 2) := by decide +kernel
theorem d_law_36 : decode code 36 = .ok (.iaload, 1) := by decide +kernel
theorem d_law_37 : decode code 37 = .ok (.bipush 31, 2) := by decide +kernel
theorem d_law_39 : decode code 39 = .ok (.iand, 1) := by decide +kernel
theorem d_law_40 : decode code 40 = .ok (.tableswitch 944 0 19 #[96, 107, 159, 208, 248, 300, 376, 428, 480, 544, 608, 660, 700, 740, 768, 793, 830, 867, 891, 919], 96) := by decide +kernel
theorem d_law_136 : decode code 136 = .ok (.aload_n 1, 1) := by decide +kernel
theorem d_law_137 : decode code 137 = .ok (.invokevirtual 70, 3) := by decide +kernel
theorem d_law_140 : decode code 140 = .ok (.aload_n 2, 1) := by decide +kernel
theorem d_law_141 : decode code 141 = .ok (.invokevirtual 73, 3) := by decide +kernel
theorem d_law_144 : decode code 144 = .ok (.goto 840, 3) := by decide +kernel
theorem d_law_147 : decode code 147 = .ok (.aload_n 1, 1) := by decide +kernel
theorem d_law_148 : decode code 148 = .ok (.aload_n 0, 1) := by decide +kernel
theorem d_law_149 : decode code 149 = .ok (.iload 4, 2) := by decide +kernel
theorem d_law_151 : decode code 151 = .ok (.iconst 1, 1) := by decide +kernel
theorem d_law_152 : decode code 152 = .ok (.iadd, 1) := by decide +kernel
theorem d_law_153 : decode code 153 = .ok (.iaload, 1) := by decide +kernel
theorem d_law_154 : decode code 154 = .ok (.aload_n 0, 1) := by decide +kernel
theorem d_law_155 : decode code 155 = .ok (.iload 4, 2) := by decide +kernel
theorem d_law_157 : decode code 157 = .ok (.iconst 2, 1) := by decide +kernel
theorem d_law_158 : decode code 158 = .ok (.iadd, 1) := by decide +kernel
theorem d_law_159 : decode code 159 = .ok (.iaload, 1) := by decide +kernel
theorem d_law_160 : decode code 160 = .ok (.aload_n 0, 1) := by decide +kernel
theorem d_law_161 : decode code 161 = .ok (.iload 4, 2) := by decide +kernel
theorem d_law_163 : decode code 163 = .ok (.iconst 3, 1) := by decide +kernel
theorem d_law_164 : decode code 164 = .ok (.iadd, 1) := by decide +kernel
theorem d_law_165 : decode code 165 = .ok (.iaload, 1) := by decide +kernel
theorem d_law_166 : decode code 166 = .ok (.aload_n 3, 1) := by decide +kernel
theorem d_law_167 : decode code 167 = .ok (.invokestatic 74, 3) := by decide +kernel
theorem d_law_170 : decode code 170 = .ok (.istore 5, 2) := by decide +kernel
theorem d_law_172 : decode code 172 = .ok (.aload_n 2, 1) := by decide +kernel
theorem d_law_173 : decode code 173 = .ok (.aload_n 0, 1) := by decide +kernel
theorem d_law_174 : decode code 174 = .ok (.iload 4, 2) := by decide +kernel
theorem d_law_176 : decode code 176 = .ok (.iconst 1, 1) := by decide +kernel
theorem d_law_177 : decode code 177 = .ok (.iadd, 1) := by decide +kernel
theorem d_law_178 : decode code 178 = .ok (.iaload, 1) := by decide +kernel
theorem d_law_179 : decode code 179 = .ok (.aload_n 0, 1) := by decide +kernel
theorem d_law_180 : decode code 180 = .ok (.iload 4, 2) := by decide +kernel
theorem d_law_182 : decode code 182 = .ok (.iconst 2, 1) := by decide +kernel
theorem d_law_183 : decode code 183 = .ok (.iadd, 1) := by decide +kernel
theorem d_law_184 : decode code 184 = .ok (.iaload, 1) := by decide +kernel
theorem d_law_185 : decode code 185 = .ok (.aload_n 0, 1) := by decide +kernel
theorem d_law_186 : decode code 186 = .ok (.iload 4, 2) := by decide +kernel
theorem d_law_188 : decode code 188 = .ok (.iconst 3, 1) := by decide +kernel
theorem d_law_189 : decode code 189 = .ok (.iadd, 1) := by decide +kernel
theorem d_law_190 : decode code 190 = .ok (.iaload, 1) := by decide +kernel
theorem d_law_191 : decode code 191 = .ok (.invokevirtual 79, 3) := by decide +kernel
theorem d_law_194 : decode code 194 = .ok (.istore 6, 2) := by decide +kernel
theorem d_law_196 : decode code 196 = .ok (.goto 788, 3) := by decide +kernel
theorem d_law_199 : decode code 199 = .ok (.aload_n 1, 1) := by decide +kernel
theorem d_law_200 : decode code 200 = .ok (.aload_n 0, 1) := by decide +kernel
theorem d_law_201 : decode code 201 = .ok (.iload 4, 2) := by decide +kernel
theorem d_law_203 : decode code 203 = .ok (.iconst 1, 1) := by decide +kernel
theorem d_law_204 : decode code 204 = .ok (.iadd, 1) := by decide +kernel
theorem d_law_205 : decode code 205 = .ok (.iaload, 1) := by decide +kernel
theorem d_law_206 : decode code 206 = .ok (.aload_n 0, 1) := by decide +kernel
theorem d_law_207 : decode code 207 = .ok (.iload 4, 2) := by decide +kernel
theorem d_law_209 : decode code 209 = .ok (.iconst 2, 1) := by decide +kernel
theorem d_law_210 : decode code 210 = .ok (.iadd, 1) := by decide +kernel
theorem d_law_211 : decode code 211 = .ok (.iaload, 1) := by decide +kernel
theorem d_law_212 : decode code 212 = .ok (.aload_n 0, 1) := by decide +kernel
theorem d_law_213 : decode code 213 = .ok (.iload 4, 2) := by decide +kernel
theorem d_law_215 : decode code 215 = .ok (.iconst 3, 1) := by decide +kernel
theorem d_law_216 : decode code 216 = .ok (.iadd, 1) := by decide +kernel
theorem d_law_217 : decode code 217 = .ok (.iaload, 1) := by decide +kernel
theorem d_law_218 : decode code 218 = .ok (.invokestatic 80, 3) := by decide +kernel
theorem d_law_221 : decode code 221 = .ok (.istore 5, 2) := by decide +kernel
theorem d_law_223 : decode code 223 = .ok (.aload_n 2, 1) := by decide +kernel
theorem d_law_224 : decode code 224 = .ok (.aload_n 0, 1) := by decide +kernel
theorem d_law_225 : decode code 225 = .ok (.iload 4, 2) := by decide +kernel
theorem d_law_227 : decode code 227 = .ok (.iconst 1, 1) := by decide +kernel
theorem d_law_228 : decode code 228 = .ok (.iadd, 1) := by decide +kernel
theorem d_law_229 : decode code 229 = .ok (.iaload, 1) := by decide +kernel
theorem d_law_230 : decode code 230 = .ok (.aload_n 0, 1) := by decide +kernel
theorem d_law_231 : decode code 231 = .ok (.iload 4, 2) := by decide +kernel
theorem d_law_233 : decode code 233 = .ok (.iconst 2, 1) := by decide +kernel
theorem d_law_234 : decode code 234 = .ok (.iadd, 1) := by decide +kernel
theorem d_law_235 : decode code 235 = .ok (.iaload, 1) := by decide +kernel
theorem d_law_236 : decode code 236 = .ok (.aload_n 0, 1) := by decide +kernel
theorem d_law_237 : decode code 237 = .ok (.iload 4, 2) := by decide +kernel
theorem d_law_239 : decode code 239 = .ok (.iconst 3, 1) := by decide +kernel
theorem d_law_240 : decode code 240 = .ok (.iadd, 1) := by decide +kernel
theorem d_law_241 : decode code 241 = .ok (.iaload, 1) := by decide +kernel
theorem d_law_242 : decode code 242 = .ok (.invokevirtual 83, 3) := by decide +kernel
theorem d_law_245 : decode code 245 = .ok (.goto 739, 3) := by decide +kernel
theorem d_law_248 : decode code 248 = .ok (.aload_n 1, 1) := by decide +kernel
theorem d_law_249 : decode code 249 = .ok (.aload_n 0, 1) := by decide +kernel
theorem d_law_250 : decode code 250 = .ok (.iload 4, 2) := by decide +kernel
theorem d_law_252 : decode code 252 = .ok (.iconst 1, 1) := by decide +kernel
theorem d_law_253 : decode code 253 = .ok (.iadd, 1) := by decide +kernel
theorem d_law_254 : decode code 254 = .ok (.iaload, 1) := by decide +kernel
theorem d_law_255 : decode code 255 = .ok (.aload_n 0, 1) := by decide +kernel
theorem d_law_256 : decode code 256 = .ok (.iload 4, 2) := by decide +kernel
theorem d_law_258 : decode code 258 = .ok (.iconst 2, 1) := by decide +kernel
theorem d_law_259 : decode code 259 = .ok (.iadd, 1) := by decide +kernel
theorem d_law_260 : decode code 260 = .ok (.iaload, 1) := by decide +kernel
theorem d_law_261 : decode code 261 = .ok (.aload_n 3, 1) := by decide +kernel
theorem d_law_262 : decode code 262 = .ok (.invokestatic 84, 3) := by decide +kernel
theorem d_law_265 : decode code 265 = .ok (.istore 5, 2) := by decide +kernel
theorem d_law_267 : decode code 267 = .ok (.aload_n 2, 1) := by decide +kernel
theorem d_law_268 : decode code 268 = .ok (.aload_n 0, 1) := by decide +kernel
theorem d_law_269 : decode code 269 = .ok (.iload 4, 2) := by decide +kernel
theorem d_law_271 : decode code 271 = .ok (.iconst 1, 1) := by decide +kernel
theorem d_law_272 : decode code 272 = .ok (.iadd, 1) := by decide +kernel
theorem d_law_273 : decode code 273 = .ok (.iaload, 1) := by decide +kernel
theorem d_law_274 : decode code 274 = .ok (.aload_n 0, 1) := by decide +kernel
theorem d_law_275 : decode code 275 = .ok (.iload 4, 2) := by decide +kernel
theorem d_law_277 : decode code 277 = .ok (.iconst 2, 1) := by decide +kernel
theorem d_law_278 : decode code 278 = .ok (.iadd, 1) := by decide +kernel
theorem d_law_279 : decode code 279 = .ok (.iaload, 1) := by decide +kernel
theorem d_law_280 : decode code 280 = .ok (.invokevirtual 87, 3) := by decide +kernel
theorem d_law_283 : decode code 283 = .ok (.istore 6, 2) := by decide +kernel
theorem d_law_285 : decode code 285 = .ok (.goto 699, 3) := by decide +kernel
theorem d_law_288 : decode code 288 = .ok (.aload_n 1, 1) := by decide +kernel
theorem d_law_289 : decode code 289 = .ok (.aload_n 0, 1) := by decide +kernel
theorem d_law_290 : decode code 290 = .ok (.iload 4, 2) := by decide +kernel
theorem d_law_292 : decode code 292 = .ok (.iconst 1, 1) := by decide +kernel
theorem d_law_293 : decode code 293 = .ok (.iadd, 1) := by decide +kernel
theorem d_law_294 : decode code 294 = .ok (.iaload, 1) := by decide +kernel
theorem d_law_295 : decode code 295 = .ok (.aload_n 0, 1) := by decide +kernel
theorem d_law_296 : decode code 296 = .ok (.iload 4, 2) := by decide +kernel
theorem d_law_298 : decode code 298 = .ok (.iconst 2, 1) := by decide +kernel
theorem d_law_299 : decode code 299 = .ok (.iadd, 1) := by decide +kernel
theorem d_law_300 : decode code 300 = .ok (.iaload, 1) := by decide +kernel
theorem d_law_301 : decode code 301 = .ok (.aload_n 0, 1) := by decide +kernel
theorem d_law_302 : decode code 302 = .ok (.iload 4, 2) := by decide +kernel
theorem d_law_304 : decode code 304 = .ok (.iconst 3, 1) := by decide +kernel
theorem d_law_305 : decode code 305 = .ok (.iadd, 1) := by decide +kernel
theorem d_law_306 : decode code 306 = .ok (.iaload, 1) := by decide +kernel
theorem d_law_307 : decode code 307 = .ok (.aload_n 3, 1) := by decide +kernel
theorem d_law_308 : decode code 308 = .ok (.invokestatic 88, 3) := by decide +kernel
theorem d_law_311 : decode code 311 = .ok (.istore 5, 2) := by decide +kernel
theorem d_law_313 : decode code 313 = .ok (.aload_n 2, 1) := by decide +kernel
theorem d_law_314 : decode code 314 = .ok (.aload_n 0, 1) := by decide +kernel
theorem d_law_315 : decode code 315 = .ok (.iload 4, 2) := by decide +kernel
theorem d_law_317 : decode code 317 = .ok (.iconst 1, 1) := by decide +kernel
theorem d_law_318 : decode code 318 = .ok (.iadd, 1) := by decide +kernel
theorem d_law_319 : decode code 319 = .ok (.iaload, 1) := by decide +kernel
theorem d_law_320 : decode code 320 = .ok (.aload_n 0, 1) := by decide +kernel
theorem d_law_321 : decode code 321 = .ok (.iload 4, 2) := by decide +kernel
theorem d_law_323 : decode code 323 = .ok (.iconst 2, 1) := by decide +kernel
theorem d_law_324 : decode code 324 = .ok (.iadd, 1) := by decide +kernel
theorem d_law_325 : decode code 325 = .ok (.iaload, 1) := by decide +kernel
theorem d_law_326 : decode code 326 = .ok (.aload_n 0, 1) := by decide +kernel
theorem d_law_327 : decode code 327 = .ok (.iload 4, 2) := by decide +kernel
theorem d_law_329 : decode code 329 = .ok (.iconst 3, 1) := by decide +kernel
theorem d_law_330 : decode code 330 = .ok (.iadd, 1) := by decide +kernel
theorem d_law_331 : decode code 331 = .ok (.iaload, 1) := by decide +kernel
theorem d_law_332 : decode code 332 = .ok (.invokevirtual 90, 3) := by decide +kernel
theorem d_law_335 : decode code 335 = .ok (.istore 6, 2) := by decide +kernel
theorem d_law_337 : decode code 337 = .ok (.goto 647, 3) := by decide +kernel
theorem d_law_340 : decode code 340 = .ok (.aload_n 1, 1) := by decide +kernel
theorem d_law_341 : decode code 341 = .ok (.aload_n 0, 1) := by decide +kernel
theorem d_law_342 : decode code 342 = .ok (.iload 4, 2) := by decide +kernel
theorem d_law_344 : decode code 344 = .ok (.iconst 1, 1) := by decide +kernel
theorem d_law_345 : decode code 345 = .ok (.iadd, 1) := by decide +kernel
theorem d_law_346 : decode code 346 = .ok (.iaload, 1) := by decide +kernel
theorem d_law_347 : decode code 347 = .ok (.aload_n 0, 1) := by decide +kernel
theorem d_law_348 : decode code 348 = .ok (.iload 4, 2) := by decide +kernel
theorem d_law_350 : decode code 350 = .ok (.iconst 2, 1) := by decide +kernel
theorem d_law_351 : decode code 351 = .ok (.iadd, 1) := by decide +kernel
theorem d_law_352 : decode code 352 = .ok (.iaload, 1) := by decide +kernel
theorem d_law_353 : decode code 353 = .ok (.aload_n 0, 1) := by decide +kernel
theorem d_law_354 : decode code 354 = .ok (.iload 4, 2) := by decide +kernel
theorem d_law_356 : decode code 356 = .ok (.iconst 3, 1) := by decide +kernel
theorem d_law_357 : decode code 357 = .ok (.iadd, 1) := by decide +kernel
theorem d_law_358 : decode code 358 = .ok (.iaload, 1) := by decide +kernel
theorem d_law_359 : decode code 359 = .ok (.aload_n 0, 1) := by decide +kernel
theorem d_law_360 : decode code 360 = .ok (.iload 4, 2) := by decide +kernel
theorem d_law_362 : decode code 362 = .ok (.iconst 4, 1) := by decide +kernel
theorem d_law_363 : decode code 363 = .ok (.iadd, 1) := by decide +kernel
theorem d_law_364 : decode code 364 = .ok (.iaload, 1) := by decide +kernel
theorem d_law_365 : decode code 365 = .ok (.aload_n 0, 1) := by decide +kernel
theorem d_law_366 : decode code 366 = .ok (.iload 4, 2) := by decide +kernel
theorem d_law_368 : decode code 368 = .ok (.iconst 5, 1) := by decide +kernel
theorem d_law_369 : decode code 369 = .ok (.iadd, 1) := by decide +kernel
theorem d_law_370 : decode code 370 = .ok (.iaload, 1) := by decide +kernel
theorem d_law_371 : decode code 371 = .ok (.aload_n 3, 1) := by decide +kernel
theorem d_law_372 : decode code 372 = .ok (.invokestatic 91, 3) := by decide +kernel
theorem d_law_375 : decode code 375 = .ok (.istore 5, 2) := by decide +kernel
theorem d_law_377 : decode code 377 = .ok (.aload_n 2, 1) := by decide +kernel
theorem d_law_378 : decode code 378 = .ok (.aload_n 0, 1) := by decide +kernel
theorem d_law_379 : decode code 379 = .ok (.iload 4, 2) := by decide +kernel
theorem d_law_381 : decode code 381 = .ok (.iconst 1, 1) := by decide +kernel
theorem d_law_382 : decode code 382 = .ok (.iadd, 1) := by decide +kernel
theorem d_law_383 : decode code 383 = .ok (.iaload, 1) := by decide +kernel
theorem d_law_384 : decode code 384 = .ok (.aload_n 0, 1) := by decide +kernel
theorem d_law_385 : decode code 385 = .ok (.iload 4, 2) := by decide +kernel
theorem d_law_387 : decode code 387 = .ok (.iconst 2, 1) := by decide +kernel
theorem d_law_388 : decode code 388 = .ok (.iadd, 1) := by decide +kernel
theorem d_law_389 : decode code 389 = .ok (.iaload, 1) := by decide +kernel
theorem d_law_390 : decode code 390 = .ok (.aload_n 0, 1) := by decide +kernel
theorem d_law_391 : decode code 391 = .ok (.iload 4, 2) := by decide +kernel
theorem d_law_393 : decode code 393 = .ok (.iconst 3, 1) := by decide +kernel
theorem d_law_394 : decode code 394 = .ok (.iadd, 1) := by decide +kernel
theorem d_law_395 : decode code 395 = .ok (.iaload, 1) := by decide +kernel
theorem d_law_396 : decode code 396 = .ok (.aload_n 0, 1) := by decide +kernel
theorem d_law_397 : decode code 397 = .ok (.iload 4, 2) := by decide +kernel
theorem d_law_399 : decode code 399 = .ok (.iconst 4, 1) := by decide +kernel
theorem d_law_400 : decode code 400 = .ok (.iadd, 1) := by decide +kernel
theorem d_law_401 : decode code 401 = .ok (.iaload, 1) := by decide +kernel
theorem d_law_402 : decode code 402 = .ok (.aload_n 0, 1) := by decide +kernel
theorem d_law_403 : decode code 403 = .ok (.iload 4, 2) := by decide +kernel
theorem d_law_405 : decode code 405 = .ok (.iconst 5, 1) := by decide +kernel
theorem d_law_406 : decode code 406 = .ok (.iadd, 1) := by decide +kernel
theorem d_law_407 : decode code 407 = .ok (.iaload, 1) := by decide +kernel
theorem d_law_408 : decode code 408 = .ok (.invokevirtual 94, 3) := by decide +kernel
theorem d_law_411 : decode code 411 = .ok (.istore 6, 2) := by decide +kernel
theorem d_law_413 : decode code 413 = .ok (.goto 571, 3) := by decide +kernel
theorem d_law_416 : decode code 416 = .ok (.aload_n 1, 1) := by decide +kernel
theorem d_law_417 : decode code 417 = .ok (.aload_n 0, 1) := by decide +kernel
theorem d_law_418 : decode code 418 = .ok (.iload 4, 2) := by decide +kernel
theorem d_law_420 : decode code 420 = .ok (.iconst 1, 1) := by decide +kernel
theorem d_law_421 : decode code 421 = .ok (.iadd, 1) := by decide +kernel
theorem d_law_422 : decode code 422 = .ok (.iaload, 1) := by decide +kernel
theorem d_law_423 : decode code 423 = .ok (.aload_n 0, 1) := by decide +kernel
theorem d_law_424 : decode code 424 = .ok (.iload 4, 2) := by decide +kernel
theorem d_law_426 : decode code 426 = .ok (.iconst 2, 1) := by decide +kernel
theorem d_law_427 : decode code 427 = .ok (.iadd, 1) := by decide +kernel
theorem d_law_428 : decode code 428 = .ok (.iaload, 1) := by decide +kernel
theorem d_law_429 : decode code 429 = .ok (.aload_n 0, 1) := by decide +kernel
theorem d_law_430 : decode code 430 = .ok (.iload 4, 2) := by decide +kernel
theorem d_law_432 : decode code 432 = .ok (.iconst 3, 1) := by decide +kernel
theorem d_law_433 : decode code 433 = .ok (.iadd, 1) := by decide +kernel
theorem d_law_434 : decode code 434 = .ok (.iaload, 1) := by decide +kernel
theorem d_law_435 : decode code 435 = .ok (.aload_n 3, 1) := by decide +kernel
theorem d_law_436 : decode code 436 = .ok (.invokestatic 95, 3) := by decide +kernel
theorem d_law_439 : decode code 439 = .ok (.istore 5, 2) := by decide +kernel
theorem d_law_441 : decode code 441 = .ok (.aload_n 2, 1) := by decide +kernel
theorem d_law_442 : decode code 442 = .ok (.aload_n 0, 1) := by decide +kernel
theorem d_law_443 : decode code 443 = .ok (.iload 4, 2) := by decide +kernel
theorem d_law_445 : decode code 445 = .ok (.iconst 1, 1) := by decide +kernel
theorem d_law_446 : decode code 446 = .ok (.iadd, 1) := by decide +kernel
theorem d_law_447 : decode code 447 = .ok (.iaload, 1) := by decide +kernel
theorem d_law_448 : decode code 448 = .ok (.aload_n 0, 1) := by decide +kernel
theorem d_law_449 : decode code 449 = .ok (.iload 4, 2) := by decide +kernel
theorem d_law_451 : decode code 451 = .ok (.iconst 2, 1) := by decide +kernel
theorem d_law_452 : decode code 452 = .ok (.iadd, 1) := by decide +kernel
theorem d_law_453 : decode code 453 = .ok (.iaload, 1) := by decide +kernel
theorem d_law_454 : decode code 454 = .ok (.aload_n 0, 1) := by decide +kernel
theorem d_law_455 : decode code 455 = .ok (.iload 4, 2) := by decide +kernel
theorem d_law_457 : decode code 457 = .ok (.iconst 3, 1) := by decide +kernel
theorem d_law_458 : decode code 458 = .ok (.iadd, 1) := by decide +kernel
theorem d_law_459 : decode code 459 = .ok (.iaload, 1) := by decide +kernel
theorem d_law_460 : decode code 460 = .ok (.invokevirtual 97, 3) := by decide +kernel
theorem d_law_463 : decode code 463 = .ok (.istore 6, 2) := by decide +kernel
theorem d_law_465 : decode code 465 = .ok (.goto 519, 3) := by decide +kernel
theorem d_law_468 : decode code 468 = .ok (.aload_n 1, 1) := by decide +kernel
theorem d_law_469 : decode code 469 = .ok (.aload_n 0, 1) := by decide +kernel
theorem d_law_470 : decode code 470 = .ok (.iload 4, 2) := by decide +kernel
theorem d_law_472 : decode code 472 = .ok (.iconst 1, 1) := by decide +kernel
theorem d_law_473 : decode code 473 = .ok (.iadd, 1) := by decide +kernel
theorem d_law_474 : decode code 474 = .ok (.iaload, 1) := by decide +kernel
theorem d_law_475 : decode code 475 = .ok (.aload_n 0, 1) := by decide +kernel
theorem d_law_476 : decode code 476 = .ok (.iload 4, 2) := by decide +kernel
theorem d_law_478 : decode code 478 = .ok (.iconst 2, 1) := by decide +kernel
theorem d_law_479 : decode code 479 = .ok (.iadd, 1) := by decide +kernel
theorem d_law_480 : decode code 480 = .ok (.iaload, 1) := by decide +kernel
theorem d_law_481 : decode code 481 = .ok (.aload_n 0, 1) := by decide +kernel
theorem d_law_482 : decode code 482 = .ok (.iload 4, 2) := by decide +kernel
theorem d_law_484 : decode code 484 = .ok (.iconst 3, 1) := by decide +kernel
theorem d_law_485 : decode code 485 = .ok (.iadd, 1) := by decide +kernel
theorem d_law_486 : decode code 486 = .ok (.iaload, 1) := by decide +kernel
theorem d_law_487 : decode code 487 = .ok (.aload_n 3, 1) := by decide +kernel
theorem d_law_488 : decode code 488 = .ok (.invokestatic 98, 3) := by decide +kernel
theorem d_law_491 : decode code 491 = .ok (.istore 5, 2) := by decide +kernel
theorem d_law_493 : decode code 493 = .ok (.aload_n 2, 1) := by decide +kernel
theorem d_law_494 : decode code 494 = .ok (.aload_n 0, 1) := by decide +kernel
theorem d_law_495 : decode code 495 = .ok (.iload 4, 2) := by decide +kernel
theorem d_law_497 : decode code 497 = .ok (.iconst 1, 1) := by decide +kernel
theorem d_law_498 : decode code 498 = .ok (.iadd, 1) := by decide +kernel
theorem d_law_499 : decode code 499 = .ok (.iaload, 1) := by decide +kernel
theorem d_law_500 : decode code 500 = .ok (.aload_n 0, 1) := by decide +kernel
theorem d_law_501 : decode code 501 = .ok (.iload 4, 2) := by decide +kernel
theorem d_law_503 : decode code 503 = .ok (.iconst 2, 1) := by decide +kernel
theorem d_law_504 : decode code 504 = .ok (.iadd, 1) := by decide +kernel
theorem d_law_505 : decode code 505 = .ok (.iaload, 1) := by decide +kernel
theorem d_law_506 : decode code 506 = .ok (.aload_n 0, 1) := by decide +kernel
theorem d_law_507 : decode code 507 = .ok (.iload 4, 2) := by decide +kernel
theorem d_law_509 : decode code 509 = .ok (.iconst 3, 1) := by decide +kernel
theorem d_law_510 : decode code 510 = .ok (.iadd, 1) := by decide +kernel
theorem d_law_511 : decode code 511 = .ok (.iaload, 1) := by decide +kernel
theorem d_law_512 : decode code 512 = .ok (.invokevirtual 100, 3) := by decide +kernel
theorem d_law_515 : decode code 515 = .ok (.istore 6, 2) := by decide +kernel
theorem d_law_517 : decode code 517 = .ok (.goto 467, 3) := by decide +kernel
theorem d_law_520 : decode code 520 = .ok (.aload_n 1, 1) := by decide +kernel
theorem d_law_521 : decode code 521 = .ok (.aload_n 0, 1) := by decide +kernel
theorem d_law_522 : decode code 522 = .ok (.iload 4, 2) := by decide +kernel
theorem d_law_524 : decode code 524 = .ok (.iconst 1, 1) := by decide +kernel
theorem d_law_525 : decode code 525 = .ok (.iadd, 1) := by decide +kernel
theorem d_law_526 : decode code 526 = .ok (.iaload, 1) := by decide +kernel
theorem d_law_527 : decode code 527 = .ok (.aload_n 0, 1) := by decide +kernel
theorem d_law_528 : decode code 528 = .ok (.iload 4, 2) := by decide +kernel
theorem d_law_530 : decode code 530 = .ok (.iconst 2, 1) := by decide +kernel
theorem d_law_531 : decode code 531 = .ok (.iadd, 1) := by decide +kernel
theorem d_law_532 : decode code 532 = .ok (.iaload, 1) := by decide +kernel
theorem d_law_533 : decode code 533 = .ok (.aload_n 0, 1) := by decide +kernel
theorem d_law_534 : decode code 534 = .ok (.iload 4, 2) := by decide +kernel
theorem d_law_536 : decode code 536 = .ok (.iconst 3, 1) := by decide +kernel
theorem d_law_537 : decode code 537 = .ok (.iadd, 1) := by decide +kernel
theorem d_law_538 : decode code 538 = .ok (.iaload, 1) := by decide +kernel
theorem d_law_539 : decode code 539 = .ok (.aload_n 0, 1) := by decide +kernel
theorem d_law_540 : decode code 540 = .ok (.iload 4, 2) := by decide +kernel
theorem d_law_542 : decode code 542 = .ok (.iconst 4, 1) := by decide +kernel
theorem d_law_543 : decode code 543 = .ok (.iadd, 1) := by decide +kernel
theorem d_law_544 : decode code 544 = .ok (.iaload, 1) := by decide +kernel
theorem d_law_545 : decode code 545 = .ok (.aload_n 3, 1) := by decide +kernel
theorem d_law_546 : decode code 546 = .ok (.invokestatic 101, 3) := by decide +kernel
theorem d_law_549 : decode code 549 = .ok (.istore 5, 2) := by decide +kernel
theorem d_law_551 : decode code 551 = .ok (.aload_n 2, 1) := by decide +kernel
theorem d_law_552 : decode code 552 = .ok (.aload_n 0, 1) := by decide +kernel
theorem d_law_553 : decode code 553 = .ok (.iload 4, 2) := by decide +kernel
theorem d_law_555 : decode code 555 = .ok (.iconst 1, 1) := by decide +kernel
theorem d_law_556 : decode code 556 = .ok (.iadd, 1) := by decide +kernel
theorem d_law_557 : decode code 557 = .ok (.iaload, 1) := by decide +kernel
theorem d_law_558 : decode code 558 = .ok (.aload_n 0, 1) := by decide +kernel
theorem d_law_559 : decode code 559 = .ok (.iload 4, 2) := by decide +kernel
theorem d_law_561 : decode code 561 = .ok (.iconst 2, 1) := by decide +kernel
theorem d_law_562 : decode code 562 = .ok (.iadd, 1) := by decide +kernel
theorem d_law_563 : decode code 563 = .ok (.iaload, 1) := by decide +kernel
theorem d_law_564 : decode code 564 = .ok (.aload_n 0, 1) := by decide +kernel
theorem d_law_565 : decode code 565 = .ok (.iload 4, 2) := by decide +kernel
theorem d_law_567 : decode code 567 = .ok (.iconst 3, 1) := by decide +kernel
theorem d_law_568 : decode code 568 = .ok (.iadd, 1) := by decide +kernel
theorem d_law_569 : decode code 569 = .ok (.iaload, 1) := by decide +kernel
theorem d_law_570 : decode code 570 = .ok (.aload_n 0, 1) := by decide +kernel
theorem d_law_571 : decode code 571 = .ok (.iload 4, 2) := by decide +kernel
theorem d_law_573 : decode code 573 = .ok (.iconst 4, 1) := by decide +kernel
theorem d_law_574 : decode code 574 = .ok (.iadd, 1) := by decide +kernel
theorem d_law_575 : decode code 575 = .ok (.iaload, 1) := by decide +kernel
theorem d_law_576 : decode code 576 = .ok (.invokevirtual 104, 3) := by decide +kernel
theorem d_law_579 : decode code 579 = .ok (.istore 6, 2) := by decide +kernel
theorem d_law_581 : decode code 581 = .ok (.goto 403, 3) := by decide +kernel
theorem d_law_584 : decode code 584 = .ok (.aload_n 1, 1) := by decide +kernel
theorem d_law_585 : decode code 585 = .ok (.aload_n 0, 1) := by decide +kernel
theorem d_law_586 : decode code 586 = .ok (.iload 4, 2) := by decide +kernel
theorem d_law_588 : decode code 588 = .ok (.iconst 1, 1) := by decide +kernel
theorem d_law_589 : decode code 589 = .ok (.iadd, 1) := by decide +kernel
theorem d_law_590 : decode code 590 = .ok (.iaload, 1) := by decide +kernel
theorem d_law_591 : decode code 591 = .ok (.aload_n 0, 1) := by decide +kernel
theorem d_law_592 : decode code 592 = .ok (.iload 4, 2) := by decide +kernel
theorem d_law_594 : decode code 594 = .ok (.iconst 2, 1) := by decide +kernel
theorem d_law_595 : decode code 595 = .ok (.iadd, 1) := by decide +kernel
theorem d_law_596 : decode code 596 = .ok (.iaload, 1) := by decide +kernel
theorem d_law_597 : decode code 597 = .ok (.aload_n 0, 1) := by decide +kernel
theorem d_law_598 : decode code 598 = .ok (.iload 4, 2) := by decide +kernel
theorem d_law_600 : decode code 600 = .ok (.iconst 3, 1) := by decide +kernel
theorem d_law_601 : decode code 601 = .ok (.iadd, 1) := by decide +kernel
theorem d_law_602 : decode code 602 = .ok (.iaload, 1) := by decide +kernel
theorem d_law_603 : decode code 603 = .ok (.aload_n 0, 1) := by decide +kernel
theorem d_law_604 : decode code 604 = .ok (.iload 4, 2) := by decide +kernel
theorem d_law_606 : decode code 606 = .ok (.iconst 4, 1) := by decide +kernel
theorem d_law_607 : decode code 607 = .ok (.iadd, 1) := by decide +kernel
theorem d_law_608 : decode code 608 = .ok (.iaload, 1) := by decide +kernel
theorem d_law_609 : decode code 609 = .ok (.aload_n 3, 1) := by decide +kernel
theorem d_law_610 : decode code 610 = .ok (.invokestatic 105, 3) := by decide +kernel
theorem d_law_613 : decode code 613 = .ok (.istore 5, 2) := by decide +kernel
theorem d_law_615 : decode code 615 = .ok (.aload_n 2, 1) := by decide +kernel
theorem d_law_616 : decode code 616 = .ok (.aload_n 0, 1) := by decide +kernel
theorem d_law_617 : decode code 617 = .ok (.iload 4, 2) := by decide +kernel
theorem d_law_619 : decode code 619 = .ok (.iconst 1, 1) := by decide +kernel
theorem d_law_620 : decode code 620 = .ok (.iadd, 1) := by decide +kernel
theorem d_law_621 : decode code 621 = .ok (.iaload, 1) := by decide +kernel
theorem d_law_622 : decode code 622 = .ok (.aload_n 0, 1) := by decide +kernel
theorem d_law_623 : decode code 623 = .ok (.iload 4, 2) := by decide +kernel
theorem d_law_625 : decode code 625 = .ok (.iconst 2, 1) := by decide +kernel
theorem d_law_626 : decode code 626 = .ok (.iadd, 1) := by decide +kernel
theorem d_law_627 : decode code 627 = .ok (.iaload, 1) := by decide +kernel
theorem d_law_628 : decode code 628 = .ok (.aload_n 0, 1) := by decide +kernel
theorem d_law_629 : decode code 629 = .ok (.iload 4, 2) := by decide +kernel
theorem d_law_631 : decode code 631 = .ok (.iconst 3, 1) := by decide +kernel
theorem d_law_632 : decode code 632 = .ok (.iadd, 1) := by decide +kernel
theorem d_law_633 : decode code 633 = .ok (.iaload, 1) := by decide +kernel
theorem d_law_634 : decode code 634 = .ok (.aload_n 0, 1) := by decide +kernel
theorem d_law_635 : decode code 635 = .ok (.iload 4, 2) := by decide +kernel
theorem d_law_637 : decode code 637 = .ok (.iconst 4, 1) := by decide +kernel
theorem d_law_638 : decode code 638 = .ok (.iadd, 1) := by decide +kernel
theorem d_law_639 : decode code 639 = .ok (.iaload, 1) := by decide +kernel
theorem d_law_640 : decode code 640 = .ok (.invokevirtual 107, 3) := by decide +kernel
theorem d_law_643 : decode code 643 = .ok (.istore 6, 2) := by decide +kernel
theorem d_law_645 : decode code 645 = .ok (.goto 339, 3) := by decide +kernel
theorem d_law_648 : decode code 648 = .ok (.aload_n 1, 1) := by decide +kernel
theorem d_law_649 : decode code 649 = .ok (.aload_n 0, 1) := by decide +kernel
theorem d_law_650 : decode code 650 = .ok (.iload 4, 2) := by decide +kernel
theorem d_law_652 : decode code 652 = .ok (.iconst 1, 1) := by decide +kernel
theorem d_law_653 : decode code 653 = .ok (.iadd, 1) := by decide +kernel
theorem d_law_654 : decode code 654 = .ok (.iaload, 1) := by decide +kernel
theorem d_law_655 : decode code 655 = .ok (.aload_n 0, 1) := by decide +kernel
theorem d_law_656 : decode code 656 = .ok (.iload 4, 2) := by decide +kernel
theorem d_law_658 : decode code 658 = .ok (.iconst 2, 1) := by decide +kernel
theorem d_law_659 : decode code 659 = .ok (.iadd, 1) := by decide +kernel
theorem d_law_660 : decode code 660 = .ok (.iaload, 1) := by decide +kernel
theorem d_law_661 : decode code 661 = .ok (.aload_n 0, 1) := by decide +kernel
theorem d_law_662 : decode code 662 = .ok (.iload 4, 2) := by decide +kernel
theorem d_law_664 : decode code 664 = .ok (.iconst 3, 1) := by decide +kernel
theorem d_law_665 : decode code 665 = .ok (.iadd, 1) := by decide +kernel
theorem d_law_666 : decode code 666 = .ok (.iaload, 1) := by decide +kernel
theorem d_law_667 : decode code 667 = .ok (.aload_n 3, 1) := by decide +kernel
theorem d_law_668 : decode code 668 = .ok (.invokestatic 108, 3) := by decide +kernel
theorem d_law_671 : decode code 671 = .ok (.istore 5, 2) := by decide +kernel
theorem d_law_673 : decode code 673 = .ok (.aload_n 2, 1) := by decide +kernel
theorem d_law_674 : decode code 674 = .ok (.aload_n 0, 1) := by decide +kernel
theorem d_law_675 : decode code 675 = .ok (.iload 4, 2) := by decide +kernel
theorem d_law_677 : decode code 677 = .ok (.iconst 1, 1) := by decide +kernel
theorem d_law_678 : decode code 678 = .ok (.iadd, 1) := by decide +kernel
theorem d_law_679 : decode code 679 = .ok (.iaload, 1) := by decide +kernel
theorem d_law_680 : decode code 680 = .ok (.aload_n 0, 1) := by decide +kernel
theorem d_law_681 : decode code 681 = .ok (.iload 4, 2) := by decide +kernel
theorem d_law_683 : decode code 683 = .ok (.iconst 2, 1) := by decide +kernel
theorem d_law_684 : decode code 684 = .ok (.iadd, 1) := by decide +kernel
theorem d_law_685 : decode code 685 = .ok (.iaload, 1) := by decide +kernel
theorem d_law_686 : decode code 686 = .ok (.aload_n 0, 1) := by decide +kernel
theorem d_law_687 : decode code 687 = .ok (.iload 4, 2) := by decide +kernel
theorem d_law_689 : decode code 689 = .ok (.iconst 3, 1) := by decide +kernel
theorem d_law_690 : decode code 690 = .ok (.iadd, 1) := by decide +kernel
theorem d_law_691 : decode code 691 = .ok (.iaload, 1) := by decide +kernel
theorem d_law_692 : decode code 692 = .ok (.invokevirtual 110, 3) := by decide +kernel
theorem d_law_695 : decode code 695 = .ok (.istore 6, 2) := by decide +kernel
theorem d_law_697 : decode code 697 = .ok (.goto 287, 3) := by decide +kernel
theorem d_law_700 : decode code 700 = .ok (.aload_n 1, 1) := by decide +kernel
theorem d_law_701 : decode code 701 = .ok (.aload_n 0, 1) := by decide +kernel
theorem d_law_702 : decode code 702 = .ok (.iload 4, 2) := by decide +kernel
theorem d_law_704 : decode code 704 = .ok (.iconst 1, 1) := by decide +kernel
theorem d_law_705 : decode code 705 = .ok (.iadd, 1) := by decide +kernel
theorem d_law_706 : decode code 706 = .ok (.iaload, 1) := by decide +kernel
theorem d_law_707 : decode code 707 = .ok (.aload_n 0, 1) := by decide +kernel
theorem d_law_708 : decode code 708 = .ok (.iload 4, 2) := by decide +kernel
theorem d_law_710 : decode code 710 = .ok (.iconst 2, 1) := by decide +kernel
theorem d_law_711 : decode code 711 = .ok (.iadd, 1) := by decide +kernel
theorem d_law_712 : decode code 712 = .ok (.iaload, 1) := by decide +kernel
theorem d_law_713 : decode code 713 = .ok (.aload_n 3, 1) := by decide +kernel
theorem d_law_714 : decode code 714 = .ok (.invokestatic 111, 3) := by decide +kernel
theorem d_law_717 : decode code 717 = .ok (.istore 5, 2) := by decide +kernel
theorem d_law_719 : decode code 719 = .ok (.aload_n 2, 1) := by decide +kernel
theorem d_law_720 : decode code 720 = .ok (.aload_n 0, 1) := by decide +kernel
theorem d_law_721 : decode code 721 = .ok (.iload 4, 2) := by decide +kernel
theorem d_law_723 : decode code 723 = .ok (.iconst 1, 1) := by decide +kernel
theorem d_law_724 : decode code 724 = .ok (.iadd, 1) := by decide +kernel
theorem d_law_725 : decode code 725 = .ok (.iaload, 1) := by decide +kernel
theorem d_law_726 : decode code 726 = .ok (.aload_n 0, 1) := by decide +kernel
theorem d_law_727 : decode code 727 = .ok (.iload 4, 2) := by decide +kernel
theorem d_law_729 : decode code 729 = .ok (.iconst 2, 1) := by decide +kernel
theorem d_law_730 : decode code 730 = .ok (.iadd, 1) := by decide +kernel
theorem d_law_731 : decode code 731 = .ok (.iaload, 1) := by decide +kernel
theorem d_law_732 : decode code 732 = .ok (.invokevirtual 113, 3) := by decide +kernel
theorem d_law_735 : decode code 735 = .ok (.istore 6, 2) := by decide +kernel
theorem d_law_737 : decode code 737 = .ok (.goto 247, 3) := by decide +kernel
theorem d_law_740 : decode code 740 = .ok (.aload_n 1, 1) := by decide +kernel
theorem d_law_741 : decode code 741 = .ok (.aload_n 0, 1) := by decide +kernel
theorem d_law_742 : decode code 742 = .ok (.iload 4, 2) := by decide +kernel
theorem d_law_744 : decode code 744 = .ok (.iconst 1, 1) := by decide +kernel
theorem d_law_745 : decode code 745 = .ok (.iadd, 1) := by decide +kernel
theorem d_law_746 : decode code 746 = .ok (.iaload, 1) := by decide +kernel
theorem d_law_747 : decode code 747 = .ok (.aload_n 0, 1) := by decide +kernel
theorem d_law_748 : decode code 748 = .ok (.iload 4, 2) := by decide +kernel
theorem d_law_750 : decode code 750 = .ok (.iconst 2, 1) := by decide +kernel
theorem d_law_751 : decode code 751 = .ok (.iadd, 1) := by decide +kernel
theorem d_law_752 : decode code 752 = .ok (.iaload, 1) := by decide +kernel
theorem d_law_753 : decode code 753 = .ok (.aload_n 3, 1) := by decide +kernel
theorem d_law_754 : decode code 754 = .ok (.invokestatic 114, 3) := by decide +kernel
theorem d_law_757 : decode code 757 = .ok (.istore 5, 2) := by decide +kernel
theorem d_law_759 : decode code 759 = .ok (.aload_n 2, 1) := by decide +kernel
theorem d_law_760 : decode code 760 = .ok (.aload_n 0, 1) := by decide +kernel
theorem d_law_761 : decode code 761 = .ok (.iload 4, 2) := by decide +kernel
theorem d_law_763 : decode code 763 = .ok (.iconst 1, 1) := by decide +kernel
theorem d_law_764 : decode code 764 = .ok (.iadd, 1) := by decide +kernel
theorem d_law_765 : decode code 765 = .ok (.iaload, 1) := by decide +kernel
theorem d_law_766 : decode code 766 = .ok (.aload_n 0, 1) := by decide +kernel
theorem d_law_767 : decode code 767 = .ok (.iload 4, 2) := by decide +kernel
theorem d_law_769 : decode code 769 = .ok (.iconst 2, 1) := by decide +kernel
theorem d_law_770 : decode code 770 = .ok (.iadd, 1) := by decide +kernel
theorem d_law_771 : decode code 771 = .ok (.iaload, 1) := by decide +kernel
theorem d_law_772 : decode code 772 = .ok (.invokevirtual 116, 3) := by decide +kernel
theorem d_law_775 : decode code 775 = .ok (.istore 6, 2) := by decide +kernel
theorem d_law_777 : decode code 777 = .ok (.goto 207, 3) := by decide +kernel
theorem d_law_780 : decode code 780 = .ok (.aload_n 1, 1) := by decide +kernel
theorem d_law_781 : decode code 781 = .ok (.aload_n 0, 1) := by decide +kernel
theorem d_law_782 : decode code 782 = .ok (.iload 4, 2) := by decide +kernel
theorem d_law_784 : decode code 784 = .ok (.iconst 1, 1) := by decide +kernel
theorem d_law_785 : decode code 785 = .ok (.iadd, 1) := by decide +kernel
theorem d_law_786 : decode code 786 = .ok (.iaload, 1) := by decide +kernel
theorem d_law_787 : decode code 787 = .ok (.aload_n 3, 1) := by decide +kernel
theorem d_law_788 : decode code 788 = .ok (.invokestatic 117, 3) := by decide +kernel
theorem d_law_791 : decode code 791 = .ok (.istore 5, 2) := by decide +kernel
theorem d_law_793 : decode code 793 = .ok (.aload_n 2, 1) := by decide +kernel
theorem d_law_794 : decode code 794 = .ok (.aload_n 0, 1) := by decide +kernel
theorem d_law_795 : decode code 795 = .ok (.iload 4, 2) := by decide +kernel
theorem d_law_797 : decode code 797 = .ok (.iconst 1, 1) := by decide +kernel
theorem d_law_798 : decode code 798 = .ok (.iadd, 1) := by decide +kernel
theorem d_law_799 : decode code 799 = .ok (.iaload, 1) := by decide +kernel
theorem d_law_800 : decode code 800 = .ok (.invokevirtual 120, 3) := by decide +kernel
theorem d_law_803 : decode code 803 = .ok (.istore 6, 2) := by decide +kernel
theorem d_law_805 : decode code 805 = .ok (.goto 179, 3) := by decide +kernel
theorem d_law_808 : decode code 808 = .ok (.aload_n 1, 1) := by decide +kernel
theorem d_law_809 : decode code 809 = .ok (.aload_n 0, 1) := by decide +kernel
theorem d_law_810 : decode code 810 = .ok (.iload 4, 2) := by decide +kernel
theorem d_law_812 : decode code 812 = .ok (.iconst 1, 1) := by decide +kernel
theorem d_law_813 : decode code 813 = .ok (.iadd, 1) := by decide +kernel
theorem d_law_814 : decode code 814 = .ok (.iaload, 1) := by decide +kernel
theorem d_law_815 : decode code 815 = .ok (.invokevirtual 121, 3) := by decide +kernel
theorem d_law_818 : decode code 818 = .ok (.pop, 1) := by decide +kernel
theorem d_law_819 : decode code 819 = .ok (.aload_n 2, 1) := by decide +kernel
theorem d_law_820 : decode code 820 = .ok (.aload_n 0, 1) := by decide +kernel
theorem d_law_821 : decode code 821 = .ok (.iload 4, 2) := by decide +kernel
theorem d_law_823 : decode code 823 = .ok (.iconst 1, 1) := by decide +kernel
theorem d_law_824 : decode code 824 = .ok (.iadd, 1) := by decide +kernel
theorem d_law_825 : decode code 825 = .ok (.iaload, 1) := by decide +kernel
theorem d_law_826 : decode code 826 = .ok (.invokevirtual 124, 3) := by decide +kernel
theorem d_law_829 : decode code 829 = .ok (.pop, 1) := by decide +kernel
theorem d_law_830 : decode code 830 = .ok (.goto 154, 3) := by decide +kernel
theorem d_law_833 : decode code 833 = .ok (.aload_n 1, 1) := by decide +kernel
theorem d_law_834 : decode code 834 = .ok (.aload_n 0, 1) := by decide +kernel
theorem d_law_835 : decode code 835 = .ok (.iload 4, 2) := by decide +kernel
theorem d_law_837 : decode code 837 = .ok (.iconst 1, 1) := by decide +kernel
theorem d_law_838 : decode code 838 = .ok (.iadd, 1) := by decide +kernel
theorem d_law_839 : decode code 839 = .ok (.iaload, 1) := by decide +kernel
theorem d_law_840 : decode code 840 = .ok (.aload_n 0, 1) := by decide +kernel
theorem d_law_841 : decode code 841 = .ok (.iload 4, 2) := by decide +kernel
theorem d_law_843 : decode code 843 = .ok (.iconst 2, 1) := by decide +kernel
theorem d_law_844 : decode code 844 = .ok (.iadd, 1) := by decide +kernel
theorem d_law_845 : decode code 845 = .ok (.iaload, 1) := by decide +kernel
theorem d_law_846 : decode code 846 = .ok (.invokevirtual 125, 3) := by decide +kernel
theorem d_law_849 : decode code 849 = .ok (.pop, 1) := by decide +kernel
theorem d_law_850 : decode code 850 = .ok (.aload_n 2, 1) := by decide +kernel
theorem d_law_851 : decode code 851 = .ok (.aload_n 0, 1) := by decide +kernel
theorem d_law_852 : decode code 852 = .ok (.iload 4, 2) := by decide +kernel
theorem d_law_854 : decode code 854 = .ok (.iconst 1, 1) := by decide +kernel
theorem d_law_855 : decode code 855 = .ok (.iadd, 1) := by decide +kernel
theorem d_law_856 : decode code 856 = .ok (.iaload, 1) := by decide +kernel
theorem d_law_857 : decode code 857 = .ok (.aload_n 0, 1) := by decide +kernel
theorem d_law_858 : decode code 858 = .ok (.iload 4, 2) := by decide +kernel
theorem d_law_860 : decode code 860 = .ok (.iconst 2, 1) := by decide +kernel
theorem d_law_861 : decode code 861 = .ok (.iadd, 1) := by decide +kernel
theorem d_law_862 : decode code 862 = .ok (.iaload, 1) := by decide +kernel
theorem d_law_863 : decode code 863 = .ok (.invokevirtual 128, 3) := by decide +kernel
theorem d_law_866 : decode code 866 = .ok (.pop, 1) := by decide +kernel
theorem d_law_867 : decode code 867 = .ok (.goto 117, 3) := by decide +kernel
theorem d_law_870 : decode code 870 = .ok (.aload_n 1, 1) := by decide +kernel
theorem d_law_871 : decode code 871 = .ok (.aload_n 0, 1) := by decide +kernel
theorem d_law_872 : decode code 872 = .ok (.iload 4, 2) := by decide +kernel
theorem d_law_874 : decode code 874 = .ok (.iconst 1, 1) := by decide +kernel
theorem d_law_875 : decode code 875 = .ok (.iadd, 1) := by decide +kernel
theorem d_law_876 : decode code 876 = .ok (.iaload, 1) := by decide +kernel
theorem d_law_877 : decode code 877 = .ok (.aload_n 0, 1) := by decide +kernel
theorem d_law_878 : decode code 878 = .ok (.iload 4, 2) := by decide +kernel
theorem d_law_880 : decode code 880 = .ok (.iconst 2, 1) := by decide +kernel
theorem d_law_881 : decode code 881 = .ok (.iadd, 1) := by decide +kernel
theorem d_law_882 : decode code 882 = .ok (.iaload, 1) := by decide +kernel
theorem d_law_883 : decode code 883 = .ok (.invokevirtual 129, 3) := by decide +kernel
theorem d_law_886 : decode code 886 = .ok (.pop, 1) := by decide +kernel
theorem d_law_887 : decode code 887 = .ok (.aload_n 2, 1) := by decide +kernel
theorem d_law_888 : decode code 888 = .ok (.aload_n 0, 1) := by decide +kernel
theorem d_law_889 : decode code 889 = .ok (.iload 4, 2) := by decide +kernel
theorem d_law_891 : decode code 891 = .ok (.iconst 1, 1) := by decide +kernel
theorem d_law_892 : decode code 892 = .ok (.iadd, 1) := by decide +kernel
theorem d_law_893 : decode code 893 = .ok (.iaload, 1) := by decide +kernel
theorem d_law_894 : decode code 894 = .ok (.aload_n 0, 1) := by decide +kernel
theorem d_law_895 : decode code 895 = .ok (.iload 4, 2) := by decide +kernel
theorem d_law_897 : decode code 897 = .ok (.iconst 2, 1) := by decide +kernel
theorem d_law_898 : decode code 898 = .ok (.iadd, 1) := by decide +kernel
theorem d_law_899 : decode code 899 = .ok (.iaload, 1) := by decide +kernel
theorem d_law_900 : decode code 900 = .ok (.invokevirtual 133, 3) := by decide +kernel
theorem d_law_903 : decode code 903 = .ok (.pop, 1) := by decide +kernel
theorem d_law_904 : decode code 904 = .ok (.goto 80, 3) := by decide +kernel
theorem d_law_907 : decode code 907 = .ok (.aload_n 1, 1) := by decide +kernel
theorem d_law_908 : decode code 908 = .ok (.invokestatic 134, 3) := by decide +kernel
theorem d_law_911 : decode code 911 = .ok (.istore 5, 2) := by decide +kernel
theorem d_law_913 : decode code 913 = .ok (.aload_n 2, 1) := by decide +kernel
theorem d_law_914 : decode code 914 = .ok (.invokevirtual 137, 3) := by decide +kernel
theorem d_law_917 : decode code 917 = .ok (.aload_n 2, 1) := by decide +kernel
theorem d_law_918 : decode code 918 = .ok (.invokevirtual 138, 3) := by decide +kernel
theorem d_law_921 : decode code 921 = .ok (.iload 5, 2) := by decide +kernel
theorem d_law_923 : decode code 923 = .ok (.if_icmp .eq 5, 3) := by decide +kernel
theorem d_law_926 : decode code 926 = .ok (.iconst 0, 1) := by decide +kernel
theorem d_law_927 : decode code 927 = .ok (.ireturn, 1) := by decide +kernel
theorem d_law_928 : decode code 928 = .ok (.goto 56, 3) := by decide +kernel
theorem d_law_931 : decode code 931 = .ok (.aload_n 1, 1) := by decide +kernel
theorem d_law_932 : decode code 932 = .ok (.aload_n 0, 1) := by decide +kernel
theorem d_law_933 : decode code 933 = .ok (.iload 4, 2) := by decide +kernel
theorem d_law_935 : decode code 935 = .ok (.iconst 1, 1) := by decide +kernel
theorem d_law_936 : decode code 936 = .ok (.iadd, 1) := by decide +kernel
theorem d_law_937 : decode code 937 = .ok (.iaload, 1) := by decide +kernel
theorem d_law_938 : decode code 938 = .ok (.aload_n 3, 1) := by decide +kernel
theorem d_law_939 : decode code 939 = .ok (.invokestatic 142, 3) := by decide +kernel
theorem d_law_942 : decode code 942 = .ok (.istore 5, 2) := by decide +kernel
theorem d_law_944 : decode code 944 = .ok (.aload_n 2, 1) := by decide +kernel
theorem d_law_945 : decode code 945 = .ok (.aload_n 0, 1) := by decide +kernel
theorem d_law_946 : decode code 946 = .ok (.iload 4, 2) := by decide +kernel
theorem d_law_948 : decode code 948 = .ok (.iconst 1, 1) := by decide +kernel
theorem d_law_949 : decode code 949 = .ok (.iadd, 1) := by decide +kernel
theorem d_law_950 : decode code 950 = .ok (.iaload, 1) := by decide +kernel
theorem d_law_951 : decode code 951 = .ok (.invokevirtual 144, 3) := by decide +kernel
theorem d_law_954 : decode code 954 = .ok (.istore 6, 2) := by decide +kernel
theorem d_law_956 : decode code 956 = .ok (.goto 28, 3) := by decide +kernel
theorem d_law_959 : decode code 959 = .ok (.aload_n 1, 1) := by decide +kernel
theorem d_law_960 : decode code 960 = .ok (.aload_n 0, 1) := by decide +kernel
theorem d_law_961 : decode code 961 = .ok (.iload 4, 2) := by decide +kernel
theorem d_law_963 : decode code 963 = .ok (.iconst 1, 1) := by decide +kernel
theorem d_law_964 : decode code 964 = .ok (.iadd, 1) := by decide +kernel
theorem d_law_965 : decode code 965 = .ok (.iaload, 1) := by decide +kernel
theorem d_law_966 : decode code 966 = .ok (.invokevirtual 145, 3) := by decide +kernel
theorem d_law_969 : decode code 969 = .ok (.pop, 1) := by decide +kernel
theorem d_law_970 : decode code 970 = .ok (.aload_n 2, 1) := by decide +kernel
theorem d_law_971 : decode code 971 = .ok (.aload_n 0, 1) := by decide +kernel
theorem d_law_972 : decode code 972 = .ok (.iload 4, 2) := by decide +kernel
theorem d_law_974 : decode code 974 = .ok (.iconst 1, 1) := by decide +kernel
theorem d_law_975 : decode code 975 = .ok (.iadd, 1) := by decide +kernel
theorem d_law_976 : decode code 976 = .ok (.iaload, 1) := by decide +kernel
theorem d_law_977 : decode code 977 = .ok (.invokevirtual 148, 3) := by decide +kernel
theorem d_law_980 : decode code 980 = .ok (.pop, 1) := by decide +kernel
theorem d_law_981 : decode code 981 = .ok (.goto 3, 3) := by decide +kernel
theorem d_law_984 : decode code 984 = .ok (.iinc 4 6, 3) := by decide +kernel
theorem d_law_987 : decode code 987 = .ok (.goto (-964), 3) := by decide +kernel
theorem d_law_990 : decode code 990 = .ok (.iconst 1, 1) := by decide +kernel
theorem d_law_991 : decode code 991 = .ok (.ireturn, 1) := by decide +kernel
def lwM0 (B : Nat) : gMem := (fun _ => none, B, 0)
def lwL (B : Nat) : Nat × Nat := (B + 601024, 7293034)
abbrev lvI (b a0 mo o : Nat) (i : Int32) : List (Nat × Value) := [(4, .int i), (3, .ref o), (2, .ref mo), (1, .ref a0), (0, .ref b)]
theorem lw_rm (B : Nat) : room_1.cells = (lwL B).1 - (lwM0 B).2.1 ∧ room_1.slots = (lwL B).2 - (lwM0 B).2.2 := ⟨by show 601024 = B + 601024 - B; omega, rfl⟩
def LInv (cs : Nat → ClassId) (dE : Nat × Nat) (B mo o : Nat) (ad : Nat → Nat) (q : Nat) (σ : mSt) (M : gMem) : Prop := JX cs (lwL B) dE (Az B) q σ M ∧ RepMo cs mo ad σ M ∧ (∃ f, M.1 o = some (oC cs f)) ∧ cLe (lwL B) (lwM0 B) M
def LCtx (p : Program) (l : Launch) (s : State) (m : MethodId) (c : Code) (D : va_G) (cs : Nat → ClassId) (dE : Nat × Nat) (b L : Nat) (xs : Nat → Int32) : Prop := CallFix p m c code 7 s #[Value.ref b] gT R_law ∧ gEnv D gcl (gtys cs) gz s.heap.size dE s ∧ va_X b L xs s s.heap ∧ b < s.heap.size ∧ L ≤ 3072 ∧ l.flags = pinnedFlags ++ [noTraceFlag]
def LW (p : Program) (l : Launch) (e : Env) (s : State) (m : MethodId) (below : List Frame) (meth : Method) (c : Code) (D : va_G) (b pc : Nat) (lv : List (Nat × Value)) (M : gMem) : Prop := GW p l e room_1 s m #[Value.ref b] below meth c 7 (gA s.heap.size) (lw_Z below #[Value.ref b] s) (gR D gcl s.heap.size M) (M.2.1 - (lwM0 s.heap.size).2.1) (M.2.2 - (lwM0 s.heap.size).2.2) pc lv []
def LGo (p : Program) (l : Launch) (e : Env) (s : State) (m : MethodId) (below : List Frame) (meth : Method) (c : Code) (D : va_G) (cs : Nat → ClassId) (dE : Nat × Nat) (b mo o : Nat) (ad : Nat → Nat) (q : Nat) : Prop := ∀ (σ : mSt) (M : gMem), LInv cs dE s.heap.size mo o ad q σ M → LW p l e s m below meth c D b 23 (lvI b s.heap.size mo o (nI (6 * (512 - q)))) M
theorem nI_t {n : Nat} (h : n < 2147483648) : (nI n).toInt = n := nI_toI (by omega)
theorem lw_in {N L k : Nat} (kk : Int32) (hk : kk.toInt = (k : Int)) (h : N + k < L) (hL : L ≤ 3072) : vp_in (nI N + kk) L := by
  have e1 : (nI N).toInt = N := nI_t (by omega)
  have e2 : (nI N + kk).toInt = N + k := by
    rw [Int32.toInt_add, e1, hk]
    exact Int.bmod_eq_of_le (by omega) (by omega)
  unfold vp_in
  rw [Int32.lt_iff_toInt_lt, e2]
  have e3 : (nI N + kk).toNatClampNeg = N + k := by
    show (nI N + kk).toInt.toNat = _
    rw [e2]
    omega
  rw [e3]
  have e0 : (0 : Int32).toInt = 0 := rfl
  rw [e0]
  omega
theorem lw_in0 {N L : Nat} (h : N < L) (hL : L ≤ 3072) : vp_in (nI N) L := by
  have := lw_in (N := N) (k := 0) 0 rfl (by omega) hL
  rwa [Int32.add_zero] at this
theorem Same2.w {wc : Nat × Int32 × gMem} {wm : Int32 × mSt} (h : Same2 wc wm) : wc.1 = 0 ∨ wc.1 = 1 ∨ wc.1 = 2 := by
  rcases h with h | h | h
  · exact Or.inl h.1
  · exact Or.inr (Or.inl h.1)
  · exact Or.inr (Or.inr h.1)
theorem Same2.eq {wc : Nat × Int32 × gMem} {wm : Int32 × mSt} (h : Same2 wc wm) : wm.2.1 4 = wk wc.1 := by
  rcases h with h | h | h
  · rw [h.1, h.2.1]; rfl
  · rw [h.1, h.2]; rfl
  · rw [h.1, h.2]; rfl
theorem Same2.val {wc : Nat × Int32 × gMem} {wm : Int32 × mSt} (h : Same2 wc wm) (h0 : wk wc.1 = 0) : wc.1 = 0 ∧ wc.2.1 = wm.1 := by
  rcases h with h | h | h
  · exact ⟨h.1, h.2.2⟩
  · rw [h.1] at h0; cases h0
  · rw [h.1] at h0; cases h0
theorem Same3.w {wc : Nat × Int32 × gMem} {wm : Int32 × mSt} (h : Same3 wc wm) : wc.1 = 0 ∨ wc.1 = 1 ∨ wc.1 = 2 ∨ wc.1 = 3 := by
  rcases h with h | h | h | h
  · exact Or.inl h.1
  · exact Or.inr (Or.inl h.1)
  · exact Or.inr (Or.inr (Or.inl h.1))
  · exact Or.inr (Or.inr (Or.inr h.1))
theorem Same3.eq {wc : Nat × Int32 × gMem} {wm : Int32 × mSt} (h : Same3 wc wm) : wm.2.1 4 = wk wc.1 := by
  rcases h with h | h | h | h
  · rw [h.1, h.2.1]; rfl
  · rw [h.1, h.2]; rfl
  · rw [h.1, h.2]; rfl
  · rw [h.1, h.2]; rfl
theorem Same3.val {wc : Nat × Int32 × gMem} {wm : Int32 × mSt} (h : Same3 wc wm) (h0 : wk wc.1 = 0) : wc.1 = 0 ∧ wc.2.1 = wm.1 := by
  rcases h with h | h | h | h
  · exact ⟨h.1, h.2.2⟩
  · rw [h.1] at h0; cases h0
  · rw [h.1] at h0; cases h0
  · rw [h.1] at h0; cases h0
theorem ws_e {a : Nat} {z : Int32} (h : (a = 0 ∧ z = 0) ∨ (a = 1 ∧ z = 1)) : z = ws a := by
  rcases h with h | h
  · rw [h.1, h.2]; rfl
  · rw [h.1, h.2]; rfl
theorem ws_s {a : Nat} {z : Int32} (h : (a = 0 ∧ z = 0) ∨ (a = 2 ∧ z = 1)) : z = ws a := by
  rcases h with h | h
  · rw [h.1, h.2]; rfl
  · rw [h.1, h.2]; rfl
theorem oC_ne {cs : Nat → ClassId} {f : Nat → Int64} : (oC cs f).1 ≠ 1 := by show (2 : Nat) ≠ 1; decide
theorem oC_lt {cs : Nat → ClassId} {f : Nat → Int64} : (oC cs f).1 < 600 := by show (2 : Nat) < 600; decide
theorem l_out {cs : Nat → ClassId} {lim dE : Nat × Nat} {A : Ad} {q : Nat} {σ σ' : mSt} {o mo : Nat} {ad : Nat → Nat} {f0 : Nat → Int64} {g : Nat → Int32} {w : Nat × Int32 × gMem} {x : gOut} {M1 : gMem} (h : wQ cs o g w x M1) (J : JX cs lim dE A q σ' w.2.2) (hrep : RepMo cs mo ad σ w.2.2) (ho : w.2.2.1 o = some (oC cs f0)) : x = .inl (some (.int (g w.1))) ∧ JX cs lim dE A q σ' M1 ∧ RepMo cs mo ad σ M1 ∧ ∃ f : Nat → Int64, M1.1 o = some (oC cs f) ∧ (w.1 = 0 → f 0 = w.2.1.toInt64) := by
  obtain ⟨hx, ⟨h0, f, hf, rfl⟩ | ⟨h0, rfl⟩⟩ := h
  · exact ⟨hx, J.still (Stl.put J.mok ho oC_ne oC_ne) rfl, hrep.up ho oC_lt, f, gup_s, fun _ => hf⟩
  · exact ⟨hx, J, hrep, f0, ho, fun z => (h0 z).elim⟩
section LW1
variable {p : Program} {l : Launch} {e : Env} {s : State} {m : MethodId} {below : List Frame} {meth : Method} {c : Code} {D : va_G} {cs : Nat → ClassId} {dE : Nat × Nat} {b L mo o q : Nat} {xs : Nat → Int32} {ad : Nat → Nat} {σ : mSt} {M : gMem}
theorem lc_end {f : Nat → Int64} (X : LCtx p l s m c D cs dE b L xs) (hq : q + 1 ≤ 512) (J : JX cs (lwL s.heap.size) dE (Az s.heap.size) q σ M) (hrep : RepMo cs mo ad σ M) (ho : M.1 o = some (oC cs f)) (hle : cLe (lwL s.heap.size) (lwM0 s.heap.size) M) (go : LGo p l e s m below meth c D cs dE b mo o ad q) : LW p l e s m below meth c D b 984 (lvI b s.heap.size mo o (nI (6 * (512 - (q + 1))))) M := by
  obtain ⟨C, hE, hX, hbl, hL, hf⟩ := X
  have hv : nI (6 * (512 - (q + 1))) + Int32.ofInt 6 = nI (6 * (512 - q)) := by
    rw [show 6 * (512 - q) = 6 * (512 - (q + 1)) + 6 by omega]
    unfold nI
    rw [Int32.ofNat_add]
    rfl
  refine g_iinc (v := nI (6 * (512 - q))) (lv' := lvI b s.heap.size mo o (nI (6 * (512 - q)))) C d_law_984 rfl hv (by decide) rfl ?_
  refine g_goto C 23 d_law_987 (by decide) ?_
  exact go σ M ⟨J, hrep, ⟨f, ho⟩, hle⟩
theorem lc_fin5 {P : Nat} {off : Int} {x : Int32} {f : Nat → Int64} (hd : decode code P = .ok (.goto off, 3)) (ht : (P : Int) + off = ((984 : Nat) : Int)) (X : LCtx p l s m c D cs dE b L xs) (hq : q + 1 ≤ 512) (J : JX cs (lwL s.heap.size) dE (Az s.heap.size) q σ M) (hrep : RepMo cs mo ad σ M) (ho : M.1 o = some (oC cs f)) (hle : cLe (lwL s.heap.size) (lwM0 s.heap.size) M) (go : LGo p l e s m below meth c D cs dE b mo o ad q) : LW p l e s m below meth c D b P ((5, .int x) :: lvI b s.heap.size mo o (nI (6 * (512 - (q + 1))))) M := by
  refine g_goto X.1 984 hd ht ?_
  refine GW.subl [1, 2, 3, 4, 5] rfl ?_
  exact lc_end X hq J hrep ho hle go
theorem lc_fin6 {P : Nat} {off : Int} {x y : Int32} {f : Nat → Int64} (hd : decode code P = .ok (.goto off, 3)) (ht : (P : Int) + off = ((984 : Nat) : Int)) (X : LCtx p l s m c D cs dE b L xs) (hq : q + 1 ≤ 512) (J : JX cs (lwL s.heap.size) dE (Az s.heap.size) q σ M) (hrep : RepMo cs mo ad σ M) (ho : M.1 o = some (oC cs f)) (hle : cLe (lwL s.heap.size) (lwM0 s.heap.size) M) (go : LGo p l e s m below meth c D cs dE b mo o ad q) : LW p l e s m below meth c D b P ((6, .int y) :: (5, .int x) :: lvI b s.heap.size mo o (nI (6 * (512 - (q + 1))))) M := by
  refine g_goto X.1 984 hd ht ?_
  refine GW.subl [2, 3, 4, 5, 6] rfl ?_
  exact lc_end X hq J hrep ho hle go
theorem lc_fin0 {P : Nat} {off : Int} {f : Nat → Int64} (hd : decode code P = .ok (.goto off, 3)) (ht : (P : Int) + off = ((984 : Nat) : Int)) (X : LCtx p l s m c D cs dE b L xs) (hq : q + 1 ≤ 512) (J : JX cs (lwL s.heap.size) dE (Az s.heap.size) q σ M) (hrep : RepMo cs mo ad σ M) (ho : M.1 o = some (oC cs f)) (hle : cLe (lwL s.heap.size) (lwM0 s.heap.size) M) (go : LGo p l e s m below meth c D cs dE b mo o ad q) : LW p l e s m below meth c D b P (lvI b s.heap.size mo o (nI (6 * (512 - (q + 1))))) M := by
  refine g_goto X.1 984 hd ht ?_
  exact lc_end X hq J hrep ho hle go
end LW1
