theorem dL_law_0 : decode cL_law 0 = .ok (.new 7, 3) := by decide +kernel
theorem dL_law_3 : decode cL_law 3 = .ok (.dup, 1) := by decide +kernel
theorem dL_law_4 : decode cL_law 4 = .ok (.invokespecial 9, 3) := by decide +kernel
theorem dL_law_7 : decode cL_law 7 = .ok (.astore_n 1, 1) := by decide +kernel
theorem dL_law_8 : decode cL_law 8 = .ok (.new 10, 3) := by decide +kernel
theorem dL_law_11 : decode cL_law 11 = .ok (.dup, 1) := by decide +kernel
theorem dL_law_12 : decode cL_law 12 = .ok (.invokespecial 12, 3) := by decide +kernel
theorem dL_law_15 : decode cL_law 15 = .ok (.astore_n 2, 1) := by decide +kernel
theorem dL_law_16 : decode cL_law 16 = .ok (.iconst 0, 1) := by decide +kernel
theorem dL_law_17 : decode cL_law 17 = .ok (.istore_n 3, 1) := by decide +kernel
theorem dL_law_18 : decode cL_law 18 = .ok (.iload_n 3, 1) := by decide +kernel
theorem dL_law_19 : decode cL_law 19 = .ok (.aload_n 0, 1) := by decide +kernel
theorem dL_law_20 : decode cL_law 20 = .ok (.arraylength, 1) := by decide +kernel
theorem dL_law_21 : decode cL_law 21 = .ok (.bipush 6, 2) := by decide +kernel
theorem dL_law_23 : decode cL_law 23 = .ok (.isub, 1) := by decide +kernel
theorem dL_law_24 : decode cL_law 24 = .ok (.if_icmp .gt 942, 3) := by decide +kernel
theorem dL_law_27 : decode cL_law 27 = .ok (.aload_n 0, 1) := by decide +kernel
theorem dL_law_28 : decode cL_law 28 = .ok (.iload_n 3, 1) := by decide +kernel
theorem dL_law_29 : decode cL_law 29 = .ok (.iaload, 1) := by decide +kernel
theorem dL_law_30 : decode cL_law 30 = .ok (.bipush 31, 2) := by decide +kernel
theorem dL_law_32 : decode cL_law 32 = .ok (.iand, 1) := by decide +kernel
theorem dL_law_33 : decode cL_law 33 = .ok (.tableswitch 927 0 26 #[123, 146, 159, 172, 185, 218, 241, 264, 287, 330, 353, 366, 409, 432, 465, 488, 511, 574, 637, 650, 663, 712, 781, 835, 858, 881, 904], 123) := by decide +kernel
theorem dL_law_156 : decode cL_law 156 = .ok (.aload_n 1, 1) := by decide +kernel
theorem dL_law_157 : decode cL_law 157 = .ok (.aload_n 0, 1) := by decide +kernel
theorem dL_law_158 : decode cL_law 158 = .ok (.iload_n 3, 1) := by decide +kernel
theorem dL_law_159 : decode cL_law 159 = .ok (.iconst 1, 1) := by decide +kernel
theorem dL_law_160 : decode cL_law 160 = .ok (.iadd, 1) := by decide +kernel
theorem dL_law_161 : decode cL_law 161 = .ok (.iaload, 1) := by decide +kernel
theorem dL_law_162 : decode cL_law 162 = .ok (.invokevirtual 13, 3) := by decide +kernel
theorem dL_law_165 : decode cL_law 165 = .ok (.aload_n 2, 1) := by decide +kernel
theorem dL_law_166 : decode cL_law 166 = .ok (.aload_n 0, 1) := by decide +kernel
theorem dL_law_167 : decode cL_law 167 = .ok (.iload_n 3, 1) := by decide +kernel
theorem dL_law_168 : decode cL_law 168 = .ok (.iconst 1, 1) := by decide +kernel
theorem dL_law_169 : decode cL_law 169 = .ok (.iadd, 1) := by decide +kernel
theorem dL_law_170 : decode cL_law 170 = .ok (.iaload, 1) := by decide +kernel
theorem dL_law_171 : decode cL_law 171 = .ok (.invokevirtual 17, 3) := by decide +kernel
theorem dL_law_174 : decode cL_law 174 = .ok (.if_icmp .eq 786, 3) := by decide +kernel
theorem dL_law_177 : decode cL_law 177 = .ok (.iconst 0, 1) := by decide +kernel
theorem dL_law_178 : decode cL_law 178 = .ok (.ireturn, 1) := by decide +kernel
theorem dL_law_179 : decode cL_law 179 = .ok (.aload_n 1, 1) := by decide +kernel
theorem dL_law_180 : decode cL_law 180 = .ok (.invokevirtual 18, 3) := by decide +kernel
theorem dL_law_183 : decode cL_law 183 = .ok (.aload_n 2, 1) := by decide +kernel
theorem dL_law_184 : decode cL_law 184 = .ok (.invokevirtual 22, 3) := by decide +kernel
theorem dL_law_187 : decode cL_law 187 = .ok (.if_icmp .eq 773, 3) := by decide +kernel
theorem dL_law_190 : decode cL_law 190 = .ok (.iconst 0, 1) := by decide +kernel
theorem dL_law_191 : decode cL_law 191 = .ok (.ireturn, 1) := by decide +kernel
theorem dL_law_192 : decode cL_law 192 = .ok (.aload_n 1, 1) := by decide +kernel
theorem dL_law_193 : decode cL_law 193 = .ok (.invokevirtual 23, 3) := by decide +kernel
theorem dL_law_196 : decode cL_law 196 = .ok (.aload_n 2, 1) := by decide +kernel
theorem dL_law_197 : decode cL_law 197 = .ok (.invokevirtual 26, 3) := by decide +kernel
theorem dL_law_200 : decode cL_law 200 = .ok (.if_icmp .eq 760, 3) := by decide +kernel
theorem dL_law_203 : decode cL_law 203 = .ok (.iconst 0, 1) := by decide +kernel
theorem dL_law_204 : decode cL_law 204 = .ok (.ireturn, 1) := by decide +kernel
theorem dL_law_205 : decode cL_law 205 = .ok (.aload_n 1, 1) := by decide +kernel
theorem dL_law_206 : decode cL_law 206 = .ok (.invokevirtual 27, 3) := by decide +kernel
theorem dL_law_209 : decode cL_law 209 = .ok (.aload_n 2, 1) := by decide +kernel
theorem dL_law_210 : decode cL_law 210 = .ok (.invokevirtual 30, 3) := by decide +kernel
theorem dL_law_213 : decode cL_law 213 = .ok (.if_icmp .eq 747, 3) := by decide +kernel
theorem dL_law_216 : decode cL_law 216 = .ok (.iconst 0, 1) := by decide +kernel
theorem dL_law_217 : decode cL_law 217 = .ok (.ireturn, 1) := by decide +kernel
theorem dL_law_218 : decode cL_law 218 = .ok (.aload_n 1, 1) := by decide +kernel
theorem dL_law_219 : decode cL_law 219 = .ok (.aload_n 0, 1) := by decide +kernel
theorem dL_law_220 : decode cL_law 220 = .ok (.iload_n 3, 1) := by decide +kernel
theorem dL_law_221 : decode cL_law 221 = .ok (.iconst 1, 1) := by decide +kernel
theorem dL_law_222 : decode cL_law 222 = .ok (.iadd, 1) := by decide +kernel
theorem dL_law_223 : decode cL_law 223 = .ok (.iaload, 1) := by decide +kernel
theorem dL_law_224 : decode cL_law 224 = .ok (.aload_n 0, 1) := by decide +kernel
theorem dL_law_225 : decode cL_law 225 = .ok (.iload_n 3, 1) := by decide +kernel
theorem dL_law_226 : decode cL_law 226 = .ok (.iconst 2, 1) := by decide +kernel
theorem dL_law_227 : decode cL_law 227 = .ok (.iadd, 1) := by decide +kernel
theorem dL_law_228 : decode cL_law 228 = .ok (.iaload, 1) := by decide +kernel
theorem dL_law_229 : decode cL_law 229 = .ok (.invokevirtual 31, 3) := by decide +kernel
theorem dL_law_232 : decode cL_law 232 = .ok (.aload_n 2, 1) := by decide +kernel
theorem dL_law_233 : decode cL_law 233 = .ok (.aload_n 0, 1) := by decide +kernel
theorem dL_law_234 : decode cL_law 234 = .ok (.iload_n 3, 1) := by decide +kernel
theorem dL_law_235 : decode cL_law 235 = .ok (.iconst 1, 1) := by decide +kernel
theorem dL_law_236 : decode cL_law 236 = .ok (.iadd, 1) := by decide +kernel
theorem dL_law_237 : decode cL_law 237 = .ok (.iaload, 1) := by decide +kernel
theorem dL_law_238 : decode cL_law 238 = .ok (.aload_n 0, 1) := by decide +kernel
theorem dL_law_239 : decode cL_law 239 = .ok (.iload_n 3, 1) := by decide +kernel
theorem dL_law_240 : decode cL_law 240 = .ok (.iconst 2, 1) := by decide +kernel
theorem dL_law_241 : decode cL_law 241 = .ok (.iadd, 1) := by decide +kernel
theorem dL_law_242 : decode cL_law 242 = .ok (.iaload, 1) := by decide +kernel
theorem dL_law_243 : decode cL_law 243 = .ok (.invokevirtual 35, 3) := by decide +kernel
theorem dL_law_246 : decode cL_law 246 = .ok (.if_icmp .eq 714, 3) := by decide +kernel
theorem dL_law_249 : decode cL_law 249 = .ok (.iconst 0, 1) := by decide +kernel
theorem dL_law_250 : decode cL_law 250 = .ok (.ireturn, 1) := by decide +kernel
theorem dL_law_251 : decode cL_law 251 = .ok (.aload_n 1, 1) := by decide +kernel
theorem dL_law_252 : decode cL_law 252 = .ok (.aload_n 0, 1) := by decide +kernel
theorem dL_law_253 : decode cL_law 253 = .ok (.iload_n 3, 1) := by decide +kernel
theorem dL_law_254 : decode cL_law 254 = .ok (.iconst 1, 1) := by decide +kernel
theorem dL_law_255 : decode cL_law 255 = .ok (.iadd, 1) := by decide +kernel
theorem dL_law_256 : decode cL_law 256 = .ok (.iaload, 1) := by decide +kernel
theorem dL_law_257 : decode cL_law 257 = .ok (.invokevirtual 36, 3) := by decide +kernel
theorem dL_law_260 : decode cL_law 260 = .ok (.aload_n 2, 1) := by decide +kernel
theorem dL_law_261 : decode cL_law 261 = .ok (.aload_n 0, 1) := by decide +kernel
theorem dL_law_262 : decode cL_law 262 = .ok (.iload_n 3, 1) := by decide +kernel
theorem dL_law_263 : decode cL_law 263 = .ok (.iconst 1, 1) := by decide +kernel
theorem dL_law_264 : decode cL_law 264 = .ok (.iadd, 1) := by decide +kernel
theorem dL_law_265 : decode cL_law 265 = .ok (.iaload, 1) := by decide +kernel
theorem dL_law_266 : decode cL_law 266 = .ok (.invokevirtual 39, 3) := by decide +kernel
theorem dL_law_269 : decode cL_law 269 = .ok (.if_icmp .eq 691, 3) := by decide +kernel
theorem dL_law_272 : decode cL_law 272 = .ok (.iconst 0, 1) := by decide +kernel
theorem dL_law_273 : decode cL_law 273 = .ok (.ireturn, 1) := by decide +kernel
theorem dL_law_274 : decode cL_law 274 = .ok (.aload_n 1, 1) := by decide +kernel
theorem dL_law_275 : decode cL_law 275 = .ok (.aload_n 0, 1) := by decide +kernel
theorem dL_law_276 : decode cL_law 276 = .ok (.iload_n 3, 1) := by decide +kernel
theorem dL_law_277 : decode cL_law 277 = .ok (.iconst 1, 1) := by decide +kernel
theorem dL_law_278 : decode cL_law 278 = .ok (.iadd, 1) := by decide +kernel
theorem dL_law_279 : decode cL_law 279 = .ok (.iaload, 1) := by decide +kernel
theorem dL_law_280 : decode cL_law 280 = .ok (.invokevirtual 40, 3) := by decide +kernel
theorem dL_law_283 : decode cL_law 283 = .ok (.aload_n 2, 1) := by decide +kernel
theorem dL_law_284 : decode cL_law 284 = .ok (.aload_n 0, 1) := by decide +kernel
theorem dL_law_285 : decode cL_law 285 = .ok (.iload_n 3, 1) := by decide +kernel
theorem dL_law_286 : decode cL_law 286 = .ok (.iconst 1, 1) := by decide +kernel
theorem dL_law_287 : decode cL_law 287 = .ok (.iadd, 1) := by decide +kernel
theorem dL_law_288 : decode cL_law 288 = .ok (.iaload, 1) := by decide +kernel
theorem dL_law_289 : decode cL_law 289 = .ok (.invokevirtual 43, 3) := by decide +kernel
theorem dL_law_292 : decode cL_law 292 = .ok (.if_icmp .eq 668, 3) := by decide +kernel
theorem dL_law_295 : decode cL_law 295 = .ok (.iconst 0, 1) := by decide +kernel
theorem dL_law_296 : decode cL_law 296 = .ok (.ireturn, 1) := by decide +kernel
theorem dL_law_297 : decode cL_law 297 = .ok (.aload_n 1, 1) := by decide +kernel
theorem dL_law_298 : decode cL_law 298 = .ok (.aload_n 0, 1) := by decide +kernel
theorem dL_law_299 : decode cL_law 299 = .ok (.iload_n 3, 1) := by decide +kernel
theorem dL_law_300 : decode cL_law 300 = .ok (.iconst 1, 1) := by decide +kernel
theorem dL_law_301 : decode cL_law 301 = .ok (.iadd, 1) := by decide +kernel
theorem dL_law_302 : decode cL_law 302 = .ok (.iaload, 1) := by decide +kernel
theorem dL_law_303 : decode cL_law 303 = .ok (.invokevirtual 44, 3) := by decide +kernel
theorem dL_law_306 : decode cL_law 306 = .ok (.aload_n 2, 1) := by decide +kernel
theorem dL_law_307 : decode cL_law 307 = .ok (.aload_n 0, 1) := by decide +kernel
theorem dL_law_308 : decode cL_law 308 = .ok (.iload_n 3, 1) := by decide +kernel
theorem dL_law_309 : decode cL_law 309 = .ok (.iconst 1, 1) := by decide +kernel
theorem dL_law_310 : decode cL_law 310 = .ok (.iadd, 1) := by decide +kernel
theorem dL_law_311 : decode cL_law 311 = .ok (.iaload, 1) := by decide +kernel
theorem dL_law_312 : decode cL_law 312 = .ok (.invokevirtual 47, 3) := by decide +kernel
theorem dL_law_315 : decode cL_law 315 = .ok (.if_icmp .eq 645, 3) := by decide +kernel
theorem dL_law_318 : decode cL_law 318 = .ok (.iconst 0, 1) := by decide +kernel
theorem dL_law_319 : decode cL_law 319 = .ok (.ireturn, 1) := by decide +kernel
theorem dL_law_320 : decode cL_law 320 = .ok (.aload_n 1, 1) := by decide +kernel
theorem dL_law_321 : decode cL_law 321 = .ok (.aload_n 0, 1) := by decide +kernel
theorem dL_law_322 : decode cL_law 322 = .ok (.iload_n 3, 1) := by decide +kernel
theorem dL_law_323 : decode cL_law 323 = .ok (.iconst 1, 1) := by decide +kernel
theorem dL_law_324 : decode cL_law 324 = .ok (.iadd, 1) := by decide +kernel
theorem dL_law_325 : decode cL_law 325 = .ok (.iaload, 1) := by decide +kernel
theorem dL_law_326 : decode cL_law 326 = .ok (.aload_n 0, 1) := by decide +kernel
theorem dL_law_327 : decode cL_law 327 = .ok (.iload_n 3, 1) := by decide +kernel
theorem dL_law_328 : decode cL_law 328 = .ok (.iconst 2, 1) := by decide +kernel
theorem dL_law_329 : decode cL_law 329 = .ok (.iadd, 1) := by decide +kernel
theorem dL_law_330 : decode cL_law 330 = .ok (.iaload, 1) := by decide +kernel
theorem dL_law_331 : decode cL_law 331 = .ok (.aload_n 0, 1) := by decide +kernel
theorem dL_law_332 : decode cL_law 332 = .ok (.iload_n 3, 1) := by decide +kernel
theorem dL_law_333 : decode cL_law 333 = .ok (.iconst 3, 1) := by decide +kernel
theorem dL_law_334 : decode cL_law 334 = .ok (.iadd, 1) := by decide +kernel
theorem dL_law_335 : decode cL_law 335 = .ok (.iaload, 1) := by decide +kernel
theorem dL_law_336 : decode cL_law 336 = .ok (.invokevirtual 48, 3) := by decide +kernel
theorem dL_law_339 : decode cL_law 339 = .ok (.aload_n 2, 1) := by decide +kernel
theorem dL_law_340 : decode cL_law 340 = .ok (.aload_n 0, 1) := by decide +kernel
theorem dL_law_341 : decode cL_law 341 = .ok (.iload_n 3, 1) := by decide +kernel
theorem dL_law_342 : decode cL_law 342 = .ok (.iconst 1, 1) := by decide +kernel
theorem dL_law_343 : decode cL_law 343 = .ok (.iadd, 1) := by decide +kernel
theorem dL_law_344 : decode cL_law 344 = .ok (.iaload, 1) := by decide +kernel
theorem dL_law_345 : decode cL_law 345 = .ok (.aload_n 0, 1) := by decide +kernel
theorem dL_law_346 : decode cL_law 346 = .ok (.iload_n 3, 1) := by decide +kernel
theorem dL_law_347 : decode cL_law 347 = .ok (.iconst 2, 1) := by decide +kernel
theorem dL_law_348 : decode cL_law 348 = .ok (.iadd, 1) := by decide +kernel
theorem dL_law_349 : decode cL_law 349 = .ok (.iaload, 1) := by decide +kernel
theorem dL_law_350 : decode cL_law 350 = .ok (.aload_n 0, 1) := by decide +kernel
theorem dL_law_351 : decode cL_law 351 = .ok (.iload_n 3, 1) := by decide +kernel
theorem dL_law_352 : decode cL_law 352 = .ok (.iconst 3, 1) := by decide +kernel
theorem dL_law_353 : decode cL_law 353 = .ok (.iadd, 1) := by decide +kernel
theorem dL_law_354 : decode cL_law 354 = .ok (.iaload, 1) := by decide +kernel
theorem dL_law_355 : decode cL_law 355 = .ok (.invokevirtual 52, 3) := by decide +kernel
theorem dL_law_358 : decode cL_law 358 = .ok (.if_icmp .eq 602, 3) := by decide +kernel
theorem dL_law_361 : decode cL_law 361 = .ok (.iconst 0, 1) := by decide +kernel
theorem dL_law_362 : decode cL_law 362 = .ok (.ireturn, 1) := by decide +kernel
theorem dL_law_363 : decode cL_law 363 = .ok (.aload_n 1, 1) := by decide +kernel
theorem dL_law_364 : decode cL_law 364 = .ok (.aload_n 0, 1) := by decide +kernel
theorem dL_law_365 : decode cL_law 365 = .ok (.iload_n 3, 1) := by decide +kernel
theorem dL_law_366 : decode cL_law 366 = .ok (.iconst 1, 1) := by decide +kernel
theorem dL_law_367 : decode cL_law 367 = .ok (.iadd, 1) := by decide +kernel
theorem dL_law_368 : decode cL_law 368 = .ok (.iaload, 1) := by decide +kernel
theorem dL_law_369 : decode cL_law 369 = .ok (.invokevirtual 53, 3) := by decide +kernel
theorem dL_law_372 : decode cL_law 372 = .ok (.aload_n 2, 1) := by decide +kernel
theorem dL_law_373 : decode cL_law 373 = .ok (.aload_n 0, 1) := by decide +kernel
theorem dL_law_374 : decode cL_law 374 = .ok (.iload_n 3, 1) := by decide +kernel
theorem dL_law_375 : decode cL_law 375 = .ok (.iconst 1, 1) := by decide +kernel
theorem dL_law_376 : decode cL_law 376 = .ok (.iadd, 1) := by decide +kernel
theorem dL_law_377 : decode cL_law 377 = .ok (.iaload, 1) := by decide +kernel
theorem dL_law_378 : decode cL_law 378 = .ok (.invokevirtual 56, 3) := by decide +kernel
theorem dL_law_381 : decode cL_law 381 = .ok (.if_icmp .eq 579, 3) := by decide +kernel
theorem dL_law_384 : decode cL_law 384 = .ok (.iconst 0, 1) := by decide +kernel
theorem dL_law_385 : decode cL_law 385 = .ok (.ireturn, 1) := by decide +kernel
theorem dL_law_386 : decode cL_law 386 = .ok (.aload_n 1, 1) := by decide +kernel
theorem dL_law_387 : decode cL_law 387 = .ok (.invokevirtual 57, 3) := by decide +kernel
theorem dL_law_390 : decode cL_law 390 = .ok (.aload_n 2, 1) := by decide +kernel
theorem dL_law_391 : decode cL_law 391 = .ok (.invokevirtual 60, 3) := by decide +kernel
theorem dL_law_394 : decode cL_law 394 = .ok (.if_icmp .eq 566, 3) := by decide +kernel
theorem dL_law_397 : decode cL_law 397 = .ok (.iconst 0, 1) := by decide +kernel
theorem dL_law_398 : decode cL_law 398 = .ok (.ireturn, 1) := by decide +kernel
theorem dL_law_399 : decode cL_law 399 = .ok (.aload_n 1, 1) := by decide +kernel
theorem dL_law_400 : decode cL_law 400 = .ok (.aload_n 0, 1) := by decide +kernel
theorem dL_law_401 : decode cL_law 401 = .ok (.iload_n 3, 1) := by decide +kernel
theorem dL_law_402 : decode cL_law 402 = .ok (.iconst 1, 1) := by decide +kernel
theorem dL_law_403 : decode cL_law 403 = .ok (.iadd, 1) := by decide +kernel
theorem dL_law_404 : decode cL_law 404 = .ok (.iaload, 1) := by decide +kernel
theorem dL_law_405 : decode cL_law 405 = .ok (.aload_n 0, 1) := by decide +kernel
theorem dL_law_406 : decode cL_law 406 = .ok (.iload_n 3, 1) := by decide +kernel
theorem dL_law_407 : decode cL_law 407 = .ok (.iconst 2, 1) := by decide +kernel
theorem dL_law_408 : decode cL_law 408 = .ok (.iadd, 1) := by decide +kernel
theorem dL_law_409 : decode cL_law 409 = .ok (.iaload, 1) := by decide +kernel
theorem dL_law_410 : decode cL_law 410 = .ok (.aload_n 0, 1) := by decide +kernel
theorem dL_law_411 : decode cL_law 411 = .ok (.iload_n 3, 1) := by decide +kernel
theorem dL_law_412 : decode cL_law 412 = .ok (.iconst 3, 1) := by decide +kernel
theorem dL_law_413 : decode cL_law 413 = .ok (.iadd, 1) := by decide +kernel
theorem dL_law_414 : decode cL_law 414 = .ok (.iaload, 1) := by decide +kernel
theorem dL_law_415 : decode cL_law 415 = .ok (.invokevirtual 61, 3) := by decide +kernel
theorem dL_law_418 : decode cL_law 418 = .ok (.aload_n 2, 1) := by decide +kernel
theorem dL_law_419 : decode cL_law 419 = .ok (.aload_n 0, 1) := by decide +kernel
theorem dL_law_420 : decode cL_law 420 = .ok (.iload_n 3, 1) := by decide +kernel
theorem dL_law_421 : decode cL_law 421 = .ok (.iconst 1, 1) := by decide +kernel
theorem dL_law_422 : decode cL_law 422 = .ok (.iadd, 1) := by decide +kernel
theorem dL_law_423 : decode cL_law 423 = .ok (.iaload, 1) := by decide +kernel
theorem dL_law_424 : decode cL_law 424 = .ok (.aload_n 0, 1) := by decide +kernel
theorem dL_law_425 : decode cL_law 425 = .ok (.iload_n 3, 1) := by decide +kernel
theorem dL_law_426 : decode cL_law 426 = .ok (.iconst 2, 1) := by decide +kernel
theorem dL_law_427 : decode cL_law 427 = .ok (.iadd, 1) := by decide +kernel
theorem dL_law_428 : decode cL_law 428 = .ok (.iaload, 1) := by decide +kernel
theorem dL_law_429 : decode cL_law 429 = .ok (.aload_n 0, 1) := by decide +kernel
theorem dL_law_430 : decode cL_law 430 = .ok (.iload_n 3, 1) := by decide +kernel
theorem dL_law_431 : decode cL_law 431 = .ok (.iconst 3, 1) := by decide +kernel
theorem dL_law_432 : decode cL_law 432 = .ok (.iadd, 1) := by decide +kernel
theorem dL_law_433 : decode cL_law 433 = .ok (.iaload, 1) := by decide +kernel
theorem dL_law_434 : decode cL_law 434 = .ok (.invokevirtual 64, 3) := by decide +kernel
theorem dL_law_437 : decode cL_law 437 = .ok (.if_icmp .eq 523, 3) := by decide +kernel
theorem dL_law_440 : decode cL_law 440 = .ok (.iconst 0, 1) := by decide +kernel
theorem dL_law_441 : decode cL_law 441 = .ok (.ireturn, 1) := by decide +kernel
theorem dL_law_442 : decode cL_law 442 = .ok (.aload_n 1, 1) := by decide +kernel
theorem dL_law_443 : decode cL_law 443 = .ok (.aload_n 0, 1) := by decide +kernel
theorem dL_law_444 : decode cL_law 444 = .ok (.iload_n 3, 1) := by decide +kernel
theorem dL_law_445 : decode cL_law 445 = .ok (.iconst 1, 1) := by decide +kernel
theorem dL_law_446 : decode cL_law 446 = .ok (.iadd, 1) := by decide +kernel
theorem dL_law_447 : decode cL_law 447 = .ok (.iaload, 1) := by decide +kernel
theorem dL_law_448 : decode cL_law 448 = .ok (.invokevirtual 65, 3) := by decide +kernel
theorem dL_law_451 : decode cL_law 451 = .ok (.aload_n 2, 1) := by decide +kernel
theorem dL_law_452 : decode cL_law 452 = .ok (.aload_n 0, 1) := by decide +kernel
theorem dL_law_453 : decode cL_law 453 = .ok (.iload_n 3, 1) := by decide +kernel
theorem dL_law_454 : decode cL_law 454 = .ok (.iconst 1, 1) := by decide +kernel
theorem dL_law_455 : decode cL_law 455 = .ok (.iadd, 1) := by decide +kernel
theorem dL_law_456 : decode cL_law 456 = .ok (.iaload, 1) := by decide +kernel
theorem dL_law_457 : decode cL_law 457 = .ok (.invokevirtual 68, 3) := by decide +kernel
theorem dL_law_460 : decode cL_law 460 = .ok (.if_icmp .eq 500, 3) := by decide +kernel
theorem dL_law_463 : decode cL_law 463 = .ok (.iconst 0, 1) := by decide +kernel
theorem dL_law_464 : decode cL_law 464 = .ok (.ireturn, 1) := by decide +kernel
theorem dL_law_465 : decode cL_law 465 = .ok (.aload_n 1, 1) := by decide +kernel
theorem dL_law_466 : decode cL_law 466 = .ok (.aload_n 0, 1) := by decide +kernel
theorem dL_law_467 : decode cL_law 467 = .ok (.iload_n 3, 1) := by decide +kernel
theorem dL_law_468 : decode cL_law 468 = .ok (.iconst 1, 1) := by decide +kernel
theorem dL_law_469 : decode cL_law 469 = .ok (.iadd, 1) := by decide +kernel
theorem dL_law_470 : decode cL_law 470 = .ok (.iaload, 1) := by decide +kernel
theorem dL_law_471 : decode cL_law 471 = .ok (.aload_n 0, 1) := by decide +kernel
theorem dL_law_472 : decode cL_law 472 = .ok (.iload_n 3, 1) := by decide +kernel
theorem dL_law_473 : decode cL_law 473 = .ok (.iconst 2, 1) := by decide +kernel
theorem dL_law_474 : decode cL_law 474 = .ok (.iadd, 1) := by decide +kernel
theorem dL_law_475 : decode cL_law 475 = .ok (.iaload, 1) := by decide +kernel
theorem dL_law_476 : decode cL_law 476 = .ok (.invokevirtual 69, 3) := by decide +kernel
theorem dL_law_479 : decode cL_law 479 = .ok (.aload_n 2, 1) := by decide +kernel
theorem dL_law_480 : decode cL_law 480 = .ok (.aload_n 0, 1) := by decide +kernel
theorem dL_law_481 : decode cL_law 481 = .ok (.iload_n 3, 1) := by decide +kernel
theorem dL_law_482 : decode cL_law 482 = .ok (.iconst 1, 1) := by decide +kernel
theorem dL_law_483 : decode cL_law 483 = .ok (.iadd, 1) := by decide +kernel
theorem dL_law_484 : decode cL_law 484 = .ok (.iaload, 1) := by decide +kernel
theorem dL_law_485 : decode cL_law 485 = .ok (.aload_n 0, 1) := by decide +kernel
theorem dL_law_486 : decode cL_law 486 = .ok (.iload_n 3, 1) := by decide +kernel
theorem dL_law_487 : decode cL_law 487 = .ok (.iconst 2, 1) := by decide +kernel
theorem dL_law_488 : decode cL_law 488 = .ok (.iadd, 1) := by decide +kernel
theorem dL_law_489 : decode cL_law 489 = .ok (.iaload, 1) := by decide +kernel
theorem dL_law_490 : decode cL_law 490 = .ok (.invokevirtual 72, 3) := by decide +kernel
theorem dL_law_493 : decode cL_law 493 = .ok (.if_icmp .eq 467, 3) := by decide +kernel
theorem dL_law_496 : decode cL_law 496 = .ok (.iconst 0, 1) := by decide +kernel
theorem dL_law_497 : decode cL_law 497 = .ok (.ireturn, 1) := by decide +kernel
theorem dL_law_498 : decode cL_law 498 = .ok (.aload_n 1, 1) := by decide +kernel
theorem dL_law_499 : decode cL_law 499 = .ok (.aload_n 0, 1) := by decide +kernel
theorem dL_law_500 : decode cL_law 500 = .ok (.iload_n 3, 1) := by decide +kernel
theorem dL_law_501 : decode cL_law 501 = .ok (.iconst 1, 1) := by decide +kernel
theorem dL_law_502 : decode cL_law 502 = .ok (.iadd, 1) := by decide +kernel
theorem dL_law_503 : decode cL_law 503 = .ok (.iaload, 1) := by decide +kernel
theorem dL_law_504 : decode cL_law 504 = .ok (.invokevirtual 73, 3) := by decide +kernel
theorem dL_law_507 : decode cL_law 507 = .ok (.aload_n 2, 1) := by decide +kernel
theorem dL_law_508 : decode cL_law 508 = .ok (.aload_n 0, 1) := by decide +kernel
theorem dL_law_509 : decode cL_law 509 = .ok (.iload_n 3, 1) := by decide +kernel
theorem dL_law_510 : decode cL_law 510 = .ok (.iconst 1, 1) := by decide +kernel
theorem dL_law_511 : decode cL_law 511 = .ok (.iadd, 1) := by decide +kernel
theorem dL_law_512 : decode cL_law 512 = .ok (.iaload, 1) := by decide +kernel
theorem dL_law_513 : decode cL_law 513 = .ok (.invokevirtual 76, 3) := by decide +kernel
theorem dL_law_516 : decode cL_law 516 = .ok (.if_icmp .eq 444, 3) := by decide +kernel
theorem dL_law_519 : decode cL_law 519 = .ok (.iconst 0, 1) := by decide +kernel
theorem dL_law_520 : decode cL_law 520 = .ok (.ireturn, 1) := by decide +kernel
theorem dL_law_521 : decode cL_law 521 = .ok (.aload_n 1, 1) := by decide +kernel
theorem dL_law_522 : decode cL_law 522 = .ok (.aload_n 0, 1) := by decide +kernel
theorem dL_law_523 : decode cL_law 523 = .ok (.iload_n 3, 1) := by decide +kernel
theorem dL_law_524 : decode cL_law 524 = .ok (.iconst 1, 1) := by decide +kernel
theorem dL_law_525 : decode cL_law 525 = .ok (.iadd, 1) := by decide +kernel
theorem dL_law_526 : decode cL_law 526 = .ok (.iaload, 1) := by decide +kernel
theorem dL_law_527 : decode cL_law 527 = .ok (.invokevirtual 77, 3) := by decide +kernel
theorem dL_law_530 : decode cL_law 530 = .ok (.aload_n 2, 1) := by decide +kernel
theorem dL_law_531 : decode cL_law 531 = .ok (.aload_n 0, 1) := by decide +kernel
theorem dL_law_532 : decode cL_law 532 = .ok (.iload_n 3, 1) := by decide +kernel
theorem dL_law_533 : decode cL_law 533 = .ok (.iconst 1, 1) := by decide +kernel
theorem dL_law_534 : decode cL_law 534 = .ok (.iadd, 1) := by decide +kernel
theorem dL_law_535 : decode cL_law 535 = .ok (.iaload, 1) := by decide +kernel
theorem dL_law_536 : decode cL_law 536 = .ok (.invokevirtual 80, 3) := by decide +kernel
theorem dL_law_539 : decode cL_law 539 = .ok (.if_icmp .eq 421, 3) := by decide +kernel
theorem dL_law_542 : decode cL_law 542 = .ok (.iconst 0, 1) := by decide +kernel
theorem dL_law_543 : decode cL_law 543 = .ok (.ireturn, 1) := by decide +kernel
theorem dL_law_544 : decode cL_law 544 = .ok (.aload_n 1, 1) := by decide +kernel
theorem dL_law_545 : decode cL_law 545 = .ok (.aload_n 0, 1) := by decide +kernel
theorem dL_law_546 : decode cL_law 546 = .ok (.iload_n 3, 1) := by decide +kernel
theorem dL_law_547 : decode cL_law 547 = .ok (.iconst 1, 1) := by decide +kernel
theorem dL_law_548 : decode cL_law 548 = .ok (.iadd, 1) := by decide +kernel
theorem dL_law_549 : decode cL_law 549 = .ok (.iaload, 1) := by decide +kernel
theorem dL_law_550 : decode cL_law 550 = .ok (.aload_n 0, 1) := by decide +kernel
theorem dL_law_551 : decode cL_law 551 = .ok (.iload_n 3, 1) := by decide +kernel
theorem dL_law_552 : decode cL_law 552 = .ok (.iconst 2, 1) := by decide +kernel
theorem dL_law_553 : decode cL_law 553 = .ok (.iadd, 1) := by decide +kernel
theorem dL_law_554 : decode cL_law 554 = .ok (.iaload, 1) := by decide +kernel
theorem dL_law_555 : decode cL_law 555 = .ok (.i2l, 1) := by decide +kernel
theorem dL_law_556 : decode cL_law 556 = .ok (.bipush 32, 2) := by decide +kernel
theorem dL_law_558 : decode cL_law 558 = .ok (.lshl, 1) := by decide +kernel
theorem dL_law_559 : decode cL_law 559 = .ok (.aload_n 0, 1) := by decide +kernel
theorem dL_law_560 : decode cL_law 560 = .ok (.iload_n 3, 1) := by decide +kernel
theorem dL_law_561 : decode cL_law 561 = .ok (.iconst 3, 1) := by decide +kernel
theorem dL_law_562 : decode cL_law 562 = .ok (.iadd, 1) := by decide +kernel
theorem dL_law_563 : decode cL_law 563 = .ok (.iaload, 1) := by decide +kernel
theorem dL_law_564 : decode cL_law 564 = .ok (.i2l, 1) := by decide +kernel
theorem dL_law_565 : decode cL_law 565 = .ok (.ldc2_w 81, 3) := by decide +kernel
theorem dL_law_568 : decode cL_law 568 = .ok (.land, 1) := by decide +kernel
theorem dL_law_569 : decode cL_law 569 = .ok (.lor, 1) := by decide +kernel
theorem dL_law_570 : decode cL_law 570 = .ok (.invokevirtual 83, 3) := by decide +kernel
theorem dL_law_573 : decode cL_law 573 = .ok (.aload_n 2, 1) := by decide +kernel
theorem dL_law_574 : decode cL_law 574 = .ok (.aload_n 0, 1) := by decide +kernel
theorem dL_law_575 : decode cL_law 575 = .ok (.iload_n 3, 1) := by decide +kernel
theorem dL_law_576 : decode cL_law 576 = .ok (.iconst 1, 1) := by decide +kernel
theorem dL_law_577 : decode cL_law 577 = .ok (.iadd, 1) := by decide +kernel
theorem dL_law_578 : decode cL_law 578 = .ok (.iaload, 1) := by decide +kernel
theorem dL_law_579 : decode cL_law 579 = .ok (.aload_n 0, 1) := by decide +kernel
theorem dL_law_580 : decode cL_law 580 = .ok (.iload_n 3, 1) := by decide +kernel
theorem dL_law_581 : decode cL_law 581 = .ok (.iconst 2, 1) := by decide +kernel
theorem dL_law_582 : decode cL_law 582 = .ok (.iadd, 1) := by decide +kernel
theorem dL_law_583 : decode cL_law 583 = .ok (.iaload, 1) := by decide +kernel
theorem dL_law_584 : decode cL_law 584 = .ok (.i2l, 1) := by decide +kernel
theorem dL_law_585 : decode cL_law 585 = .ok (.bipush 32, 2) := by decide +kernel
theorem dL_law_587 : decode cL_law 587 = .ok (.lshl, 1) := by decide +kernel
theorem dL_law_588 : decode cL_law 588 = .ok (.aload_n 0, 1) := by decide +kernel
theorem dL_law_589 : decode cL_law 589 = .ok (.iload_n 3, 1) := by decide +kernel
theorem dL_law_590 : decode cL_law 590 = .ok (.iconst 3, 1) := by decide +kernel
theorem dL_law_591 : decode cL_law 591 = .ok (.iadd, 1) := by decide +kernel
theorem dL_law_592 : decode cL_law 592 = .ok (.iaload, 1) := by decide +kernel
theorem dL_law_593 : decode cL_law 593 = .ok (.i2l, 1) := by decide +kernel
theorem dL_law_594 : decode cL_law 594 = .ok (.ldc2_w 81, 3) := by decide +kernel
theorem dL_law_597 : decode cL_law 597 = .ok (.land, 1) := by decide +kernel
theorem dL_law_598 : decode cL_law 598 = .ok (.lor, 1) := by decide +kernel
theorem dL_law_599 : decode cL_law 599 = .ok (.invokevirtual 87, 3) := by decide +kernel
theorem dL_law_602 : decode cL_law 602 = .ok (.if_icmp .eq 358, 3) := by decide +kernel
theorem dL_law_605 : decode cL_law 605 = .ok (.iconst 0, 1) := by decide +kernel
theorem dL_law_606 : decode cL_law 606 = .ok (.ireturn, 1) := by decide +kernel
theorem dL_law_607 : decode cL_law 607 = .ok (.aload_n 1, 1) := by decide +kernel
theorem dL_law_608 : decode cL_law 608 = .ok (.aload_n 0, 1) := by decide +kernel
theorem dL_law_609 : decode cL_law 609 = .ok (.iload_n 3, 1) := by decide +kernel
theorem dL_law_610 : decode cL_law 610 = .ok (.iconst 1, 1) := by decide +kernel
theorem dL_law_611 : decode cL_law 611 = .ok (.iadd, 1) := by decide +kernel
theorem dL_law_612 : decode cL_law 612 = .ok (.iaload, 1) := by decide +kernel
theorem dL_law_613 : decode cL_law 613 = .ok (.aload_n 0, 1) := by decide +kernel
theorem dL_law_614 : decode cL_law 614 = .ok (.iload_n 3, 1) := by decide +kernel
theorem dL_law_615 : decode cL_law 615 = .ok (.iconst 2, 1) := by decide +kernel
theorem dL_law_616 : decode cL_law 616 = .ok (.iadd, 1) := by decide +kernel
theorem dL_law_617 : decode cL_law 617 = .ok (.iaload, 1) := by decide +kernel
theorem dL_law_618 : decode cL_law 618 = .ok (.aload_n 0, 1) := by decide +kernel
theorem dL_law_619 : decode cL_law 619 = .ok (.iload_n 3, 1) := by decide +kernel
theorem dL_law_620 : decode cL_law 620 = .ok (.iconst 3, 1) := by decide +kernel
theorem dL_law_621 : decode cL_law 621 = .ok (.iadd, 1) := by decide +kernel
theorem dL_law_622 : decode cL_law 622 = .ok (.iaload, 1) := by decide +kernel
theorem dL_law_623 : decode cL_law 623 = .ok (.aload_n 0, 1) := by decide +kernel
theorem dL_law_624 : decode cL_law 624 = .ok (.iload_n 3, 1) := by decide +kernel
theorem dL_law_625 : decode cL_law 625 = .ok (.iconst 4, 1) := by decide +kernel
theorem dL_law_626 : decode cL_law 626 = .ok (.iadd, 1) := by decide +kernel
theorem dL_law_627 : decode cL_law 627 = .ok (.iaload, 1) := by decide +kernel
theorem dL_law_628 : decode cL_law 628 = .ok (.aload_n 0, 1) := by decide +kernel
theorem dL_law_629 : decode cL_law 629 = .ok (.iload_n 3, 1) := by decide +kernel
theorem dL_law_630 : decode cL_law 630 = .ok (.iconst 5, 1) := by decide +kernel
theorem dL_law_631 : decode cL_law 631 = .ok (.iadd, 1) := by decide +kernel
theorem dL_law_632 : decode cL_law 632 = .ok (.iaload, 1) := by decide +kernel
theorem dL_law_633 : decode cL_law 633 = .ok (.invokevirtual 88, 3) := by decide +kernel
theorem dL_law_636 : decode cL_law 636 = .ok (.aload_n 2, 1) := by decide +kernel
theorem dL_law_637 : decode cL_law 637 = .ok (.aload_n 0, 1) := by decide +kernel
theorem dL_law_638 : decode cL_law 638 = .ok (.iload_n 3, 1) := by decide +kernel
theorem dL_law_639 : decode cL_law 639 = .ok (.iconst 1, 1) := by decide +kernel
theorem dL_law_640 : decode cL_law 640 = .ok (.iadd, 1) := by decide +kernel
theorem dL_law_641 : decode cL_law 641 = .ok (.iaload, 1) := by decide +kernel
theorem dL_law_642 : decode cL_law 642 = .ok (.aload_n 0, 1) := by decide +kernel
theorem dL_law_643 : decode cL_law 643 = .ok (.iload_n 3, 1) := by decide +kernel
theorem dL_law_644 : decode cL_law 644 = .ok (.iconst 2, 1) := by decide +kernel
theorem dL_law_645 : decode cL_law 645 = .ok (.iadd, 1) := by decide +kernel
theorem dL_law_646 : decode cL_law 646 = .ok (.iaload, 1) := by decide +kernel
theorem dL_law_647 : decode cL_law 647 = .ok (.aload_n 0, 1) := by decide +kernel
theorem dL_law_648 : decode cL_law 648 = .ok (.iload_n 3, 1) := by decide +kernel
theorem dL_law_649 : decode cL_law 649 = .ok (.iconst 3, 1) := by decide +kernel
theorem dL_law_650 : decode cL_law 650 = .ok (.iadd, 1) := by decide +kernel
theorem dL_law_651 : decode cL_law 651 = .ok (.iaload, 1) := by decide +kernel
theorem dL_law_652 : decode cL_law 652 = .ok (.aload_n 0, 1) := by decide +kernel
theorem dL_law_653 : decode cL_law 653 = .ok (.iload_n 3, 1) := by decide +kernel
theorem dL_law_654 : decode cL_law 654 = .ok (.iconst 4, 1) := by decide +kernel
theorem dL_law_655 : decode cL_law 655 = .ok (.iadd, 1) := by decide +kernel
theorem dL_law_656 : decode cL_law 656 = .ok (.iaload, 1) := by decide +kernel
theorem dL_law_657 : decode cL_law 657 = .ok (.aload_n 0, 1) := by decide +kernel
theorem dL_law_658 : decode cL_law 658 = .ok (.iload_n 3, 1) := by decide +kernel
theorem dL_law_659 : decode cL_law 659 = .ok (.iconst 5, 1) := by decide +kernel
theorem dL_law_660 : decode cL_law 660 = .ok (.iadd, 1) := by decide +kernel
theorem dL_law_661 : decode cL_law 661 = .ok (.iaload, 1) := by decide +kernel
theorem dL_law_662 : decode cL_law 662 = .ok (.invokevirtual 92, 3) := by decide +kernel
theorem dL_law_665 : decode cL_law 665 = .ok (.if_icmp .eq 295, 3) := by decide +kernel
theorem dL_law_668 : decode cL_law 668 = .ok (.iconst 0, 1) := by decide +kernel
theorem dL_law_669 : decode cL_law 669 = .ok (.ireturn, 1) := by decide +kernel
theorem dL_law_670 : decode cL_law 670 = .ok (.aload_n 1, 1) := by decide +kernel
theorem dL_law_671 : decode cL_law 671 = .ok (.invokevirtual 93, 3) := by decide +kernel
theorem dL_law_674 : decode cL_law 674 = .ok (.aload_n 2, 1) := by decide +kernel
theorem dL_law_675 : decode cL_law 675 = .ok (.invokevirtual 96, 3) := by decide +kernel
theorem dL_law_678 : decode cL_law 678 = .ok (.if_icmp .eq 282, 3) := by decide +kernel
theorem dL_law_681 : decode cL_law 681 = .ok (.iconst 0, 1) := by decide +kernel
theorem dL_law_682 : decode cL_law 682 = .ok (.ireturn, 1) := by decide +kernel
theorem dL_law_683 : decode cL_law 683 = .ok (.aload_n 1, 1) := by decide +kernel
theorem dL_law_684 : decode cL_law 684 = .ok (.invokevirtual 97, 3) := by decide +kernel
theorem dL_law_687 : decode cL_law 687 = .ok (.aload_n 2, 1) := by decide +kernel
theorem dL_law_688 : decode cL_law 688 = .ok (.invokevirtual 100, 3) := by decide +kernel
theorem dL_law_691 : decode cL_law 691 = .ok (.if_icmp .eq 269, 3) := by decide +kernel
theorem dL_law_694 : decode cL_law 694 = .ok (.iconst 0, 1) := by decide +kernel
theorem dL_law_695 : decode cL_law 695 = .ok (.ireturn, 1) := by decide +kernel
theorem dL_law_696 : decode cL_law 696 = .ok (.aload_n 1, 1) := by decide +kernel
theorem dL_law_697 : decode cL_law 697 = .ok (.aload_n 0, 1) := by decide +kernel
theorem dL_law_698 : decode cL_law 698 = .ok (.iload_n 3, 1) := by decide +kernel
theorem dL_law_699 : decode cL_law 699 = .ok (.iconst 1, 1) := by decide +kernel
theorem dL_law_700 : decode cL_law 700 = .ok (.iadd, 1) := by decide +kernel
theorem dL_law_701 : decode cL_law 701 = .ok (.iaload, 1) := by decide +kernel
theorem dL_law_702 : decode cL_law 702 = .ok (.aload_n 0, 1) := by decide +kernel
theorem dL_law_703 : decode cL_law 703 = .ok (.iload_n 3, 1) := by decide +kernel
theorem dL_law_704 : decode cL_law 704 = .ok (.iconst 2, 1) := by decide +kernel
theorem dL_law_705 : decode cL_law 705 = .ok (.iadd, 1) := by decide +kernel
theorem dL_law_706 : decode cL_law 706 = .ok (.iaload, 1) := by decide +kernel
theorem dL_law_707 : decode cL_law 707 = .ok (.ifCond .eq 7, 3) := by decide +kernel
theorem dL_law_710 : decode cL_law 710 = .ok (.iconst 1, 1) := by decide +kernel
theorem dL_law_711 : decode cL_law 711 = .ok (.goto 4, 3) := by decide +kernel
theorem dL_law_714 : decode cL_law 714 = .ok (.iconst 0, 1) := by decide +kernel
theorem dL_law_715 : decode cL_law 715 = .ok (.invokevirtual 101, 3) := by decide +kernel
theorem dL_law_718 : decode cL_law 718 = .ok (.aload_n 2, 1) := by decide +kernel
theorem dL_law_719 : decode cL_law 719 = .ok (.aload_n 0, 1) := by decide +kernel
theorem dL_law_720 : decode cL_law 720 = .ok (.iload_n 3, 1) := by decide +kernel
theorem dL_law_721 : decode cL_law 721 = .ok (.iconst 1, 1) := by decide +kernel
theorem dL_law_722 : decode cL_law 722 = .ok (.iadd, 1) := by decide +kernel
theorem dL_law_723 : decode cL_law 723 = .ok (.iaload, 1) := by decide +kernel
theorem dL_law_724 : decode cL_law 724 = .ok (.aload_n 0, 1) := by decide +kernel
theorem dL_law_725 : decode cL_law 725 = .ok (.iload_n 3, 1) := by decide +kernel
theorem dL_law_726 : decode cL_law 726 = .ok (.iconst 2, 1) := by decide +kernel
theorem dL_law_727 : decode cL_law 727 = .ok (.iadd, 1) := by decide +kernel
theorem dL_law_728 : decode cL_law 728 = .ok (.iaload, 1) := by decide +kernel
theorem dL_law_729 : decode cL_law 729 = .ok (.ifCond .eq 7, 3) := by decide +kernel
theorem dL_law_732 : decode cL_law 732 = .ok (.iconst 1, 1) := by decide +kernel
theorem dL_law_733 : decode cL_law 733 = .ok (.goto 4, 3) := by decide +kernel
theorem dL_law_736 : decode cL_law 736 = .ok (.iconst 0, 1) := by decide +kernel
theorem dL_law_737 : decode cL_law 737 = .ok (.invokevirtual 105, 3) := by decide +kernel
theorem dL_law_740 : decode cL_law 740 = .ok (.if_icmp .eq 220, 3) := by decide +kernel
theorem dL_law_743 : decode cL_law 743 = .ok (.iconst 0, 1) := by decide +kernel
theorem dL_law_744 : decode cL_law 744 = .ok (.ireturn, 1) := by decide +kernel
theorem dL_law_745 : decode cL_law 745 = .ok (.aload_n 1, 1) := by decide +kernel
theorem dL_law_746 : decode cL_law 746 = .ok (.aload_n 0, 1) := by decide +kernel
theorem dL_law_747 : decode cL_law 747 = .ok (.iload_n 3, 1) := by decide +kernel
theorem dL_law_748 : decode cL_law 748 = .ok (.iconst 1, 1) := by decide +kernel
theorem dL_law_749 : decode cL_law 749 = .ok (.iadd, 1) := by decide +kernel
theorem dL_law_750 : decode cL_law 750 = .ok (.iaload, 1) := by decide +kernel
theorem dL_law_751 : decode cL_law 751 = .ok (.aload_n 0, 1) := by decide +kernel
theorem dL_law_752 : decode cL_law 752 = .ok (.iload_n 3, 1) := by decide +kernel
theorem dL_law_753 : decode cL_law 753 = .ok (.iconst 2, 1) := by decide +kernel
theorem dL_law_754 : decode cL_law 754 = .ok (.iadd, 1) := by decide +kernel
theorem dL_law_755 : decode cL_law 755 = .ok (.iaload, 1) := by decide +kernel
theorem dL_law_756 : decode cL_law 756 = .ok (.aload_n 0, 1) := by decide +kernel
theorem dL_law_757 : decode cL_law 757 = .ok (.iload_n 3, 1) := by decide +kernel
theorem dL_law_758 : decode cL_law 758 = .ok (.iconst 3, 1) := by decide +kernel
theorem dL_law_759 : decode cL_law 759 = .ok (.iadd, 1) := by decide +kernel
theorem dL_law_760 : decode cL_law 760 = .ok (.iaload, 1) := by decide +kernel
theorem dL_law_761 : decode cL_law 761 = .ok (.aload_n 0, 1) := by decide +kernel
theorem dL_law_762 : decode cL_law 762 = .ok (.iload_n 3, 1) := by decide +kernel
theorem dL_law_763 : decode cL_law 763 = .ok (.iconst 4, 1) := by decide +kernel
theorem dL_law_764 : decode cL_law 764 = .ok (.iadd, 1) := by decide +kernel
theorem dL_law_765 : decode cL_law 765 = .ok (.iaload, 1) := by decide +kernel
theorem dL_law_766 : decode cL_law 766 = .ok (.ifCond .eq 7, 3) := by decide +kernel
theorem dL_law_769 : decode cL_law 769 = .ok (.iconst 1, 1) := by decide +kernel
theorem dL_law_770 : decode cL_law 770 = .ok (.goto 4, 3) := by decide +kernel
theorem dL_law_773 : decode cL_law 773 = .ok (.iconst 0, 1) := by decide +kernel
theorem dL_law_774 : decode cL_law 774 = .ok (.invokevirtual 106, 3) := by decide +kernel
theorem dL_law_777 : decode cL_law 777 = .ok (.aload_n 2, 1) := by decide +kernel
theorem dL_law_778 : decode cL_law 778 = .ok (.aload_n 0, 1) := by decide +kernel
theorem dL_law_779 : decode cL_law 779 = .ok (.iload_n 3, 1) := by decide +kernel
theorem dL_law_780 : decode cL_law 780 = .ok (.iconst 1, 1) := by decide +kernel
theorem dL_law_781 : decode cL_law 781 = .ok (.iadd, 1) := by decide +kernel
theorem dL_law_782 : decode cL_law 782 = .ok (.iaload, 1) := by decide +kernel
theorem dL_law_783 : decode cL_law 783 = .ok (.aload_n 0, 1) := by decide +kernel
theorem dL_law_784 : decode cL_law 784 = .ok (.iload_n 3, 1) := by decide +kernel
theorem dL_law_785 : decode cL_law 785 = .ok (.iconst 2, 1) := by decide +kernel
theorem dL_law_786 : decode cL_law 786 = .ok (.iadd, 1) := by decide +kernel
theorem dL_law_787 : decode cL_law 787 = .ok (.iaload, 1) := by decide +kernel
theorem dL_law_788 : decode cL_law 788 = .ok (.aload_n 0, 1) := by decide +kernel
theorem dL_law_789 : decode cL_law 789 = .ok (.iload_n 3, 1) := by decide +kernel
theorem dL_law_790 : decode cL_law 790 = .ok (.iconst 3, 1) := by decide +kernel
theorem dL_law_791 : decode cL_law 791 = .ok (.iadd, 1) := by decide +kernel
theorem dL_law_792 : decode cL_law 792 = .ok (.iaload, 1) := by decide +kernel
theorem dL_law_793 : decode cL_law 793 = .ok (.aload_n 0, 1) := by decide +kernel
theorem dL_law_794 : decode cL_law 794 = .ok (.iload_n 3, 1) := by decide +kernel
theorem dL_law_795 : decode cL_law 795 = .ok (.iconst 4, 1) := by decide +kernel
theorem dL_law_796 : decode cL_law 796 = .ok (.iadd, 1) := by decide +kernel
theorem dL_law_797 : decode cL_law 797 = .ok (.iaload, 1) := by decide +kernel
theorem dL_law_798 : decode cL_law 798 = .ok (.ifCond .eq 7, 3) := by decide +kernel
theorem dL_law_801 : decode cL_law 801 = .ok (.iconst 1, 1) := by decide +kernel
theorem dL_law_802 : decode cL_law 802 = .ok (.goto 4, 3) := by decide +kernel
theorem dL_law_805 : decode cL_law 805 = .ok (.iconst 0, 1) := by decide +kernel
theorem dL_law_806 : decode cL_law 806 = .ok (.invokevirtual 110, 3) := by decide +kernel
theorem dL_law_809 : decode cL_law 809 = .ok (.if_icmp .eq 151, 3) := by decide +kernel
theorem dL_law_812 : decode cL_law 812 = .ok (.iconst 0, 1) := by decide +kernel
theorem dL_law_813 : decode cL_law 813 = .ok (.ireturn, 1) := by decide +kernel
theorem dL_law_814 : decode cL_law 814 = .ok (.aload_n 1, 1) := by decide +kernel
theorem dL_law_815 : decode cL_law 815 = .ok (.aload_n 0, 1) := by decide +kernel
theorem dL_law_816 : decode cL_law 816 = .ok (.iload_n 3, 1) := by decide +kernel
theorem dL_law_817 : decode cL_law 817 = .ok (.iconst 1, 1) := by decide +kernel
theorem dL_law_818 : decode cL_law 818 = .ok (.iadd, 1) := by decide +kernel
theorem dL_law_819 : decode cL_law 819 = .ok (.iaload, 1) := by decide +kernel
theorem dL_law_820 : decode cL_law 820 = .ok (.i2l, 1) := by decide +kernel
theorem dL_law_821 : decode cL_law 821 = .ok (.bipush 32, 2) := by decide +kernel
theorem dL_law_823 : decode cL_law 823 = .ok (.lshl, 1) := by decide +kernel
theorem dL_law_824 : decode cL_law 824 = .ok (.aload_n 0, 1) := by decide +kernel
theorem dL_law_825 : decode cL_law 825 = .ok (.iload_n 3, 1) := by decide +kernel
theorem dL_law_826 : decode cL_law 826 = .ok (.iconst 2, 1) := by decide +kernel
theorem dL_law_827 : decode cL_law 827 = .ok (.iadd, 1) := by decide +kernel
theorem dL_law_828 : decode cL_law 828 = .ok (.iaload, 1) := by decide +kernel
theorem dL_law_829 : decode cL_law 829 = .ok (.i2l, 1) := by decide +kernel
theorem dL_law_830 : decode cL_law 830 = .ok (.ldc2_w 81, 3) := by decide +kernel
theorem dL_law_833 : decode cL_law 833 = .ok (.land, 1) := by decide +kernel
theorem dL_law_834 : decode cL_law 834 = .ok (.lor, 1) := by decide +kernel
theorem dL_law_835 : decode cL_law 835 = .ok (.invokevirtual 111, 3) := by decide +kernel
theorem dL_law_838 : decode cL_law 838 = .ok (.aload_n 2, 1) := by decide +kernel
theorem dL_law_839 : decode cL_law 839 = .ok (.aload_n 0, 1) := by decide +kernel
theorem dL_law_840 : decode cL_law 840 = .ok (.iload_n 3, 1) := by decide +kernel
theorem dL_law_841 : decode cL_law 841 = .ok (.iconst 1, 1) := by decide +kernel
theorem dL_law_842 : decode cL_law 842 = .ok (.iadd, 1) := by decide +kernel
theorem dL_law_843 : decode cL_law 843 = .ok (.iaload, 1) := by decide +kernel
theorem dL_law_844 : decode cL_law 844 = .ok (.i2l, 1) := by decide +kernel
theorem dL_law_845 : decode cL_law 845 = .ok (.bipush 32, 2) := by decide +kernel
theorem dL_law_847 : decode cL_law 847 = .ok (.lshl, 1) := by decide +kernel
theorem dL_law_848 : decode cL_law 848 = .ok (.aload_n 0, 1) := by decide +kernel
theorem dL_law_849 : decode cL_law 849 = .ok (.iload_n 3, 1) := by decide +kernel
theorem dL_law_850 : decode cL_law 850 = .ok (.iconst 2, 1) := by decide +kernel
theorem dL_law_851 : decode cL_law 851 = .ok (.iadd, 1) := by decide +kernel
theorem dL_law_852 : decode cL_law 852 = .ok (.iaload, 1) := by decide +kernel
theorem dL_law_853 : decode cL_law 853 = .ok (.i2l, 1) := by decide +kernel
theorem dL_law_854 : decode cL_law 854 = .ok (.ldc2_w 81, 3) := by decide +kernel
theorem dL_law_857 : decode cL_law 857 = .ok (.land, 1) := by decide +kernel
theorem dL_law_858 : decode cL_law 858 = .ok (.lor, 1) := by decide +kernel
theorem dL_law_859 : decode cL_law 859 = .ok (.invokevirtual 115, 3) := by decide +kernel
theorem dL_law_862 : decode cL_law 862 = .ok (.lcmp, 1) := by decide +kernel
theorem dL_law_863 : decode cL_law 863 = .ok (.ifCond .eq 97, 3) := by decide +kernel
theorem dL_law_866 : decode cL_law 866 = .ok (.iconst 0, 1) := by decide +kernel
theorem dL_law_867 : decode cL_law 867 = .ok (.ireturn, 1) := by decide +kernel
theorem dL_law_868 : decode cL_law 868 = .ok (.aload_n 1, 1) := by decide +kernel
theorem dL_law_869 : decode cL_law 869 = .ok (.aload_n 0, 1) := by decide +kernel
theorem dL_law_870 : decode cL_law 870 = .ok (.iload_n 3, 1) := by decide +kernel
theorem dL_law_871 : decode cL_law 871 = .ok (.iconst 1, 1) := by decide +kernel
theorem dL_law_872 : decode cL_law 872 = .ok (.iadd, 1) := by decide +kernel
theorem dL_law_873 : decode cL_law 873 = .ok (.iaload, 1) := by decide +kernel
theorem dL_law_874 : decode cL_law 874 = .ok (.invokevirtual 116, 3) := by decide +kernel
theorem dL_law_877 : decode cL_law 877 = .ok (.aload_n 2, 1) := by decide +kernel
theorem dL_law_878 : decode cL_law 878 = .ok (.aload_n 0, 1) := by decide +kernel
theorem dL_law_879 : decode cL_law 879 = .ok (.iload_n 3, 1) := by decide +kernel
theorem dL_law_880 : decode cL_law 880 = .ok (.iconst 1, 1) := by decide +kernel
theorem dL_law_881 : decode cL_law 881 = .ok (.iadd, 1) := by decide +kernel
theorem dL_law_882 : decode cL_law 882 = .ok (.iaload, 1) := by decide +kernel
theorem dL_law_883 : decode cL_law 883 = .ok (.invokevirtual 119, 3) := by decide +kernel
theorem dL_law_886 : decode cL_law 886 = .ok (.if_icmp .eq 74, 3) := by decide +kernel
theorem dL_law_889 : decode cL_law 889 = .ok (.iconst 0, 1) := by decide +kernel
theorem dL_law_890 : decode cL_law 890 = .ok (.ireturn, 1) := by decide +kernel
theorem dL_law_891 : decode cL_law 891 = .ok (.aload_n 1, 1) := by decide +kernel
theorem dL_law_892 : decode cL_law 892 = .ok (.aload_n 0, 1) := by decide +kernel
theorem dL_law_893 : decode cL_law 893 = .ok (.iload_n 3, 1) := by decide +kernel
theorem dL_law_894 : decode cL_law 894 = .ok (.iconst 1, 1) := by decide +kernel
theorem dL_law_895 : decode cL_law 895 = .ok (.iadd, 1) := by decide +kernel
theorem dL_law_896 : decode cL_law 896 = .ok (.iaload, 1) := by decide +kernel
theorem dL_law_897 : decode cL_law 897 = .ok (.invokevirtual 120, 3) := by decide +kernel
theorem dL_law_900 : decode cL_law 900 = .ok (.aload_n 2, 1) := by decide +kernel
theorem dL_law_901 : decode cL_law 901 = .ok (.aload_n 0, 1) := by decide +kernel
theorem dL_law_902 : decode cL_law 902 = .ok (.iload_n 3, 1) := by decide +kernel
theorem dL_law_903 : decode cL_law 903 = .ok (.iconst 1, 1) := by decide +kernel
theorem dL_law_904 : decode cL_law 904 = .ok (.iadd, 1) := by decide +kernel
theorem dL_law_905 : decode cL_law 905 = .ok (.iaload, 1) := by decide +kernel
theorem dL_law_906 : decode cL_law 906 = .ok (.invokevirtual 123, 3) := by decide +kernel
theorem dL_law_909 : decode cL_law 909 = .ok (.if_icmp .eq 51, 3) := by decide +kernel
theorem dL_law_912 : decode cL_law 912 = .ok (.iconst 0, 1) := by decide +kernel
theorem dL_law_913 : decode cL_law 913 = .ok (.ireturn, 1) := by decide +kernel
theorem dL_law_914 : decode cL_law 914 = .ok (.aload_n 1, 1) := by decide +kernel
theorem dL_law_915 : decode cL_law 915 = .ok (.aload_n 0, 1) := by decide +kernel
theorem dL_law_916 : decode cL_law 916 = .ok (.iload_n 3, 1) := by decide +kernel
theorem dL_law_917 : decode cL_law 917 = .ok (.iconst 1, 1) := by decide +kernel
theorem dL_law_918 : decode cL_law 918 = .ok (.iadd, 1) := by decide +kernel
theorem dL_law_919 : decode cL_law 919 = .ok (.iaload, 1) := by decide +kernel
theorem dL_law_920 : decode cL_law 920 = .ok (.invokevirtual 124, 3) := by decide +kernel
theorem dL_law_923 : decode cL_law 923 = .ok (.aload_n 2, 1) := by decide +kernel
theorem dL_law_924 : decode cL_law 924 = .ok (.aload_n 0, 1) := by decide +kernel
theorem dL_law_925 : decode cL_law 925 = .ok (.iload_n 3, 1) := by decide +kernel
theorem dL_law_926 : decode cL_law 926 = .ok (.iconst 1, 1) := by decide +kernel
theorem dL_law_927 : decode cL_law 927 = .ok (.iadd, 1) := by decide +kernel
theorem dL_law_928 : decode cL_law 928 = .ok (.iaload, 1) := by decide +kernel
theorem dL_law_929 : decode cL_law 929 = .ok (.invokevirtual 127, 3) := by decide +kernel
theorem dL_law_932 : decode cL_law 932 = .ok (.if_icmp .eq 28, 3) := by decide +kernel
theorem dL_law_935 : decode cL_law 935 = .ok (.iconst 0, 1) := by decide +kernel
theorem dL_law_936 : decode cL_law 936 = .ok (.ireturn, 1) := by decide +kernel
theorem dL_law_937 : decode cL_law 937 = .ok (.aload_n 1, 1) := by decide +kernel
theorem dL_law_938 : decode cL_law 938 = .ok (.aload_n 0, 1) := by decide +kernel
theorem dL_law_939 : decode cL_law 939 = .ok (.iload_n 3, 1) := by decide +kernel
theorem dL_law_940 : decode cL_law 940 = .ok (.iconst 1, 1) := by decide +kernel
theorem dL_law_941 : decode cL_law 941 = .ok (.iadd, 1) := by decide +kernel
theorem dL_law_942 : decode cL_law 942 = .ok (.iaload, 1) := by decide +kernel
theorem dL_law_943 : decode cL_law 943 = .ok (.invokevirtual 128, 3) := by decide +kernel
theorem dL_law_946 : decode cL_law 946 = .ok (.aload_n 2, 1) := by decide +kernel
theorem dL_law_947 : decode cL_law 947 = .ok (.aload_n 0, 1) := by decide +kernel
theorem dL_law_948 : decode cL_law 948 = .ok (.iload_n 3, 1) := by decide +kernel
theorem dL_law_949 : decode cL_law 949 = .ok (.iconst 1, 1) := by decide +kernel
theorem dL_law_950 : decode cL_law 950 = .ok (.iadd, 1) := by decide +kernel
theorem dL_law_951 : decode cL_law 951 = .ok (.iaload, 1) := by decide +kernel
theorem dL_law_952 : decode cL_law 952 = .ok (.invokevirtual 131, 3) := by decide +kernel
theorem dL_law_955 : decode cL_law 955 = .ok (.if_icmp .eq 5, 3) := by decide +kernel
theorem dL_law_958 : decode cL_law 958 = .ok (.iconst 0, 1) := by decide +kernel
theorem dL_law_959 : decode cL_law 959 = .ok (.ireturn, 1) := by decide +kernel
theorem dL_law_960 : decode cL_law 960 = .ok (.iinc 3 6, 3) := by decide +kernel
theorem dL_law_963 : decode cL_law 963 = .ok (.goto (-945), 3) := by decide +kernel
theorem dL_law_966 : decode cL_law 966 = .ok (.iconst 1, 1) := by decide +kernel
theorem dL_law_967 : decode cL_law 967 = .ok (.ireturn, 1) := by decide +kernel
def BL_law_18 (L : Nat) (xs : Nat → Int32) (G : Nat → KT) : KT := (s_iload 3 (s_aload 0 (s_slen L (s_iconst (6) (s_bin (fun x y => x - y) (s_icmp (fun x y => y < x) (s_at G 966 [false, false, false, false]) (s_aload 0 (s_iload 3 (s_sald L xs (s_iconst (31) (s_bin (fun x y => x &&& y) (s_tsw (0) (26) [s_at G 156 [true, true, true, true], s_at G 179 [true, true, true, true], s_at G 192 [true, true, true, true], s_at G 205 [true, true, true, true], s_at G 218 [true, true, true, true], s_at G 251 [true, true, true, true], s_at G 274 [true, true, true, true], s_at G 297 [true, true, true, true], s_at G 320 [true, true, true, true], s_at G 363 [true, true, true, true], s_at G 386 [true, true, true, true], s_at G 399 [true, true, true, true], s_at G 442 [true, true, true, true], s_at G 465 [true, true, true, true], s_at G 498 [true, true, true, true], s_at G 521 [true, true, true, true], s_at G 544 [true, true, true, true], s_at G 607 [true, true, true, true], s_at G 670 [true, true, true, true], s_at G 683 [true, true, true, true], s_at G 696 [true, true, true, true], s_at G 745 [true, true, true, true], s_at G 814 [true, true, true, true], s_at G 868 [true, true, true, true], s_at G 891 [true, true, true, true], s_at G 914 [true, true, true, true], s_at G 937 [true, true, true, true]] (s_at G 960 [true, true, true, true])))))))))))))
set_option maxRecDepth 4000 in
theorem bsL_law_18 {p : Program} {l : Launch} {e : Env} {s : State} {m : MethodId} {b : Nat} {below : List Frame} {meth : Method} {c : Code} {D : va_G} {ca : Nat → ClassId} {ad : Nat → Nat} {L : Nat} {xs : Nat → Int32} (hX : CX p s m #[Value.ref b] meth c 4 cL_law "FairBlocksLaw" D ca ad (AA s.heap.size)) (hC : LWX ad b L xs s) (hr : meth.sig.returnType = ret) : ∀ lv st M, BL_law_18 L xs (Gd p l e room_1 s m #[Value.ref b] below meth c 4 D ca ad (AA s.heap.size) 600000 7302250 (lw_Z below #[Value.ref b] s)) lv st M → Gd p l e room_1 s m #[Value.ref b] below meth c 4 D ca ad (AA s.heap.size) 600000 7302250 (lw_Z below #[Value.ref b] s) 18 lv st M :=
  (sd_iload_n hX dL_law_18 rfl (sd_aload_n hX dL_law_19 rfl (sd_slen hX hC dL_law_20 (sd_bipush hX dL_law_21 rfl (sd_isub hX dL_law_23 (sd_icmp_gt hX dL_law_24 (by decide) sd_at (sd_aload_n hX dL_law_27 rfl (sd_iload_n hX dL_law_28 rfl (sd_sald hX hC dL_law_29 (sd_bipush hX dL_law_30 rfl (sd_iand hX dL_law_32 (sd_tsw hX dL_law_33 (ts := [156, 179, 192, 205, 218, 251, 274, 297, 320, 363, 386, 399, 442, 465, 498, 521, 544, 607, 670, 683, 696, 745, 814, 868, 891, 914, 937]) (td := 960) (by decide) (by decide) rfl ⟨sd_at, sd_at, sd_at, sd_at, sd_at, sd_at, sd_at, sd_at, sd_at, sd_at, sd_at, sd_at, sd_at, sd_at, sd_at, sd_at, sd_at, sd_at, sd_at, sd_at, sd_at, sd_at, sd_at, sd_at, sd_at, sd_at, sd_at, trivial⟩ sd_at))))))))))))
def BL_law_156 (L : Nat) (xs : Nat → Int32) (G : Nat → KT) : KT := (s_aload 1 (s_aload 0 (s_iload 3 (s_iconst (1) (s_bin (fun x y => x + y) (s_sald L xs (s_callV 11 1 pre_X11_write fn_X11_write (s_aload 2 (s_aload 0 (s_iload 3 (s_iconst (1) (s_bin (fun x y => x + y) (s_sald L xs (s_callV 12 1 pre_X12_write fn_X12_write (s_icmp (fun x y => x = y) (s_at G 960 [true, true, true, true]) (s_iconst (0) s_law1))))))))))))))))
set_option maxRecDepth 4000 in
theorem bsL_law_156 {p : Program} {l : Launch} {e : Env} {s : State} {m : MethodId} {b : Nat} {below : List Frame} {meth : Method} {c : Code} {D : va_G} {ca : Nat → ClassId} {ad : Nat → Nat} {L : Nat} {xs : Nat → Int32} (hX : CX p s m #[Value.ref b] meth c 4 cL_law "FairBlocksLaw" D ca ad (AA s.heap.size)) (hC : LWX ad b L xs s) (hr : meth.sig.returnType = ret) : ∀ lv st M, BL_law_156 L xs (Gd p l e room_1 s m #[Value.ref b] below meth c 4 D ca ad (AA s.heap.size) 600000 7302250 (lw_Z below #[Value.ref b] s)) lv st M → Gd p l e room_1 s m #[Value.ref b] below meth c 4 D ca ad (AA s.heap.size) 600000 7302250 (lw_Z below #[Value.ref b] s) 156 lv st M :=
  (sd_aload_n hX dL_law_156 rfl (sd_aload_n hX dL_law_157 rfl (sd_iload_n hX dL_law_158 rfl (sd_iconst hX dL_law_159 rfl (sd_iadd hX dL_law_160 (sd_sald hX hC dL_law_161 (sd_callV hX (kd := 11) rfl (by decide) (ct_X11_write l) mk_X11_write w_338 ⟨⟨Nat.le_of_ble_eq_true rfl, Nat.le_of_ble_eq_true rfl⟩, Nat.le_of_ble_eq_true rfl, Nat.le_of_ble_eq_true rfl⟩ dL_law_162 (sd_aload_n hX dL_law_165 rfl (sd_aload_n hX dL_law_166 rfl (sd_iload_n hX dL_law_167 rfl (sd_iconst hX dL_law_168 rfl (sd_iadd hX dL_law_169 (sd_sald hX hC dL_law_170 (sd_callV hX (kd := 12) rfl (by decide) (ct_X12_write l) mk_X12_write w_820 ⟨⟨Nat.le_of_ble_eq_true rfl, Nat.le_of_ble_eq_true rfl⟩, Nat.le_of_ble_eq_true rfl, Nat.le_of_ble_eq_true rfl⟩ dL_law_171 (sd_icmp_eq hX dL_law_174 (by decide) sd_at (sd_iconst hX dL_law_177 rfl (sd_law1 hX hr dL_law_178)))))))))))))))))
def BL_law_179 (L : Nat) (xs : Nat → Int32) (G : Nat → KT) : KT := (s_aload 1 (s_callV 11 0 pre_X11_wipe fn_X11_wipe (s_aload 2 (s_callV 12 0 pre_X12_wipe fn_X12_wipe (s_icmp (fun x y => x = y) (s_at G 960 [true, true, true, true]) (s_iconst (0) s_law1))))))
set_option maxRecDepth 4000 in
theorem bsL_law_179 {p : Program} {l : Launch} {e : Env} {s : State} {m : MethodId} {b : Nat} {below : List Frame} {meth : Method} {c : Code} {D : va_G} {ca : Nat → ClassId} {ad : Nat → Nat} {L : Nat} {xs : Nat → Int32} (hX : CX p s m #[Value.ref b] meth c 4 cL_law "FairBlocksLaw" D ca ad (AA s.heap.size)) (hC : LWX ad b L xs s) (hr : meth.sig.returnType = ret) : ∀ lv st M, BL_law_179 L xs (Gd p l e room_1 s m #[Value.ref b] below meth c 4 D ca ad (AA s.heap.size) 600000 7302250 (lw_Z below #[Value.ref b] s)) lv st M → Gd p l e room_1 s m #[Value.ref b] below meth c 4 D ca ad (AA s.heap.size) 600000 7302250 (lw_Z below #[Value.ref b] s) 179 lv st M :=
  (sd_aload_n hX dL_law_179 rfl (sd_callV hX (kd := 11) rfl (by decide) (ct_X11_wipe l) mk_X11_wipe w_349 ⟨⟨Nat.le_of_ble_eq_true rfl, Nat.le_of_ble_eq_true rfl⟩, Nat.le_of_ble_eq_true rfl, Nat.le_of_ble_eq_true rfl⟩ dL_law_180 (sd_aload_n hX dL_law_183 rfl (sd_callV hX (kd := 12) rfl (by decide) (ct_X12_wipe l) mk_X12_wipe w_828 ⟨⟨Nat.le_of_ble_eq_true rfl, Nat.le_of_ble_eq_true rfl⟩, Nat.le_of_ble_eq_true rfl, Nat.le_of_ble_eq_true rfl⟩ dL_law_184 (sd_icmp_eq hX dL_law_187 (by decide) sd_at (sd_iconst hX dL_law_190 rfl (sd_law1 hX hr dL_law_191)))))))
def BL_law_192 (L : Nat) (xs : Nat → Int32) (G : Nat → KT) : KT := (s_aload 1 (s_callV 11 0 pre_X11_fault fn_X11_fault (s_aload 2 (s_callV 12 0 pre_X12_fault fn_X12_fault (s_icmp (fun x y => x = y) (s_at G 960 [true, true, true, true]) (s_iconst (0) s_law1))))))
set_option maxRecDepth 4000 in
theorem bsL_law_192 {p : Program} {l : Launch} {e : Env} {s : State} {m : MethodId} {b : Nat} {below : List Frame} {meth : Method} {c : Code} {D : va_G} {ca : Nat → ClassId} {ad : Nat → Nat} {L : Nat} {xs : Nat → Int32} (hX : CX p s m #[Value.ref b] meth c 4 cL_law "FairBlocksLaw" D ca ad (AA s.heap.size)) (hC : LWX ad b L xs s) (hr : meth.sig.returnType = ret) : ∀ lv st M, BL_law_192 L xs (Gd p l e room_1 s m #[Value.ref b] below meth c 4 D ca ad (AA s.heap.size) 600000 7302250 (lw_Z below #[Value.ref b] s)) lv st M → Gd p l e room_1 s m #[Value.ref b] below meth c 4 D ca ad (AA s.heap.size) 600000 7302250 (lw_Z below #[Value.ref b] s) 192 lv st M :=
  (sd_aload_n hX dL_law_192 rfl (sd_callV hX (kd := 11) rfl (by decide) (ct_X11_fault l) mk_X11_fault w_353 ⟨⟨Nat.le_of_ble_eq_true rfl, Nat.le_of_ble_eq_true rfl⟩, Nat.le_of_ble_eq_true rfl, Nat.le_of_ble_eq_true rfl⟩ dL_law_193 (sd_aload_n hX dL_law_196 rfl (sd_callV hX (kd := 12) rfl (by decide) (ct_X12_fault l) mk_X12_fault w_832 ⟨⟨Nat.le_of_ble_eq_true rfl, Nat.le_of_ble_eq_true rfl⟩, Nat.le_of_ble_eq_true rfl, Nat.le_of_ble_eq_true rfl⟩ dL_law_197 (sd_icmp_eq hX dL_law_200 (by decide) sd_at (sd_iconst hX dL_law_203 rfl (sd_law1 hX hr dL_law_204)))))))
def BL_law_205 (L : Nat) (xs : Nat → Int32) (G : Nat → KT) : KT := (s_aload 1 (s_callV 11 0 pre_X11_cell fn_X11_cell (s_aload 2 (s_callV 12 0 pre_X12_cell fn_X12_cell (s_icmp (fun x y => x = y) (s_at G 960 [true, true, true, true]) (s_iconst (0) s_law1))))))
set_option maxRecDepth 4000 in
theorem bsL_law_205 {p : Program} {l : Launch} {e : Env} {s : State} {m : MethodId} {b : Nat} {below : List Frame} {meth : Method} {c : Code} {D : va_G} {ca : Nat → ClassId} {ad : Nat → Nat} {L : Nat} {xs : Nat → Int32} (hX : CX p s m #[Value.ref b] meth c 4 cL_law "FairBlocksLaw" D ca ad (AA s.heap.size)) (hC : LWX ad b L xs s) (hr : meth.sig.returnType = ret) : ∀ lv st M, BL_law_205 L xs (Gd p l e room_1 s m #[Value.ref b] below meth c 4 D ca ad (AA s.heap.size) 600000 7302250 (lw_Z below #[Value.ref b] s)) lv st M → Gd p l e room_1 s m #[Value.ref b] below meth c 4 D ca ad (AA s.heap.size) 600000 7302250 (lw_Z below #[Value.ref b] s) 205 lv st M :=
  (sd_aload_n hX dL_law_205 rfl (sd_callV hX (kd := 11) rfl (by decide) (ct_X11_cell l) mk_X11_cell w_368 ⟨⟨Nat.le_of_ble_eq_true rfl, Nat.le_of_ble_eq_true rfl⟩, Nat.le_of_ble_eq_true rfl, Nat.le_of_ble_eq_true rfl⟩ dL_law_206 (sd_aload_n hX dL_law_209 rfl (sd_callV hX (kd := 12) rfl (by decide) (ct_X12_cell l) mk_X12_cell w_852 ⟨⟨Nat.le_of_ble_eq_true rfl, Nat.le_of_ble_eq_true rfl⟩, Nat.le_of_ble_eq_true rfl, Nat.le_of_ble_eq_true rfl⟩ dL_law_210 (sd_icmp_eq hX dL_law_213 (by decide) sd_at (sd_iconst hX dL_law_216 rfl (sd_law1 hX hr dL_law_217)))))))
def BL_law_218 (L : Nat) (xs : Nat → Int32) (G : Nat → KT) : KT := (s_aload 1 (s_aload 0 (s_iload 3 (s_iconst (1) (s_bin (fun x y => x + y) (s_sald L xs (s_aload 0 (s_iload 3 (s_iconst (2) (s_bin (fun x y => x + y) (s_sald L xs (s_callV 11 2 pre_X11_user fn_X11_user (s_aload 2 (s_aload 0 (s_iload 3 (s_iconst (1) (s_bin (fun x y => x + y) (s_sald L xs (s_aload 0 (s_iload 3 (s_iconst (2) (s_bin (fun x y => x + y) (s_sald L xs (s_callV 12 2 pre_X12_user fn_X12_user (s_icmp (fun x y => x = y) (s_at G 960 [true, true, true, true]) (s_iconst (0) s_law1))))))))))))))))))))))))))
set_option maxRecDepth 4000 in
theorem bsL_law_218 {p : Program} {l : Launch} {e : Env} {s : State} {m : MethodId} {b : Nat} {below : List Frame} {meth : Method} {c : Code} {D : va_G} {ca : Nat → ClassId} {ad : Nat → Nat} {L : Nat} {xs : Nat → Int32} (hX : CX p s m #[Value.ref b] meth c 4 cL_law "FairBlocksLaw" D ca ad (AA s.heap.size)) (hC : LWX ad b L xs s) (hr : meth.sig.returnType = ret) : ∀ lv st M, BL_law_218 L xs (Gd p l e room_1 s m #[Value.ref b] below meth c 4 D ca ad (AA s.heap.size) 600000 7302250 (lw_Z below #[Value.ref b] s)) lv st M → Gd p l e room_1 s m #[Value.ref b] below meth c 4 D ca ad (AA s.heap.size) 600000 7302250 (lw_Z below #[Value.ref b] s) 218 lv st M :=
  (sd_aload_n hX dL_law_218 rfl (sd_aload_n hX dL_law_219 rfl (sd_iload_n hX dL_law_220 rfl (sd_iconst hX dL_law_221 rfl (sd_iadd hX dL_law_222 (sd_sald hX hC dL_law_223 (sd_aload_n hX dL_law_224 rfl (sd_iload_n hX dL_law_225 rfl (sd_iconst hX dL_law_226 rfl (sd_iadd hX dL_law_227 (sd_sald hX hC dL_law_228 (sd_callV hX (kd := 11) rfl (by decide) (ct_X11_user l) mk_X11_user w_393 ⟨⟨Nat.le_of_ble_eq_true rfl, Nat.le_of_ble_eq_true rfl⟩, Nat.le_of_ble_eq_true rfl, Nat.le_of_ble_eq_true rfl⟩ dL_law_229 (sd_aload_n hX dL_law_232 rfl (sd_aload_n hX dL_law_233 rfl (sd_iload_n hX dL_law_234 rfl (sd_iconst hX dL_law_235 rfl (sd_iadd hX dL_law_236 (sd_sald hX hC dL_law_237 (sd_aload_n hX dL_law_238 rfl (sd_iload_n hX dL_law_239 rfl (sd_iconst hX dL_law_240 rfl (sd_iadd hX dL_law_241 (sd_sald hX hC dL_law_242 (sd_callV hX (kd := 12) rfl (by decide) (ct_X12_user l) mk_X12_user w_856 ⟨⟨Nat.le_of_ble_eq_true rfl, Nat.le_of_ble_eq_true rfl⟩, Nat.le_of_ble_eq_true rfl, Nat.le_of_ble_eq_true rfl⟩ dL_law_243 (sd_icmp_eq hX dL_law_246 (by decide) sd_at (sd_iconst hX dL_law_249 rfl (sd_law1 hX hr dL_law_250)))))))))))))))))))))))))))
def BL_law_251 (L : Nat) (xs : Nat → Int32) (G : Nat → KT) : KT := (s_aload 1 (s_aload 0 (s_iload 3 (s_iconst (1) (s_bin (fun x y => x + y) (s_sald L xs (s_callV 11 1 pre_X11_slot fn_X11_slot (s_aload 2 (s_aload 0 (s_iload 3 (s_iconst (1) (s_bin (fun x y => x + y) (s_sald L xs (s_callV 12 1 pre_X12_slot fn_X12_slot (s_icmp (fun x y => x = y) (s_at G 960 [true, true, true, true]) (s_iconst (0) s_law1))))))))))))))))
set_option maxRecDepth 4000 in
theorem bsL_law_251 {p : Program} {l : Launch} {e : Env} {s : State} {m : MethodId} {b : Nat} {below : List Frame} {meth : Method} {c : Code} {D : va_G} {ca : Nat → ClassId} {ad : Nat → Nat} {L : Nat} {xs : Nat → Int32} (hX : CX p s m #[Value.ref b] meth c 4 cL_law "FairBlocksLaw" D ca ad (AA s.heap.size)) (hC : LWX ad b L xs s) (hr : meth.sig.returnType = ret) : ∀ lv st M, BL_law_251 L xs (Gd p l e room_1 s m #[Value.ref b] below meth c 4 D ca ad (AA s.heap.size) 600000 7302250 (lw_Z below #[Value.ref b] s)) lv st M → Gd p l e room_1 s m #[Value.ref b] below meth c 4 D ca ad (AA s.heap.size) 600000 7302250 (lw_Z below #[Value.ref b] s) 251 lv st M :=
  (sd_aload_n hX dL_law_251 rfl (sd_aload_n hX dL_law_252 rfl (sd_iload_n hX dL_law_253 rfl (sd_iconst hX dL_law_254 rfl (sd_iadd hX dL_law_255 (sd_sald hX hC dL_law_256 (sd_callV hX (kd := 11) rfl (by decide) (ct_X11_slot l) mk_X11_slot w_409 ⟨⟨Nat.le_of_ble_eq_true rfl, Nat.le_of_ble_eq_true rfl⟩, Nat.le_of_ble_eq_true rfl, Nat.le_of_ble_eq_true rfl⟩ dL_law_257 (sd_aload_n hX dL_law_260 rfl (sd_aload_n hX dL_law_261 rfl (sd_iload_n hX dL_law_262 rfl (sd_iconst hX dL_law_263 rfl (sd_iadd hX dL_law_264 (sd_sald hX hC dL_law_265 (sd_callV hX (kd := 12) rfl (by decide) (ct_X12_slot l) mk_X12_slot w_869 ⟨⟨Nat.le_of_ble_eq_true rfl, Nat.le_of_ble_eq_true rfl⟩, Nat.le_of_ble_eq_true rfl, Nat.le_of_ble_eq_true rfl⟩ dL_law_266 (sd_icmp_eq hX dL_law_269 (by decide) sd_at (sd_iconst hX dL_law_272 rfl (sd_law1 hX hr dL_law_273)))))))))))))))))
def BL_law_274 (L : Nat) (xs : Nat → Int32) (G : Nat → KT) : KT := (s_aload 1 (s_aload 0 (s_iload 3 (s_iconst (1) (s_bin (fun x y => x + y) (s_sald L xs (s_callV 11 1 pre_X11_turn fn_X11_turn (s_aload 2 (s_aload 0 (s_iload 3 (s_iconst (1) (s_bin (fun x y => x + y) (s_sald L xs (s_callV 12 1 pre_X12_turn fn_X12_turn (s_icmp (fun x y => x = y) (s_at G 960 [true, true, true, true]) (s_iconst (0) s_law1))))))))))))))))
set_option maxRecDepth 4000 in
theorem bsL_law_274 {p : Program} {l : Launch} {e : Env} {s : State} {m : MethodId} {b : Nat} {below : List Frame} {meth : Method} {c : Code} {D : va_G} {ca : Nat → ClassId} {ad : Nat → Nat} {L : Nat} {xs : Nat → Int32} (hX : CX p s m #[Value.ref b] meth c 4 cL_law "FairBlocksLaw" D ca ad (AA s.heap.size)) (hC : LWX ad b L xs s) (hr : meth.sig.returnType = ret) : ∀ lv st M, BL_law_274 L xs (Gd p l e room_1 s m #[Value.ref b] below meth c 4 D ca ad (AA s.heap.size) 600000 7302250 (lw_Z below #[Value.ref b] s)) lv st M → Gd p l e room_1 s m #[Value.ref b] below meth c 4 D ca ad (AA s.heap.size) 600000 7302250 (lw_Z below #[Value.ref b] s) 274 lv st M :=
  (sd_aload_n hX dL_law_274 rfl (sd_aload_n hX dL_law_275 rfl (sd_iload_n hX dL_law_276 rfl (sd_iconst hX dL_law_277 rfl (sd_iadd hX dL_law_278 (sd_sald hX hC dL_law_279 (sd_callV hX (kd := 11) rfl (by decide) (ct_X11_turn l) mk_X11_turn w_469 ⟨⟨Nat.le_of_ble_eq_true rfl, Nat.le_of_ble_eq_true rfl⟩, Nat.le_of_ble_eq_true rfl, Nat.le_of_ble_eq_true rfl⟩ dL_law_280 (sd_aload_n hX dL_law_283 rfl (sd_aload_n hX dL_law_284 rfl (sd_iload_n hX dL_law_285 rfl (sd_iconst hX dL_law_286 rfl (sd_iadd hX dL_law_287 (sd_sald hX hC dL_law_288 (sd_callV hX (kd := 12) rfl (by decide) (ct_X12_turn l) mk_X12_turn w_913 ⟨⟨Nat.le_of_ble_eq_true rfl, Nat.le_of_ble_eq_true rfl⟩, Nat.le_of_ble_eq_true rfl, Nat.le_of_ble_eq_true rfl⟩ dL_law_289 (sd_icmp_eq hX dL_law_292 (by decide) sd_at (sd_iconst hX dL_law_295 rfl (sd_law1 hX hr dL_law_296)))))))))))))))))
def BL_law_297 (L : Nat) (xs : Nat → Int32) (G : Nat → KT) : KT := (s_aload 1 (s_aload 0 (s_iload 3 (s_iconst (1) (s_bin (fun x y => x + y) (s_sald L xs (s_callV 11 1 pre_X11_drop fn_X11_drop (s_aload 2 (s_aload 0 (s_iload 3 (s_iconst (1) (s_bin (fun x y => x + y) (s_sald L xs (s_callV 12 1 pre_X12_drop fn_X12_drop (s_icmp (fun x y => x = y) (s_at G 960 [true, true, true, true]) (s_iconst (0) s_law1))))))))))))))))
set_option maxRecDepth 4000 in
theorem bsL_law_297 {p : Program} {l : Launch} {e : Env} {s : State} {m : MethodId} {b : Nat} {below : List Frame} {meth : Method} {c : Code} {D : va_G} {ca : Nat → ClassId} {ad : Nat → Nat} {L : Nat} {xs : Nat → Int32} (hX : CX p s m #[Value.ref b] meth c 4 cL_law "FairBlocksLaw" D ca ad (AA s.heap.size)) (hC : LWX ad b L xs s) (hr : meth.sig.returnType = ret) : ∀ lv st M, BL_law_297 L xs (Gd p l e room_1 s m #[Value.ref b] below meth c 4 D ca ad (AA s.heap.size) 600000 7302250 (lw_Z below #[Value.ref b] s)) lv st M → Gd p l e room_1 s m #[Value.ref b] below meth c 4 D ca ad (AA s.heap.size) 600000 7302250 (lw_Z below #[Value.ref b] s) 297 lv st M :=
  (sd_aload_n hX dL_law_297 rfl (sd_aload_n hX dL_law_298 rfl (sd_iload_n hX dL_law_299 rfl (sd_iconst hX dL_law_300 rfl (sd_iadd hX dL_law_301 (sd_sald hX hC dL_law_302 (sd_callV hX (kd := 11) rfl (by decide) (ct_X11_drop l) mk_X11_drop w_473 ⟨⟨Nat.le_of_ble_eq_true rfl, Nat.le_of_ble_eq_true rfl⟩, Nat.le_of_ble_eq_true rfl, Nat.le_of_ble_eq_true rfl⟩ dL_law_303 (sd_aload_n hX dL_law_306 rfl (sd_aload_n hX dL_law_307 rfl (sd_iload_n hX dL_law_308 rfl (sd_iconst hX dL_law_309 rfl (sd_iadd hX dL_law_310 (sd_sald hX hC dL_law_311 (sd_callV hX (kd := 12) rfl (by decide) (ct_X12_drop l) mk_X12_drop w_917 ⟨⟨Nat.le_of_ble_eq_true rfl, Nat.le_of_ble_eq_true rfl⟩, Nat.le_of_ble_eq_true rfl, Nat.le_of_ble_eq_true rfl⟩ dL_law_312 (sd_icmp_eq hX dL_law_315 (by decide) sd_at (sd_iconst hX dL_law_318 rfl (sd_law1 hX hr dL_law_319)))))))))))))))))
def BL_law_320 (L : Nat) (xs : Nat → Int32) (G : Nat → KT) : KT := (s_aload 1 (s_aload 0 (s_iload 3 (s_iconst (1) (s_bin (fun x y => x + y) (s_sald L xs (s_aload 0 (s_iload 3 (s_iconst (2) (s_bin (fun x y => x + y) (s_sald L xs (s_aload 0 (s_iload 3 (s_iconst (3) (s_bin (fun x y => x + y) (s_sald L xs (s_callV 11 3 pre_X11_set fn_X11_set (s_aload 2 (s_aload 0 (s_iload 3 (s_iconst (1) (s_bin (fun x y => x + y) (s_sald L xs (s_aload 0 (s_iload 3 (s_iconst (2) (s_bin (fun x y => x + y) (s_sald L xs (s_aload 0 (s_iload 3 (s_iconst (3) (s_bin (fun x y => x + y) (s_sald L xs (s_callV 12 3 pre_X12_set fn_X12_set (s_icmp (fun x y => x = y) (s_at G 960 [true, true, true, true]) (s_iconst (0) s_law1))))))))))))))))))))))))))))))))))))
set_option maxRecDepth 4000 in
theorem bsL_law_320 {p : Program} {l : Launch} {e : Env} {s : State} {m : MethodId} {b : Nat} {below : List Frame} {meth : Method} {c : Code} {D : va_G} {ca : Nat → ClassId} {ad : Nat → Nat} {L : Nat} {xs : Nat → Int32} (hX : CX p s m #[Value.ref b] meth c 4 cL_law "FairBlocksLaw" D ca ad (AA s.heap.size)) (hC : LWX ad b L xs s) (hr : meth.sig.returnType = ret) : ∀ lv st M, BL_law_320 L xs (Gd p l e room_1 s m #[Value.ref b] below meth c 4 D ca ad (AA s.heap.size) 600000 7302250 (lw_Z below #[Value.ref b] s)) lv st M → Gd p l e room_1 s m #[Value.ref b] below meth c 4 D ca ad (AA s.heap.size) 600000 7302250 (lw_Z below #[Value.ref b] s) 320 lv st M :=
  (sd_aload_n hX dL_law_320 rfl (sd_aload_n hX dL_law_321 rfl (sd_iload_n hX dL_law_322 rfl (sd_iconst hX dL_law_323 rfl (sd_iadd hX dL_law_324 (sd_sald hX hC dL_law_325 (sd_aload_n hX dL_law_326 rfl (sd_iload_n hX dL_law_327 rfl (sd_iconst hX dL_law_328 rfl (sd_iadd hX dL_law_329 (sd_sald hX hC dL_law_330 (sd_aload_n hX dL_law_331 rfl (sd_iload_n hX dL_law_332 rfl (sd_iconst hX dL_law_333 rfl (sd_iadd hX dL_law_334 (sd_sald hX hC dL_law_335 (sd_callV hX (kd := 11) rfl (by decide) (ct_X11_set l) mk_X11_set w_482 ⟨⟨Nat.le_of_ble_eq_true rfl, Nat.le_of_ble_eq_true rfl⟩, Nat.le_of_ble_eq_true rfl, Nat.le_of_ble_eq_true rfl⟩ dL_law_336 (sd_aload_n hX dL_law_339 rfl (sd_aload_n hX dL_law_340 rfl (sd_iload_n hX dL_law_341 rfl (sd_iconst hX dL_law_342 rfl (sd_iadd hX dL_law_343 (sd_sald hX hC dL_law_344 (sd_aload_n hX dL_law_345 rfl (sd_iload_n hX dL_law_346 rfl (sd_iconst hX dL_law_347 rfl (sd_iadd hX dL_law_348 (sd_sald hX hC dL_law_349 (sd_aload_n hX dL_law_350 rfl (sd_iload_n hX dL_law_351 rfl (sd_iconst hX dL_law_352 rfl (sd_iadd hX dL_law_353 (sd_sald hX hC dL_law_354 (sd_callV hX (kd := 12) rfl (by decide) (ct_X12_set l) mk_X12_set w_921 ⟨⟨Nat.le_of_ble_eq_true rfl, Nat.le_of_ble_eq_true rfl⟩, Nat.le_of_ble_eq_true rfl, Nat.le_of_ble_eq_true rfl⟩ dL_law_355 (sd_icmp_eq hX dL_law_358 (by decide) sd_at (sd_iconst hX dL_law_361 rfl (sd_law1 hX hr dL_law_362)))))))))))))))))))))))))))))))))))))
def BL_law_363 (L : Nat) (xs : Nat → Int32) (G : Nat → KT) : KT := (s_aload 1 (s_aload 0 (s_iload 3 (s_iconst (1) (s_bin (fun x y => x + y) (s_sald L xs (s_callV 11 1 pre_X11_patience fn_X11_patience (s_aload 2 (s_aload 0 (s_iload 3 (s_iconst (1) (s_bin (fun x y => x + y) (s_sald L xs (s_callV 12 1 pre_X12_patience fn_X12_patience (s_icmp (fun x y => x = y) (s_at G 960 [true, true, true, true]) (s_iconst (0) s_law1))))))))))))))))
set_option maxRecDepth 4000 in
theorem bsL_law_363 {p : Program} {l : Launch} {e : Env} {s : State} {m : MethodId} {b : Nat} {below : List Frame} {meth : Method} {c : Code} {D : va_G} {ca : Nat → ClassId} {ad : Nat → Nat} {L : Nat} {xs : Nat → Int32} (hX : CX p s m #[Value.ref b] meth c 4 cL_law "FairBlocksLaw" D ca ad (AA s.heap.size)) (hC : LWX ad b L xs s) (hr : meth.sig.returnType = ret) : ∀ lv st M, BL_law_363 L xs (Gd p l e room_1 s m #[Value.ref b] below meth c 4 D ca ad (AA s.heap.size) 600000 7302250 (lw_Z below #[Value.ref b] s)) lv st M → Gd p l e room_1 s m #[Value.ref b] below meth c 4 D ca ad (AA s.heap.size) 600000 7302250 (lw_Z below #[Value.ref b] s) 363 lv st M :=
  (sd_aload_n hX dL_law_363 rfl (sd_aload_n hX dL_law_364 rfl (sd_iload_n hX dL_law_365 rfl (sd_iconst hX dL_law_366 rfl (sd_iadd hX dL_law_367 (sd_sald hX hC dL_law_368 (sd_callV hX (kd := 11) rfl (by decide) (ct_X11_patience l) mk_X11_patience w_490 ⟨⟨Nat.le_of_ble_eq_true rfl, Nat.le_of_ble_eq_true rfl⟩, Nat.le_of_ble_eq_true rfl, Nat.le_of_ble_eq_true rfl⟩ dL_law_369 (sd_aload_n hX dL_law_372 rfl (sd_aload_n hX dL_law_373 rfl (sd_iload_n hX dL_law_374 rfl (sd_iconst hX dL_law_375 rfl (sd_iadd hX dL_law_376 (sd_sald hX hC dL_law_377 (sd_callV hX (kd := 12) rfl (by decide) (ct_X12_patience l) mk_X12_patience w_927 ⟨⟨Nat.le_of_ble_eq_true rfl, Nat.le_of_ble_eq_true rfl⟩, Nat.le_of_ble_eq_true rfl, Nat.le_of_ble_eq_true rfl⟩ dL_law_378 (sd_icmp_eq hX dL_law_381 (by decide) sd_at (sd_iconst hX dL_law_384 rfl (sd_law1 hX hr dL_law_385)))))))))))))))))
def BL_law_386 (L : Nat) (xs : Nat → Int32) (G : Nat → KT) : KT := (s_aload 1 (s_callV 11 0 pre_X11_undo fn_X11_undo (s_aload 2 (s_callV 12 0 pre_X12_undo fn_X12_undo (s_icmp (fun x y => x = y) (s_at G 960 [true, true, true, true]) (s_iconst (0) s_law1))))))
set_option maxRecDepth 4000 in
theorem bsL_law_386 {p : Program} {l : Launch} {e : Env} {s : State} {m : MethodId} {b : Nat} {below : List Frame} {meth : Method} {c : Code} {D : va_G} {ca : Nat → ClassId} {ad : Nat → Nat} {L : Nat} {xs : Nat → Int32} (hX : CX p s m #[Value.ref b] meth c 4 cL_law "FairBlocksLaw" D ca ad (AA s.heap.size)) (hC : LWX ad b L xs s) (hr : meth.sig.returnType = ret) : ∀ lv st M, BL_law_386 L xs (Gd p l e room_1 s m #[Value.ref b] below meth c 4 D ca ad (AA s.heap.size) 600000 7302250 (lw_Z below #[Value.ref b] s)) lv st M → Gd p l e room_1 s m #[Value.ref b] below meth c 4 D ca ad (AA s.heap.size) 600000 7302250 (lw_Z below #[Value.ref b] s) 386 lv st M :=
  (sd_aload_n hX dL_law_386 rfl (sd_callV hX (kd := 11) rfl (by decide) (ct_X11_undo l) mk_X11_undo w_494 ⟨⟨Nat.le_of_ble_eq_true rfl, Nat.le_of_ble_eq_true rfl⟩, Nat.le_of_ble_eq_true rfl, Nat.le_of_ble_eq_true rfl⟩ dL_law_387 (sd_aload_n hX dL_law_390 rfl (sd_callV hX (kd := 12) rfl (by decide) (ct_X12_undo l) mk_X12_undo w_931 ⟨⟨Nat.le_of_ble_eq_true rfl, Nat.le_of_ble_eq_true rfl⟩, Nat.le_of_ble_eq_true rfl, Nat.le_of_ble_eq_true rfl⟩ dL_law_391 (sd_icmp_eq hX dL_law_394 (by decide) sd_at (sd_iconst hX dL_law_397 rfl (sd_law1 hX hr dL_law_398)))))))
def BL_law_399 (L : Nat) (xs : Nat → Int32) (G : Nat → KT) : KT := (s_aload 1 (s_aload 0 (s_iload 3 (s_iconst (1) (s_bin (fun x y => x + y) (s_sald L xs (s_aload 0 (s_iload 3 (s_iconst (2) (s_bin (fun x y => x + y) (s_sald L xs (s_aload 0 (s_iload 3 (s_iconst (3) (s_bin (fun x y => x + y) (s_sald L xs (s_callV 11 3 pre_X11_ahead fn_X11_ahead (s_aload 2 (s_aload 0 (s_iload 3 (s_iconst (1) (s_bin (fun x y => x + y) (s_sald L xs (s_aload 0 (s_iload 3 (s_iconst (2) (s_bin (fun x y => x + y) (s_sald L xs (s_aload 0 (s_iload 3 (s_iconst (3) (s_bin (fun x y => x + y) (s_sald L xs (s_callV 12 3 pre_X12_ahead fn_X12_ahead (s_icmp (fun x y => x = y) (s_at G 960 [true, true, true, true]) (s_iconst (0) s_law1))))))))))))))))))))))))))))))))))))
set_option maxRecDepth 4000 in
theorem bsL_law_399 {p : Program} {l : Launch} {e : Env} {s : State} {m : MethodId} {b : Nat} {below : List Frame} {meth : Method} {c : Code} {D : va_G} {ca : Nat → ClassId} {ad : Nat → Nat} {L : Nat} {xs : Nat → Int32} (hX : CX p s m #[Value.ref b] meth c 4 cL_law "FairBlocksLaw" D ca ad (AA s.heap.size)) (hC : LWX ad b L xs s) (hr : meth.sig.returnType = ret) : ∀ lv st M, BL_law_399 L xs (Gd p l e room_1 s m #[Value.ref b] below meth c 4 D ca ad (AA s.heap.size) 600000 7302250 (lw_Z below #[Value.ref b] s)) lv st M → Gd p l e room_1 s m #[Value.ref b] below meth c 4 D ca ad (AA s.heap.size) 600000 7302250 (lw_Z below #[Value.ref b] s) 399 lv st M :=
  (sd_aload_n hX dL_law_399 rfl (sd_aload_n hX dL_law_400 rfl (sd_iload_n hX dL_law_401 rfl (sd_iconst hX dL_law_402 rfl (sd_iadd hX dL_law_403 (sd_sald hX hC dL_law_404 (sd_aload_n hX dL_law_405 rfl (sd_iload_n hX dL_law_406 rfl (sd_iconst hX dL_law_407 rfl (sd_iadd hX dL_law_408 (sd_sald hX hC dL_law_409 (sd_aload_n hX dL_law_410 rfl (sd_iload_n hX dL_law_411 rfl (sd_iconst hX dL_law_412 rfl (sd_iadd hX dL_law_413 (sd_sald hX hC dL_law_414 (sd_callV hX (kd := 11) rfl (by decide) (ct_X11_ahead l) mk_X11_ahead w_502 ⟨⟨Nat.le_of_ble_eq_true rfl, Nat.le_of_ble_eq_true rfl⟩, Nat.le_of_ble_eq_true rfl, Nat.le_of_ble_eq_true rfl⟩ dL_law_415 (sd_aload_n hX dL_law_418 rfl (sd_aload_n hX dL_law_419 rfl (sd_iload_n hX dL_law_420 rfl (sd_iconst hX dL_law_421 rfl (sd_iadd hX dL_law_422 (sd_sald hX hC dL_law_423 (sd_aload_n hX dL_law_424 rfl (sd_iload_n hX dL_law_425 rfl (sd_iconst hX dL_law_426 rfl (sd_iadd hX dL_law_427 (sd_sald hX hC dL_law_428 (sd_aload_n hX dL_law_429 rfl (sd_iload_n hX dL_law_430 rfl (sd_iconst hX dL_law_431 rfl (sd_iadd hX dL_law_432 (sd_sald hX hC dL_law_433 (sd_callV hX (kd := 12) rfl (by decide) (ct_X12_ahead l) mk_X12_ahead w_935 ⟨⟨Nat.le_of_ble_eq_true rfl, Nat.le_of_ble_eq_true rfl⟩, Nat.le_of_ble_eq_true rfl, Nat.le_of_ble_eq_true rfl⟩ dL_law_434 (sd_icmp_eq hX dL_law_437 (by decide) sd_at (sd_iconst hX dL_law_440 rfl (sd_law1 hX hr dL_law_441)))))))))))))))))))))))))))))))))))))
def BL_law_442 (L : Nat) (xs : Nat → Int32) (G : Nat → KT) : KT := (s_aload 1 (s_aload 0 (s_iload 3 (s_iconst (1) (s_bin (fun x y => x + y) (s_sald L xs (s_callV 11 1 pre_X11_who fn_X11_who (s_aload 2 (s_aload 0 (s_iload 3 (s_iconst (1) (s_bin (fun x y => x + y) (s_sald L xs (s_callV 12 1 pre_X12_who fn_X12_who (s_icmp (fun x y => x = y) (s_at G 960 [true, true, true, true]) (s_iconst (0) s_law1))))))))))))))))
set_option maxRecDepth 4000 in
theorem bsL_law_442 {p : Program} {l : Launch} {e : Env} {s : State} {m : MethodId} {b : Nat} {below : List Frame} {meth : Method} {c : Code} {D : va_G} {ca : Nat → ClassId} {ad : Nat → Nat} {L : Nat} {xs : Nat → Int32} (hX : CX p s m #[Value.ref b] meth c 4 cL_law "FairBlocksLaw" D ca ad (AA s.heap.size)) (hC : LWX ad b L xs s) (hr : meth.sig.returnType = ret) : ∀ lv st M, BL_law_442 L xs (Gd p l e room_1 s m #[Value.ref b] below meth c 4 D ca ad (AA s.heap.size) 600000 7302250 (lw_Z below #[Value.ref b] s)) lv st M → Gd p l e room_1 s m #[Value.ref b] below meth c 4 D ca ad (AA s.heap.size) 600000 7302250 (lw_Z below #[Value.ref b] s) 442 lv st M :=
  (sd_aload_n hX dL_law_442 rfl (sd_aload_n hX dL_law_443 rfl (sd_iload_n hX dL_law_444 rfl (sd_iconst hX dL_law_445 rfl (sd_iadd hX dL_law_446 (sd_sald hX hC dL_law_447 (sd_callV hX (kd := 11) rfl (by decide) (ct_X11_who l) mk_X11_who w_511 ⟨⟨Nat.le_of_ble_eq_true rfl, Nat.le_of_ble_eq_true rfl⟩, Nat.le_of_ble_eq_true rfl, Nat.le_of_ble_eq_true rfl⟩ dL_law_448 (sd_aload_n hX dL_law_451 rfl (sd_aload_n hX dL_law_452 rfl (sd_iload_n hX dL_law_453 rfl (sd_iconst hX dL_law_454 rfl (sd_iadd hX dL_law_455 (sd_sald hX hC dL_law_456 (sd_callV hX (kd := 12) rfl (by decide) (ct_X12_who l) mk_X12_who w_944 ⟨⟨Nat.le_of_ble_eq_true rfl, Nat.le_of_ble_eq_true rfl⟩, Nat.le_of_ble_eq_true rfl, Nat.le_of_ble_eq_true rfl⟩ dL_law_457 (sd_icmp_eq hX dL_law_460 (by decide) sd_at (sd_iconst hX dL_law_463 rfl (sd_law1 hX hr dL_law_464)))))))))))))))))
def BL_law_465 (L : Nat) (xs : Nat → Int32) (G : Nat → KT) : KT := (s_aload 1 (s_aload 0 (s_iload 3 (s_iconst (1) (s_bin (fun x y => x + y) (s_sald L xs (s_aload 0 (s_iload 3 (s_iconst (2) (s_bin (fun x y => x + y) (s_sald L xs (s_callV 11 2 pre_X11_longest fn_X11_longest (s_aload 2 (s_aload 0 (s_iload 3 (s_iconst (1) (s_bin (fun x y => x + y) (s_sald L xs (s_aload 0 (s_iload 3 (s_iconst (2) (s_bin (fun x y => x + y) (s_sald L xs (s_callV 12 2 pre_X12_longest fn_X12_longest (s_icmp (fun x y => x = y) (s_at G 960 [true, true, true, true]) (s_iconst (0) s_law1))))))))))))))))))))))))))
set_option maxRecDepth 4000 in
theorem bsL_law_465 {p : Program} {l : Launch} {e : Env} {s : State} {m : MethodId} {b : Nat} {below : List Frame} {meth : Method} {c : Code} {D : va_G} {ca : Nat → ClassId} {ad : Nat → Nat} {L : Nat} {xs : Nat → Int32} (hX : CX p s m #[Value.ref b] meth c 4 cL_law "FairBlocksLaw" D ca ad (AA s.heap.size)) (hC : LWX ad b L xs s) (hr : meth.sig.returnType = ret) : ∀ lv st M, BL_law_465 L xs (Gd p l e room_1 s m #[Value.ref b] below meth c 4 D ca ad (AA s.heap.size) 600000 7302250 (lw_Z below #[Value.ref b] s)) lv st M → Gd p l e room_1 s m #[Value.ref b] below meth c 4 D ca ad (AA s.heap.size) 600000 7302250 (lw_Z below #[Value.ref b] s) 465 lv st M :=
  (sd_aload_n hX dL_law_465 rfl (sd_aload_n hX dL_law_466 rfl (sd_iload_n hX dL_law_467 rfl (sd_iconst hX dL_law_468 rfl (sd_iadd hX dL_law_469 (sd_sald hX hC dL_law_470 (sd_aload_n hX dL_law_471 rfl (sd_iload_n hX dL_law_472 rfl (sd_iconst hX dL_law_473 rfl (sd_iadd hX dL_law_474 (sd_sald hX hC dL_law_475 (sd_callV hX (kd := 11) rfl (by decide) (ct_X11_longest l) mk_X11_longest w_521 ⟨⟨Nat.le_of_ble_eq_true rfl, Nat.le_of_ble_eq_true rfl⟩, Nat.le_of_ble_eq_true rfl, Nat.le_of_ble_eq_true rfl⟩ dL_law_476 (sd_aload_n hX dL_law_479 rfl (sd_aload_n hX dL_law_480 rfl (sd_iload_n hX dL_law_481 rfl (sd_iconst hX dL_law_482 rfl (sd_iadd hX dL_law_483 (sd_sald hX hC dL_law_484 (sd_aload_n hX dL_law_485 rfl (sd_iload_n hX dL_law_486 rfl (sd_iconst hX dL_law_487 rfl (sd_iadd hX dL_law_488 (sd_sald hX hC dL_law_489 (sd_callV hX (kd := 12) rfl (by decide) (ct_X12_longest l) mk_X12_longest w_952 ⟨⟨Nat.le_of_ble_eq_true rfl, Nat.le_of_ble_eq_true rfl⟩, Nat.le_of_ble_eq_true rfl, Nat.le_of_ble_eq_true rfl⟩ dL_law_490 (sd_icmp_eq hX dL_law_493 (by decide) sd_at (sd_iconst hX dL_law_496 rfl (sd_law1 hX hr dL_law_497)))))))))))))))))))))))))))
def BL_law_498 (L : Nat) (xs : Nat → Int32) (G : Nat → KT) : KT := (s_aload 1 (s_aload 0 (s_iload 3 (s_iconst (1) (s_bin (fun x y => x + y) (s_sald L xs (s_callV 11 1 pre_X11_empty fn_X11_empty (s_aload 2 (s_aload 0 (s_iload 3 (s_iconst (1) (s_bin (fun x y => x + y) (s_sald L xs (s_callV 12 1 pre_X12_empty fn_X12_empty (s_icmp (fun x y => x = y) (s_at G 960 [true, true, true, true]) (s_iconst (0) s_law1))))))))))))))))
set_option maxRecDepth 4000 in
theorem bsL_law_498 {p : Program} {l : Launch} {e : Env} {s : State} {m : MethodId} {b : Nat} {below : List Frame} {meth : Method} {c : Code} {D : va_G} {ca : Nat → ClassId} {ad : Nat → Nat} {L : Nat} {xs : Nat → Int32} (hX : CX p s m #[Value.ref b] meth c 4 cL_law "FairBlocksLaw" D ca ad (AA s.heap.size)) (hC : LWX ad b L xs s) (hr : meth.sig.returnType = ret) : ∀ lv st M, BL_law_498 L xs (Gd p l e room_1 s m #[Value.ref b] below meth c 4 D ca ad (AA s.heap.size) 600000 7302250 (lw_Z below #[Value.ref b] s)) lv st M → Gd p l e room_1 s m #[Value.ref b] below meth c 4 D ca ad (AA s.heap.size) 600000 7302250 (lw_Z below #[Value.ref b] s) 498 lv st M :=
  (sd_aload_n hX dL_law_498 rfl (sd_aload_n hX dL_law_499 rfl (sd_iload_n hX dL_law_500 rfl (sd_iconst hX dL_law_501 rfl (sd_iadd hX dL_law_502 (sd_sald hX hC dL_law_503 (sd_callV hX (kd := 11) rfl (by decide) (ct_X11_empty l) mk_X11_empty w_534 ⟨⟨Nat.le_of_ble_eq_true rfl, Nat.le_of_ble_eq_true rfl⟩, Nat.le_of_ble_eq_true rfl, Nat.le_of_ble_eq_true rfl⟩ dL_law_504 (sd_aload_n hX dL_law_507 rfl (sd_aload_n hX dL_law_508 rfl (sd_iload_n hX dL_law_509 rfl (sd_iconst hX dL_law_510 rfl (sd_iadd hX dL_law_511 (sd_sald hX hC dL_law_512 (sd_callV hX (kd := 12) rfl (by decide) (ct_X12_empty l) mk_X12_empty w_956 ⟨⟨Nat.le_of_ble_eq_true rfl, Nat.le_of_ble_eq_true rfl⟩, Nat.le_of_ble_eq_true rfl, Nat.le_of_ble_eq_true rfl⟩ dL_law_513 (sd_icmp_eq hX dL_law_516 (by decide) sd_at (sd_iconst hX dL_law_519 rfl (sd_law1 hX hr dL_law_520)))))))))))))))))
def BL_law_521 (L : Nat) (xs : Nat → Int32) (G : Nat → KT) : KT := (s_aload 1 (s_aload 0 (s_iload 3 (s_iconst (1) (s_bin (fun x y => x + y) (s_sald L xs (s_callV 11 1 pre_X11_best fn_X11_best (s_aload 2 (s_aload 0 (s_iload 3 (s_iconst (1) (s_bin (fun x y => x + y) (s_sald L xs (s_callV 12 1 pre_X12_best fn_X12_best (s_icmp (fun x y => x = y) (s_at G 960 [true, true, true, true]) (s_iconst (0) s_law1))))))))))))))))
set_option maxRecDepth 4000 in
theorem bsL_law_521 {p : Program} {l : Launch} {e : Env} {s : State} {m : MethodId} {b : Nat} {below : List Frame} {meth : Method} {c : Code} {D : va_G} {ca : Nat → ClassId} {ad : Nat → Nat} {L : Nat} {xs : Nat → Int32} (hX : CX p s m #[Value.ref b] meth c 4 cL_law "FairBlocksLaw" D ca ad (AA s.heap.size)) (hC : LWX ad b L xs s) (hr : meth.sig.returnType = ret) : ∀ lv st M, BL_law_521 L xs (Gd p l e room_1 s m #[Value.ref b] below meth c 4 D ca ad (AA s.heap.size) 600000 7302250 (lw_Z below #[Value.ref b] s)) lv st M → Gd p l e room_1 s m #[Value.ref b] below meth c 4 D ca ad (AA s.heap.size) 600000 7302250 (lw_Z below #[Value.ref b] s) 521 lv st M :=
  (sd_aload_n hX dL_law_521 rfl (sd_aload_n hX dL_law_522 rfl (sd_iload_n hX dL_law_523 rfl (sd_iconst hX dL_law_524 rfl (sd_iadd hX dL_law_525 (sd_sald hX hC dL_law_526 (sd_callV hX (kd := 11) rfl (by decide) (ct_X11_best l) mk_X11_best w_543 ⟨⟨Nat.le_of_ble_eq_true rfl, Nat.le_of_ble_eq_true rfl⟩, Nat.le_of_ble_eq_true rfl, Nat.le_of_ble_eq_true rfl⟩ dL_law_527 (sd_aload_n hX dL_law_530 rfl (sd_aload_n hX dL_law_531 rfl (sd_iload_n hX dL_law_532 rfl (sd_iconst hX dL_law_533 rfl (sd_iadd hX dL_law_534 (sd_sald hX hC dL_law_535 (sd_callV hX (kd := 12) rfl (by decide) (ct_X12_best l) mk_X12_best w_960 ⟨⟨Nat.le_of_ble_eq_true rfl, Nat.le_of_ble_eq_true rfl⟩, Nat.le_of_ble_eq_true rfl, Nat.le_of_ble_eq_true rfl⟩ dL_law_536 (sd_icmp_eq hX dL_law_539 (by decide) sd_at (sd_iconst hX dL_law_542 rfl (sd_law1 hX hr dL_law_543)))))))))))))))))
def BL_law_544 (L : Nat) (xs : Nat → Int32) (G : Nat → KT) : KT := (s_aload 1 (s_aload 0 (s_iload 3 (s_iconst (1) (s_bin (fun x y => x + y) (s_sald L xs (s_aload 0 (s_iload 3 (s_iconst (2) (s_bin (fun x y => x + y) (s_sald L xs (s_i2l (s_iconst (32) (s_lsh (fun x y => x <<< (y.toInt64 &&& 63)) (s_aload 0 (s_iload 3 (s_iconst (3) (s_bin (fun x y => x + y) (s_sald L xs (s_i2l (s_lconst (4294967295) (s_lbin (fun x y => x &&& y) (s_lbin (fun x y => x ||| y) (s_callV 11 2 pre_X11_judge fn_X11_judge (s_aload 2 (s_aload 0 (s_iload 3 (s_iconst (1) (s_bin (fun x y => x + y) (s_sald L xs (s_aload 0 (s_iload 3 (s_iconst (2) (s_bin (fun x y => x + y) (s_sald L xs (s_i2l (s_iconst (32) (s_lsh (fun x y => x <<< (y.toInt64 &&& 63)) (s_aload 0 (s_iload 3 (s_iconst (3) (s_bin (fun x y => x + y) (s_sald L xs (s_i2l (s_lconst (4294967295) (s_lbin (fun x y => x &&& y) (s_lbin (fun x y => x ||| y) (s_callV 12 2 pre_X12_judge fn_X12_judge (s_icmp (fun x y => x = y) (s_at G 960 [true, true, true, true]) (s_iconst (0) s_law1))))))))))))))))))))))))))))))))))))))))))))))))))
set_option maxRecDepth 4000 in
theorem bsL_law_544 {p : Program} {l : Launch} {e : Env} {s : State} {m : MethodId} {b : Nat} {below : List Frame} {meth : Method} {c : Code} {D : va_G} {ca : Nat → ClassId} {ad : Nat → Nat} {L : Nat} {xs : Nat → Int32} (hX : CX p s m #[Value.ref b] meth c 4 cL_law "FairBlocksLaw" D ca ad (AA s.heap.size)) (hC : LWX ad b L xs s) (hr : meth.sig.returnType = ret) : ∀ lv st M, BL_law_544 L xs (Gd p l e room_1 s m #[Value.ref b] below meth c 4 D ca ad (AA s.heap.size) 600000 7302250 (lw_Z below #[Value.ref b] s)) lv st M → Gd p l e room_1 s m #[Value.ref b] below meth c 4 D ca ad (AA s.heap.size) 600000 7302250 (lw_Z below #[Value.ref b] s) 544 lv st M :=
  (sd_aload_n hX dL_law_544 rfl (sd_aload_n hX dL_law_545 rfl (sd_iload_n hX dL_law_546 rfl (sd_iconst hX dL_law_547 rfl (sd_iadd hX dL_law_548 (sd_sald hX hC dL_law_549 (sd_aload_n hX dL_law_550 rfl (sd_iload_n hX dL_law_551 rfl (sd_iconst hX dL_law_552 rfl (sd_iadd hX dL_law_553 (sd_sald hX hC dL_law_554 (sd_i2l hX dL_law_555 (sd_bipush hX dL_law_556 rfl (sd_lshl hX dL_law_558 (sd_aload_n hX dL_law_559 rfl (sd_iload_n hX dL_law_560 rfl (sd_iconst hX dL_law_561 rfl (sd_iadd hX dL_law_562 (sd_sald hX hC dL_law_563 (sd_i2l hX dL_law_564 (sd_ldc2 hX w_1059 dL_law_565 (sd_land hX dL_law_568 (sd_lor hX dL_law_569 (sd_callV hX (kd := 11) rfl (by decide) (ct_X11_judge l) mk_X11_judge w_557 ⟨⟨Nat.le_of_ble_eq_true rfl, Nat.le_of_ble_eq_true rfl⟩, Nat.le_of_ble_eq_true rfl, Nat.le_of_ble_eq_true rfl⟩ dL_law_570 (sd_aload_n hX dL_law_573 rfl (sd_aload_n hX dL_law_574 rfl (sd_iload_n hX dL_law_575 rfl (sd_iconst hX dL_law_576 rfl (sd_iadd hX dL_law_577 (sd_sald hX hC dL_law_578 (sd_aload_n hX dL_law_579 rfl (sd_iload_n hX dL_law_580 rfl (sd_iconst hX dL_law_581 rfl (sd_iadd hX dL_law_582 (sd_sald hX hC dL_law_583 (sd_i2l hX dL_law_584 (sd_bipush hX dL_law_585 rfl (sd_lshl hX dL_law_587 (sd_aload_n hX dL_law_588 rfl (sd_iload_n hX dL_law_589 rfl (sd_iconst hX dL_law_590 rfl (sd_iadd hX dL_law_591 (sd_sald hX hC dL_law_592 (sd_i2l hX dL_law_593 (sd_ldc2 hX w_1059 dL_law_594 (sd_land hX dL_law_597 (sd_lor hX dL_law_598 (sd_callV hX (kd := 12) rfl (by decide) (ct_X12_judge l) mk_X12_judge w_964 ⟨⟨Nat.le_of_ble_eq_true rfl, Nat.le_of_ble_eq_true rfl⟩, Nat.le_of_ble_eq_true rfl, Nat.le_of_ble_eq_true rfl⟩ dL_law_599 (sd_icmp_eq hX dL_law_602 (by decide) sd_at (sd_iconst hX dL_law_605 rfl (sd_law1 hX hr dL_law_606)))))))))))))))))))))))))))))))))))))))))))))))))))
def BL_law_607 (L : Nat) (xs : Nat → Int32) (G : Nat → KT) : KT := (s_aload 1 (s_aload 0 (s_iload 3 (s_iconst (1) (s_bin (fun x y => x + y) (s_sald L xs (s_aload 0 (s_iload 3 (s_iconst (2) (s_bin (fun x y => x + y) (s_sald L xs (s_aload 0 (s_iload 3 (s_iconst (3) (s_bin (fun x y => x + y) (s_sald L xs (s_aload 0 (s_iload 3 (s_iconst (4) (s_bin (fun x y => x + y) (s_sald L xs (s_aload 0 (s_iload 3 (s_iconst (5) (s_bin (fun x y => x + y) (s_sald L xs (s_callV 11 5 pre_X11_see fn_X11_see (s_aload 2 (s_aload 0 (s_iload 3 (s_iconst (1) (s_bin (fun x y => x + y) (s_sald L xs (s_aload 0 (s_iload 3 (s_iconst (2) (s_bin (fun x y => x + y) (s_sald L xs (s_aload 0 (s_iload 3 (s_iconst (3) (s_bin (fun x y => x + y) (s_sald L xs (s_aload 0 (s_iload 3 (s_iconst (4) (s_bin (fun x y => x + y) (s_sald L xs (s_aload 0 (s_iload 3 (s_iconst (5) (s_bin (fun x y => x + y) (s_sald L xs (s_callV 12 5 pre_X12_see fn_X12_see (s_icmp (fun x y => x = y) (s_at G 960 [true, true, true, true]) (s_iconst (0) s_law1))))))))))))))))))))))))))))))))))))))))))))))))))))))))
set_option maxRecDepth 4000 in
theorem bsL_law_607 {p : Program} {l : Launch} {e : Env} {s : State} {m : MethodId} {b : Nat} {below : List Frame} {meth : Method} {c : Code} {D : va_G} {ca : Nat → ClassId} {ad : Nat → Nat} {L : Nat} {xs : Nat → Int32} (hX : CX p s m #[Value.ref b] meth c 4 cL_law "FairBlocksLaw" D ca ad (AA s.heap.size)) (hC : LWX ad b L xs s) (hr : meth.sig.returnType = ret) : ∀ lv st M, BL_law_607 L xs (Gd p l e room_1 s m #[Value.ref b] below meth c 4 D ca ad (AA s.heap.size) 600000 7302250 (lw_Z below #[Value.ref b] s)) lv st M → Gd p l e room_1 s m #[Value.ref b] below meth c 4 D ca ad (AA s.heap.size) 600000 7302250 (lw_Z below #[Value.ref b] s) 607 lv st M :=
  (sd_aload_n hX dL_law_607 rfl (sd_aload_n hX dL_law_608 rfl (sd_iload_n hX dL_law_609 rfl (sd_iconst hX dL_law_610 rfl (sd_iadd hX dL_law_611 (sd_sald hX hC dL_law_612 (sd_aload_n hX dL_law_613 rfl (sd_iload_n hX dL_law_614 rfl (sd_iconst hX dL_law_615 rfl (sd_iadd hX dL_law_616 (sd_sald hX hC dL_law_617 (sd_aload_n hX dL_law_618 rfl (sd_iload_n hX dL_law_619 rfl (sd_iconst hX dL_law_620 rfl (sd_iadd hX dL_law_621 (sd_sald hX hC dL_law_622 (sd_aload_n hX dL_law_623 rfl (sd_iload_n hX dL_law_624 rfl (sd_iconst hX dL_law_625 rfl (sd_iadd hX dL_law_626 (sd_sald hX hC dL_law_627 (sd_aload_n hX dL_law_628 rfl (sd_iload_n hX dL_law_629 rfl (sd_iconst hX dL_law_630 rfl (sd_iadd hX dL_law_631 (sd_sald hX hC dL_law_632 (sd_callV hX (kd := 11) rfl (by decide) (ct_X11_see l) mk_X11_see w_594 ⟨⟨Nat.le_of_ble_eq_true rfl, Nat.le_of_ble_eq_true rfl⟩, Nat.le_of_ble_eq_true rfl, Nat.le_of_ble_eq_true rfl⟩ dL_law_633 (sd_aload_n hX dL_law_636 rfl (sd_aload_n hX dL_law_637 rfl (sd_iload_n hX dL_law_638 rfl (sd_iconst hX dL_law_639 rfl (sd_iadd hX dL_law_640 (sd_sald hX hC dL_law_641 (sd_aload_n hX dL_law_642 rfl (sd_iload_n hX dL_law_643 rfl (sd_iconst hX dL_law_644 rfl (sd_iadd hX dL_law_645 (sd_sald hX hC dL_law_646 (sd_aload_n hX dL_law_647 rfl (sd_iload_n hX dL_law_648 rfl (sd_iconst hX dL_law_649 rfl (sd_iadd hX dL_law_650 (sd_sald hX hC dL_law_651 (sd_aload_n hX dL_law_652 rfl (sd_iload_n hX dL_law_653 rfl (sd_iconst hX dL_law_654 rfl (sd_iadd hX dL_law_655 (sd_sald hX hC dL_law_656 (sd_aload_n hX dL_law_657 rfl (sd_iload_n hX dL_law_658 rfl (sd_iconst hX dL_law_659 rfl (sd_iadd hX dL_law_660 (sd_sald hX hC dL_law_661 (sd_callV hX (kd := 12) rfl (by decide) (ct_X12_see l) mk_X12_see w_981 ⟨⟨Nat.le_of_ble_eq_true rfl, Nat.le_of_ble_eq_true rfl⟩, Nat.le_of_ble_eq_true rfl, Nat.le_of_ble_eq_true rfl⟩ dL_law_662 (sd_icmp_eq hX dL_law_665 (by decide) sd_at (sd_iconst hX dL_law_668 rfl (sd_law1 hX hr dL_law_669)))))))))))))))))))))))))))))))))))))))))))))))))))))))))
def BL_law_670 (L : Nat) (xs : Nat → Int32) (G : Nat → KT) : KT := (s_aload 1 (s_callV 11 0 pre_X11_unsee fn_X11_unsee (s_aload 2 (s_callV 12 0 pre_X12_unsee fn_X12_unsee (s_icmp (fun x y => x = y) (s_at G 960 [true, true, true, true]) (s_iconst (0) s_law1))))))
set_option maxRecDepth 4000 in
theorem bsL_law_670 {p : Program} {l : Launch} {e : Env} {s : State} {m : MethodId} {b : Nat} {below : List Frame} {meth : Method} {c : Code} {D : va_G} {ca : Nat → ClassId} {ad : Nat → Nat} {L : Nat} {xs : Nat → Int32} (hX : CX p s m #[Value.ref b] meth c 4 cL_law "FairBlocksLaw" D ca ad (AA s.heap.size)) (hC : LWX ad b L xs s) (hr : meth.sig.returnType = ret) : ∀ lv st M, BL_law_670 L xs (Gd p l e room_1 s m #[Value.ref b] below meth c 4 D ca ad (AA s.heap.size) 600000 7302250 (lw_Z below #[Value.ref b] s)) lv st M → Gd p l e room_1 s m #[Value.ref b] below meth c 4 D ca ad (AA s.heap.size) 600000 7302250 (lw_Z below #[Value.ref b] s) 670 lv st M :=
  (sd_aload_n hX dL_law_670 rfl (sd_callV hX (kd := 11) rfl (by decide) (ct_X11_unsee l) mk_X11_unsee w_602 ⟨⟨Nat.le_of_ble_eq_true rfl, Nat.le_of_ble_eq_true rfl⟩, Nat.le_of_ble_eq_true rfl, Nat.le_of_ble_eq_true rfl⟩ dL_law_671 (sd_aload_n hX dL_law_674 rfl (sd_callV hX (kd := 12) rfl (by decide) (ct_X12_unsee l) mk_X12_unsee w_985 ⟨⟨Nat.le_of_ble_eq_true rfl, Nat.le_of_ble_eq_true rfl⟩, Nat.le_of_ble_eq_true rfl, Nat.le_of_ble_eq_true rfl⟩ dL_law_675 (sd_icmp_eq hX dL_law_678 (by decide) sd_at (sd_iconst hX dL_law_681 rfl (sd_law1 hX hr dL_law_682)))))))
def BL_law_683 (L : Nat) (xs : Nat → Int32) (G : Nat → KT) : KT := (s_aload 1 (s_callV 11 0 pre_X11_which fn_X11_which (s_aload 2 (s_callV 12 0 pre_X12_which fn_X12_which (s_icmp (fun x y => x = y) (s_at G 960 [true, true, true, true]) (s_iconst (0) s_law1))))))
set_option maxRecDepth 4000 in
theorem bsL_law_683 {p : Program} {l : Launch} {e : Env} {s : State} {m : MethodId} {b : Nat} {below : List Frame} {meth : Method} {c : Code} {D : va_G} {ca : Nat → ClassId} {ad : Nat → Nat} {L : Nat} {xs : Nat → Int32} (hX : CX p s m #[Value.ref b] meth c 4 cL_law "FairBlocksLaw" D ca ad (AA s.heap.size)) (hC : LWX ad b L xs s) (hr : meth.sig.returnType = ret) : ∀ lv st M, BL_law_683 L xs (Gd p l e room_1 s m #[Value.ref b] below meth c 4 D ca ad (AA s.heap.size) 600000 7302250 (lw_Z below #[Value.ref b] s)) lv st M → Gd p l e room_1 s m #[Value.ref b] below meth c 4 D ca ad (AA s.heap.size) 600000 7302250 (lw_Z below #[Value.ref b] s) 683 lv st M :=
  (sd_aload_n hX dL_law_683 rfl (sd_callV hX (kd := 11) rfl (by decide) (ct_X11_which l) mk_X11_which w_606 ⟨⟨Nat.le_of_ble_eq_true rfl, Nat.le_of_ble_eq_true rfl⟩, Nat.le_of_ble_eq_true rfl, Nat.le_of_ble_eq_true rfl⟩ dL_law_684 (sd_aload_n hX dL_law_687 rfl (sd_callV hX (kd := 12) rfl (by decide) (ct_X12_which l) mk_X12_which w_989 ⟨⟨Nat.le_of_ble_eq_true rfl, Nat.le_of_ble_eq_true rfl⟩, Nat.le_of_ble_eq_true rfl, Nat.le_of_ble_eq_true rfl⟩ dL_law_688 (sd_icmp_eq hX dL_law_691 (by decide) sd_at (sd_iconst hX dL_law_694 rfl (sd_law1 hX hr dL_law_695)))))))
def BL_law_696 (L : Nat) (xs : Nat → Int32) (G : Nat → KT) : KT := (s_aload 1 (s_aload 0 (s_iload 3 (s_iconst (1) (s_bin (fun x y => x + y) (s_sald L xs (s_aload 0 (s_iload 3 (s_iconst (2) (s_bin (fun x y => x + y) (s_sald L xs (s_if (fun x => x = 0) (s_at G 714 [true, true, true, true]) (s_iconst (1) (s_at G 715 [true, true, true, true]))))))))))))))
set_option maxRecDepth 4000 in
theorem bsL_law_696 {p : Program} {l : Launch} {e : Env} {s : State} {m : MethodId} {b : Nat} {below : List Frame} {meth : Method} {c : Code} {D : va_G} {ca : Nat → ClassId} {ad : Nat → Nat} {L : Nat} {xs : Nat → Int32} (hX : CX p s m #[Value.ref b] meth c 4 cL_law "FairBlocksLaw" D ca ad (AA s.heap.size)) (hC : LWX ad b L xs s) (hr : meth.sig.returnType = ret) : ∀ lv st M, BL_law_696 L xs (Gd p l e room_1 s m #[Value.ref b] below meth c 4 D ca ad (AA s.heap.size) 600000 7302250 (lw_Z below #[Value.ref b] s)) lv st M → Gd p l e room_1 s m #[Value.ref b] below meth c 4 D ca ad (AA s.heap.size) 600000 7302250 (lw_Z below #[Value.ref b] s) 696 lv st M :=
  (sd_aload_n hX dL_law_696 rfl (sd_aload_n hX dL_law_697 rfl (sd_iload_n hX dL_law_698 rfl (sd_iconst hX dL_law_699 rfl (sd_iadd hX dL_law_700 (sd_sald hX hC dL_law_701 (sd_aload_n hX dL_law_702 rfl (sd_iload_n hX dL_law_703 rfl (sd_iconst hX dL_law_704 rfl (sd_iadd hX dL_law_705 (sd_sald hX hC dL_law_706 (sd_if_eq hX dL_law_707 (by decide) sd_at (sd_iconst hX dL_law_710 rfl (sd_goto hX dL_law_711 (by decide) sd_at))))))))))))))
def BL_law_714 (L : Nat) (xs : Nat → Int32) (G : Nat → KT) : KT := (s_iconst (0) (s_at G 715 [true, true, true, true]))
set_option maxRecDepth 4000 in
theorem bsL_law_714 {p : Program} {l : Launch} {e : Env} {s : State} {m : MethodId} {b : Nat} {below : List Frame} {meth : Method} {c : Code} {D : va_G} {ca : Nat → ClassId} {ad : Nat → Nat} {L : Nat} {xs : Nat → Int32} (hX : CX p s m #[Value.ref b] meth c 4 cL_law "FairBlocksLaw" D ca ad (AA s.heap.size)) (hC : LWX ad b L xs s) (hr : meth.sig.returnType = ret) : ∀ lv st M, BL_law_714 L xs (Gd p l e room_1 s m #[Value.ref b] below meth c 4 D ca ad (AA s.heap.size) 600000 7302250 (lw_Z below #[Value.ref b] s)) lv st M → Gd p l e room_1 s m #[Value.ref b] below meth c 4 D ca ad (AA s.heap.size) 600000 7302250 (lw_Z below #[Value.ref b] s) 714 lv st M :=
  (sd_iconst hX dL_law_714 rfl sd_at)
def BL_law_715 (L : Nat) (xs : Nat → Int32) (G : Nat → KT) : KT := (s_callV 11 2 pre_X11_share fn_X11_share (s_aload 2 (s_aload 0 (s_iload 3 (s_iconst (1) (s_bin (fun x y => x + y) (s_sald L xs (s_aload 0 (s_iload 3 (s_iconst (2) (s_bin (fun x y => x + y) (s_sald L xs (s_if (fun x => x = 0) (s_at G 736 [true, true, true, true]) (s_iconst (1) (s_at G 737 [true, true, true, true])))))))))))))))
set_option maxRecDepth 4000 in
theorem bsL_law_715 {p : Program} {l : Launch} {e : Env} {s : State} {m : MethodId} {b : Nat} {below : List Frame} {meth : Method} {c : Code} {D : va_G} {ca : Nat → ClassId} {ad : Nat → Nat} {L : Nat} {xs : Nat → Int32} (hX : CX p s m #[Value.ref b] meth c 4 cL_law "FairBlocksLaw" D ca ad (AA s.heap.size)) (hC : LWX ad b L xs s) (hr : meth.sig.returnType = ret) : ∀ lv st M, BL_law_715 L xs (Gd p l e room_1 s m #[Value.ref b] below meth c 4 D ca ad (AA s.heap.size) 600000 7302250 (lw_Z below #[Value.ref b] s)) lv st M → Gd p l e room_1 s m #[Value.ref b] below meth c 4 D ca ad (AA s.heap.size) 600000 7302250 (lw_Z below #[Value.ref b] s) 715 lv st M :=
  (sd_callV hX (kd := 11) rfl (by decide) (ct_X11_share l) mk_X11_share w_631 ⟨⟨Nat.le_of_ble_eq_true rfl, Nat.le_of_ble_eq_true rfl⟩, Nat.le_of_ble_eq_true rfl, Nat.le_of_ble_eq_true rfl⟩ dL_law_715 (sd_aload_n hX dL_law_718 rfl (sd_aload_n hX dL_law_719 rfl (sd_iload_n hX dL_law_720 rfl (sd_iconst hX dL_law_721 rfl (sd_iadd hX dL_law_722 (sd_sald hX hC dL_law_723 (sd_aload_n hX dL_law_724 rfl (sd_iload_n hX dL_law_725 rfl (sd_iconst hX dL_law_726 rfl (sd_iadd hX dL_law_727 (sd_sald hX hC dL_law_728 (sd_if_eq hX dL_law_729 (by decide) sd_at (sd_iconst hX dL_law_732 rfl (sd_goto hX dL_law_733 (by decide) sd_at)))))))))))))))
def BL_law_736 (L : Nat) (xs : Nat → Int32) (G : Nat → KT) : KT := (s_iconst (0) (s_at G 737 [true, true, true, true]))
set_option maxRecDepth 4000 in
theorem bsL_law_736 {p : Program} {l : Launch} {e : Env} {s : State} {m : MethodId} {b : Nat} {below : List Frame} {meth : Method} {c : Code} {D : va_G} {ca : Nat → ClassId} {ad : Nat → Nat} {L : Nat} {xs : Nat → Int32} (hX : CX p s m #[Value.ref b] meth c 4 cL_law "FairBlocksLaw" D ca ad (AA s.heap.size)) (hC : LWX ad b L xs s) (hr : meth.sig.returnType = ret) : ∀ lv st M, BL_law_736 L xs (Gd p l e room_1 s m #[Value.ref b] below meth c 4 D ca ad (AA s.heap.size) 600000 7302250 (lw_Z below #[Value.ref b] s)) lv st M → Gd p l e room_1 s m #[Value.ref b] below meth c 4 D ca ad (AA s.heap.size) 600000 7302250 (lw_Z below #[Value.ref b] s) 736 lv st M :=
  (sd_iconst hX dL_law_736 rfl sd_at)
def BL_law_737 (L : Nat) (xs : Nat → Int32) (G : Nat → KT) : KT := (s_callV 12 2 pre_X12_share fn_X12_share (s_icmp (fun x y => x = y) (s_at G 960 [true, true, true, true]) (s_iconst (0) s_law1)))
set_option maxRecDepth 4000 in
theorem bsL_law_737 {p : Program} {l : Launch} {e : Env} {s : State} {m : MethodId} {b : Nat} {below : List Frame} {meth : Method} {c : Code} {D : va_G} {ca : Nat → ClassId} {ad : Nat → Nat} {L : Nat} {xs : Nat → Int32} (hX : CX p s m #[Value.ref b] meth c 4 cL_law "FairBlocksLaw" D ca ad (AA s.heap.size)) (hC : LWX ad b L xs s) (hr : meth.sig.returnType = ret) : ∀ lv st M, BL_law_737 L xs (Gd p l e room_1 s m #[Value.ref b] below meth c 4 D ca ad (AA s.heap.size) 600000 7302250 (lw_Z below #[Value.ref b] s)) lv st M → Gd p l e room_1 s m #[Value.ref b] below meth c 4 D ca ad (AA s.heap.size) 600000 7302250 (lw_Z below #[Value.ref b] s) 737 lv st M :=
  (sd_callV hX (kd := 12) rfl (by decide) (ct_X12_share l) mk_X12_share w_997 ⟨⟨Nat.le_of_ble_eq_true rfl, Nat.le_of_ble_eq_true rfl⟩, Nat.le_of_ble_eq_true rfl, Nat.le_of_ble_eq_true rfl⟩ dL_law_737 (sd_icmp_eq hX dL_law_740 (by decide) sd_at (sd_iconst hX dL_law_743 rfl (sd_law1 hX hr dL_law_744))))
def BL_law_745 (L : Nat) (xs : Nat → Int32) (G : Nat → KT) : KT := (s_aload 1 (s_aload 0 (s_iload 3 (s_iconst (1) (s_bin (fun x y => x + y) (s_sald L xs (s_aload 0 (s_iload 3 (s_iconst (2) (s_bin (fun x y => x + y) (s_sald L xs (s_aload 0 (s_iload 3 (s_iconst (3) (s_bin (fun x y => x + y) (s_sald L xs (s_aload 0 (s_iload 3 (s_iconst (4) (s_bin (fun x y => x + y) (s_sald L xs (s_if (fun x => x = 0) (s_at G 773 [true, true, true, true]) (s_iconst (1) (s_at G 774 [true, true, true, true]))))))))))))))))))))))))
set_option maxRecDepth 4000 in
theorem bsL_law_745 {p : Program} {l : Launch} {e : Env} {s : State} {m : MethodId} {b : Nat} {below : List Frame} {meth : Method} {c : Code} {D : va_G} {ca : Nat → ClassId} {ad : Nat → Nat} {L : Nat} {xs : Nat → Int32} (hX : CX p s m #[Value.ref b] meth c 4 cL_law "FairBlocksLaw" D ca ad (AA s.heap.size)) (hC : LWX ad b L xs s) (hr : meth.sig.returnType = ret) : ∀ lv st M, BL_law_745 L xs (Gd p l e room_1 s m #[Value.ref b] below meth c 4 D ca ad (AA s.heap.size) 600000 7302250 (lw_Z below #[Value.ref b] s)) lv st M → Gd p l e room_1 s m #[Value.ref b] below meth c 4 D ca ad (AA s.heap.size) 600000 7302250 (lw_Z below #[Value.ref b] s) 745 lv st M :=
  (sd_aload_n hX dL_law_745 rfl (sd_aload_n hX dL_law_746 rfl (sd_iload_n hX dL_law_747 rfl (sd_iconst hX dL_law_748 rfl (sd_iadd hX dL_law_749 (sd_sald hX hC dL_law_750 (sd_aload_n hX dL_law_751 rfl (sd_iload_n hX dL_law_752 rfl (sd_iconst hX dL_law_753 rfl (sd_iadd hX dL_law_754 (sd_sald hX hC dL_law_755 (sd_aload_n hX dL_law_756 rfl (sd_iload_n hX dL_law_757 rfl (sd_iconst hX dL_law_758 rfl (sd_iadd hX dL_law_759 (sd_sald hX hC dL_law_760 (sd_aload_n hX dL_law_761 rfl (sd_iload_n hX dL_law_762 rfl (sd_iconst hX dL_law_763 rfl (sd_iadd hX dL_law_764 (sd_sald hX hC dL_law_765 (sd_if_eq hX dL_law_766 (by decide) sd_at (sd_iconst hX dL_law_769 rfl (sd_goto hX dL_law_770 (by decide) sd_at))))))))))))))))))))))))
def BL_law_773 (L : Nat) (xs : Nat → Int32) (G : Nat → KT) : KT := (s_iconst (0) (s_at G 774 [true, true, true, true]))
set_option maxRecDepth 4000 in
theorem bsL_law_773 {p : Program} {l : Launch} {e : Env} {s : State} {m : MethodId} {b : Nat} {below : List Frame} {meth : Method} {c : Code} {D : va_G} {ca : Nat → ClassId} {ad : Nat → Nat} {L : Nat} {xs : Nat → Int32} (hX : CX p s m #[Value.ref b] meth c 4 cL_law "FairBlocksLaw" D ca ad (AA s.heap.size)) (hC : LWX ad b L xs s) (hr : meth.sig.returnType = ret) : ∀ lv st M, BL_law_773 L xs (Gd p l e room_1 s m #[Value.ref b] below meth c 4 D ca ad (AA s.heap.size) 600000 7302250 (lw_Z below #[Value.ref b] s)) lv st M → Gd p l e room_1 s m #[Value.ref b] below meth c 4 D ca ad (AA s.heap.size) 600000 7302250 (lw_Z below #[Value.ref b] s) 773 lv st M :=
  (sd_iconst hX dL_law_773 rfl sd_at)
def BL_law_774 (L : Nat) (xs : Nat → Int32) (G : Nat → KT) : KT := (s_callV 11 4 pre_X11_fails fn_X11_fails (s_aload 2 (s_aload 0 (s_iload 3 (s_iconst (1) (s_bin (fun x y => x + y) (s_sald L xs (s_aload 0 (s_iload 3 (s_iconst (2) (s_bin (fun x y => x + y) (s_sald L xs (s_aload 0 (s_iload 3 (s_iconst (3) (s_bin (fun x y => x + y) (s_sald L xs (s_aload 0 (s_iload 3 (s_iconst (4) (s_bin (fun x y => x + y) (s_sald L xs (s_if (fun x => x = 0) (s_at G 805 [true, true, true, true]) (s_iconst (1) (s_at G 806 [true, true, true, true])))))))))))))))))))))))))
set_option maxRecDepth 4000 in
theorem bsL_law_774 {p : Program} {l : Launch} {e : Env} {s : State} {m : MethodId} {b : Nat} {below : List Frame} {meth : Method} {c : Code} {D : va_G} {ca : Nat → ClassId} {ad : Nat → Nat} {L : Nat} {xs : Nat → Int32} (hX : CX p s m #[Value.ref b] meth c 4 cL_law "FairBlocksLaw" D ca ad (AA s.heap.size)) (hC : LWX ad b L xs s) (hr : meth.sig.returnType = ret) : ∀ lv st M, BL_law_774 L xs (Gd p l e room_1 s m #[Value.ref b] below meth c 4 D ca ad (AA s.heap.size) 600000 7302250 (lw_Z below #[Value.ref b] s)) lv st M → Gd p l e room_1 s m #[Value.ref b] below meth c 4 D ca ad (AA s.heap.size) 600000 7302250 (lw_Z below #[Value.ref b] s) 774 lv st M :=
  (sd_callV hX (kd := 11) rfl (by decide) (ct_X11_fails l) mk_X11_fails w_670 ⟨⟨Nat.le_of_ble_eq_true rfl, Nat.le_of_ble_eq_true rfl⟩, Nat.le_of_ble_eq_true rfl, Nat.le_of_ble_eq_true rfl⟩ dL_law_774 (sd_aload_n hX dL_law_777 rfl (sd_aload_n hX dL_law_778 rfl (sd_iload_n hX dL_law_779 rfl (sd_iconst hX dL_law_780 rfl (sd_iadd hX dL_law_781 (sd_sald hX hC dL_law_782 (sd_aload_n hX dL_law_783 rfl (sd_iload_n hX dL_law_784 rfl (sd_iconst hX dL_law_785 rfl (sd_iadd hX dL_law_786 (sd_sald hX hC dL_law_787 (sd_aload_n hX dL_law_788 rfl (sd_iload_n hX dL_law_789 rfl (sd_iconst hX dL_law_790 rfl (sd_iadd hX dL_law_791 (sd_sald hX hC dL_law_792 (sd_aload_n hX dL_law_793 rfl (sd_iload_n hX dL_law_794 rfl (sd_iconst hX dL_law_795 rfl (sd_iadd hX dL_law_796 (sd_sald hX hC dL_law_797 (sd_if_eq hX dL_law_798 (by decide) sd_at (sd_iconst hX dL_law_801 rfl (sd_goto hX dL_law_802 (by decide) sd_at)))))))))))))))))))))))))
def BL_law_805 (L : Nat) (xs : Nat → Int32) (G : Nat → KT) : KT := (s_iconst (0) (s_at G 806 [true, true, true, true]))
set_option maxRecDepth 4000 in
theorem bsL_law_805 {p : Program} {l : Launch} {e : Env} {s : State} {m : MethodId} {b : Nat} {below : List Frame} {meth : Method} {c : Code} {D : va_G} {ca : Nat → ClassId} {ad : Nat → Nat} {L : Nat} {xs : Nat → Int32} (hX : CX p s m #[Value.ref b] meth c 4 cL_law "FairBlocksLaw" D ca ad (AA s.heap.size)) (hC : LWX ad b L xs s) (hr : meth.sig.returnType = ret) : ∀ lv st M, BL_law_805 L xs (Gd p l e room_1 s m #[Value.ref b] below meth c 4 D ca ad (AA s.heap.size) 600000 7302250 (lw_Z below #[Value.ref b] s)) lv st M → Gd p l e room_1 s m #[Value.ref b] below meth c 4 D ca ad (AA s.heap.size) 600000 7302250 (lw_Z below #[Value.ref b] s) 805 lv st M :=
  (sd_iconst hX dL_law_805 rfl sd_at)
def BL_law_806 (L : Nat) (xs : Nat → Int32) (G : Nat → KT) : KT := (s_callV 12 4 pre_X12_fails fn_X12_fails (s_icmp (fun x y => x = y) (s_at G 960 [true, true, true, true]) (s_iconst (0) s_law1)))
set_option maxRecDepth 4000 in
theorem bsL_law_806 {p : Program} {l : Launch} {e : Env} {s : State} {m : MethodId} {b : Nat} {below : List Frame} {meth : Method} {c : Code} {D : va_G} {ca : Nat → ClassId} {ad : Nat → Nat} {L : Nat} {xs : Nat → Int32} (hX : CX p s m #[Value.ref b] meth c 4 cL_law "FairBlocksLaw" D ca ad (AA s.heap.size)) (hC : LWX ad b L xs s) (hr : meth.sig.returnType = ret) : ∀ lv st M, BL_law_806 L xs (Gd p l e room_1 s m #[Value.ref b] below meth c 4 D ca ad (AA s.heap.size) 600000 7302250 (lw_Z below #[Value.ref b] s)) lv st M → Gd p l e room_1 s m #[Value.ref b] below meth c 4 D ca ad (AA s.heap.size) 600000 7302250 (lw_Z below #[Value.ref b] s) 806 lv st M :=
  (sd_callV hX (kd := 12) rfl (by decide) (ct_X12_fails l) mk_X12_fails w_1024 ⟨⟨Nat.le_of_ble_eq_true rfl, Nat.le_of_ble_eq_true rfl⟩, Nat.le_of_ble_eq_true rfl, Nat.le_of_ble_eq_true rfl⟩ dL_law_806 (sd_icmp_eq hX dL_law_809 (by decide) sd_at (sd_iconst hX dL_law_812 rfl (sd_law1 hX hr dL_law_813))))
def BL_law_814 (L : Nat) (xs : Nat → Int32) (G : Nat → KT) : KT := (s_aload 1 (s_aload 0 (s_iload 3 (s_iconst (1) (s_bin (fun x y => x + y) (s_sald L xs (s_i2l (s_iconst (32) (s_lsh (fun x y => x <<< (y.toInt64 &&& 63)) (s_aload 0 (s_iload 3 (s_iconst (2) (s_bin (fun x y => x + y) (s_sald L xs (s_i2l (s_lconst (4294967295) (s_lbin (fun x y => x &&& y) (s_lbin (fun x y => x ||| y) (s_callV 11 1 pre_X11_seed fn_X11_seed (s_aload 2 (s_aload 0 (s_iload 3 (s_iconst (1) (s_bin (fun x y => x + y) (s_sald L xs (s_i2l (s_iconst (32) (s_lsh (fun x y => x <<< (y.toInt64 &&& 63)) (s_aload 0 (s_iload 3 (s_iconst (2) (s_bin (fun x y => x + y) (s_sald L xs (s_i2l (s_lconst (4294967295) (s_lbin (fun x y => x &&& y) (s_lbin (fun x y => x ||| y) (s_callV 12 1 pre_X12_seed fn_X12_seed (s_lcmp (s_if (fun x => x = 0) (s_at G 960 [true, true, true, true]) (s_iconst (0) s_law1)))))))))))))))))))))))))))))))))))))))))
set_option maxRecDepth 4000 in
theorem bsL_law_814 {p : Program} {l : Launch} {e : Env} {s : State} {m : MethodId} {b : Nat} {below : List Frame} {meth : Method} {c : Code} {D : va_G} {ca : Nat → ClassId} {ad : Nat → Nat} {L : Nat} {xs : Nat → Int32} (hX : CX p s m #[Value.ref b] meth c 4 cL_law "FairBlocksLaw" D ca ad (AA s.heap.size)) (hC : LWX ad b L xs s) (hr : meth.sig.returnType = ret) : ∀ lv st M, BL_law_814 L xs (Gd p l e room_1 s m #[Value.ref b] below meth c 4 D ca ad (AA s.heap.size) 600000 7302250 (lw_Z below #[Value.ref b] s)) lv st M → Gd p l e room_1 s m #[Value.ref b] below meth c 4 D ca ad (AA s.heap.size) 600000 7302250 (lw_Z below #[Value.ref b] s) 814 lv st M :=
  (sd_aload_n hX dL_law_814 rfl (sd_aload_n hX dL_law_815 rfl (sd_iload_n hX dL_law_816 rfl (sd_iconst hX dL_law_817 rfl (sd_iadd hX dL_law_818 (sd_sald hX hC dL_law_819 (sd_i2l hX dL_law_820 (sd_bipush hX dL_law_821 rfl (sd_lshl hX dL_law_823 (sd_aload_n hX dL_law_824 rfl (sd_iload_n hX dL_law_825 rfl (sd_iconst hX dL_law_826 rfl (sd_iadd hX dL_law_827 (sd_sald hX hC dL_law_828 (sd_i2l hX dL_law_829 (sd_ldc2 hX w_1059 dL_law_830 (sd_land hX dL_law_833 (sd_lor hX dL_law_834 (sd_callV hX (kd := 11) rfl (by decide) (ct_X11_seed l) mk_X11_seed w_687 ⟨⟨Nat.le_of_ble_eq_true rfl, Nat.le_of_ble_eq_true rfl⟩, Nat.le_of_ble_eq_true rfl, Nat.le_of_ble_eq_true rfl⟩ dL_law_835 (sd_aload_n hX dL_law_838 rfl (sd_aload_n hX dL_law_839 rfl (sd_iload_n hX dL_law_840 rfl (sd_iconst hX dL_law_841 rfl (sd_iadd hX dL_law_842 (sd_sald hX hC dL_law_843 (sd_i2l hX dL_law_844 (sd_bipush hX dL_law_845 rfl (sd_lshl hX dL_law_847 (sd_aload_n hX dL_law_848 rfl (sd_iload_n hX dL_law_849 rfl (sd_iconst hX dL_law_850 rfl (sd_iadd hX dL_law_851 (sd_sald hX hC dL_law_852 (sd_i2l hX dL_law_853 (sd_ldc2 hX w_1059 dL_law_854 (sd_land hX dL_law_857 (sd_lor hX dL_law_858 (sd_callV hX (kd := 12) rfl (by decide) (ct_X12_seed l) mk_X12_seed w_1032 ⟨⟨Nat.le_of_ble_eq_true rfl, Nat.le_of_ble_eq_true rfl⟩, Nat.le_of_ble_eq_true rfl, Nat.le_of_ble_eq_true rfl⟩ dL_law_859 (sd_lcmp hX dL_law_862 (sd_if_eq hX dL_law_863 (by decide) sd_at (sd_iconst hX dL_law_866 rfl (sd_law1 hX hr dL_law_867))))))))))))))))))))))))))))))))))))))))))
def BL_law_868 (L : Nat) (xs : Nat → Int32) (G : Nat → KT) : KT := (s_aload 1 (s_aload 0 (s_iload 3 (s_iconst (1) (s_bin (fun x y => x + y) (s_sald L xs (s_callV 11 1 pre_X11_drawn fn_X11_drawn (s_aload 2 (s_aload 0 (s_iload 3 (s_iconst (1) (s_bin (fun x y => x + y) (s_sald L xs (s_callV 12 1 pre_X12_drawn fn_X12_drawn (s_icmp (fun x y => x = y) (s_at G 960 [true, true, true, true]) (s_iconst (0) s_law1))))))))))))))))
set_option maxRecDepth 4000 in
theorem bsL_law_868 {p : Program} {l : Launch} {e : Env} {s : State} {m : MethodId} {b : Nat} {below : List Frame} {meth : Method} {c : Code} {D : va_G} {ca : Nat → ClassId} {ad : Nat → Nat} {L : Nat} {xs : Nat → Int32} (hX : CX p s m #[Value.ref b] meth c 4 cL_law "FairBlocksLaw" D ca ad (AA s.heap.size)) (hC : LWX ad b L xs s) (hr : meth.sig.returnType = ret) : ∀ lv st M, BL_law_868 L xs (Gd p l e room_1 s m #[Value.ref b] below meth c 4 D ca ad (AA s.heap.size) 600000 7302250 (lw_Z below #[Value.ref b] s)) lv st M → Gd p l e room_1 s m #[Value.ref b] below meth c 4 D ca ad (AA s.heap.size) 600000 7302250 (lw_Z below #[Value.ref b] s) 868 lv st M :=
  (sd_aload_n hX dL_law_868 rfl (sd_aload_n hX dL_law_869 rfl (sd_iload_n hX dL_law_870 rfl (sd_iconst hX dL_law_871 rfl (sd_iadd hX dL_law_872 (sd_sald hX hC dL_law_873 (sd_callV hX (kd := 11) rfl (by decide) (ct_X11_drawn l) mk_X11_drawn w_691 ⟨⟨Nat.le_of_ble_eq_true rfl, Nat.le_of_ble_eq_true rfl⟩, Nat.le_of_ble_eq_true rfl, Nat.le_of_ble_eq_true rfl⟩ dL_law_874 (sd_aload_n hX dL_law_877 rfl (sd_aload_n hX dL_law_878 rfl (sd_iload_n hX dL_law_879 rfl (sd_iconst hX dL_law_880 rfl (sd_iadd hX dL_law_881 (sd_sald hX hC dL_law_882 (sd_callV hX (kd := 12) rfl (by decide) (ct_X12_drawn l) mk_X12_drawn w_1036 ⟨⟨Nat.le_of_ble_eq_true rfl, Nat.le_of_ble_eq_true rfl⟩, Nat.le_of_ble_eq_true rfl, Nat.le_of_ble_eq_true rfl⟩ dL_law_883 (sd_icmp_eq hX dL_law_886 (by decide) sd_at (sd_iconst hX dL_law_889 rfl (sd_law1 hX hr dL_law_890)))))))))))))))))
def BL_law_891 (L : Nat) (xs : Nat → Int32) (G : Nat → KT) : KT := (s_aload 1 (s_aload 0 (s_iload 3 (s_iconst (1) (s_bin (fun x y => x + y) (s_sald L xs (s_callV 11 1 pre_X11_keep fn_X11_keep (s_aload 2 (s_aload 0 (s_iload 3 (s_iconst (1) (s_bin (fun x y => x + y) (s_sald L xs (s_callV 12 1 pre_X12_keep fn_X12_keep (s_icmp (fun x y => x = y) (s_at G 960 [true, true, true, true]) (s_iconst (0) s_law1))))))))))))))))
set_option maxRecDepth 4000 in
theorem bsL_law_891 {p : Program} {l : Launch} {e : Env} {s : State} {m : MethodId} {b : Nat} {below : List Frame} {meth : Method} {c : Code} {D : va_G} {ca : Nat → ClassId} {ad : Nat → Nat} {L : Nat} {xs : Nat → Int32} (hX : CX p s m #[Value.ref b] meth c 4 cL_law "FairBlocksLaw" D ca ad (AA s.heap.size)) (hC : LWX ad b L xs s) (hr : meth.sig.returnType = ret) : ∀ lv st M, BL_law_891 L xs (Gd p l e room_1 s m #[Value.ref b] below meth c 4 D ca ad (AA s.heap.size) 600000 7302250 (lw_Z below #[Value.ref b] s)) lv st M → Gd p l e room_1 s m #[Value.ref b] below meth c 4 D ca ad (AA s.heap.size) 600000 7302250 (lw_Z below #[Value.ref b] s) 891 lv st M :=
  (sd_aload_n hX dL_law_891 rfl (sd_aload_n hX dL_law_892 rfl (sd_iload_n hX dL_law_893 rfl (sd_iconst hX dL_law_894 rfl (sd_iadd hX dL_law_895 (sd_sald hX hC dL_law_896 (sd_callV hX (kd := 11) rfl (by decide) (ct_X11_keep l) mk_X11_keep w_698 ⟨⟨Nat.le_of_ble_eq_true rfl, Nat.le_of_ble_eq_true rfl⟩, Nat.le_of_ble_eq_true rfl, Nat.le_of_ble_eq_true rfl⟩ dL_law_897 (sd_aload_n hX dL_law_900 rfl (sd_aload_n hX dL_law_901 rfl (sd_iload_n hX dL_law_902 rfl (sd_iconst hX dL_law_903 rfl (sd_iadd hX dL_law_904 (sd_sald hX hC dL_law_905 (sd_callV hX (kd := 12) rfl (by decide) (ct_X12_keep l) mk_X12_keep w_1043 ⟨⟨Nat.le_of_ble_eq_true rfl, Nat.le_of_ble_eq_true rfl⟩, Nat.le_of_ble_eq_true rfl, Nat.le_of_ble_eq_true rfl⟩ dL_law_906 (sd_icmp_eq hX dL_law_909 (by decide) sd_at (sd_iconst hX dL_law_912 rfl (sd_law1 hX hr dL_law_913)))))))))))))))))
def BL_law_914 (L : Nat) (xs : Nat → Int32) (G : Nat → KT) : KT := (s_aload 1 (s_aload 0 (s_iload 3 (s_iconst (1) (s_bin (fun x y => x + y) (s_sald L xs (s_callV 11 1 pre_X11_again fn_X11_again (s_aload 2 (s_aload 0 (s_iload 3 (s_iconst (1) (s_bin (fun x y => x + y) (s_sald L xs (s_callV 12 1 pre_X12_again fn_X12_again (s_icmp (fun x y => x = y) (s_at G 960 [true, true, true, true]) (s_iconst (0) s_law1))))))))))))))))
set_option maxRecDepth 4000 in
theorem bsL_law_914 {p : Program} {l : Launch} {e : Env} {s : State} {m : MethodId} {b : Nat} {below : List Frame} {meth : Method} {c : Code} {D : va_G} {ca : Nat → ClassId} {ad : Nat → Nat} {L : Nat} {xs : Nat → Int32} (hX : CX p s m #[Value.ref b] meth c 4 cL_law "FairBlocksLaw" D ca ad (AA s.heap.size)) (hC : LWX ad b L xs s) (hr : meth.sig.returnType = ret) : ∀ lv st M, BL_law_914 L xs (Gd p l e room_1 s m #[Value.ref b] below meth c 4 D ca ad (AA s.heap.size) 600000 7302250 (lw_Z below #[Value.ref b] s)) lv st M → Gd p l e room_1 s m #[Value.ref b] below meth c 4 D ca ad (AA s.heap.size) 600000 7302250 (lw_Z below #[Value.ref b] s) 914 lv st M :=
  (sd_aload_n hX dL_law_914 rfl (sd_aload_n hX dL_law_915 rfl (sd_iload_n hX dL_law_916 rfl (sd_iconst hX dL_law_917 rfl (sd_iadd hX dL_law_918 (sd_sald hX hC dL_law_919 (sd_callV hX (kd := 11) rfl (by decide) (ct_X11_again l) mk_X11_again w_703 ⟨⟨Nat.le_of_ble_eq_true rfl, Nat.le_of_ble_eq_true rfl⟩, Nat.le_of_ble_eq_true rfl, Nat.le_of_ble_eq_true rfl⟩ dL_law_920 (sd_aload_n hX dL_law_923 rfl (sd_aload_n hX dL_law_924 rfl (sd_iload_n hX dL_law_925 rfl (sd_iconst hX dL_law_926 rfl (sd_iadd hX dL_law_927 (sd_sald hX hC dL_law_928 (sd_callV hX (kd := 12) rfl (by decide) (ct_X12_again l) mk_X12_again w_1047 ⟨⟨Nat.le_of_ble_eq_true rfl, Nat.le_of_ble_eq_true rfl⟩, Nat.le_of_ble_eq_true rfl, Nat.le_of_ble_eq_true rfl⟩ dL_law_929 (sd_icmp_eq hX dL_law_932 (by decide) sd_at (sd_iconst hX dL_law_935 rfl (sd_law1 hX hr dL_law_936)))))))))))))))))
def BL_law_937 (L : Nat) (xs : Nat → Int32) (G : Nat → KT) : KT := (s_aload 1 (s_aload 0 (s_iload 3 (s_iconst (1) (s_bin (fun x y => x + y) (s_sald L xs (s_callV 11 1 pre_X11_count fn_X11_count (s_aload 2 (s_aload 0 (s_iload 3 (s_iconst (1) (s_bin (fun x y => x + y) (s_sald L xs (s_callV 12 1 pre_X12_count fn_X12_count (s_icmp (fun x y => x = y) (s_at G 960 [true, true, true, true]) (s_iconst (0) s_law1))))))))))))))))
set_option maxRecDepth 4000 in
theorem bsL_law_937 {p : Program} {l : Launch} {e : Env} {s : State} {m : MethodId} {b : Nat} {below : List Frame} {meth : Method} {c : Code} {D : va_G} {ca : Nat → ClassId} {ad : Nat → Nat} {L : Nat} {xs : Nat → Int32} (hX : CX p s m #[Value.ref b] meth c 4 cL_law "FairBlocksLaw" D ca ad (AA s.heap.size)) (hC : LWX ad b L xs s) (hr : meth.sig.returnType = ret) : ∀ lv st M, BL_law_937 L xs (Gd p l e room_1 s m #[Value.ref b] below meth c 4 D ca ad (AA s.heap.size) 600000 7302250 (lw_Z below #[Value.ref b] s)) lv st M → Gd p l e room_1 s m #[Value.ref b] below meth c 4 D ca ad (AA s.heap.size) 600000 7302250 (lw_Z below #[Value.ref b] s) 937 lv st M :=
  (sd_aload_n hX dL_law_937 rfl (sd_aload_n hX dL_law_938 rfl (sd_iload_n hX dL_law_939 rfl (sd_iconst hX dL_law_940 rfl (sd_iadd hX dL_law_941 (sd_sald hX hC dL_law_942 (sd_callV hX (kd := 11) rfl (by decide) (ct_X11_count l) mk_X11_count w_707 ⟨⟨Nat.le_of_ble_eq_true rfl, Nat.le_of_ble_eq_true rfl⟩, Nat.le_of_ble_eq_true rfl, Nat.le_of_ble_eq_true rfl⟩ dL_law_943 (sd_aload_n hX dL_law_946 rfl (sd_aload_n hX dL_law_947 rfl (sd_iload_n hX dL_law_948 rfl (sd_iconst hX dL_law_949 rfl (sd_iadd hX dL_law_950 (sd_sald hX hC dL_law_951 (sd_callV hX (kd := 12) rfl (by decide) (ct_X12_count l) mk_X12_count w_1051 ⟨⟨Nat.le_of_ble_eq_true rfl, Nat.le_of_ble_eq_true rfl⟩, Nat.le_of_ble_eq_true rfl, Nat.le_of_ble_eq_true rfl⟩ dL_law_952 (sd_icmp_eq hX dL_law_955 (by decide) sd_at (sd_iconst hX dL_law_958 rfl (sd_law1 hX hr dL_law_959)))))))))))))))))
def BL_law_960 (L : Nat) (xs : Nat → Int32) (G : Nat → KT) : KT := (s_iinc 3 (6) (s_at G 18 [true, true, true, true]))
set_option maxRecDepth 4000 in
theorem bsL_law_960 {p : Program} {l : Launch} {e : Env} {s : State} {m : MethodId} {b : Nat} {below : List Frame} {meth : Method} {c : Code} {D : va_G} {ca : Nat → ClassId} {ad : Nat → Nat} {L : Nat} {xs : Nat → Int32} (hX : CX p s m #[Value.ref b] meth c 4 cL_law "FairBlocksLaw" D ca ad (AA s.heap.size)) (hC : LWX ad b L xs s) (hr : meth.sig.returnType = ret) : ∀ lv st M, BL_law_960 L xs (Gd p l e room_1 s m #[Value.ref b] below meth c 4 D ca ad (AA s.heap.size) 600000 7302250 (lw_Z below #[Value.ref b] s)) lv st M → Gd p l e room_1 s m #[Value.ref b] below meth c 4 D ca ad (AA s.heap.size) 600000 7302250 (lw_Z below #[Value.ref b] s) 960 lv st M :=
  (sd_iinc hX (by decide) dL_law_960 rfl (sd_goto hX dL_law_963 (by decide) sd_at))
def BL_law_966 (L : Nat) (xs : Nat → Int32) (G : Nat → KT) : KT := (s_iconst (1) s_law1)
set_option maxRecDepth 4000 in
theorem bsL_law_966 {p : Program} {l : Launch} {e : Env} {s : State} {m : MethodId} {b : Nat} {below : List Frame} {meth : Method} {c : Code} {D : va_G} {ca : Nat → ClassId} {ad : Nat → Nat} {L : Nat} {xs : Nat → Int32} (hX : CX p s m #[Value.ref b] meth c 4 cL_law "FairBlocksLaw" D ca ad (AA s.heap.size)) (hC : LWX ad b L xs s) (hr : meth.sig.returnType = ret) : ∀ lv st M, BL_law_966 L xs (Gd p l e room_1 s m #[Value.ref b] below meth c 4 D ca ad (AA s.heap.size) 600000 7302250 (lw_Z below #[Value.ref b] s)) lv st M → Gd p l e room_1 s m #[Value.ref b] below meth c 4 D ca ad (AA s.heap.size) 600000 7302250 (lw_Z below #[Value.ref b] s) 966 lv st M :=
  (sd_iconst hX dL_law_966 rfl (sd_law1 hX hr dL_law_967))
