abbrev M_L_law : am_M := ((⟨"SignCellarLaw", "law", "([I)Z"⟩ : MethodName), code, 4, (some .boolean), 8, 181)
theorem dL_law_0 : decode code 0 = .ok (.new 7, 3) := by decide +kernel
theorem dL_law_3 : decode code 3 = .ok (.dup, 1) := by decide +kernel
theorem dL_law_4 : decode code 4 = .ok (.invokespecial 9, 3) := by decide +kernel
theorem dL_law_7 : decode code 7 = .ok (.astore_n 1, 1) := by decide +kernel
theorem dL_law_8 : decode code 8 = .ok (.new 10, 3) := by decide +kernel
theorem dL_law_11 : decode code 11 = .ok (.dup, 1) := by decide +kernel
theorem dL_law_12 : decode code 12 = .ok (.invokespecial 12, 3) := by decide +kernel
theorem dL_law_15 : decode code 15 = .ok (.astore_n 2, 1) := by decide +kernel
theorem dL_law_16 : decode code 16 = .ok (.iconst 0, 1) := by decide +kernel
theorem dL_law_17 : decode code 17 = .ok (.istore_n 3, 1) := by decide +kernel
theorem dL_law_18 : decode code 18 = .ok (.iload_n 3, 1) := by decide +kernel
theorem dL_law_19 : decode code 19 = .ok (.aload_n 0, 1) := by decide +kernel
theorem dL_law_20 : decode code 20 = .ok (.arraylength, 1) := by decide +kernel
theorem dL_law_21 : decode code 21 = .ok (.iconst 5, 1) := by decide +kernel
theorem dL_law_22 : decode code 22 = .ok (.isub, 1) := by decide +kernel
theorem dL_law_23 : decode code 23 = .ok (.if_icmp .gt 1135, 3) := by decide +kernel
theorem dL_law_26 : decode code 26 = .ok (.aload_n 0, 1) := by decide +kernel
theorem dL_law_27 : decode code 27 = .ok (.iload_n 3, 1) := by decide +kernel
theorem dL_law_28 : decode code 28 = .ok (.iaload, 1) := by decide +kernel
theorem dL_law_29 : decode code 29 = .ok (.bipush 31, 2) := by decide +kernel
theorem dL_law_31 : decode code 31 = .ok (.iand, 1) := by decide +kernel
theorem dL_law_32 : decode code 32 = .ok (.tableswitch 1120 0 28 #[132, 195, 208, 251, 294, 327, 360, 393, 426, 459, 482, 515, 548, 581, 614, 657, 690, 733, 776, 799, 812, 855, 908, 931, 974, 997, 1040, 1064, 1087], 132) := by decide +kernel
theorem dL_law_164 : decode code 164 = .ok (.aload_n 1, 1) := by decide +kernel
theorem dL_law_165 : decode code 165 = .ok (.aload_n 0, 1) := by decide +kernel
theorem dL_law_166 : decode code 166 = .ok (.iload_n 3, 1) := by decide +kernel
theorem dL_law_167 : decode code 167 = .ok (.iconst 1, 1) := by decide +kernel
theorem dL_law_168 : decode code 168 = .ok (.iadd, 1) := by decide +kernel
theorem dL_law_169 : decode code 169 = .ok (.iaload, 1) := by decide +kernel
theorem dL_law_170 : decode code 170 = .ok (.aload_n 0, 1) := by decide +kernel
theorem dL_law_171 : decode code 171 = .ok (.iload_n 3, 1) := by decide +kernel
theorem dL_law_172 : decode code 172 = .ok (.iconst 2, 1) := by decide +kernel
theorem dL_law_173 : decode code 173 = .ok (.iadd, 1) := by decide +kernel
theorem dL_law_174 : decode code 174 = .ok (.iaload, 1) := by decide +kernel
theorem dL_law_175 : decode code 175 = .ok (.i2l, 1) := by decide +kernel
theorem dL_law_176 : decode code 176 = .ok (.bipush 32, 2) := by decide +kernel
theorem dL_law_178 : decode code 178 = .ok (.lshl, 1) := by decide +kernel
theorem dL_law_179 : decode code 179 = .ok (.aload_n 0, 1) := by decide +kernel
theorem dL_law_180 : decode code 180 = .ok (.iload_n 3, 1) := by decide +kernel
theorem dL_law_181 : decode code 181 = .ok (.iconst 3, 1) := by decide +kernel
theorem dL_law_182 : decode code 182 = .ok (.iadd, 1) := by decide +kernel
theorem dL_law_183 : decode code 183 = .ok (.iaload, 1) := by decide +kernel
theorem dL_law_184 : decode code 184 = .ok (.i2l, 1) := by decide +kernel
theorem dL_law_185 : decode code 185 = .ok (.ldc2_w 13, 3) := by decide +kernel
theorem dL_law_188 : decode code 188 = .ok (.land, 1) := by decide +kernel
theorem dL_law_189 : decode code 189 = .ok (.lor, 1) := by decide +kernel
theorem dL_law_190 : decode code 190 = .ok (.invokevirtual 15, 3) := by decide +kernel
theorem dL_law_193 : decode code 193 = .ok (.aload_n 2, 1) := by decide +kernel
theorem dL_law_194 : decode code 194 = .ok (.aload_n 0, 1) := by decide +kernel
theorem dL_law_195 : decode code 195 = .ok (.iload_n 3, 1) := by decide +kernel
theorem dL_law_196 : decode code 196 = .ok (.iconst 1, 1) := by decide +kernel
theorem dL_law_197 : decode code 197 = .ok (.iadd, 1) := by decide +kernel
theorem dL_law_198 : decode code 198 = .ok (.iaload, 1) := by decide +kernel
theorem dL_law_199 : decode code 199 = .ok (.aload_n 0, 1) := by decide +kernel
theorem dL_law_200 : decode code 200 = .ok (.iload_n 3, 1) := by decide +kernel
theorem dL_law_201 : decode code 201 = .ok (.iconst 2, 1) := by decide +kernel
theorem dL_law_202 : decode code 202 = .ok (.iadd, 1) := by decide +kernel
theorem dL_law_203 : decode code 203 = .ok (.iaload, 1) := by decide +kernel
theorem dL_law_204 : decode code 204 = .ok (.i2l, 1) := by decide +kernel
theorem dL_law_205 : decode code 205 = .ok (.bipush 32, 2) := by decide +kernel
theorem dL_law_207 : decode code 207 = .ok (.lshl, 1) := by decide +kernel
theorem dL_law_208 : decode code 208 = .ok (.aload_n 0, 1) := by decide +kernel
theorem dL_law_209 : decode code 209 = .ok (.iload_n 3, 1) := by decide +kernel
theorem dL_law_210 : decode code 210 = .ok (.iconst 3, 1) := by decide +kernel
theorem dL_law_211 : decode code 211 = .ok (.iadd, 1) := by decide +kernel
theorem dL_law_212 : decode code 212 = .ok (.iaload, 1) := by decide +kernel
theorem dL_law_213 : decode code 213 = .ok (.i2l, 1) := by decide +kernel
theorem dL_law_214 : decode code 214 = .ok (.ldc2_w 13, 3) := by decide +kernel
theorem dL_law_217 : decode code 217 = .ok (.land, 1) := by decide +kernel
theorem dL_law_218 : decode code 218 = .ok (.lor, 1) := by decide +kernel
theorem dL_law_219 : decode code 219 = .ok (.invokevirtual 19, 3) := by decide +kernel
theorem dL_law_222 : decode code 222 = .ok (.if_icmp .eq 930, 3) := by decide +kernel
theorem dL_law_225 : decode code 225 = .ok (.iconst 0, 1) := by decide +kernel
theorem dL_law_226 : decode code 226 = .ok (.ireturn, 1) := by decide +kernel
theorem dL_law_227 : decode code 227 = .ok (.aload_n 1, 1) := by decide +kernel
theorem dL_law_228 : decode code 228 = .ok (.invokevirtual 20, 3) := by decide +kernel
theorem dL_law_231 : decode code 231 = .ok (.aload_n 2, 1) := by decide +kernel
theorem dL_law_232 : decode code 232 = .ok (.invokevirtual 24, 3) := by decide +kernel
theorem dL_law_235 : decode code 235 = .ok (.if_icmp .eq 917, 3) := by decide +kernel
theorem dL_law_238 : decode code 238 = .ok (.iconst 0, 1) := by decide +kernel
theorem dL_law_239 : decode code 239 = .ok (.ireturn, 1) := by decide +kernel
theorem dL_law_240 : decode code 240 = .ok (.aload_n 1, 1) := by decide +kernel
theorem dL_law_241 : decode code 241 = .ok (.aload_n 0, 1) := by decide +kernel
theorem dL_law_242 : decode code 242 = .ok (.iload_n 3, 1) := by decide +kernel
theorem dL_law_243 : decode code 243 = .ok (.iconst 1, 1) := by decide +kernel
theorem dL_law_244 : decode code 244 = .ok (.iadd, 1) := by decide +kernel
theorem dL_law_245 : decode code 245 = .ok (.iaload, 1) := by decide +kernel
theorem dL_law_246 : decode code 246 = .ok (.aload_n 0, 1) := by decide +kernel
theorem dL_law_247 : decode code 247 = .ok (.iload_n 3, 1) := by decide +kernel
theorem dL_law_248 : decode code 248 = .ok (.iconst 2, 1) := by decide +kernel
theorem dL_law_249 : decode code 249 = .ok (.iadd, 1) := by decide +kernel
theorem dL_law_250 : decode code 250 = .ok (.iaload, 1) := by decide +kernel
theorem dL_law_251 : decode code 251 = .ok (.aload_n 0, 1) := by decide +kernel
theorem dL_law_252 : decode code 252 = .ok (.iload_n 3, 1) := by decide +kernel
theorem dL_law_253 : decode code 253 = .ok (.iconst 3, 1) := by decide +kernel
theorem dL_law_254 : decode code 254 = .ok (.iadd, 1) := by decide +kernel
theorem dL_law_255 : decode code 255 = .ok (.iaload, 1) := by decide +kernel
theorem dL_law_256 : decode code 256 = .ok (.invokevirtual 25, 3) := by decide +kernel
theorem dL_law_259 : decode code 259 = .ok (.aload_n 2, 1) := by decide +kernel
theorem dL_law_260 : decode code 260 = .ok (.aload_n 0, 1) := by decide +kernel
theorem dL_law_261 : decode code 261 = .ok (.iload_n 3, 1) := by decide +kernel
theorem dL_law_262 : decode code 262 = .ok (.iconst 1, 1) := by decide +kernel
theorem dL_law_263 : decode code 263 = .ok (.iadd, 1) := by decide +kernel
theorem dL_law_264 : decode code 264 = .ok (.iaload, 1) := by decide +kernel
theorem dL_law_265 : decode code 265 = .ok (.aload_n 0, 1) := by decide +kernel
theorem dL_law_266 : decode code 266 = .ok (.iload_n 3, 1) := by decide +kernel
theorem dL_law_267 : decode code 267 = .ok (.iconst 2, 1) := by decide +kernel
theorem dL_law_268 : decode code 268 = .ok (.iadd, 1) := by decide +kernel
theorem dL_law_269 : decode code 269 = .ok (.iaload, 1) := by decide +kernel
theorem dL_law_270 : decode code 270 = .ok (.aload_n 0, 1) := by decide +kernel
theorem dL_law_271 : decode code 271 = .ok (.iload_n 3, 1) := by decide +kernel
theorem dL_law_272 : decode code 272 = .ok (.iconst 3, 1) := by decide +kernel
theorem dL_law_273 : decode code 273 = .ok (.iadd, 1) := by decide +kernel
theorem dL_law_274 : decode code 274 = .ok (.iaload, 1) := by decide +kernel
theorem dL_law_275 : decode code 275 = .ok (.invokevirtual 29, 3) := by decide +kernel
theorem dL_law_278 : decode code 278 = .ok (.if_icmp .eq 874, 3) := by decide +kernel
theorem dL_law_281 : decode code 281 = .ok (.iconst 0, 1) := by decide +kernel
theorem dL_law_282 : decode code 282 = .ok (.ireturn, 1) := by decide +kernel
theorem dL_law_283 : decode code 283 = .ok (.aload_n 1, 1) := by decide +kernel
theorem dL_law_284 : decode code 284 = .ok (.aload_n 0, 1) := by decide +kernel
theorem dL_law_285 : decode code 285 = .ok (.iload_n 3, 1) := by decide +kernel
theorem dL_law_286 : decode code 286 = .ok (.iconst 1, 1) := by decide +kernel
theorem dL_law_287 : decode code 287 = .ok (.iadd, 1) := by decide +kernel
theorem dL_law_288 : decode code 288 = .ok (.iaload, 1) := by decide +kernel
theorem dL_law_289 : decode code 289 = .ok (.aload_n 0, 1) := by decide +kernel
theorem dL_law_290 : decode code 290 = .ok (.iload_n 3, 1) := by decide +kernel
theorem dL_law_291 : decode code 291 = .ok (.iconst 2, 1) := by decide +kernel
theorem dL_law_292 : decode code 292 = .ok (.iadd, 1) := by decide +kernel
theorem dL_law_293 : decode code 293 = .ok (.iaload, 1) := by decide +kernel
theorem dL_law_294 : decode code 294 = .ok (.aload_n 0, 1) := by decide +kernel
theorem dL_law_295 : decode code 295 = .ok (.iload_n 3, 1) := by decide +kernel
theorem dL_law_296 : decode code 296 = .ok (.iconst 3, 1) := by decide +kernel
theorem dL_law_297 : decode code 297 = .ok (.iadd, 1) := by decide +kernel
theorem dL_law_298 : decode code 298 = .ok (.iaload, 1) := by decide +kernel
theorem dL_law_299 : decode code 299 = .ok (.invokevirtual 30, 3) := by decide +kernel
theorem dL_law_302 : decode code 302 = .ok (.aload_n 2, 1) := by decide +kernel
theorem dL_law_303 : decode code 303 = .ok (.aload_n 0, 1) := by decide +kernel
theorem dL_law_304 : decode code 304 = .ok (.iload_n 3, 1) := by decide +kernel
theorem dL_law_305 : decode code 305 = .ok (.iconst 1, 1) := by decide +kernel
theorem dL_law_306 : decode code 306 = .ok (.iadd, 1) := by decide +kernel
theorem dL_law_307 : decode code 307 = .ok (.iaload, 1) := by decide +kernel
theorem dL_law_308 : decode code 308 = .ok (.aload_n 0, 1) := by decide +kernel
theorem dL_law_309 : decode code 309 = .ok (.iload_n 3, 1) := by decide +kernel
theorem dL_law_310 : decode code 310 = .ok (.iconst 2, 1) := by decide +kernel
theorem dL_law_311 : decode code 311 = .ok (.iadd, 1) := by decide +kernel
theorem dL_law_312 : decode code 312 = .ok (.iaload, 1) := by decide +kernel
theorem dL_law_313 : decode code 313 = .ok (.aload_n 0, 1) := by decide +kernel
theorem dL_law_314 : decode code 314 = .ok (.iload_n 3, 1) := by decide +kernel
theorem dL_law_315 : decode code 315 = .ok (.iconst 3, 1) := by decide +kernel
theorem dL_law_316 : decode code 316 = .ok (.iadd, 1) := by decide +kernel
theorem dL_law_317 : decode code 317 = .ok (.iaload, 1) := by decide +kernel
theorem dL_law_318 : decode code 318 = .ok (.invokevirtual 33, 3) := by decide +kernel
theorem dL_law_321 : decode code 321 = .ok (.if_icmp .eq 831, 3) := by decide +kernel
theorem dL_law_324 : decode code 324 = .ok (.iconst 0, 1) := by decide +kernel
theorem dL_law_325 : decode code 325 = .ok (.ireturn, 1) := by decide +kernel
theorem dL_law_326 : decode code 326 = .ok (.aload_n 1, 1) := by decide +kernel
theorem dL_law_327 : decode code 327 = .ok (.aload_n 0, 1) := by decide +kernel
theorem dL_law_328 : decode code 328 = .ok (.iload_n 3, 1) := by decide +kernel
theorem dL_law_329 : decode code 329 = .ok (.iconst 1, 1) := by decide +kernel
theorem dL_law_330 : decode code 330 = .ok (.iadd, 1) := by decide +kernel
theorem dL_law_331 : decode code 331 = .ok (.iaload, 1) := by decide +kernel
theorem dL_law_332 : decode code 332 = .ok (.aload_n 0, 1) := by decide +kernel
theorem dL_law_333 : decode code 333 = .ok (.iload_n 3, 1) := by decide +kernel
theorem dL_law_334 : decode code 334 = .ok (.iconst 2, 1) := by decide +kernel
theorem dL_law_335 : decode code 335 = .ok (.iadd, 1) := by decide +kernel
theorem dL_law_336 : decode code 336 = .ok (.iaload, 1) := by decide +kernel
theorem dL_law_337 : decode code 337 = .ok (.invokevirtual 34, 3) := by decide +kernel
theorem dL_law_340 : decode code 340 = .ok (.aload_n 2, 1) := by decide +kernel
theorem dL_law_341 : decode code 341 = .ok (.aload_n 0, 1) := by decide +kernel
theorem dL_law_342 : decode code 342 = .ok (.iload_n 3, 1) := by decide +kernel
theorem dL_law_343 : decode code 343 = .ok (.iconst 1, 1) := by decide +kernel
theorem dL_law_344 : decode code 344 = .ok (.iadd, 1) := by decide +kernel
theorem dL_law_345 : decode code 345 = .ok (.iaload, 1) := by decide +kernel
theorem dL_law_346 : decode code 346 = .ok (.aload_n 0, 1) := by decide +kernel
theorem dL_law_347 : decode code 347 = .ok (.iload_n 3, 1) := by decide +kernel
theorem dL_law_348 : decode code 348 = .ok (.iconst 2, 1) := by decide +kernel
theorem dL_law_349 : decode code 349 = .ok (.iadd, 1) := by decide +kernel
theorem dL_law_350 : decode code 350 = .ok (.iaload, 1) := by decide +kernel
theorem dL_law_351 : decode code 351 = .ok (.invokevirtual 38, 3) := by decide +kernel
theorem dL_law_354 : decode code 354 = .ok (.if_icmp .eq 798, 3) := by decide +kernel
theorem dL_law_357 : decode code 357 = .ok (.iconst 0, 1) := by decide +kernel
theorem dL_law_358 : decode code 358 = .ok (.ireturn, 1) := by decide +kernel
theorem dL_law_359 : decode code 359 = .ok (.aload_n 1, 1) := by decide +kernel
theorem dL_law_360 : decode code 360 = .ok (.aload_n 0, 1) := by decide +kernel
theorem dL_law_361 : decode code 361 = .ok (.iload_n 3, 1) := by decide +kernel
theorem dL_law_362 : decode code 362 = .ok (.iconst 1, 1) := by decide +kernel
theorem dL_law_363 : decode code 363 = .ok (.iadd, 1) := by decide +kernel
theorem dL_law_364 : decode code 364 = .ok (.iaload, 1) := by decide +kernel
theorem dL_law_365 : decode code 365 = .ok (.aload_n 0, 1) := by decide +kernel
theorem dL_law_366 : decode code 366 = .ok (.iload_n 3, 1) := by decide +kernel
theorem dL_law_367 : decode code 367 = .ok (.iconst 2, 1) := by decide +kernel
theorem dL_law_368 : decode code 368 = .ok (.iadd, 1) := by decide +kernel
theorem dL_law_369 : decode code 369 = .ok (.iaload, 1) := by decide +kernel
theorem dL_law_370 : decode code 370 = .ok (.invokevirtual 39, 3) := by decide +kernel
theorem dL_law_373 : decode code 373 = .ok (.aload_n 2, 1) := by decide +kernel
theorem dL_law_374 : decode code 374 = .ok (.aload_n 0, 1) := by decide +kernel
theorem dL_law_375 : decode code 375 = .ok (.iload_n 3, 1) := by decide +kernel
theorem dL_law_376 : decode code 376 = .ok (.iconst 1, 1) := by decide +kernel
theorem dL_law_377 : decode code 377 = .ok (.iadd, 1) := by decide +kernel
theorem dL_law_378 : decode code 378 = .ok (.iaload, 1) := by decide +kernel
theorem dL_law_379 : decode code 379 = .ok (.aload_n 0, 1) := by decide +kernel
theorem dL_law_380 : decode code 380 = .ok (.iload_n 3, 1) := by decide +kernel
theorem dL_law_381 : decode code 381 = .ok (.iconst 2, 1) := by decide +kernel
theorem dL_law_382 : decode code 382 = .ok (.iadd, 1) := by decide +kernel
theorem dL_law_383 : decode code 383 = .ok (.iaload, 1) := by decide +kernel
theorem dL_law_384 : decode code 384 = .ok (.invokevirtual 42, 3) := by decide +kernel
theorem dL_law_387 : decode code 387 = .ok (.if_icmp .eq 765, 3) := by decide +kernel
theorem dL_law_390 : decode code 390 = .ok (.iconst 0, 1) := by decide +kernel
theorem dL_law_391 : decode code 391 = .ok (.ireturn, 1) := by decide +kernel
theorem dL_law_392 : decode code 392 = .ok (.aload_n 1, 1) := by decide +kernel
theorem dL_law_393 : decode code 393 = .ok (.aload_n 0, 1) := by decide +kernel
theorem dL_law_394 : decode code 394 = .ok (.iload_n 3, 1) := by decide +kernel
theorem dL_law_395 : decode code 395 = .ok (.iconst 1, 1) := by decide +kernel
theorem dL_law_396 : decode code 396 = .ok (.iadd, 1) := by decide +kernel
theorem dL_law_397 : decode code 397 = .ok (.iaload, 1) := by decide +kernel
theorem dL_law_398 : decode code 398 = .ok (.aload_n 0, 1) := by decide +kernel
theorem dL_law_399 : decode code 399 = .ok (.iload_n 3, 1) := by decide +kernel
theorem dL_law_400 : decode code 400 = .ok (.iconst 2, 1) := by decide +kernel
theorem dL_law_401 : decode code 401 = .ok (.iadd, 1) := by decide +kernel
theorem dL_law_402 : decode code 402 = .ok (.iaload, 1) := by decide +kernel
theorem dL_law_403 : decode code 403 = .ok (.invokevirtual 43, 3) := by decide +kernel
theorem dL_law_406 : decode code 406 = .ok (.aload_n 2, 1) := by decide +kernel
theorem dL_law_407 : decode code 407 = .ok (.aload_n 0, 1) := by decide +kernel
theorem dL_law_408 : decode code 408 = .ok (.iload_n 3, 1) := by decide +kernel
theorem dL_law_409 : decode code 409 = .ok (.iconst 1, 1) := by decide +kernel
theorem dL_law_410 : decode code 410 = .ok (.iadd, 1) := by decide +kernel
theorem dL_law_411 : decode code 411 = .ok (.iaload, 1) := by decide +kernel
theorem dL_law_412 : decode code 412 = .ok (.aload_n 0, 1) := by decide +kernel
theorem dL_law_413 : decode code 413 = .ok (.iload_n 3, 1) := by decide +kernel
theorem dL_law_414 : decode code 414 = .ok (.iconst 2, 1) := by decide +kernel
theorem dL_law_415 : decode code 415 = .ok (.iadd, 1) := by decide +kernel
theorem dL_law_416 : decode code 416 = .ok (.iaload, 1) := by decide +kernel
theorem dL_law_417 : decode code 417 = .ok (.invokevirtual 46, 3) := by decide +kernel
theorem dL_law_420 : decode code 420 = .ok (.if_icmp .eq 732, 3) := by decide +kernel
theorem dL_law_423 : decode code 423 = .ok (.iconst 0, 1) := by decide +kernel
theorem dL_law_424 : decode code 424 = .ok (.ireturn, 1) := by decide +kernel
theorem dL_law_425 : decode code 425 = .ok (.aload_n 1, 1) := by decide +kernel
theorem dL_law_426 : decode code 426 = .ok (.aload_n 0, 1) := by decide +kernel
theorem dL_law_427 : decode code 427 = .ok (.iload_n 3, 1) := by decide +kernel
theorem dL_law_428 : decode code 428 = .ok (.iconst 1, 1) := by decide +kernel
theorem dL_law_429 : decode code 429 = .ok (.iadd, 1) := by decide +kernel
theorem dL_law_430 : decode code 430 = .ok (.iaload, 1) := by decide +kernel
theorem dL_law_431 : decode code 431 = .ok (.aload_n 0, 1) := by decide +kernel
theorem dL_law_432 : decode code 432 = .ok (.iload_n 3, 1) := by decide +kernel
theorem dL_law_433 : decode code 433 = .ok (.iconst 2, 1) := by decide +kernel
theorem dL_law_434 : decode code 434 = .ok (.iadd, 1) := by decide +kernel
theorem dL_law_435 : decode code 435 = .ok (.iaload, 1) := by decide +kernel
theorem dL_law_436 : decode code 436 = .ok (.invokevirtual 47, 3) := by decide +kernel
theorem dL_law_439 : decode code 439 = .ok (.aload_n 2, 1) := by decide +kernel
theorem dL_law_440 : decode code 440 = .ok (.aload_n 0, 1) := by decide +kernel
theorem dL_law_441 : decode code 441 = .ok (.iload_n 3, 1) := by decide +kernel
theorem dL_law_442 : decode code 442 = .ok (.iconst 1, 1) := by decide +kernel
theorem dL_law_443 : decode code 443 = .ok (.iadd, 1) := by decide +kernel
theorem dL_law_444 : decode code 444 = .ok (.iaload, 1) := by decide +kernel
theorem dL_law_445 : decode code 445 = .ok (.aload_n 0, 1) := by decide +kernel
theorem dL_law_446 : decode code 446 = .ok (.iload_n 3, 1) := by decide +kernel
theorem dL_law_447 : decode code 447 = .ok (.iconst 2, 1) := by decide +kernel
theorem dL_law_448 : decode code 448 = .ok (.iadd, 1) := by decide +kernel
theorem dL_law_449 : decode code 449 = .ok (.iaload, 1) := by decide +kernel
theorem dL_law_450 : decode code 450 = .ok (.invokevirtual 50, 3) := by decide +kernel
theorem dL_law_453 : decode code 453 = .ok (.if_icmp .eq 699, 3) := by decide +kernel
theorem dL_law_456 : decode code 456 = .ok (.iconst 0, 1) := by decide +kernel
theorem dL_law_457 : decode code 457 = .ok (.ireturn, 1) := by decide +kernel
theorem dL_law_458 : decode code 458 = .ok (.aload_n 1, 1) := by decide +kernel
theorem dL_law_459 : decode code 459 = .ok (.aload_n 0, 1) := by decide +kernel
theorem dL_law_460 : decode code 460 = .ok (.iload_n 3, 1) := by decide +kernel
theorem dL_law_461 : decode code 461 = .ok (.iconst 1, 1) := by decide +kernel
theorem dL_law_462 : decode code 462 = .ok (.iadd, 1) := by decide +kernel
theorem dL_law_463 : decode code 463 = .ok (.iaload, 1) := by decide +kernel
theorem dL_law_464 : decode code 464 = .ok (.aload_n 0, 1) := by decide +kernel
theorem dL_law_465 : decode code 465 = .ok (.iload_n 3, 1) := by decide +kernel
theorem dL_law_466 : decode code 466 = .ok (.iconst 2, 1) := by decide +kernel
theorem dL_law_467 : decode code 467 = .ok (.iadd, 1) := by decide +kernel
theorem dL_law_468 : decode code 468 = .ok (.iaload, 1) := by decide +kernel
theorem dL_law_469 : decode code 469 = .ok (.invokevirtual 51, 3) := by decide +kernel
theorem dL_law_472 : decode code 472 = .ok (.aload_n 2, 1) := by decide +kernel
theorem dL_law_473 : decode code 473 = .ok (.aload_n 0, 1) := by decide +kernel
theorem dL_law_474 : decode code 474 = .ok (.iload_n 3, 1) := by decide +kernel
theorem dL_law_475 : decode code 475 = .ok (.iconst 1, 1) := by decide +kernel
theorem dL_law_476 : decode code 476 = .ok (.iadd, 1) := by decide +kernel
theorem dL_law_477 : decode code 477 = .ok (.iaload, 1) := by decide +kernel
theorem dL_law_478 : decode code 478 = .ok (.aload_n 0, 1) := by decide +kernel
theorem dL_law_479 : decode code 479 = .ok (.iload_n 3, 1) := by decide +kernel
theorem dL_law_480 : decode code 480 = .ok (.iconst 2, 1) := by decide +kernel
theorem dL_law_481 : decode code 481 = .ok (.iadd, 1) := by decide +kernel
theorem dL_law_482 : decode code 482 = .ok (.iaload, 1) := by decide +kernel
theorem dL_law_483 : decode code 483 = .ok (.invokevirtual 54, 3) := by decide +kernel
theorem dL_law_486 : decode code 486 = .ok (.if_icmp .eq 666, 3) := by decide +kernel
theorem dL_law_489 : decode code 489 = .ok (.iconst 0, 1) := by decide +kernel
theorem dL_law_490 : decode code 490 = .ok (.ireturn, 1) := by decide +kernel
theorem dL_law_491 : decode code 491 = .ok (.aload_n 1, 1) := by decide +kernel
theorem dL_law_492 : decode code 492 = .ok (.aload_n 0, 1) := by decide +kernel
theorem dL_law_493 : decode code 493 = .ok (.iload_n 3, 1) := by decide +kernel
theorem dL_law_494 : decode code 494 = .ok (.iconst 1, 1) := by decide +kernel
theorem dL_law_495 : decode code 495 = .ok (.iadd, 1) := by decide +kernel
theorem dL_law_496 : decode code 496 = .ok (.iaload, 1) := by decide +kernel
theorem dL_law_497 : decode code 497 = .ok (.invokevirtual 55, 3) := by decide +kernel
theorem dL_law_500 : decode code 500 = .ok (.aload_n 2, 1) := by decide +kernel
theorem dL_law_501 : decode code 501 = .ok (.aload_n 0, 1) := by decide +kernel
theorem dL_law_502 : decode code 502 = .ok (.iload_n 3, 1) := by decide +kernel
theorem dL_law_503 : decode code 503 = .ok (.iconst 1, 1) := by decide +kernel
theorem dL_law_504 : decode code 504 = .ok (.iadd, 1) := by decide +kernel
theorem dL_law_505 : decode code 505 = .ok (.iaload, 1) := by decide +kernel
theorem dL_law_506 : decode code 506 = .ok (.invokevirtual 59, 3) := by decide +kernel
theorem dL_law_509 : decode code 509 = .ok (.if_icmp .eq 643, 3) := by decide +kernel
theorem dL_law_512 : decode code 512 = .ok (.iconst 0, 1) := by decide +kernel
theorem dL_law_513 : decode code 513 = .ok (.ireturn, 1) := by decide +kernel
theorem dL_law_514 : decode code 514 = .ok (.aload_n 1, 1) := by decide +kernel
theorem dL_law_515 : decode code 515 = .ok (.aload_n 0, 1) := by decide +kernel
theorem dL_law_516 : decode code 516 = .ok (.iload_n 3, 1) := by decide +kernel
theorem dL_law_517 : decode code 517 = .ok (.iconst 1, 1) := by decide +kernel
theorem dL_law_518 : decode code 518 = .ok (.iadd, 1) := by decide +kernel
theorem dL_law_519 : decode code 519 = .ok (.iaload, 1) := by decide +kernel
theorem dL_law_520 : decode code 520 = .ok (.aload_n 0, 1) := by decide +kernel
theorem dL_law_521 : decode code 521 = .ok (.iload_n 3, 1) := by decide +kernel
theorem dL_law_522 : decode code 522 = .ok (.iconst 2, 1) := by decide +kernel
theorem dL_law_523 : decode code 523 = .ok (.iadd, 1) := by decide +kernel
theorem dL_law_524 : decode code 524 = .ok (.iaload, 1) := by decide +kernel
theorem dL_law_525 : decode code 525 = .ok (.invokevirtual 60, 3) := by decide +kernel
theorem dL_law_528 : decode code 528 = .ok (.aload_n 2, 1) := by decide +kernel
theorem dL_law_529 : decode code 529 = .ok (.aload_n 0, 1) := by decide +kernel
theorem dL_law_530 : decode code 530 = .ok (.iload_n 3, 1) := by decide +kernel
theorem dL_law_531 : decode code 531 = .ok (.iconst 1, 1) := by decide +kernel
theorem dL_law_532 : decode code 532 = .ok (.iadd, 1) := by decide +kernel
theorem dL_law_533 : decode code 533 = .ok (.iaload, 1) := by decide +kernel
theorem dL_law_534 : decode code 534 = .ok (.aload_n 0, 1) := by decide +kernel
theorem dL_law_535 : decode code 535 = .ok (.iload_n 3, 1) := by decide +kernel
theorem dL_law_536 : decode code 536 = .ok (.iconst 2, 1) := by decide +kernel
theorem dL_law_537 : decode code 537 = .ok (.iadd, 1) := by decide +kernel
theorem dL_law_538 : decode code 538 = .ok (.iaload, 1) := by decide +kernel
theorem dL_law_539 : decode code 539 = .ok (.invokevirtual 63, 3) := by decide +kernel
theorem dL_law_542 : decode code 542 = .ok (.if_icmp .eq 610, 3) := by decide +kernel
theorem dL_law_545 : decode code 545 = .ok (.iconst 0, 1) := by decide +kernel
theorem dL_law_546 : decode code 546 = .ok (.ireturn, 1) := by decide +kernel
theorem dL_law_547 : decode code 547 = .ok (.aload_n 1, 1) := by decide +kernel
theorem dL_law_548 : decode code 548 = .ok (.aload_n 0, 1) := by decide +kernel
theorem dL_law_549 : decode code 549 = .ok (.iload_n 3, 1) := by decide +kernel
theorem dL_law_550 : decode code 550 = .ok (.iconst 1, 1) := by decide +kernel
theorem dL_law_551 : decode code 551 = .ok (.iadd, 1) := by decide +kernel
theorem dL_law_552 : decode code 552 = .ok (.iaload, 1) := by decide +kernel
theorem dL_law_553 : decode code 553 = .ok (.aload_n 0, 1) := by decide +kernel
theorem dL_law_554 : decode code 554 = .ok (.iload_n 3, 1) := by decide +kernel
theorem dL_law_555 : decode code 555 = .ok (.iconst 2, 1) := by decide +kernel
theorem dL_law_556 : decode code 556 = .ok (.iadd, 1) := by decide +kernel
theorem dL_law_557 : decode code 557 = .ok (.iaload, 1) := by decide +kernel
theorem dL_law_558 : decode code 558 = .ok (.invokevirtual 64, 3) := by decide +kernel
theorem dL_law_561 : decode code 561 = .ok (.aload_n 2, 1) := by decide +kernel
theorem dL_law_562 : decode code 562 = .ok (.aload_n 0, 1) := by decide +kernel
theorem dL_law_563 : decode code 563 = .ok (.iload_n 3, 1) := by decide +kernel
theorem dL_law_564 : decode code 564 = .ok (.iconst 1, 1) := by decide +kernel
theorem dL_law_565 : decode code 565 = .ok (.iadd, 1) := by decide +kernel
theorem dL_law_566 : decode code 566 = .ok (.iaload, 1) := by decide +kernel
theorem dL_law_567 : decode code 567 = .ok (.aload_n 0, 1) := by decide +kernel
theorem dL_law_568 : decode code 568 = .ok (.iload_n 3, 1) := by decide +kernel
theorem dL_law_569 : decode code 569 = .ok (.iconst 2, 1) := by decide +kernel
theorem dL_law_570 : decode code 570 = .ok (.iadd, 1) := by decide +kernel
theorem dL_law_571 : decode code 571 = .ok (.iaload, 1) := by decide +kernel
theorem dL_law_572 : decode code 572 = .ok (.invokevirtual 67, 3) := by decide +kernel
theorem dL_law_575 : decode code 575 = .ok (.if_icmp .eq 577, 3) := by decide +kernel
theorem dL_law_578 : decode code 578 = .ok (.iconst 0, 1) := by decide +kernel
theorem dL_law_579 : decode code 579 = .ok (.ireturn, 1) := by decide +kernel
theorem dL_law_580 : decode code 580 = .ok (.aload_n 1, 1) := by decide +kernel
theorem dL_law_581 : decode code 581 = .ok (.aload_n 0, 1) := by decide +kernel
theorem dL_law_582 : decode code 582 = .ok (.iload_n 3, 1) := by decide +kernel
theorem dL_law_583 : decode code 583 = .ok (.iconst 1, 1) := by decide +kernel
theorem dL_law_584 : decode code 584 = .ok (.iadd, 1) := by decide +kernel
theorem dL_law_585 : decode code 585 = .ok (.iaload, 1) := by decide +kernel
theorem dL_law_586 : decode code 586 = .ok (.aload_n 0, 1) := by decide +kernel
theorem dL_law_587 : decode code 587 = .ok (.iload_n 3, 1) := by decide +kernel
theorem dL_law_588 : decode code 588 = .ok (.iconst 2, 1) := by decide +kernel
theorem dL_law_589 : decode code 589 = .ok (.iadd, 1) := by decide +kernel
theorem dL_law_590 : decode code 590 = .ok (.iaload, 1) := by decide +kernel
theorem dL_law_591 : decode code 591 = .ok (.invokevirtual 68, 3) := by decide +kernel
theorem dL_law_594 : decode code 594 = .ok (.aload_n 2, 1) := by decide +kernel
theorem dL_law_595 : decode code 595 = .ok (.aload_n 0, 1) := by decide +kernel
theorem dL_law_596 : decode code 596 = .ok (.iload_n 3, 1) := by decide +kernel
theorem dL_law_597 : decode code 597 = .ok (.iconst 1, 1) := by decide +kernel
theorem dL_law_598 : decode code 598 = .ok (.iadd, 1) := by decide +kernel
theorem dL_law_599 : decode code 599 = .ok (.iaload, 1) := by decide +kernel
theorem dL_law_600 : decode code 600 = .ok (.aload_n 0, 1) := by decide +kernel
theorem dL_law_601 : decode code 601 = .ok (.iload_n 3, 1) := by decide +kernel
theorem dL_law_602 : decode code 602 = .ok (.iconst 2, 1) := by decide +kernel
theorem dL_law_603 : decode code 603 = .ok (.iadd, 1) := by decide +kernel
theorem dL_law_604 : decode code 604 = .ok (.iaload, 1) := by decide +kernel
theorem dL_law_605 : decode code 605 = .ok (.invokevirtual 71, 3) := by decide +kernel
theorem dL_law_608 : decode code 608 = .ok (.if_icmp .eq 544, 3) := by decide +kernel
theorem dL_law_611 : decode code 611 = .ok (.iconst 0, 1) := by decide +kernel
theorem dL_law_612 : decode code 612 = .ok (.ireturn, 1) := by decide +kernel
theorem dL_law_613 : decode code 613 = .ok (.aload_n 1, 1) := by decide +kernel
theorem dL_law_614 : decode code 614 = .ok (.aload_n 0, 1) := by decide +kernel
theorem dL_law_615 : decode code 615 = .ok (.iload_n 3, 1) := by decide +kernel
theorem dL_law_616 : decode code 616 = .ok (.iconst 1, 1) := by decide +kernel
theorem dL_law_617 : decode code 617 = .ok (.iadd, 1) := by decide +kernel
theorem dL_law_618 : decode code 618 = .ok (.iaload, 1) := by decide +kernel
theorem dL_law_619 : decode code 619 = .ok (.aload_n 0, 1) := by decide +kernel
theorem dL_law_620 : decode code 620 = .ok (.iload_n 3, 1) := by decide +kernel
theorem dL_law_621 : decode code 621 = .ok (.iconst 2, 1) := by decide +kernel
theorem dL_law_622 : decode code 622 = .ok (.iadd, 1) := by decide +kernel
theorem dL_law_623 : decode code 623 = .ok (.iaload, 1) := by decide +kernel
theorem dL_law_624 : decode code 624 = .ok (.invokevirtual 72, 3) := by decide +kernel
theorem dL_law_627 : decode code 627 = .ok (.aload_n 2, 1) := by decide +kernel
theorem dL_law_628 : decode code 628 = .ok (.aload_n 0, 1) := by decide +kernel
theorem dL_law_629 : decode code 629 = .ok (.iload_n 3, 1) := by decide +kernel
theorem dL_law_630 : decode code 630 = .ok (.iconst 1, 1) := by decide +kernel
theorem dL_law_631 : decode code 631 = .ok (.iadd, 1) := by decide +kernel
theorem dL_law_632 : decode code 632 = .ok (.iaload, 1) := by decide +kernel
theorem dL_law_633 : decode code 633 = .ok (.aload_n 0, 1) := by decide +kernel
theorem dL_law_634 : decode code 634 = .ok (.iload_n 3, 1) := by decide +kernel
theorem dL_law_635 : decode code 635 = .ok (.iconst 2, 1) := by decide +kernel
theorem dL_law_636 : decode code 636 = .ok (.iadd, 1) := by decide +kernel
theorem dL_law_637 : decode code 637 = .ok (.iaload, 1) := by decide +kernel
theorem dL_law_638 : decode code 638 = .ok (.invokevirtual 75, 3) := by decide +kernel
theorem dL_law_641 : decode code 641 = .ok (.if_icmp .eq 511, 3) := by decide +kernel
theorem dL_law_644 : decode code 644 = .ok (.iconst 0, 1) := by decide +kernel
theorem dL_law_645 : decode code 645 = .ok (.ireturn, 1) := by decide +kernel
theorem dL_law_646 : decode code 646 = .ok (.aload_n 1, 1) := by decide +kernel
theorem dL_law_647 : decode code 647 = .ok (.aload_n 0, 1) := by decide +kernel
theorem dL_law_648 : decode code 648 = .ok (.iload_n 3, 1) := by decide +kernel
theorem dL_law_649 : decode code 649 = .ok (.iconst 1, 1) := by decide +kernel
theorem dL_law_650 : decode code 650 = .ok (.iadd, 1) := by decide +kernel
theorem dL_law_651 : decode code 651 = .ok (.iaload, 1) := by decide +kernel
theorem dL_law_652 : decode code 652 = .ok (.aload_n 0, 1) := by decide +kernel
theorem dL_law_653 : decode code 653 = .ok (.iload_n 3, 1) := by decide +kernel
theorem dL_law_654 : decode code 654 = .ok (.iconst 2, 1) := by decide +kernel
theorem dL_law_655 : decode code 655 = .ok (.iadd, 1) := by decide +kernel
theorem dL_law_656 : decode code 656 = .ok (.iaload, 1) := by decide +kernel
theorem dL_law_657 : decode code 657 = .ok (.aload_n 0, 1) := by decide +kernel
theorem dL_law_658 : decode code 658 = .ok (.iload_n 3, 1) := by decide +kernel
theorem dL_law_659 : decode code 659 = .ok (.iconst 3, 1) := by decide +kernel
theorem dL_law_660 : decode code 660 = .ok (.iadd, 1) := by decide +kernel
theorem dL_law_661 : decode code 661 = .ok (.iaload, 1) := by decide +kernel
theorem dL_law_662 : decode code 662 = .ok (.invokevirtual 76, 3) := by decide +kernel
theorem dL_law_665 : decode code 665 = .ok (.aload_n 2, 1) := by decide +kernel
theorem dL_law_666 : decode code 666 = .ok (.aload_n 0, 1) := by decide +kernel
theorem dL_law_667 : decode code 667 = .ok (.iload_n 3, 1) := by decide +kernel
theorem dL_law_668 : decode code 668 = .ok (.iconst 1, 1) := by decide +kernel
theorem dL_law_669 : decode code 669 = .ok (.iadd, 1) := by decide +kernel
theorem dL_law_670 : decode code 670 = .ok (.iaload, 1) := by decide +kernel
theorem dL_law_671 : decode code 671 = .ok (.aload_n 0, 1) := by decide +kernel
theorem dL_law_672 : decode code 672 = .ok (.iload_n 3, 1) := by decide +kernel
theorem dL_law_673 : decode code 673 = .ok (.iconst 2, 1) := by decide +kernel
theorem dL_law_674 : decode code 674 = .ok (.iadd, 1) := by decide +kernel
theorem dL_law_675 : decode code 675 = .ok (.iaload, 1) := by decide +kernel
theorem dL_law_676 : decode code 676 = .ok (.aload_n 0, 1) := by decide +kernel
theorem dL_law_677 : decode code 677 = .ok (.iload_n 3, 1) := by decide +kernel
theorem dL_law_678 : decode code 678 = .ok (.iconst 3, 1) := by decide +kernel
theorem dL_law_679 : decode code 679 = .ok (.iadd, 1) := by decide +kernel
theorem dL_law_680 : decode code 680 = .ok (.iaload, 1) := by decide +kernel
theorem dL_law_681 : decode code 681 = .ok (.invokevirtual 79, 3) := by decide +kernel
theorem dL_law_684 : decode code 684 = .ok (.if_icmp .eq 468, 3) := by decide +kernel
theorem dL_law_687 : decode code 687 = .ok (.iconst 0, 1) := by decide +kernel
theorem dL_law_688 : decode code 688 = .ok (.ireturn, 1) := by decide +kernel
theorem dL_law_689 : decode code 689 = .ok (.aload_n 1, 1) := by decide +kernel
theorem dL_law_690 : decode code 690 = .ok (.aload_n 0, 1) := by decide +kernel
theorem dL_law_691 : decode code 691 = .ok (.iload_n 3, 1) := by decide +kernel
theorem dL_law_692 : decode code 692 = .ok (.iconst 1, 1) := by decide +kernel
theorem dL_law_693 : decode code 693 = .ok (.iadd, 1) := by decide +kernel
theorem dL_law_694 : decode code 694 = .ok (.iaload, 1) := by decide +kernel
theorem dL_law_695 : decode code 695 = .ok (.aload_n 0, 1) := by decide +kernel
theorem dL_law_696 : decode code 696 = .ok (.iload_n 3, 1) := by decide +kernel
theorem dL_law_697 : decode code 697 = .ok (.iconst 2, 1) := by decide +kernel
theorem dL_law_698 : decode code 698 = .ok (.iadd, 1) := by decide +kernel
theorem dL_law_699 : decode code 699 = .ok (.iaload, 1) := by decide +kernel
theorem dL_law_700 : decode code 700 = .ok (.invokevirtual 80, 3) := by decide +kernel
theorem dL_law_703 : decode code 703 = .ok (.aload_n 2, 1) := by decide +kernel
theorem dL_law_704 : decode code 704 = .ok (.aload_n 0, 1) := by decide +kernel
theorem dL_law_705 : decode code 705 = .ok (.iload_n 3, 1) := by decide +kernel
theorem dL_law_706 : decode code 706 = .ok (.iconst 1, 1) := by decide +kernel
theorem dL_law_707 : decode code 707 = .ok (.iadd, 1) := by decide +kernel
theorem dL_law_708 : decode code 708 = .ok (.iaload, 1) := by decide +kernel
theorem dL_law_709 : decode code 709 = .ok (.aload_n 0, 1) := by decide +kernel
theorem dL_law_710 : decode code 710 = .ok (.iload_n 3, 1) := by decide +kernel
theorem dL_law_711 : decode code 711 = .ok (.iconst 2, 1) := by decide +kernel
theorem dL_law_712 : decode code 712 = .ok (.iadd, 1) := by decide +kernel
theorem dL_law_713 : decode code 713 = .ok (.iaload, 1) := by decide +kernel
theorem dL_law_714 : decode code 714 = .ok (.invokevirtual 83, 3) := by decide +kernel
theorem dL_law_717 : decode code 717 = .ok (.if_icmp .eq 435, 3) := by decide +kernel
theorem dL_law_720 : decode code 720 = .ok (.iconst 0, 1) := by decide +kernel
theorem dL_law_721 : decode code 721 = .ok (.ireturn, 1) := by decide +kernel
theorem dL_law_722 : decode code 722 = .ok (.aload_n 1, 1) := by decide +kernel
theorem dL_law_723 : decode code 723 = .ok (.aload_n 0, 1) := by decide +kernel
theorem dL_law_724 : decode code 724 = .ok (.iload_n 3, 1) := by decide +kernel
theorem dL_law_725 : decode code 725 = .ok (.iconst 1, 1) := by decide +kernel
theorem dL_law_726 : decode code 726 = .ok (.iadd, 1) := by decide +kernel
theorem dL_law_727 : decode code 727 = .ok (.iaload, 1) := by decide +kernel
theorem dL_law_728 : decode code 728 = .ok (.aload_n 0, 1) := by decide +kernel
theorem dL_law_729 : decode code 729 = .ok (.iload_n 3, 1) := by decide +kernel
theorem dL_law_730 : decode code 730 = .ok (.iconst 2, 1) := by decide +kernel
theorem dL_law_731 : decode code 731 = .ok (.iadd, 1) := by decide +kernel
theorem dL_law_732 : decode code 732 = .ok (.iaload, 1) := by decide +kernel
theorem dL_law_733 : decode code 733 = .ok (.aload_n 0, 1) := by decide +kernel
theorem dL_law_734 : decode code 734 = .ok (.iload_n 3, 1) := by decide +kernel
theorem dL_law_735 : decode code 735 = .ok (.iconst 3, 1) := by decide +kernel
theorem dL_law_736 : decode code 736 = .ok (.iadd, 1) := by decide +kernel
theorem dL_law_737 : decode code 737 = .ok (.iaload, 1) := by decide +kernel
theorem dL_law_738 : decode code 738 = .ok (.invokevirtual 84, 3) := by decide +kernel
theorem dL_law_741 : decode code 741 = .ok (.aload_n 2, 1) := by decide +kernel
theorem dL_law_742 : decode code 742 = .ok (.aload_n 0, 1) := by decide +kernel
theorem dL_law_743 : decode code 743 = .ok (.iload_n 3, 1) := by decide +kernel
theorem dL_law_744 : decode code 744 = .ok (.iconst 1, 1) := by decide +kernel
theorem dL_law_745 : decode code 745 = .ok (.iadd, 1) := by decide +kernel
theorem dL_law_746 : decode code 746 = .ok (.iaload, 1) := by decide +kernel
theorem dL_law_747 : decode code 747 = .ok (.aload_n 0, 1) := by decide +kernel
theorem dL_law_748 : decode code 748 = .ok (.iload_n 3, 1) := by decide +kernel
theorem dL_law_749 : decode code 749 = .ok (.iconst 2, 1) := by decide +kernel
theorem dL_law_750 : decode code 750 = .ok (.iadd, 1) := by decide +kernel
theorem dL_law_751 : decode code 751 = .ok (.iaload, 1) := by decide +kernel
theorem dL_law_752 : decode code 752 = .ok (.aload_n 0, 1) := by decide +kernel
theorem dL_law_753 : decode code 753 = .ok (.iload_n 3, 1) := by decide +kernel
theorem dL_law_754 : decode code 754 = .ok (.iconst 3, 1) := by decide +kernel
theorem dL_law_755 : decode code 755 = .ok (.iadd, 1) := by decide +kernel
theorem dL_law_756 : decode code 756 = .ok (.iaload, 1) := by decide +kernel
theorem dL_law_757 : decode code 757 = .ok (.invokevirtual 87, 3) := by decide +kernel
theorem dL_law_760 : decode code 760 = .ok (.if_icmp .eq 392, 3) := by decide +kernel
theorem dL_law_763 : decode code 763 = .ok (.iconst 0, 1) := by decide +kernel
theorem dL_law_764 : decode code 764 = .ok (.ireturn, 1) := by decide +kernel
theorem dL_law_765 : decode code 765 = .ok (.aload_n 1, 1) := by decide +kernel
theorem dL_law_766 : decode code 766 = .ok (.aload_n 0, 1) := by decide +kernel
theorem dL_law_767 : decode code 767 = .ok (.iload_n 3, 1) := by decide +kernel
theorem dL_law_768 : decode code 768 = .ok (.iconst 1, 1) := by decide +kernel
theorem dL_law_769 : decode code 769 = .ok (.iadd, 1) := by decide +kernel
theorem dL_law_770 : decode code 770 = .ok (.iaload, 1) := by decide +kernel
theorem dL_law_771 : decode code 771 = .ok (.aload_n 0, 1) := by decide +kernel
theorem dL_law_772 : decode code 772 = .ok (.iload_n 3, 1) := by decide +kernel
theorem dL_law_773 : decode code 773 = .ok (.iconst 2, 1) := by decide +kernel
theorem dL_law_774 : decode code 774 = .ok (.iadd, 1) := by decide +kernel
theorem dL_law_775 : decode code 775 = .ok (.iaload, 1) := by decide +kernel
theorem dL_law_776 : decode code 776 = .ok (.aload_n 0, 1) := by decide +kernel
theorem dL_law_777 : decode code 777 = .ok (.iload_n 3, 1) := by decide +kernel
theorem dL_law_778 : decode code 778 = .ok (.iconst 3, 1) := by decide +kernel
theorem dL_law_779 : decode code 779 = .ok (.iadd, 1) := by decide +kernel
theorem dL_law_780 : decode code 780 = .ok (.iaload, 1) := by decide +kernel
theorem dL_law_781 : decode code 781 = .ok (.invokevirtual 88, 3) := by decide +kernel
theorem dL_law_784 : decode code 784 = .ok (.aload_n 2, 1) := by decide +kernel
theorem dL_law_785 : decode code 785 = .ok (.aload_n 0, 1) := by decide +kernel
theorem dL_law_786 : decode code 786 = .ok (.iload_n 3, 1) := by decide +kernel
theorem dL_law_787 : decode code 787 = .ok (.iconst 1, 1) := by decide +kernel
theorem dL_law_788 : decode code 788 = .ok (.iadd, 1) := by decide +kernel
theorem dL_law_789 : decode code 789 = .ok (.iaload, 1) := by decide +kernel
theorem dL_law_790 : decode code 790 = .ok (.aload_n 0, 1) := by decide +kernel
theorem dL_law_791 : decode code 791 = .ok (.iload_n 3, 1) := by decide +kernel
theorem dL_law_792 : decode code 792 = .ok (.iconst 2, 1) := by decide +kernel
theorem dL_law_793 : decode code 793 = .ok (.iadd, 1) := by decide +kernel
theorem dL_law_794 : decode code 794 = .ok (.iaload, 1) := by decide +kernel
theorem dL_law_795 : decode code 795 = .ok (.aload_n 0, 1) := by decide +kernel
theorem dL_law_796 : decode code 796 = .ok (.iload_n 3, 1) := by decide +kernel
theorem dL_law_797 : decode code 797 = .ok (.iconst 3, 1) := by decide +kernel
theorem dL_law_798 : decode code 798 = .ok (.iadd, 1) := by decide +kernel
theorem dL_law_799 : decode code 799 = .ok (.iaload, 1) := by decide +kernel
theorem dL_law_800 : decode code 800 = .ok (.invokevirtual 91, 3) := by decide +kernel
theorem dL_law_803 : decode code 803 = .ok (.if_icmp .eq 349, 3) := by decide +kernel
theorem dL_law_806 : decode code 806 = .ok (.iconst 0, 1) := by decide +kernel
theorem dL_law_807 : decode code 807 = .ok (.ireturn, 1) := by decide +kernel
theorem dL_law_808 : decode code 808 = .ok (.aload_n 1, 1) := by decide +kernel
theorem dL_law_809 : decode code 809 = .ok (.aload_n 0, 1) := by decide +kernel
theorem dL_law_810 : decode code 810 = .ok (.iload_n 3, 1) := by decide +kernel
theorem dL_law_811 : decode code 811 = .ok (.iconst 1, 1) := by decide +kernel
theorem dL_law_812 : decode code 812 = .ok (.iadd, 1) := by decide +kernel
theorem dL_law_813 : decode code 813 = .ok (.iaload, 1) := by decide +kernel
theorem dL_law_814 : decode code 814 = .ok (.invokevirtual 92, 3) := by decide +kernel
theorem dL_law_817 : decode code 817 = .ok (.aload_n 2, 1) := by decide +kernel
theorem dL_law_818 : decode code 818 = .ok (.aload_n 0, 1) := by decide +kernel
theorem dL_law_819 : decode code 819 = .ok (.iload_n 3, 1) := by decide +kernel
theorem dL_law_820 : decode code 820 = .ok (.iconst 1, 1) := by decide +kernel
theorem dL_law_821 : decode code 821 = .ok (.iadd, 1) := by decide +kernel
theorem dL_law_822 : decode code 822 = .ok (.iaload, 1) := by decide +kernel
theorem dL_law_823 : decode code 823 = .ok (.invokevirtual 95, 3) := by decide +kernel
theorem dL_law_826 : decode code 826 = .ok (.if_icmp .eq 326, 3) := by decide +kernel
theorem dL_law_829 : decode code 829 = .ok (.iconst 0, 1) := by decide +kernel
theorem dL_law_830 : decode code 830 = .ok (.ireturn, 1) := by decide +kernel
theorem dL_law_831 : decode code 831 = .ok (.aload_n 1, 1) := by decide +kernel
theorem dL_law_832 : decode code 832 = .ok (.invokevirtual 96, 3) := by decide +kernel
theorem dL_law_835 : decode code 835 = .ok (.aload_n 2, 1) := by decide +kernel
theorem dL_law_836 : decode code 836 = .ok (.invokevirtual 99, 3) := by decide +kernel
theorem dL_law_839 : decode code 839 = .ok (.if_icmp .eq 313, 3) := by decide +kernel
theorem dL_law_842 : decode code 842 = .ok (.iconst 0, 1) := by decide +kernel
theorem dL_law_843 : decode code 843 = .ok (.ireturn, 1) := by decide +kernel
theorem dL_law_844 : decode code 844 = .ok (.aload_n 1, 1) := by decide +kernel
theorem dL_law_845 : decode code 845 = .ok (.aload_n 0, 1) := by decide +kernel
theorem dL_law_846 : decode code 846 = .ok (.iload_n 3, 1) := by decide +kernel
theorem dL_law_847 : decode code 847 = .ok (.iconst 1, 1) := by decide +kernel
theorem dL_law_848 : decode code 848 = .ok (.iadd, 1) := by decide +kernel
theorem dL_law_849 : decode code 849 = .ok (.iaload, 1) := by decide +kernel
theorem dL_law_850 : decode code 850 = .ok (.aload_n 0, 1) := by decide +kernel
theorem dL_law_851 : decode code 851 = .ok (.iload_n 3, 1) := by decide +kernel
theorem dL_law_852 : decode code 852 = .ok (.iconst 2, 1) := by decide +kernel
theorem dL_law_853 : decode code 853 = .ok (.iadd, 1) := by decide +kernel
theorem dL_law_854 : decode code 854 = .ok (.iaload, 1) := by decide +kernel
theorem dL_law_855 : decode code 855 = .ok (.aload_n 0, 1) := by decide +kernel
theorem dL_law_856 : decode code 856 = .ok (.iload_n 3, 1) := by decide +kernel
theorem dL_law_857 : decode code 857 = .ok (.iconst 3, 1) := by decide +kernel
theorem dL_law_858 : decode code 858 = .ok (.iadd, 1) := by decide +kernel
theorem dL_law_859 : decode code 859 = .ok (.iaload, 1) := by decide +kernel
theorem dL_law_860 : decode code 860 = .ok (.invokevirtual 100, 3) := by decide +kernel
theorem dL_law_863 : decode code 863 = .ok (.aload_n 2, 1) := by decide +kernel
theorem dL_law_864 : decode code 864 = .ok (.aload_n 0, 1) := by decide +kernel
theorem dL_law_865 : decode code 865 = .ok (.iload_n 3, 1) := by decide +kernel
theorem dL_law_866 : decode code 866 = .ok (.iconst 1, 1) := by decide +kernel
theorem dL_law_867 : decode code 867 = .ok (.iadd, 1) := by decide +kernel
theorem dL_law_868 : decode code 868 = .ok (.iaload, 1) := by decide +kernel
theorem dL_law_869 : decode code 869 = .ok (.aload_n 0, 1) := by decide +kernel
theorem dL_law_870 : decode code 870 = .ok (.iload_n 3, 1) := by decide +kernel
theorem dL_law_871 : decode code 871 = .ok (.iconst 2, 1) := by decide +kernel
theorem dL_law_872 : decode code 872 = .ok (.iadd, 1) := by decide +kernel
theorem dL_law_873 : decode code 873 = .ok (.iaload, 1) := by decide +kernel
theorem dL_law_874 : decode code 874 = .ok (.aload_n 0, 1) := by decide +kernel
theorem dL_law_875 : decode code 875 = .ok (.iload_n 3, 1) := by decide +kernel
theorem dL_law_876 : decode code 876 = .ok (.iconst 3, 1) := by decide +kernel
theorem dL_law_877 : decode code 877 = .ok (.iadd, 1) := by decide +kernel
theorem dL_law_878 : decode code 878 = .ok (.iaload, 1) := by decide +kernel
theorem dL_law_879 : decode code 879 = .ok (.invokevirtual 103, 3) := by decide +kernel
theorem dL_law_882 : decode code 882 = .ok (.if_icmp .eq 270, 3) := by decide +kernel
theorem dL_law_885 : decode code 885 = .ok (.iconst 0, 1) := by decide +kernel
theorem dL_law_886 : decode code 886 = .ok (.ireturn, 1) := by decide +kernel
theorem dL_law_887 : decode code 887 = .ok (.aload_n 1, 1) := by decide +kernel
theorem dL_law_888 : decode code 888 = .ok (.aload_n 0, 1) := by decide +kernel
theorem dL_law_889 : decode code 889 = .ok (.iload_n 3, 1) := by decide +kernel
theorem dL_law_890 : decode code 890 = .ok (.iconst 1, 1) := by decide +kernel
theorem dL_law_891 : decode code 891 = .ok (.iadd, 1) := by decide +kernel
theorem dL_law_892 : decode code 892 = .ok (.iaload, 1) := by decide +kernel
theorem dL_law_893 : decode code 893 = .ok (.aload_n 0, 1) := by decide +kernel
theorem dL_law_894 : decode code 894 = .ok (.iload_n 3, 1) := by decide +kernel
theorem dL_law_895 : decode code 895 = .ok (.iconst 2, 1) := by decide +kernel
theorem dL_law_896 : decode code 896 = .ok (.iadd, 1) := by decide +kernel
theorem dL_law_897 : decode code 897 = .ok (.iaload, 1) := by decide +kernel
theorem dL_law_898 : decode code 898 = .ok (.aload_n 0, 1) := by decide +kernel
theorem dL_law_899 : decode code 899 = .ok (.iload_n 3, 1) := by decide +kernel
theorem dL_law_900 : decode code 900 = .ok (.iconst 3, 1) := by decide +kernel
theorem dL_law_901 : decode code 901 = .ok (.iadd, 1) := by decide +kernel
theorem dL_law_902 : decode code 902 = .ok (.iaload, 1) := by decide +kernel
theorem dL_law_903 : decode code 903 = .ok (.aload_n 0, 1) := by decide +kernel
theorem dL_law_904 : decode code 904 = .ok (.iload_n 3, 1) := by decide +kernel
theorem dL_law_905 : decode code 905 = .ok (.iconst 4, 1) := by decide +kernel
theorem dL_law_906 : decode code 906 = .ok (.iadd, 1) := by decide +kernel
theorem dL_law_907 : decode code 907 = .ok (.iaload, 1) := by decide +kernel
theorem dL_law_908 : decode code 908 = .ok (.invokevirtual 104, 3) := by decide +kernel
theorem dL_law_911 : decode code 911 = .ok (.aload_n 2, 1) := by decide +kernel
theorem dL_law_912 : decode code 912 = .ok (.aload_n 0, 1) := by decide +kernel
theorem dL_law_913 : decode code 913 = .ok (.iload_n 3, 1) := by decide +kernel
theorem dL_law_914 : decode code 914 = .ok (.iconst 1, 1) := by decide +kernel
theorem dL_law_915 : decode code 915 = .ok (.iadd, 1) := by decide +kernel
theorem dL_law_916 : decode code 916 = .ok (.iaload, 1) := by decide +kernel
theorem dL_law_917 : decode code 917 = .ok (.aload_n 0, 1) := by decide +kernel
theorem dL_law_918 : decode code 918 = .ok (.iload_n 3, 1) := by decide +kernel
theorem dL_law_919 : decode code 919 = .ok (.iconst 2, 1) := by decide +kernel
theorem dL_law_920 : decode code 920 = .ok (.iadd, 1) := by decide +kernel
theorem dL_law_921 : decode code 921 = .ok (.iaload, 1) := by decide +kernel
theorem dL_law_922 : decode code 922 = .ok (.aload_n 0, 1) := by decide +kernel
theorem dL_law_923 : decode code 923 = .ok (.iload_n 3, 1) := by decide +kernel
theorem dL_law_924 : decode code 924 = .ok (.iconst 3, 1) := by decide +kernel
theorem dL_law_925 : decode code 925 = .ok (.iadd, 1) := by decide +kernel
theorem dL_law_926 : decode code 926 = .ok (.iaload, 1) := by decide +kernel
theorem dL_law_927 : decode code 927 = .ok (.aload_n 0, 1) := by decide +kernel
theorem dL_law_928 : decode code 928 = .ok (.iload_n 3, 1) := by decide +kernel
theorem dL_law_929 : decode code 929 = .ok (.iconst 4, 1) := by decide +kernel
theorem dL_law_930 : decode code 930 = .ok (.iadd, 1) := by decide +kernel
theorem dL_law_931 : decode code 931 = .ok (.iaload, 1) := by decide +kernel
theorem dL_law_932 : decode code 932 = .ok (.invokevirtual 108, 3) := by decide +kernel
theorem dL_law_935 : decode code 935 = .ok (.if_icmp .eq 217, 3) := by decide +kernel
theorem dL_law_938 : decode code 938 = .ok (.iconst 0, 1) := by decide +kernel
theorem dL_law_939 : decode code 939 = .ok (.ireturn, 1) := by decide +kernel
theorem dL_law_940 : decode code 940 = .ok (.aload_n 1, 1) := by decide +kernel
theorem dL_law_941 : decode code 941 = .ok (.aload_n 0, 1) := by decide +kernel
theorem dL_law_942 : decode code 942 = .ok (.iload_n 3, 1) := by decide +kernel
theorem dL_law_943 : decode code 943 = .ok (.iconst 1, 1) := by decide +kernel
theorem dL_law_944 : decode code 944 = .ok (.iadd, 1) := by decide +kernel
theorem dL_law_945 : decode code 945 = .ok (.iaload, 1) := by decide +kernel
theorem dL_law_946 : decode code 946 = .ok (.invokevirtual 109, 3) := by decide +kernel
theorem dL_law_949 : decode code 949 = .ok (.aload_n 2, 1) := by decide +kernel
theorem dL_law_950 : decode code 950 = .ok (.aload_n 0, 1) := by decide +kernel
theorem dL_law_951 : decode code 951 = .ok (.iload_n 3, 1) := by decide +kernel
theorem dL_law_952 : decode code 952 = .ok (.iconst 1, 1) := by decide +kernel
theorem dL_law_953 : decode code 953 = .ok (.iadd, 1) := by decide +kernel
theorem dL_law_954 : decode code 954 = .ok (.iaload, 1) := by decide +kernel
theorem dL_law_955 : decode code 955 = .ok (.invokevirtual 112, 3) := by decide +kernel
theorem dL_law_958 : decode code 958 = .ok (.if_icmp .eq 194, 3) := by decide +kernel
theorem dL_law_961 : decode code 961 = .ok (.iconst 0, 1) := by decide +kernel
theorem dL_law_962 : decode code 962 = .ok (.ireturn, 1) := by decide +kernel
theorem dL_law_963 : decode code 963 = .ok (.aload_n 1, 1) := by decide +kernel
theorem dL_law_964 : decode code 964 = .ok (.aload_n 0, 1) := by decide +kernel
theorem dL_law_965 : decode code 965 = .ok (.iload_n 3, 1) := by decide +kernel
theorem dL_law_966 : decode code 966 = .ok (.iconst 1, 1) := by decide +kernel
theorem dL_law_967 : decode code 967 = .ok (.iadd, 1) := by decide +kernel
theorem dL_law_968 : decode code 968 = .ok (.iaload, 1) := by decide +kernel
theorem dL_law_969 : decode code 969 = .ok (.aload_n 0, 1) := by decide +kernel
theorem dL_law_970 : decode code 970 = .ok (.iload_n 3, 1) := by decide +kernel
theorem dL_law_971 : decode code 971 = .ok (.iconst 2, 1) := by decide +kernel
theorem dL_law_972 : decode code 972 = .ok (.iadd, 1) := by decide +kernel
theorem dL_law_973 : decode code 973 = .ok (.iaload, 1) := by decide +kernel
theorem dL_law_974 : decode code 974 = .ok (.aload_n 0, 1) := by decide +kernel
theorem dL_law_975 : decode code 975 = .ok (.iload_n 3, 1) := by decide +kernel
theorem dL_law_976 : decode code 976 = .ok (.iconst 3, 1) := by decide +kernel
theorem dL_law_977 : decode code 977 = .ok (.iadd, 1) := by decide +kernel
theorem dL_law_978 : decode code 978 = .ok (.iaload, 1) := by decide +kernel
theorem dL_law_979 : decode code 979 = .ok (.invokevirtual 113, 3) := by decide +kernel
theorem dL_law_982 : decode code 982 = .ok (.aload_n 2, 1) := by decide +kernel
theorem dL_law_983 : decode code 983 = .ok (.aload_n 0, 1) := by decide +kernel
theorem dL_law_984 : decode code 984 = .ok (.iload_n 3, 1) := by decide +kernel
theorem dL_law_985 : decode code 985 = .ok (.iconst 1, 1) := by decide +kernel
theorem dL_law_986 : decode code 986 = .ok (.iadd, 1) := by decide +kernel
theorem dL_law_987 : decode code 987 = .ok (.iaload, 1) := by decide +kernel
theorem dL_law_988 : decode code 988 = .ok (.aload_n 0, 1) := by decide +kernel
theorem dL_law_989 : decode code 989 = .ok (.iload_n 3, 1) := by decide +kernel
theorem dL_law_990 : decode code 990 = .ok (.iconst 2, 1) := by decide +kernel
theorem dL_law_991 : decode code 991 = .ok (.iadd, 1) := by decide +kernel
theorem dL_law_992 : decode code 992 = .ok (.iaload, 1) := by decide +kernel
theorem dL_law_993 : decode code 993 = .ok (.aload_n 0, 1) := by decide +kernel
theorem dL_law_994 : decode code 994 = .ok (.iload_n 3, 1) := by decide +kernel
theorem dL_law_995 : decode code 995 = .ok (.iconst 3, 1) := by decide +kernel
theorem dL_law_996 : decode code 996 = .ok (.iadd, 1) := by decide +kernel
theorem dL_law_997 : decode code 997 = .ok (.iaload, 1) := by decide +kernel
theorem dL_law_998 : decode code 998 = .ok (.invokevirtual 116, 3) := by decide +kernel
theorem dL_law_1001 : decode code 1001 = .ok (.if_icmp .eq 151, 3) := by decide +kernel
theorem dL_law_1004 : decode code 1004 = .ok (.iconst 0, 1) := by decide +kernel
theorem dL_law_1005 : decode code 1005 = .ok (.ireturn, 1) := by decide +kernel
theorem dL_law_1006 : decode code 1006 = .ok (.aload_n 1, 1) := by decide +kernel
theorem dL_law_1007 : decode code 1007 = .ok (.aload_n 0, 1) := by decide +kernel
theorem dL_law_1008 : decode code 1008 = .ok (.iload_n 3, 1) := by decide +kernel
theorem dL_law_1009 : decode code 1009 = .ok (.iconst 1, 1) := by decide +kernel
theorem dL_law_1010 : decode code 1010 = .ok (.iadd, 1) := by decide +kernel
theorem dL_law_1011 : decode code 1011 = .ok (.iaload, 1) := by decide +kernel
theorem dL_law_1012 : decode code 1012 = .ok (.invokevirtual 117, 3) := by decide +kernel
theorem dL_law_1015 : decode code 1015 = .ok (.aload_n 2, 1) := by decide +kernel
theorem dL_law_1016 : decode code 1016 = .ok (.aload_n 0, 1) := by decide +kernel
theorem dL_law_1017 : decode code 1017 = .ok (.iload_n 3, 1) := by decide +kernel
theorem dL_law_1018 : decode code 1018 = .ok (.iconst 1, 1) := by decide +kernel
theorem dL_law_1019 : decode code 1019 = .ok (.iadd, 1) := by decide +kernel
theorem dL_law_1020 : decode code 1020 = .ok (.iaload, 1) := by decide +kernel
theorem dL_law_1021 : decode code 1021 = .ok (.invokevirtual 120, 3) := by decide +kernel
theorem dL_law_1024 : decode code 1024 = .ok (.if_icmp .eq 128, 3) := by decide +kernel
theorem dL_law_1027 : decode code 1027 = .ok (.iconst 0, 1) := by decide +kernel
theorem dL_law_1028 : decode code 1028 = .ok (.ireturn, 1) := by decide +kernel
theorem dL_law_1029 : decode code 1029 = .ok (.aload_n 1, 1) := by decide +kernel
theorem dL_law_1030 : decode code 1030 = .ok (.aload_n 0, 1) := by decide +kernel
theorem dL_law_1031 : decode code 1031 = .ok (.iload_n 3, 1) := by decide +kernel
theorem dL_law_1032 : decode code 1032 = .ok (.iconst 1, 1) := by decide +kernel
theorem dL_law_1033 : decode code 1033 = .ok (.iadd, 1) := by decide +kernel
theorem dL_law_1034 : decode code 1034 = .ok (.iaload, 1) := by decide +kernel
theorem dL_law_1035 : decode code 1035 = .ok (.aload_n 0, 1) := by decide +kernel
theorem dL_law_1036 : decode code 1036 = .ok (.iload_n 3, 1) := by decide +kernel
theorem dL_law_1037 : decode code 1037 = .ok (.iconst 2, 1) := by decide +kernel
theorem dL_law_1038 : decode code 1038 = .ok (.iadd, 1) := by decide +kernel
theorem dL_law_1039 : decode code 1039 = .ok (.iaload, 1) := by decide +kernel
theorem dL_law_1040 : decode code 1040 = .ok (.aload_n 0, 1) := by decide +kernel
theorem dL_law_1041 : decode code 1041 = .ok (.iload_n 3, 1) := by decide +kernel
theorem dL_law_1042 : decode code 1042 = .ok (.iconst 3, 1) := by decide +kernel
theorem dL_law_1043 : decode code 1043 = .ok (.iadd, 1) := by decide +kernel
theorem dL_law_1044 : decode code 1044 = .ok (.iaload, 1) := by decide +kernel
theorem dL_law_1045 : decode code 1045 = .ok (.invokevirtual 121, 3) := by decide +kernel
theorem dL_law_1048 : decode code 1048 = .ok (.aload_n 2, 1) := by decide +kernel
theorem dL_law_1049 : decode code 1049 = .ok (.aload_n 0, 1) := by decide +kernel
theorem dL_law_1050 : decode code 1050 = .ok (.iload_n 3, 1) := by decide +kernel
theorem dL_law_1051 : decode code 1051 = .ok (.iconst 1, 1) := by decide +kernel
theorem dL_law_1052 : decode code 1052 = .ok (.iadd, 1) := by decide +kernel
theorem dL_law_1053 : decode code 1053 = .ok (.iaload, 1) := by decide +kernel
theorem dL_law_1054 : decode code 1054 = .ok (.aload_n 0, 1) := by decide +kernel
theorem dL_law_1055 : decode code 1055 = .ok (.iload_n 3, 1) := by decide +kernel
theorem dL_law_1056 : decode code 1056 = .ok (.iconst 2, 1) := by decide +kernel
theorem dL_law_1057 : decode code 1057 = .ok (.iadd, 1) := by decide +kernel
theorem dL_law_1058 : decode code 1058 = .ok (.iaload, 1) := by decide +kernel
theorem dL_law_1059 : decode code 1059 = .ok (.aload_n 0, 1) := by decide +kernel
theorem dL_law_1060 : decode code 1060 = .ok (.iload_n 3, 1) := by decide +kernel
theorem dL_law_1061 : decode code 1061 = .ok (.iconst 3, 1) := by decide +kernel
theorem dL_law_1062 : decode code 1062 = .ok (.iadd, 1) := by decide +kernel
theorem dL_law_1063 : decode code 1063 = .ok (.iaload, 1) := by decide +kernel
theorem dL_law_1064 : decode code 1064 = .ok (.invokevirtual 124, 3) := by decide +kernel
theorem dL_law_1067 : decode code 1067 = .ok (.if_icmp .eq 85, 3) := by decide +kernel
theorem dL_law_1070 : decode code 1070 = .ok (.iconst 0, 1) := by decide +kernel
theorem dL_law_1071 : decode code 1071 = .ok (.ireturn, 1) := by decide +kernel
theorem dL_law_1072 : decode code 1072 = .ok (.aload_n 1, 1) := by decide +kernel
theorem dL_law_1073 : decode code 1073 = .ok (.aload_n 0, 1) := by decide +kernel
theorem dL_law_1074 : decode code 1074 = .ok (.iload_n 3, 1) := by decide +kernel
theorem dL_law_1075 : decode code 1075 = .ok (.iconst 1, 1) := by decide +kernel
theorem dL_law_1076 : decode code 1076 = .ok (.iadd, 1) := by decide +kernel
theorem dL_law_1077 : decode code 1077 = .ok (.iaload, 1) := by decide +kernel
theorem dL_law_1078 : decode code 1078 = .ok (.invokevirtual 125, 3) := by decide +kernel
theorem dL_law_1081 : decode code 1081 = .ok (.aload_n 2, 1) := by decide +kernel
theorem dL_law_1082 : decode code 1082 = .ok (.aload_n 0, 1) := by decide +kernel
theorem dL_law_1083 : decode code 1083 = .ok (.iload_n 3, 1) := by decide +kernel
theorem dL_law_1084 : decode code 1084 = .ok (.iconst 1, 1) := by decide +kernel
theorem dL_law_1085 : decode code 1085 = .ok (.iadd, 1) := by decide +kernel
theorem dL_law_1086 : decode code 1086 = .ok (.iaload, 1) := by decide +kernel
theorem dL_law_1087 : decode code 1087 = .ok (.invokevirtual 129, 3) := by decide +kernel
theorem dL_law_1090 : decode code 1090 = .ok (.lcmp, 1) := by decide +kernel
theorem dL_law_1091 : decode code 1091 = .ok (.ifCond .eq 61, 3) := by decide +kernel
theorem dL_law_1094 : decode code 1094 = .ok (.iconst 0, 1) := by decide +kernel
theorem dL_law_1095 : decode code 1095 = .ok (.ireturn, 1) := by decide +kernel
theorem dL_law_1096 : decode code 1096 = .ok (.aload_n 1, 1) := by decide +kernel
theorem dL_law_1097 : decode code 1097 = .ok (.aload_n 0, 1) := by decide +kernel
theorem dL_law_1098 : decode code 1098 = .ok (.iload_n 3, 1) := by decide +kernel
theorem dL_law_1099 : decode code 1099 = .ok (.iconst 1, 1) := by decide +kernel
theorem dL_law_1100 : decode code 1100 = .ok (.iadd, 1) := by decide +kernel
theorem dL_law_1101 : decode code 1101 = .ok (.iaload, 1) := by decide +kernel
theorem dL_law_1102 : decode code 1102 = .ok (.invokevirtual 130, 3) := by decide +kernel
theorem dL_law_1105 : decode code 1105 = .ok (.aload_n 2, 1) := by decide +kernel
theorem dL_law_1106 : decode code 1106 = .ok (.aload_n 0, 1) := by decide +kernel
theorem dL_law_1107 : decode code 1107 = .ok (.iload_n 3, 1) := by decide +kernel
theorem dL_law_1108 : decode code 1108 = .ok (.iconst 1, 1) := by decide +kernel
theorem dL_law_1109 : decode code 1109 = .ok (.iadd, 1) := by decide +kernel
theorem dL_law_1110 : decode code 1110 = .ok (.iaload, 1) := by decide +kernel
theorem dL_law_1111 : decode code 1111 = .ok (.invokevirtual 133, 3) := by decide +kernel
theorem dL_law_1114 : decode code 1114 = .ok (.if_icmp .eq 38, 3) := by decide +kernel
theorem dL_law_1117 : decode code 1117 = .ok (.iconst 0, 1) := by decide +kernel
theorem dL_law_1118 : decode code 1118 = .ok (.ireturn, 1) := by decide +kernel
theorem dL_law_1119 : decode code 1119 = .ok (.aload_n 1, 1) := by decide +kernel
theorem dL_law_1120 : decode code 1120 = .ok (.aload_n 0, 1) := by decide +kernel
theorem dL_law_1121 : decode code 1121 = .ok (.iload_n 3, 1) := by decide +kernel
theorem dL_law_1122 : decode code 1122 = .ok (.iconst 1, 1) := by decide +kernel
theorem dL_law_1123 : decode code 1123 = .ok (.iadd, 1) := by decide +kernel
theorem dL_law_1124 : decode code 1124 = .ok (.iaload, 1) := by decide +kernel
theorem dL_law_1125 : decode code 1125 = .ok (.aload_n 0, 1) := by decide +kernel
theorem dL_law_1126 : decode code 1126 = .ok (.iload_n 3, 1) := by decide +kernel
theorem dL_law_1127 : decode code 1127 = .ok (.iconst 2, 1) := by decide +kernel
theorem dL_law_1128 : decode code 1128 = .ok (.iadd, 1) := by decide +kernel
theorem dL_law_1129 : decode code 1129 = .ok (.iaload, 1) := by decide +kernel
theorem dL_law_1130 : decode code 1130 = .ok (.invokevirtual 134, 3) := by decide +kernel
theorem dL_law_1133 : decode code 1133 = .ok (.aload_n 2, 1) := by decide +kernel
theorem dL_law_1134 : decode code 1134 = .ok (.aload_n 0, 1) := by decide +kernel
theorem dL_law_1135 : decode code 1135 = .ok (.iload_n 3, 1) := by decide +kernel
theorem dL_law_1136 : decode code 1136 = .ok (.iconst 1, 1) := by decide +kernel
theorem dL_law_1137 : decode code 1137 = .ok (.iadd, 1) := by decide +kernel
theorem dL_law_1138 : decode code 1138 = .ok (.iaload, 1) := by decide +kernel
theorem dL_law_1139 : decode code 1139 = .ok (.aload_n 0, 1) := by decide +kernel
theorem dL_law_1140 : decode code 1140 = .ok (.iload_n 3, 1) := by decide +kernel
theorem dL_law_1141 : decode code 1141 = .ok (.iconst 2, 1) := by decide +kernel
theorem dL_law_1142 : decode code 1142 = .ok (.iadd, 1) := by decide +kernel
theorem dL_law_1143 : decode code 1143 = .ok (.iaload, 1) := by decide +kernel
theorem dL_law_1144 : decode code 1144 = .ok (.invokevirtual 137, 3) := by decide +kernel
theorem dL_law_1147 : decode code 1147 = .ok (.if_icmp .eq 5, 3) := by decide +kernel
theorem dL_law_1150 : decode code 1150 = .ok (.iconst 0, 1) := by decide +kernel
theorem dL_law_1151 : decode code 1151 = .ok (.ireturn, 1) := by decide +kernel
theorem dL_law_1152 : decode code 1152 = .ok (.iinc 3 5, 3) := by decide +kernel
theorem dL_law_1155 : decode code 1155 = .ok (.goto (-1137), 3) := by decide +kernel
theorem dL_law_1158 : decode code 1158 = .ok (.iconst 1, 1) := by decide +kernel
theorem dL_law_1159 : decode code 1159 = .ok (.ireturn, 1) := by decide +kernel
theorem cw_L_100 : am_cw "SignCellarLaw" 100 M_X8_seek 3 := ⟨wd_1_1, wd_3_225, ⟨by decide, by decide, by decide⟩, Or.inl wd_3_222⟩
theorem cw_L_103 : am_cw "SignCellarLaw" 103 M_X9_seek 3 := ⟨wd_1_9, wd_6_0, ⟨by decide, by decide, by decide⟩, Or.inl wd_5_237⟩
theorem cw_L_104 : am_cw "SignCellarLaw" 104 M_X8_span 4 := ⟨wd_1_1, wd_3_237, ⟨by decide, by decide, by decide⟩, Or.inl wd_3_234⟩
theorem cw_L_108 : am_cw "SignCellarLaw" 108 M_X9_span 4 := ⟨wd_1_9, wd_6_9, ⟨by decide, by decide, by decide⟩, Or.inl wd_6_6⟩
theorem cw_L_109 : am_cw "SignCellarLaw" 109 M_X8_tear 1 := ⟨wd_1_1, wd_4_19, ⟨by decide, by decide, by decide⟩, Or.inl wd_4_16⟩
theorem cw_L_112 : am_cw "SignCellarLaw" 112 M_X9_tear 1 := ⟨wd_1_9, wd_6_13, ⟨by decide, by decide, by decide⟩, Or.inl wd_6_10⟩
theorem cw_L_113 : am_cw "SignCellarLaw" 113 M_X8_sums 3 := ⟨wd_1_1, wd_4_32, ⟨by decide, by decide, by decide⟩, Or.inl wd_4_29⟩
theorem cw_L_116 : am_cw "SignCellarLaw" 116 M_X9_sums 3 := ⟨wd_1_9, wd_6_17, ⟨by decide, by decide, by decide⟩, Or.inl wd_6_14⟩
theorem cw_L_117 : am_cw "SignCellarLaw" 117 M_X8_restore 1 := ⟨wd_1_1, wd_4_36, ⟨by decide, by decide, by decide⟩, Or.inl wd_4_33⟩
theorem cw_L_12 : am_cw "SignCellarLaw" 12 M_X9_init 0 := ⟨wd_1_9, wd_4_98, ⟨by decide, by decide, by decide⟩, Or.inl wd_4_96⟩
theorem cw_L_120 : am_cw "SignCellarLaw" 120 M_X9_restore 1 := ⟨wd_1_9, wd_6_22, ⟨by decide, by decide, by decide⟩, Or.inl wd_6_19⟩
theorem cw_L_121 : am_cw "SignCellarLaw" 121 M_X8_send 3 := ⟨wd_1_1, wd_4_60, ⟨by decide, by decide, by decide⟩, Or.inl wd_4_57⟩
theorem cw_L_124 : am_cw "SignCellarLaw" 124 M_X9_send 3 := ⟨wd_1_9, wd_6_26, ⟨by decide, by decide, by decide⟩, Or.inl wd_6_23⟩
theorem cw_L_125 : am_cw "SignCellarLaw" 125 M_X8_ways 1 := ⟨wd_1_1, wd_4_78, ⟨by decide, by decide, by decide⟩, Or.inl wd_4_75⟩
theorem cw_L_129 : am_cw "SignCellarLaw" 129 M_X9_ways 1 := ⟨wd_1_9, wd_6_34, ⟨by decide, by decide, by decide⟩, Or.inl wd_6_31⟩
theorem cw_L_130 : am_cw "SignCellarLaw" 130 M_X8_bound 1 := ⟨wd_1_1, wd_4_89, ⟨by decide, by decide, by decide⟩, Or.inl wd_4_86⟩
theorem cw_L_133 : am_cw "SignCellarLaw" 133 M_X9_bound 1 := ⟨wd_1_9, wd_6_50, ⟨by decide, by decide, by decide⟩, Or.inl wd_6_47⟩
theorem cw_L_134 : am_cw "SignCellarLaw" 134 M_X8_entropy 2 := ⟨wd_1_1, wd_4_93, ⟨by decide, by decide, by decide⟩, Or.inl wd_4_90⟩
theorem cw_L_137 : am_cw "SignCellarLaw" 137 M_X9_entropy 2 := ⟨wd_1_9, wd_6_54, ⟨by decide, by decide, by decide⟩, Or.inl wd_6_51⟩
theorem cw_L_15 : am_cw "SignCellarLaw" 15 M_X8_feed 2 := ⟨wd_1_1, wd_1_232, ⟨by decide, by decide, by decide⟩, Or.inl wd_1_229⟩
theorem cw_L_19 : am_cw "SignCellarLaw" 19 M_X9_feed 2 := ⟨wd_1_9, wd_4_231, ⟨by decide, by decide, by decide⟩, Or.inl wd_4_228⟩
theorem cw_L_20 : am_cw "SignCellarLaw" 20 M_X8_make 0 := ⟨wd_1_1, wd_2_6, ⟨by decide, by decide, by decide⟩, Or.inl wd_2_3⟩
theorem cw_L_24 : am_cw "SignCellarLaw" 24 M_X9_make 0 := ⟨wd_1_9, wd_5_1, ⟨by decide, by decide, by decide⟩, Or.inl wd_4_238⟩
theorem cw_L_25 : am_cw "SignCellarLaw" 25 M_X8_change 3 := ⟨wd_1_1, wd_2_132, ⟨by decide, by decide, by decide⟩, Or.inl wd_2_129⟩
theorem cw_L_29 : am_cw "SignCellarLaw" 29 M_X9_change 3 := ⟨wd_1_9, wd_5_30, ⟨by decide, by decide, by decide⟩, Or.inl wd_5_27⟩
theorem cw_L_30 : am_cw "SignCellarLaw" 30 M_X8_put 3 := ⟨wd_1_1, wd_2_175, ⟨by decide, by decide, by decide⟩, Or.inl wd_2_172⟩
theorem cw_L_33 : am_cw "SignCellarLaw" 33 M_X9_put 3 := ⟨wd_1_9, wd_5_71, ⟨by decide, by decide, by decide⟩, Or.inl wd_5_68⟩
theorem cw_L_34 : am_cw "SignCellarLaw" 34 M_X8_strike 2 := ⟨wd_1_1, wd_2_179, ⟨by decide, by decide, by decide⟩, Or.inl wd_2_176⟩
theorem cw_L_38 : am_cw "SignCellarLaw" 38 M_X9_strike 2 := ⟨wd_1_9, wd_5_79, ⟨by decide, by decide, by decide⟩, Or.inl wd_5_76⟩
theorem cw_L_39 : am_cw "SignCellarLaw" 39 M_X8_about 2 := ⟨wd_1_1, wd_2_183, ⟨by decide, by decide, by decide⟩, Or.inl wd_2_180⟩
theorem cw_L_42 : am_cw "SignCellarLaw" 42 M_X9_about 2 := ⟨wd_1_9, wd_5_83, ⟨by decide, by decide, by decide⟩, Or.inl wd_5_80⟩
theorem cw_L_43 : am_cw "SignCellarLaw" 43 M_X8_block 2 := ⟨wd_1_1, wd_2_187, ⟨by decide, by decide, by decide⟩, Or.inl wd_2_184⟩
theorem cw_L_46 : am_cw "SignCellarLaw" 46 M_X9_block 2 := ⟨wd_1_9, wd_5_87, ⟨by decide, by decide, by decide⟩, Or.inl wd_5_84⟩
theorem cw_L_47 : am_cw "SignCellarLaw" 47 M_X8_open 2 := ⟨wd_1_1, wd_2_191, ⟨by decide, by decide, by decide⟩, Or.inl wd_2_188⟩
theorem cw_L_50 : am_cw "SignCellarLaw" 50 M_X9_open 2 := ⟨wd_1_9, wd_5_91, ⟨by decide, by decide, by decide⟩, Or.inl wd_5_88⟩
theorem cw_L_51 : am_cw "SignCellarLaw" 51 M_X8_told 2 := ⟨wd_1_1, wd_2_195, ⟨by decide, by decide, by decide⟩, Or.inl wd_2_192⟩
theorem cw_L_54 : am_cw "SignCellarLaw" 54 M_X9_told 2 := ⟨wd_1_9, wd_5_95, ⟨by decide, by decide, by decide⟩, Or.inl wd_5_92⟩
theorem cw_L_55 : am_cw "SignCellarLaw" 55 M_X8_count 1 := ⟨wd_1_1, wd_2_211, ⟨by decide, by decide, by decide⟩, Or.inl wd_2_208⟩
theorem cw_L_59 : am_cw "SignCellarLaw" 59 M_X9_count 1 := ⟨wd_1_9, wd_5_107, ⟨by decide, by decide, by decide⟩, Or.inl wd_5_104⟩
theorem cw_L_60 : am_cw "SignCellarLaw" 60 M_X8_share 2 := ⟨wd_1_1, wd_2_227, ⟨by decide, by decide, by decide⟩, Or.inl wd_2_224⟩
theorem cw_L_63 : am_cw "SignCellarLaw" 63 M_X9_share 2 := ⟨wd_1_9, wd_5_111, ⟨by decide, by decide, by decide⟩, Or.inl wd_5_108⟩
theorem cw_L_64 : am_cw "SignCellarLaw" 64 M_X8_size 2 := ⟨wd_1_1, wd_2_232, ⟨by decide, by decide, by decide⟩, Or.inl wd_2_229⟩
theorem cw_L_67 : am_cw "SignCellarLaw" 67 M_X9_size 2 := ⟨wd_1_9, wd_5_197, ⟨by decide, by decide, by decide⟩, Or.inl wd_5_194⟩
theorem cw_L_68 : am_cw "SignCellarLaw" 68 M_X8_time 2 := ⟨wd_1_1, wd_3_151, ⟨by decide, by decide, by decide⟩, Or.inl wd_3_148⟩
theorem cw_L_71 : am_cw "SignCellarLaw" 71 M_X9_time 2 := ⟨wd_1_9, wd_5_210, ⟨by decide, by decide, by decide⟩, Or.inl wd_5_207⟩
theorem cw_L_72 : am_cw "SignCellarLaw" 72 M_X8_cut 2 := ⟨wd_1_1, wd_3_155, ⟨by decide, by decide, by decide⟩, Or.inl wd_3_152⟩
theorem cw_L_75 : am_cw "SignCellarLaw" 75 M_X9_cut 2 := ⟨wd_1_9, wd_5_115, ⟨by decide, by decide, by decide⟩, Or.inl wd_5_112⟩
theorem cw_L_76 : am_cw "SignCellarLaw" 76 M_X8_rule 3 := ⟨wd_1_1, wd_3_159, ⟨by decide, by decide, by decide⟩, Or.inl wd_3_156⟩
theorem cw_L_79 : am_cw "SignCellarLaw" 79 M_X9_rule 3 := ⟨wd_1_9, wd_5_131, ⟨by decide, by decide, by decide⟩, Or.inl wd_5_128⟩
theorem cw_L_80 : am_cw "SignCellarLaw" 80 M_X8_bit 2 := ⟨wd_1_1, wd_3_168, ⟨by decide, by decide, by decide⟩, Or.inl wd_3_165⟩
theorem cw_L_83 : am_cw "SignCellarLaw" 83 M_X9_bit 2 := ⟨wd_1_9, wd_5_165, ⟨by decide, by decide, by decide⟩, Or.inl wd_5_162⟩
theorem cw_L_84 : am_cw "SignCellarLaw" 84 M_X8_turned 3 := ⟨wd_1_1, wd_3_172, ⟨by decide, by decide, by decide⟩, Or.inl wd_3_169⟩
theorem cw_L_87 : am_cw "SignCellarLaw" 87 M_X9_turned 3 := ⟨wd_1_9, wd_5_180, ⟨by decide, by decide, by decide⟩, Or.inl wd_5_177⟩
theorem cw_L_88 : am_cw "SignCellarLaw" 88 M_X8_best 3 := ⟨wd_1_1, wd_3_176, ⟨by decide, by decide, by decide⟩, Or.inl wd_3_173⟩
theorem cw_L_9 : am_cw "SignCellarLaw" 9 M_X8_init 0 := ⟨wd_1_1, wd_1_17, ⟨by decide, by decide, by decide⟩, Or.inl wd_1_15⟩
theorem cw_L_91 : am_cw "SignCellarLaw" 91 M_X9_best 3 := ⟨wd_1_9, wd_5_218, ⟨by decide, by decide, by decide⟩, Or.inl wd_5_215⟩
theorem cw_L_92 : am_cw "SignCellarLaw" 92 M_X8_sign 1 := ⟨wd_1_1, wd_3_216, ⟨by decide, by decide, by decide⟩, Or.inl wd_3_213⟩
theorem cw_L_95 : am_cw "SignCellarLaw" 95 M_X9_sign_ 1 := ⟨wd_1_9, wd_5_231, ⟨by decide, by decide, by decide⟩, Or.inl wd_5_228⟩
theorem cw_L_96 : am_cw "SignCellarLaw" 96 M_X8_clear 0 := ⟨wd_1_1, wd_3_221, ⟨by decide, by decide, by decide⟩, Or.inl wd_3_218⟩
theorem cw_L_99 : am_cw "SignCellarLaw" 99 M_X9_clear 0 := ⟨wd_1_9, wd_5_236, ⟨by decide, by decide, by decide⟩, Or.inl wd_5_233⟩
theorem nx_L_10 : am_nx "SignCellarLaw" 10 9 := ⟨(RX9, TX9, 42), rfl, inX9, tyX9_ok, by decide, wd_4_94, wd_4_95, wd_1_9⟩
theorem nx_L_7 : am_nx "SignCellarLaw" 7 8 := ⟨(RX8, TX8, 16), rfl, inX8, tyX8_ok, by decide, wd_1_13, wd_1_14, wd_1_1⟩
def F_L_law_1152 (L : Nat) (xs : Nat → Int32) (k18 : Nat → Nat → Int32 → am_H → Option (Int32 × am_H)) (v1 : Nat) (v2 : Nat) (v3 : Int32) (h : am_H) : Option (Int32 × am_H) :=
  k18 v1 v2 (v3 + (5 : Int32)) h
theorem w_L_law_1152 {g : am_G} {l : Launch} {h0 : am_H} {x : Int32} {hf : am_H}  {k18 : Nat → Nat → Int32 → am_H → Option (Int32 × am_H)} (j18 : ∀ (v1 : Nat) (v2 : Nat) (v3 : Int32) (h : am_H), k18 v1 v2 v3 h = some (x, hf) → am_W g l M_L_law h0 (some (.int x)) hf 18 [some (.float 0), some (.ref v1), some (.ref v2), some (.int v3)] [] h) (v1 : Nat) (v2 : Nat) (v3 : Int32) (h : am_H) (hF : F_L_law_1152 (g.2.2.1 3) g.2.2.2 k18 v1 v2 v3 h = some (x, hf)) : am_W g l M_L_law h0 (some (.int x)) hf 1152 [some (.float 0), some (.ref v1), some (.ref v2), some (.int v3)] [] h := by
  unfold F_L_law_1152 at hF
  refine am_iinc (ls' := [some (.float 0), some (.ref v1), some (.ref v2), some (.int (v3 + (5 : Int32)))]) (pc' := 1155) (v := (v3 + (5 : Int32))) dL_law_1152 rfl rfl (Nat.le_of_ble_eq_true rfl) rfl rfl ?_
  refine am_goto (pc' := 18) dL_law_1155 rfl ?_
  exact j18 v1 v2 (v3 + (5 : Int32)) h hF
def F_L_law_18 (L : Nat) (xs : Nat → Int32) : Nat → Nat → Nat → Int32 → am_H → Option (Int32 × am_H)
  | 0, _, _, _, _ => none
  | n + 1, v1, v2, v3, h =>
  if ((Int32.ofNat L) - (5 : Int32)) < v3 then
    some ((1 : Int32), h)
  else
    (am_sl L xs v3).bind fun x2 =>
    if (x2 &&& (31 : Int32)) = (0 : Int32) then
      (am_sl L xs (v3 + (1 : Int32))).bind fun x4 =>
      (am_sl L xs (v3 + (2 : Int32))).bind fun x5 =>
      (am_sl L xs (v3 + (3 : Int32))).bind fun x6 =>
      (F_X8_feed v1 x4 (((Int32.toInt64 x5) <<< (Int32.toInt64 (32 : Int32) &&& 63)) ||| ((Int32.toInt64 x6) &&& (4294967295 : Int64))) h).bind fun q7 =>
      (am_sl L xs (v3 + (1 : Int32))).bind fun x8 =>
      (am_sl L xs (v3 + (2 : Int32))).bind fun x9 =>
      (am_sl L xs (v3 + (3 : Int32))).bind fun x10 =>
      (F_X9_feed v2 x8 (((Int32.toInt64 x9) <<< (Int32.toInt64 (32 : Int32) &&& 63)) ||| ((Int32.toInt64 x10) &&& (4294967295 : Int64))) q7.2).bind fun q11 =>
      if q7.1 = q11.1 then
        F_L_law_1152 L xs (F_L_law_18 L xs n) v1 v2 v3 q11.2
      else
        some ((0 : Int32), q11.2)
    else
    if (x2 &&& (31 : Int32)) = (1 : Int32) then
      (F_X8_make v1 h).bind fun q14 =>
      (F_X9_make v2 q14.2).bind fun q15 =>
      if q14.1 = q15.1 then
        F_L_law_1152 L xs (F_L_law_18 L xs n) v1 v2 v3 q15.2
      else
        some ((0 : Int32), q15.2)
    else
    if (x2 &&& (31 : Int32)) = (2 : Int32) then
      (am_sl L xs (v3 + (1 : Int32))).bind fun x18 =>
      (am_sl L xs (v3 + (2 : Int32))).bind fun x19 =>
      (am_sl L xs (v3 + (3 : Int32))).bind fun x20 =>
      (F_X8_change v1 x18 x19 x20 h).bind fun q21 =>
      (am_sl L xs (v3 + (1 : Int32))).bind fun x22 =>
      (am_sl L xs (v3 + (2 : Int32))).bind fun x23 =>
      (am_sl L xs (v3 + (3 : Int32))).bind fun x24 =>
      (F_X9_change v2 x22 x23 x24 q21.2).bind fun q25 =>
      if q21.1 = q25.1 then
        F_L_law_1152 L xs (F_L_law_18 L xs n) v1 v2 v3 q25.2
      else
        some ((0 : Int32), q25.2)
    else
    if (x2 &&& (31 : Int32)) = (3 : Int32) then
      (am_sl L xs (v3 + (1 : Int32))).bind fun x28 =>
      (am_sl L xs (v3 + (2 : Int32))).bind fun x29 =>
      (am_sl L xs (v3 + (3 : Int32))).bind fun x30 =>
      (F_X8_put v1 x28 x29 x30 h).bind fun q31 =>
      (am_sl L xs (v3 + (1 : Int32))).bind fun x32 =>
      (am_sl L xs (v3 + (2 : Int32))).bind fun x33 =>
      (am_sl L xs (v3 + (3 : Int32))).bind fun x34 =>
      (F_X9_put v2 x32 x33 x34 q31.2).bind fun q35 =>
      if q31.1 = q35.1 then
        F_L_law_1152 L xs (F_L_law_18 L xs n) v1 v2 v3 q35.2
      else
        some ((0 : Int32), q35.2)
    else
    if (x2 &&& (31 : Int32)) = (4 : Int32) then
      (am_sl L xs (v3 + (1 : Int32))).bind fun x38 =>
      (am_sl L xs (v3 + (2 : Int32))).bind fun x39 =>
      (F_X8_strike v1 x38 x39 h).bind fun q40 =>
      (am_sl L xs (v3 + (1 : Int32))).bind fun x41 =>
      (am_sl L xs (v3 + (2 : Int32))).bind fun x42 =>
      (F_X9_strike v2 x41 x42 q40.2).bind fun q43 =>
      if q40.1 = q43.1 then
        F_L_law_1152 L xs (F_L_law_18 L xs n) v1 v2 v3 q43.2
      else
        some ((0 : Int32), q43.2)
    else
    if (x2 &&& (31 : Int32)) = (5 : Int32) then
      (am_sl L xs (v3 + (1 : Int32))).bind fun x46 =>
      (am_sl L xs (v3 + (2 : Int32))).bind fun x47 =>
      (F_X8_about v1 x46 x47 h).bind fun x48 =>
      (am_sl L xs (v3 + (1 : Int32))).bind fun x49 =>
      (am_sl L xs (v3 + (2 : Int32))).bind fun x50 =>
      (F_X9_about v2 x49 x50 h).bind fun x51 =>
      if x48 = x51 then
        F_L_law_1152 L xs (F_L_law_18 L xs n) v1 v2 v3 h
      else
        some ((0 : Int32), h)
    else
    if (x2 &&& (31 : Int32)) = (6 : Int32) then
      (am_sl L xs (v3 + (1 : Int32))).bind fun x54 =>
      (am_sl L xs (v3 + (2 : Int32))).bind fun x55 =>
      (F_X8_block v1 x54 x55 h).bind fun x56 =>
      (am_sl L xs (v3 + (1 : Int32))).bind fun x57 =>
      (am_sl L xs (v3 + (2 : Int32))).bind fun x58 =>
      (F_X9_block v2 x57 x58 h).bind fun x59 =>
      if x56 = x59 then
        F_L_law_1152 L xs (F_L_law_18 L xs n) v1 v2 v3 h
      else
        some ((0 : Int32), h)
    else
    if (x2 &&& (31 : Int32)) = (7 : Int32) then
      (am_sl L xs (v3 + (1 : Int32))).bind fun x62 =>
      (am_sl L xs (v3 + (2 : Int32))).bind fun x63 =>
      (F_X8_open v1 x62 x63 h).bind fun x64 =>
      (am_sl L xs (v3 + (1 : Int32))).bind fun x65 =>
      (am_sl L xs (v3 + (2 : Int32))).bind fun x66 =>
      (F_X9_open v2 x65 x66 h).bind fun q67 =>
      if x64 = q67.1 then
        F_L_law_1152 L xs (F_L_law_18 L xs n) v1 v2 v3 q67.2
      else
        some ((0 : Int32), q67.2)
    else
    if (x2 &&& (31 : Int32)) = (8 : Int32) then
      (am_sl L xs (v3 + (1 : Int32))).bind fun x70 =>
      (am_sl L xs (v3 + (2 : Int32))).bind fun x71 =>
      (F_X8_told v1 x70 x71 h).bind fun x72 =>
      (am_sl L xs (v3 + (1 : Int32))).bind fun x73 =>
      (am_sl L xs (v3 + (2 : Int32))).bind fun x74 =>
      (F_X9_told v2 x73 x74 h).bind fun x75 =>
      if x72 = x75 then
        F_L_law_1152 L xs (F_L_law_18 L xs n) v1 v2 v3 h
      else
        some ((0 : Int32), h)
    else
    if (x2 &&& (31 : Int32)) = (9 : Int32) then
      (am_sl L xs (v3 + (1 : Int32))).bind fun x78 =>
      (F_X8_count v1 x78 h).bind fun x79 =>
      (am_sl L xs (v3 + (1 : Int32))).bind fun x80 =>
      (F_X9_count v2 x80 h).bind fun x81 =>
      if x79 = x81 then
        F_L_law_1152 L xs (F_L_law_18 L xs n) v1 v2 v3 h
      else
        some ((0 : Int32), h)
    else
    if (x2 &&& (31 : Int32)) = (10 : Int32) then
      (am_sl L xs (v3 + (1 : Int32))).bind fun x84 =>
      (am_sl L xs (v3 + (2 : Int32))).bind fun x85 =>
      (F_X8_share v1 x84 x85 h).bind fun x86 =>
      (am_sl L xs (v3 + (1 : Int32))).bind fun x87 =>
      (am_sl L xs (v3 + (2 : Int32))).bind fun x88 =>
      (F_X9_share v2 x87 x88 h).bind fun x89 =>
      if x86 = x89 then
        F_L_law_1152 L xs (F_L_law_18 L xs n) v1 v2 v3 h
      else
        some ((0 : Int32), h)
    else
    if (x2 &&& (31 : Int32)) = (11 : Int32) then
      (am_sl L xs (v3 + (1 : Int32))).bind fun x92 =>
      (am_sl L xs (v3 + (2 : Int32))).bind fun x93 =>
      (F_X8_size v1 x92 x93 h).bind fun q94 =>
      (am_sl L xs (v3 + (1 : Int32))).bind fun x95 =>
      (am_sl L xs (v3 + (2 : Int32))).bind fun x96 =>
      (F_X9_size v2 x95 x96 q94.2).bind fun q97 =>
      if q94.1 = q97.1 then
        F_L_law_1152 L xs (F_L_law_18 L xs n) v1 v2 v3 q97.2
      else
        some ((0 : Int32), q97.2)
    else
    if (x2 &&& (31 : Int32)) = (12 : Int32) then
      (am_sl L xs (v3 + (1 : Int32))).bind fun x100 =>
      (am_sl L xs (v3 + (2 : Int32))).bind fun x101 =>
      (F_X8_time v1 x100 x101 h).bind fun q102 =>
      (am_sl L xs (v3 + (1 : Int32))).bind fun x103 =>
      (am_sl L xs (v3 + (2 : Int32))).bind fun x104 =>
      (F_X9_time v2 x103 x104 q102.2).bind fun q105 =>
      if q102.1 = q105.1 then
        F_L_law_1152 L xs (F_L_law_18 L xs n) v1 v2 v3 q105.2
      else
        some ((0 : Int32), q105.2)
    else
    if (x2 &&& (31 : Int32)) = (13 : Int32) then
      (am_sl L xs (v3 + (1 : Int32))).bind fun x108 =>
      (am_sl L xs (v3 + (2 : Int32))).bind fun x109 =>
      (F_X8_cut v1 x108 x109 h).bind fun q110 =>
      (am_sl L xs (v3 + (1 : Int32))).bind fun x111 =>
      (am_sl L xs (v3 + (2 : Int32))).bind fun x112 =>
      (F_X9_cut v2 x111 x112 q110.2).bind fun q113 =>
      if q110.1 = q113.1 then
        F_L_law_1152 L xs (F_L_law_18 L xs n) v1 v2 v3 q113.2
      else
        some ((0 : Int32), q113.2)
    else
    if (x2 &&& (31 : Int32)) = (14 : Int32) then
      (am_sl L xs (v3 + (1 : Int32))).bind fun x116 =>
      (am_sl L xs (v3 + (2 : Int32))).bind fun x117 =>
      (am_sl L xs (v3 + (3 : Int32))).bind fun x118 =>
      (F_X8_rule v1 x116 x117 x118 h).bind fun q119 =>
      (am_sl L xs (v3 + (1 : Int32))).bind fun x120 =>
      (am_sl L xs (v3 + (2 : Int32))).bind fun x121 =>
      (am_sl L xs (v3 + (3 : Int32))).bind fun x122 =>
      (F_X9_rule v2 x120 x121 x122 q119.2).bind fun q123 =>
      if q119.1 = q123.1 then
        F_L_law_1152 L xs (F_L_law_18 L xs n) v1 v2 v3 q123.2
      else
        some ((0 : Int32), q123.2)
    else
    if (x2 &&& (31 : Int32)) = (15 : Int32) then
      (am_sl L xs (v3 + (1 : Int32))).bind fun x126 =>
      (am_sl L xs (v3 + (2 : Int32))).bind fun x127 =>
      (F_X8_bit v1 x126 x127 h).bind fun q128 =>
      (am_sl L xs (v3 + (1 : Int32))).bind fun x129 =>
      (am_sl L xs (v3 + (2 : Int32))).bind fun x130 =>
      (F_X9_bit v2 x129 x130 q128.2).bind fun q131 =>
      if q128.1 = q131.1 then
        F_L_law_1152 L xs (F_L_law_18 L xs n) v1 v2 v3 q131.2
      else
        some ((0 : Int32), q131.2)
    else
    if (x2 &&& (31 : Int32)) = (16 : Int32) then
      (am_sl L xs (v3 + (1 : Int32))).bind fun x134 =>
      (am_sl L xs (v3 + (2 : Int32))).bind fun x135 =>
      (am_sl L xs (v3 + (3 : Int32))).bind fun x136 =>
      (F_X8_turned v1 x134 x135 x136 h).bind fun q137 =>
      (am_sl L xs (v3 + (1 : Int32))).bind fun x138 =>
      (am_sl L xs (v3 + (2 : Int32))).bind fun x139 =>
      (am_sl L xs (v3 + (3 : Int32))).bind fun x140 =>
      (F_X9_turned v2 x138 x139 x140 q137.2).bind fun q141 =>
      if q137.1 = q141.1 then
        F_L_law_1152 L xs (F_L_law_18 L xs n) v1 v2 v3 q141.2
      else
        some ((0 : Int32), q141.2)
    else
    if (x2 &&& (31 : Int32)) = (17 : Int32) then
      (am_sl L xs (v3 + (1 : Int32))).bind fun x144 =>
      (am_sl L xs (v3 + (2 : Int32))).bind fun x145 =>
      (am_sl L xs (v3 + (3 : Int32))).bind fun x146 =>
      (F_X8_best v1 x144 x145 x146 h).bind fun q147 =>
      (am_sl L xs (v3 + (1 : Int32))).bind fun x148 =>
      (am_sl L xs (v3 + (2 : Int32))).bind fun x149 =>
      (am_sl L xs (v3 + (3 : Int32))).bind fun x150 =>
      (F_X9_best v2 x148 x149 x150 q147.2).bind fun q151 =>
      if q147.1 = q151.1 then
        F_L_law_1152 L xs (F_L_law_18 L xs n) v1 v2 v3 q151.2
      else
        some ((0 : Int32), q151.2)
    else
    if (x2 &&& (31 : Int32)) = (18 : Int32) then
      (am_sl L xs (v3 + (1 : Int32))).bind fun x154 =>
      (F_X8_sign v1 x154 h).bind fun q155 =>
      (am_sl L xs (v3 + (1 : Int32))).bind fun x156 =>
      (F_X9_sign_ v2 x156 q155.2).bind fun q157 =>
      if q155.1 = q157.1 then
        F_L_law_1152 L xs (F_L_law_18 L xs n) v1 v2 v3 q157.2
      else
        some ((0 : Int32), q157.2)
    else
    if (x2 &&& (31 : Int32)) = (19 : Int32) then
      (F_X8_clear v1 h).bind fun q160 =>
      (F_X9_clear v2 q160.2).bind fun q161 =>
      if q160.1 = q161.1 then
        F_L_law_1152 L xs (F_L_law_18 L xs n) v1 v2 v3 q161.2
      else
        some ((0 : Int32), q161.2)
    else
    if (x2 &&& (31 : Int32)) = (20 : Int32) then
      (am_sl L xs (v3 + (1 : Int32))).bind fun x164 =>
      (am_sl L xs (v3 + (2 : Int32))).bind fun x165 =>
      (am_sl L xs (v3 + (3 : Int32))).bind fun x166 =>
      (F_X8_seek v1 x164 x165 x166 h).bind fun q167 =>
      (am_sl L xs (v3 + (1 : Int32))).bind fun x168 =>
      (am_sl L xs (v3 + (2 : Int32))).bind fun x169 =>
      (am_sl L xs (v3 + (3 : Int32))).bind fun x170 =>
      (F_X9_seek v2 x168 x169 x170 q167.2).bind fun q171 =>
      if q167.1 = q171.1 then
        F_L_law_1152 L xs (F_L_law_18 L xs n) v1 v2 v3 q171.2
      else
        some ((0 : Int32), q171.2)
    else
    if (x2 &&& (31 : Int32)) = (21 : Int32) then
      (am_sl L xs (v3 + (1 : Int32))).bind fun x174 =>
      (am_sl L xs (v3 + (2 : Int32))).bind fun x175 =>
      (am_sl L xs (v3 + (3 : Int32))).bind fun x176 =>
      (am_sl L xs (v3 + (4 : Int32))).bind fun x177 =>
      (F_X8_span v1 x174 x175 x176 x177 h).bind fun q178 =>
      (am_sl L xs (v3 + (1 : Int32))).bind fun x179 =>
      (am_sl L xs (v3 + (2 : Int32))).bind fun x180 =>
      (am_sl L xs (v3 + (3 : Int32))).bind fun x181 =>
      (am_sl L xs (v3 + (4 : Int32))).bind fun x182 =>
      (F_X9_span v2 x179 x180 x181 x182 q178.2).bind fun q183 =>
      if q178.1 = q183.1 then
        F_L_law_1152 L xs (F_L_law_18 L xs n) v1 v2 v3 q183.2
      else
        some ((0 : Int32), q183.2)
    else
    if (x2 &&& (31 : Int32)) = (22 : Int32) then
      (am_sl L xs (v3 + (1 : Int32))).bind fun x186 =>
      (F_X8_tear v1 x186 h).bind fun q187 =>
      (am_sl L xs (v3 + (1 : Int32))).bind fun x188 =>
      (F_X9_tear v2 x188 q187.2).bind fun q189 =>
      if q187.1 = q189.1 then
        F_L_law_1152 L xs (F_L_law_18 L xs n) v1 v2 v3 q189.2
      else
        some ((0 : Int32), q189.2)
    else
    if (x2 &&& (31 : Int32)) = (23 : Int32) then
      (am_sl L xs (v3 + (1 : Int32))).bind fun x192 =>
      (am_sl L xs (v3 + (2 : Int32))).bind fun x193 =>
      (am_sl L xs (v3 + (3 : Int32))).bind fun x194 =>
      (F_X8_sums v1 x192 x193 x194 h).bind fun x195 =>
      (am_sl L xs (v3 + (1 : Int32))).bind fun x196 =>
      (am_sl L xs (v3 + (2 : Int32))).bind fun x197 =>
      (am_sl L xs (v3 + (3 : Int32))).bind fun x198 =>
      (F_X9_sums v2 x196 x197 x198 h).bind fun x199 =>
      if x195 = x199 then
        F_L_law_1152 L xs (F_L_law_18 L xs n) v1 v2 v3 h
      else
        some ((0 : Int32), h)
    else
    if (x2 &&& (31 : Int32)) = (24 : Int32) then
      (am_sl L xs (v3 + (1 : Int32))).bind fun x202 =>
      (F_X8_restore v1 x202 h).bind fun q203 =>
      (am_sl L xs (v3 + (1 : Int32))).bind fun x204 =>
      (F_X9_restore v2 x204 q203.2).bind fun q205 =>
      if q203.1 = q205.1 then
        F_L_law_1152 L xs (F_L_law_18 L xs n) v1 v2 v3 q205.2
      else
        some ((0 : Int32), q205.2)
    else
    if (x2 &&& (31 : Int32)) = (25 : Int32) then
      (am_sl L xs (v3 + (1 : Int32))).bind fun x208 =>
      (am_sl L xs (v3 + (2 : Int32))).bind fun x209 =>
      (am_sl L xs (v3 + (3 : Int32))).bind fun x210 =>
      (F_X8_send v1 x208 x209 x210 h).bind fun q211 =>
      (am_sl L xs (v3 + (1 : Int32))).bind fun x212 =>
      (am_sl L xs (v3 + (2 : Int32))).bind fun x213 =>
      (am_sl L xs (v3 + (3 : Int32))).bind fun x214 =>
      (F_X9_send v2 x212 x213 x214 q211.2).bind fun q215 =>
      if q211.1 = q215.1 then
        F_L_law_1152 L xs (F_L_law_18 L xs n) v1 v2 v3 q215.2
      else
        some ((0 : Int32), q215.2)
    else
    if (x2 &&& (31 : Int32)) = (26 : Int32) then
      (am_sl L xs (v3 + (1 : Int32))).bind fun x218 =>
      (F_X8_ways v1 x218 h).bind fun x219 =>
      (am_sl L xs (v3 + (1 : Int32))).bind fun x220 =>
      (F_X9_ways v2 x220 h).bind fun x221 =>
      if (lg_cmp x219 x221) = 0 then
        F_L_law_1152 L xs (F_L_law_18 L xs n) v1 v2 v3 h
      else
        some ((0 : Int32), h)
    else
    if (x2 &&& (31 : Int32)) = (27 : Int32) then
      (am_sl L xs (v3 + (1 : Int32))).bind fun x224 =>
      (F_X8_bound v1 x224 h).bind fun x225 =>
      (am_sl L xs (v3 + (1 : Int32))).bind fun x226 =>
      (F_X9_bound v2 x226 h).bind fun x227 =>
      if x225 = x227 then
        F_L_law_1152 L xs (F_L_law_18 L xs n) v1 v2 v3 h
      else
        some ((0 : Int32), h)
    else
    if (x2 &&& (31 : Int32)) = (28 : Int32) then
      (am_sl L xs (v3 + (1 : Int32))).bind fun x230 =>
      (am_sl L xs (v3 + (2 : Int32))).bind fun x231 =>
      (F_X8_entropy v1 x230 x231 h).bind fun x232 =>
      (am_sl L xs (v3 + (1 : Int32))).bind fun x233 =>
      (am_sl L xs (v3 + (2 : Int32))).bind fun x234 =>
      (F_X9_entropy v2 x233 x234 h).bind fun x235 =>
      if x232 = x235 then
        F_L_law_1152 L xs (F_L_law_18 L xs n) v1 v2 v3 h
      else
        some ((0 : Int32), h)
    else
    F_L_law_1152 L xs (F_L_law_18 L xs n) v1 v2 v3 h
theorem w_L_law_18 {g : am_G} {l : Launch} {h0 : am_H} {x : Int32} {hf : am_H}  : ∀ (n : Nat) (v1 : Nat) (v2 : Nat) (v3 : Int32) (h : am_H), F_L_law_18 (g.2.2.1 3) g.2.2.2 n v1 v2 v3 h = some (x, hf) → am_W g l M_L_law h0 (some (.int x)) hf 18 [some (.float 0), some (.ref v1), some (.ref v2), some (.int v3)] [] h
  | 0, _, _, _, _, hF => by cases hF
  | n + 1, v1, v2, v3, h, hF => by
    rw [F_L_law_18] at hF
    refine am_iload_n (pc' := 19) dL_law_18 rfl rfl ?_
    refine am_xload_n (pc' := 20) dL_law_19 rfl rfl ?_
    refine am_slen (pc' := 21) dL_law_20 rfl ?_
    refine am_iconst (v := (5 : Int32)) (pc' := 22) dL_law_21 rfl rfl ?_
    refine am_isub (pc' := 23) dL_law_22 rfl ?_
    rcases am_ite hF with ⟨z1, hF⟩ | ⟨z1, hF⟩
    · refine am_icmp_gt_t (pc' := 1158) dL_law_23 rfl z1 ?_
      refine am_iconst (v := (1 : Int32)) (pc' := 1159) dL_law_1158 rfl rfl ?_
      cases hF
      exact am_iret dL_law_1159 rfl rfl
    · refine am_icmp_gt_f (pc' := 26) (tgt := 1158) dL_law_23 rfl z1 rfl ?_
      refine am_xload_n (pc' := 27) dL_law_26 rfl rfl ?_
      refine am_iload_n (pc' := 28) dL_law_27 rfl rfl ?_
      obtain ⟨x2, ex2, hF⟩ := am_bind hF
      refine am_sald (pc' := 29) dL_law_28 ex2 rfl ?_
      refine am_bipush (v := (31 : Int32)) (pc' := 31) dL_law_29 rfl rfl ?_
      refine am_iand (pc' := 32) dL_law_31 rfl ?_
      rcases am_ite hF with ⟨z3, hF⟩ | ⟨z3, hF⟩
      · refine am_tableIn (c := (0 : Int32)) (pc' := 164) dL_law_32 z3 (by decide) (by decide) rfl rfl ?_
        refine am_aload_n (pc' := 165) dL_law_164 rfl rfl ?_
        refine am_xload_n (pc' := 166) dL_law_165 rfl rfl ?_
        refine am_iload_n (pc' := 167) dL_law_166 rfl rfl ?_
        refine am_iconst (v := (1 : Int32)) (pc' := 168) dL_law_167 rfl rfl ?_
        refine am_iadd (pc' := 169) dL_law_168 rfl ?_
        obtain ⟨x4, ex4, hF⟩ := am_bind hF
        refine am_sald (pc' := 170) dL_law_169 ex4 rfl ?_
        refine am_xload_n (pc' := 171) dL_law_170 rfl rfl ?_
        refine am_iload_n (pc' := 172) dL_law_171 rfl rfl ?_
        refine am_iconst (v := (2 : Int32)) (pc' := 173) dL_law_172 rfl rfl ?_
        refine am_iadd (pc' := 174) dL_law_173 rfl ?_
        obtain ⟨x5, ex5, hF⟩ := am_bind hF
        refine am_sald (pc' := 175) dL_law_174 ex5 rfl ?_
        refine am_i2l (pc' := 176) dL_law_175 rfl ?_
        refine am_bipush (v := (32 : Int32)) (pc' := 178) dL_law_176 rfl rfl ?_
        refine am_lshl (pc' := 179) dL_law_178 rfl ?_
        refine am_xload_n (pc' := 180) dL_law_179 rfl rfl ?_
        refine am_iload_n (pc' := 181) dL_law_180 rfl rfl ?_
        refine am_iconst (v := (3 : Int32)) (pc' := 182) dL_law_181 rfl rfl ?_
        refine am_iadd (pc' := 183) dL_law_182 rfl ?_
        obtain ⟨x6, ex6, hF⟩ := am_bind hF
        refine am_sald (pc' := 184) dL_law_183 ex6 rfl ?_
        refine am_i2l (pc' := 185) dL_law_184 rfl ?_
        refine am_ldc2 (v := (4294967295 : Int64)) (pc' := 188) dL_law_185 wd_6_56 rfl ?_
        refine am_land (pc' := 189) dL_law_188 rfl ?_
        refine am_lor (pc' := 190) dL_law_189 rfl ?_
        obtain ⟨q7, eq7, hF⟩ := am_bind hF
        obtain ⟨oq7, pq7⟩ := t_X8_feed eq7
        refine am_callV1 (Mc := M_X8_feed) (As := [.int x4, .long (((Int32.toInt64 x5) <<< (Int32.toInt64 (32 : Int32) &&& 63)) ||| ((Int32.toInt64 x6) &&& (4294967295 : Int64)))]) (st := []) (pc' := 193) dL_law_190 cw_L_15 wd_1_230 wd_1_231 ⟨_, rfl, rfl⟩ (by decide) (by decide) rfl rfl (Nat.le_of_ble_eq_true rfl) pq7 (c_X8_feed eq7) rfl ?_
        refine am_aload_n (pc' := 194) dL_law_193 rfl rfl ?_
        refine am_xload_n (pc' := 195) dL_law_194 rfl rfl ?_
        refine am_iload_n (pc' := 196) dL_law_195 rfl rfl ?_
        refine am_iconst (v := (1 : Int32)) (pc' := 197) dL_law_196 rfl rfl ?_
        refine am_iadd (pc' := 198) dL_law_197 rfl ?_
        obtain ⟨x8, ex8, hF⟩ := am_bind hF
        refine am_sald (pc' := 199) dL_law_198 ex8 rfl ?_
        refine am_xload_n (pc' := 200) dL_law_199 rfl rfl ?_
        refine am_iload_n (pc' := 201) dL_law_200 rfl rfl ?_
        refine am_iconst (v := (2 : Int32)) (pc' := 202) dL_law_201 rfl rfl ?_
        refine am_iadd (pc' := 203) dL_law_202 rfl ?_
        obtain ⟨x9, ex9, hF⟩ := am_bind hF
        refine am_sald (pc' := 204) dL_law_203 ex9 rfl ?_
        refine am_i2l (pc' := 205) dL_law_204 rfl ?_
        refine am_bipush (v := (32 : Int32)) (pc' := 207) dL_law_205 rfl rfl ?_
        refine am_lshl (pc' := 208) dL_law_207 rfl ?_
        refine am_xload_n (pc' := 209) dL_law_208 rfl rfl ?_
        refine am_iload_n (pc' := 210) dL_law_209 rfl rfl ?_
        refine am_iconst (v := (3 : Int32)) (pc' := 211) dL_law_210 rfl rfl ?_
        refine am_iadd (pc' := 212) dL_law_211 rfl ?_
        obtain ⟨x10, ex10, hF⟩ := am_bind hF
        refine am_sald (pc' := 213) dL_law_212 ex10 rfl ?_
        refine am_i2l (pc' := 214) dL_law_213 rfl ?_
        refine am_ldc2 (v := (4294967295 : Int64)) (pc' := 217) dL_law_214 wd_6_56 rfl ?_
        refine am_land (pc' := 218) dL_law_217 rfl ?_
        refine am_lor (pc' := 219) dL_law_218 rfl ?_
        obtain ⟨q11, eq11, hF⟩ := am_bind hF
        obtain ⟨oq11, pq11⟩ := t_X9_feed eq11
        refine am_callV1 (Mc := M_X9_feed) (As := [.int x8, .long (((Int32.toInt64 x9) <<< (Int32.toInt64 (32 : Int32) &&& 63)) ||| ((Int32.toInt64 x10) &&& (4294967295 : Int64)))]) (st := [.int q7.1]) (pc' := 222) dL_law_219 cw_L_19 wd_4_229 wd_4_230 ⟨_, rfl, rfl⟩ (by decide) (by decide) rfl rfl (Nat.le_of_ble_eq_true rfl) pq11 (c_X9_feed eq11) rfl ?_
        rcases am_ite hF with ⟨z12, hF⟩ | ⟨z12, hF⟩
        · refine am_icmp_eq_t (pc' := 1152) dL_law_222 rfl z12 ?_
          exact w_L_law_1152 (w_L_law_18 n) v1 v2 v3 q11.2 hF
        · refine am_icmp_eq_f (pc' := 225) (tgt := 1152) dL_law_222 rfl z12 rfl ?_
          refine am_iconst (v := (0 : Int32)) (pc' := 226) dL_law_225 rfl rfl ?_
          cases hF
          exact am_iret dL_law_226 rfl rfl
      rcases am_ite hF with ⟨z13, hF⟩ | ⟨z13, hF⟩
      · refine am_tableIn (c := (1 : Int32)) (pc' := 227) dL_law_32 z13 (by decide) (by decide) rfl rfl ?_
        refine am_aload_n (pc' := 228) dL_law_227 rfl rfl ?_
        obtain ⟨q14, eq14, hF⟩ := am_bind hF
        obtain ⟨oq14, pq14⟩ := t_X8_make eq14
        refine am_callV1 (Mc := M_X8_make) (As := []) (st := []) (pc' := 231) dL_law_228 cw_L_20 wd_2_4 wd_2_5 ⟨_, rfl, rfl⟩ (by decide) (by decide) rfl rfl (Nat.le_of_ble_eq_true rfl) pq14 (c_X8_make eq14) rfl ?_
        refine am_aload_n (pc' := 232) dL_law_231 rfl rfl ?_
        obtain ⟨q15, eq15, hF⟩ := am_bind hF
        obtain ⟨oq15, pq15⟩ := t_X9_make eq15
        refine am_callV1 (Mc := M_X9_make) (As := []) (st := [.int q14.1]) (pc' := 235) dL_law_232 cw_L_24 wd_4_239 wd_5_0 ⟨_, rfl, rfl⟩ (by decide) (by decide) rfl rfl (Nat.le_of_ble_eq_true rfl) pq15 (c_X9_make eq15) rfl ?_
        rcases am_ite hF with ⟨z16, hF⟩ | ⟨z16, hF⟩
        · refine am_icmp_eq_t (pc' := 1152) dL_law_235 rfl z16 ?_
          exact w_L_law_1152 (w_L_law_18 n) v1 v2 v3 q15.2 hF
        · refine am_icmp_eq_f (pc' := 238) (tgt := 1152) dL_law_235 rfl z16 rfl ?_
          refine am_iconst (v := (0 : Int32)) (pc' := 239) dL_law_238 rfl rfl ?_
          cases hF
          exact am_iret dL_law_239 rfl rfl
      rcases am_ite hF with ⟨z17, hF⟩ | ⟨z17, hF⟩
      · refine am_tableIn (c := (2 : Int32)) (pc' := 240) dL_law_32 z17 (by decide) (by decide) rfl rfl ?_
        refine am_aload_n (pc' := 241) dL_law_240 rfl rfl ?_
        refine am_xload_n (pc' := 242) dL_law_241 rfl rfl ?_
        refine am_iload_n (pc' := 243) dL_law_242 rfl rfl ?_
        refine am_iconst (v := (1 : Int32)) (pc' := 244) dL_law_243 rfl rfl ?_
        refine am_iadd (pc' := 245) dL_law_244 rfl ?_
        obtain ⟨x18, ex18, hF⟩ := am_bind hF
        refine am_sald (pc' := 246) dL_law_245 ex18 rfl ?_
        refine am_xload_n (pc' := 247) dL_law_246 rfl rfl ?_
        refine am_iload_n (pc' := 248) dL_law_247 rfl rfl ?_
        refine am_iconst (v := (2 : Int32)) (pc' := 249) dL_law_248 rfl rfl ?_
        refine am_iadd (pc' := 250) dL_law_249 rfl ?_
        obtain ⟨x19, ex19, hF⟩ := am_bind hF
        refine am_sald (pc' := 251) dL_law_250 ex19 rfl ?_
        refine am_xload_n (pc' := 252) dL_law_251 rfl rfl ?_
        refine am_iload_n (pc' := 253) dL_law_252 rfl rfl ?_
        refine am_iconst (v := (3 : Int32)) (pc' := 254) dL_law_253 rfl rfl ?_
        refine am_iadd (pc' := 255) dL_law_254 rfl ?_
        obtain ⟨x20, ex20, hF⟩ := am_bind hF
        refine am_sald (pc' := 256) dL_law_255 ex20 rfl ?_
        obtain ⟨q21, eq21, hF⟩ := am_bind hF
        obtain ⟨oq21, pq21⟩ := t_X8_change eq21
        refine am_callV1 (Mc := M_X8_change) (As := [.int x18, .int x19, .int x20]) (st := []) (pc' := 259) dL_law_256 cw_L_25 wd_2_130 wd_2_131 ⟨_, rfl, rfl⟩ (by decide) (by decide) rfl rfl (Nat.le_of_ble_eq_true rfl) pq21 (c_X8_change eq21) rfl ?_
        refine am_aload_n (pc' := 260) dL_law_259 rfl rfl ?_
        refine am_xload_n (pc' := 261) dL_law_260 rfl rfl ?_
        refine am_iload_n (pc' := 262) dL_law_261 rfl rfl ?_
        refine am_iconst (v := (1 : Int32)) (pc' := 263) dL_law_262 rfl rfl ?_
        refine am_iadd (pc' := 264) dL_law_263 rfl ?_
        obtain ⟨x22, ex22, hF⟩ := am_bind hF
        refine am_sald (pc' := 265) dL_law_264 ex22 rfl ?_
        refine am_xload_n (pc' := 266) dL_law_265 rfl rfl ?_
        refine am_iload_n (pc' := 267) dL_law_266 rfl rfl ?_
        refine am_iconst (v := (2 : Int32)) (pc' := 268) dL_law_267 rfl rfl ?_
        refine am_iadd (pc' := 269) dL_law_268 rfl ?_
        obtain ⟨x23, ex23, hF⟩ := am_bind hF
        refine am_sald (pc' := 270) dL_law_269 ex23 rfl ?_
        refine am_xload_n (pc' := 271) dL_law_270 rfl rfl ?_
        refine am_iload_n (pc' := 272) dL_law_271 rfl rfl ?_
        refine am_iconst (v := (3 : Int32)) (pc' := 273) dL_law_272 rfl rfl ?_
        refine am_iadd (pc' := 274) dL_law_273 rfl ?_
        obtain ⟨x24, ex24, hF⟩ := am_bind hF
        refine am_sald (pc' := 275) dL_law_274 ex24 rfl ?_
        obtain ⟨q25, eq25, hF⟩ := am_bind hF
        obtain ⟨oq25, pq25⟩ := t_X9_change eq25
        refine am_callV1 (Mc := M_X9_change) (As := [.int x22, .int x23, .int x24]) (st := [.int q21.1]) (pc' := 278) dL_law_275 cw_L_29 wd_5_28 wd_5_29 ⟨_, rfl, rfl⟩ (by decide) (by decide) rfl rfl (Nat.le_of_ble_eq_true rfl) pq25 (c_X9_change eq25) rfl ?_
        rcases am_ite hF with ⟨z26, hF⟩ | ⟨z26, hF⟩
        · refine am_icmp_eq_t (pc' := 1152) dL_law_278 rfl z26 ?_
          exact w_L_law_1152 (w_L_law_18 n) v1 v2 v3 q25.2 hF
        · refine am_icmp_eq_f (pc' := 281) (tgt := 1152) dL_law_278 rfl z26 rfl ?_
          refine am_iconst (v := (0 : Int32)) (pc' := 282) dL_law_281 rfl rfl ?_
          cases hF
          exact am_iret dL_law_282 rfl rfl
      rcases am_ite hF with ⟨z27, hF⟩ | ⟨z27, hF⟩
      · refine am_tableIn (c := (3 : Int32)) (pc' := 283) dL_law_32 z27 (by decide) (by decide) rfl rfl ?_
        refine am_aload_n (pc' := 284) dL_law_283 rfl rfl ?_
        refine am_xload_n (pc' := 285) dL_law_284 rfl rfl ?_
        refine am_iload_n (pc' := 286) dL_law_285 rfl rfl ?_
        refine am_iconst (v := (1 : Int32)) (pc' := 287) dL_law_286 rfl rfl ?_
        refine am_iadd (pc' := 288) dL_law_287 rfl ?_
        obtain ⟨x28, ex28, hF⟩ := am_bind hF
        refine am_sald (pc' := 289) dL_law_288 ex28 rfl ?_
        refine am_xload_n (pc' := 290) dL_law_289 rfl rfl ?_
        refine am_iload_n (pc' := 291) dL_law_290 rfl rfl ?_
        refine am_iconst (v := (2 : Int32)) (pc' := 292) dL_law_291 rfl rfl ?_
        refine am_iadd (pc' := 293) dL_law_292 rfl ?_
        obtain ⟨x29, ex29, hF⟩ := am_bind hF
        refine am_sald (pc' := 294) dL_law_293 ex29 rfl ?_
        refine am_xload_n (pc' := 295) dL_law_294 rfl rfl ?_
        refine am_iload_n (pc' := 296) dL_law_295 rfl rfl ?_
        refine am_iconst (v := (3 : Int32)) (pc' := 297) dL_law_296 rfl rfl ?_
        refine am_iadd (pc' := 298) dL_law_297 rfl ?_
        obtain ⟨x30, ex30, hF⟩ := am_bind hF
        refine am_sald (pc' := 299) dL_law_298 ex30 rfl ?_
        obtain ⟨q31, eq31, hF⟩ := am_bind hF
        obtain ⟨oq31, pq31⟩ := t_X8_put eq31
        refine am_callV1 (Mc := M_X8_put) (As := [.int x28, .int x29, .int x30]) (st := []) (pc' := 302) dL_law_299 cw_L_30 wd_2_173 wd_2_174 ⟨_, rfl, rfl⟩ (by decide) (by decide) rfl rfl (Nat.le_of_ble_eq_true rfl) pq31 (c_X8_put eq31) rfl ?_
        refine am_aload_n (pc' := 303) dL_law_302 rfl rfl ?_
        refine am_xload_n (pc' := 304) dL_law_303 rfl rfl ?_
        refine am_iload_n (pc' := 305) dL_law_304 rfl rfl ?_
        refine am_iconst (v := (1 : Int32)) (pc' := 306) dL_law_305 rfl rfl ?_
        refine am_iadd (pc' := 307) dL_law_306 rfl ?_
        obtain ⟨x32, ex32, hF⟩ := am_bind hF
        refine am_sald (pc' := 308) dL_law_307 ex32 rfl ?_
        refine am_xload_n (pc' := 309) dL_law_308 rfl rfl ?_
        refine am_iload_n (pc' := 310) dL_law_309 rfl rfl ?_
        refine am_iconst (v := (2 : Int32)) (pc' := 311) dL_law_310 rfl rfl ?_
        refine am_iadd (pc' := 312) dL_law_311 rfl ?_
        obtain ⟨x33, ex33, hF⟩ := am_bind hF
        refine am_sald (pc' := 313) dL_law_312 ex33 rfl ?_
        refine am_xload_n (pc' := 314) dL_law_313 rfl rfl ?_
        refine am_iload_n (pc' := 315) dL_law_314 rfl rfl ?_
        refine am_iconst (v := (3 : Int32)) (pc' := 316) dL_law_315 rfl rfl ?_
        refine am_iadd (pc' := 317) dL_law_316 rfl ?_
        obtain ⟨x34, ex34, hF⟩ := am_bind hF
        refine am_sald (pc' := 318) dL_law_317 ex34 rfl ?_
        obtain ⟨q35, eq35, hF⟩ := am_bind hF
        obtain ⟨oq35, pq35⟩ := t_X9_put eq35
        refine am_callV1 (Mc := M_X9_put) (As := [.int x32, .int x33, .int x34]) (st := [.int q31.1]) (pc' := 321) dL_law_318 cw_L_33 wd_5_69 wd_5_70 ⟨_, rfl, rfl⟩ (by decide) (by decide) rfl rfl (Nat.le_of_ble_eq_true rfl) pq35 (c_X9_put eq35) rfl ?_
        rcases am_ite hF with ⟨z36, hF⟩ | ⟨z36, hF⟩
        · refine am_icmp_eq_t (pc' := 1152) dL_law_321 rfl z36 ?_
          exact w_L_law_1152 (w_L_law_18 n) v1 v2 v3 q35.2 hF
        · refine am_icmp_eq_f (pc' := 324) (tgt := 1152) dL_law_321 rfl z36 rfl ?_
          refine am_iconst (v := (0 : Int32)) (pc' := 325) dL_law_324 rfl rfl ?_
          cases hF
          exact am_iret dL_law_325 rfl rfl
      rcases am_ite hF with ⟨z37, hF⟩ | ⟨z37, hF⟩
      · refine am_tableIn (c := (4 : Int32)) (pc' := 326) dL_law_32 z37 (by decide) (by decide) rfl rfl ?_
        refine am_aload_n (pc' := 327) dL_law_326 rfl rfl ?_
        refine am_xload_n (pc' := 328) dL_law_327 rfl rfl ?_
        refine am_iload_n (pc' := 329) dL_law_328 rfl rfl ?_
        refine am_iconst (v := (1 : Int32)) (pc' := 330) dL_law_329 rfl rfl ?_
        refine am_iadd (pc' := 331) dL_law_330 rfl ?_
        obtain ⟨x38, ex38, hF⟩ := am_bind hF
        refine am_sald (pc' := 332) dL_law_331 ex38 rfl ?_
        refine am_xload_n (pc' := 333) dL_law_332 rfl rfl ?_
        refine am_iload_n (pc' := 334) dL_law_333 rfl rfl ?_
        refine am_iconst (v := (2 : Int32)) (pc' := 335) dL_law_334 rfl rfl ?_
        refine am_iadd (pc' := 336) dL_law_335 rfl ?_
        obtain ⟨x39, ex39, hF⟩ := am_bind hF
        refine am_sald (pc' := 337) dL_law_336 ex39 rfl ?_
        obtain ⟨q40, eq40, hF⟩ := am_bind hF
        obtain ⟨oq40, pq40⟩ := t_X8_strike eq40
        refine am_callV1 (Mc := M_X8_strike) (As := [.int x38, .int x39]) (st := []) (pc' := 340) dL_law_337 cw_L_34 wd_2_177 wd_2_178 ⟨_, rfl, rfl⟩ (by decide) (by decide) rfl rfl (Nat.le_of_ble_eq_true rfl) pq40 (c_X8_strike eq40) rfl ?_
        refine am_aload_n (pc' := 341) dL_law_340 rfl rfl ?_
        refine am_xload_n (pc' := 342) dL_law_341 rfl rfl ?_
        refine am_iload_n (pc' := 343) dL_law_342 rfl rfl ?_
        refine am_iconst (v := (1 : Int32)) (pc' := 344) dL_law_343 rfl rfl ?_
        refine am_iadd (pc' := 345) dL_law_344 rfl ?_
        obtain ⟨x41, ex41, hF⟩ := am_bind hF
        refine am_sald (pc' := 346) dL_law_345 ex41 rfl ?_
        refine am_xload_n (pc' := 347) dL_law_346 rfl rfl ?_
        refine am_iload_n (pc' := 348) dL_law_347 rfl rfl ?_
        refine am_iconst (v := (2 : Int32)) (pc' := 349) dL_law_348 rfl rfl ?_
        refine am_iadd (pc' := 350) dL_law_349 rfl ?_
        obtain ⟨x42, ex42, hF⟩ := am_bind hF
        refine am_sald (pc' := 351) dL_law_350 ex42 rfl ?_
        obtain ⟨q43, eq43, hF⟩ := am_bind hF
        obtain ⟨oq43, pq43⟩ := t_X9_strike eq43
        refine am_callV1 (Mc := M_X9_strike) (As := [.int x41, .int x42]) (st := [.int q40.1]) (pc' := 354) dL_law_351 cw_L_38 wd_5_77 wd_5_78 ⟨_, rfl, rfl⟩ (by decide) (by decide) rfl rfl (Nat.le_of_ble_eq_true rfl) pq43 (c_X9_strike eq43) rfl ?_
        rcases am_ite hF with ⟨z44, hF⟩ | ⟨z44, hF⟩
        · refine am_icmp_eq_t (pc' := 1152) dL_law_354 rfl z44 ?_
          exact w_L_law_1152 (w_L_law_18 n) v1 v2 v3 q43.2 hF
        · refine am_icmp_eq_f (pc' := 357) (tgt := 1152) dL_law_354 rfl z44 rfl ?_
          refine am_iconst (v := (0 : Int32)) (pc' := 358) dL_law_357 rfl rfl ?_
          cases hF
          exact am_iret dL_law_358 rfl rfl
      rcases am_ite hF with ⟨z45, hF⟩ | ⟨z45, hF⟩
      · refine am_tableIn (c := (5 : Int32)) (pc' := 359) dL_law_32 z45 (by decide) (by decide) rfl rfl ?_
        refine am_aload_n (pc' := 360) dL_law_359 rfl rfl ?_
        refine am_xload_n (pc' := 361) dL_law_360 rfl rfl ?_
        refine am_iload_n (pc' := 362) dL_law_361 rfl rfl ?_
        refine am_iconst (v := (1 : Int32)) (pc' := 363) dL_law_362 rfl rfl ?_
        refine am_iadd (pc' := 364) dL_law_363 rfl ?_
        obtain ⟨x46, ex46, hF⟩ := am_bind hF
        refine am_sald (pc' := 365) dL_law_364 ex46 rfl ?_
        refine am_xload_n (pc' := 366) dL_law_365 rfl rfl ?_
        refine am_iload_n (pc' := 367) dL_law_366 rfl rfl ?_
        refine am_iconst (v := (2 : Int32)) (pc' := 368) dL_law_367 rfl rfl ?_
        refine am_iadd (pc' := 369) dL_law_368 rfl ?_
        obtain ⟨x47, ex47, hF⟩ := am_bind hF
        refine am_sald (pc' := 370) dL_law_369 ex47 rfl ?_
        obtain ⟨x48, ex48, hF⟩ := am_bind hF
        obtain ⟨ox48, px48⟩ := t_X8_about ex48
        refine am_callV1 (Mc := M_X8_about) (As := [.int x46, .int x47]) (st := []) (pc' := 373) dL_law_370 cw_L_39 wd_2_181 wd_2_182 ⟨_, rfl, rfl⟩ (by decide) (by decide) rfl rfl (Nat.le_of_ble_eq_true rfl) px48 (c_X8_about ex48) rfl ?_
        refine am_aload_n (pc' := 374) dL_law_373 rfl rfl ?_
        refine am_xload_n (pc' := 375) dL_law_374 rfl rfl ?_
        refine am_iload_n (pc' := 376) dL_law_375 rfl rfl ?_
        refine am_iconst (v := (1 : Int32)) (pc' := 377) dL_law_376 rfl rfl ?_
        refine am_iadd (pc' := 378) dL_law_377 rfl ?_
        obtain ⟨x49, ex49, hF⟩ := am_bind hF
        refine am_sald (pc' := 379) dL_law_378 ex49 rfl ?_
        refine am_xload_n (pc' := 380) dL_law_379 rfl rfl ?_
        refine am_iload_n (pc' := 381) dL_law_380 rfl rfl ?_
        refine am_iconst (v := (2 : Int32)) (pc' := 382) dL_law_381 rfl rfl ?_
        refine am_iadd (pc' := 383) dL_law_382 rfl ?_
        obtain ⟨x50, ex50, hF⟩ := am_bind hF
        refine am_sald (pc' := 384) dL_law_383 ex50 rfl ?_
        obtain ⟨x51, ex51, hF⟩ := am_bind hF
        obtain ⟨ox51, px51⟩ := t_X9_about ex51
        refine am_callV1 (Mc := M_X9_about) (As := [.int x49, .int x50]) (st := [.int x48]) (pc' := 387) dL_law_384 cw_L_42 wd_5_81 wd_5_82 ⟨_, rfl, rfl⟩ (by decide) (by decide) rfl rfl (Nat.le_of_ble_eq_true rfl) px51 (c_X9_about ex51) rfl ?_
        rcases am_ite hF with ⟨z52, hF⟩ | ⟨z52, hF⟩
        · refine am_icmp_eq_t (pc' := 1152) dL_law_387 rfl z52 ?_
          exact w_L_law_1152 (w_L_law_18 n) v1 v2 v3 h hF
        · refine am_icmp_eq_f (pc' := 390) (tgt := 1152) dL_law_387 rfl z52 rfl ?_
          refine am_iconst (v := (0 : Int32)) (pc' := 391) dL_law_390 rfl rfl ?_
          cases hF
          exact am_iret dL_law_391 rfl rfl
      rcases am_ite hF with ⟨z53, hF⟩ | ⟨z53, hF⟩
      · refine am_tableIn (c := (6 : Int32)) (pc' := 392) dL_law_32 z53 (by decide) (by decide) rfl rfl ?_
        refine am_aload_n (pc' := 393) dL_law_392 rfl rfl ?_
        refine am_xload_n (pc' := 394) dL_law_393 rfl rfl ?_
        refine am_iload_n (pc' := 395) dL_law_394 rfl rfl ?_
        refine am_iconst (v := (1 : Int32)) (pc' := 396) dL_law_395 rfl rfl ?_
        refine am_iadd (pc' := 397) dL_law_396 rfl ?_
        obtain ⟨x54, ex54, hF⟩ := am_bind hF
        refine am_sald (pc' := 398) dL_law_397 ex54 rfl ?_
        refine am_xload_n (pc' := 399) dL_law_398 rfl rfl ?_
        refine am_iload_n (pc' := 400) dL_law_399 rfl rfl ?_
        refine am_iconst (v := (2 : Int32)) (pc' := 401) dL_law_400 rfl rfl ?_
        refine am_iadd (pc' := 402) dL_law_401 rfl ?_
        obtain ⟨x55, ex55, hF⟩ := am_bind hF
        refine am_sald (pc' := 403) dL_law_402 ex55 rfl ?_
        obtain ⟨x56, ex56, hF⟩ := am_bind hF
        obtain ⟨ox56, px56⟩ := t_X8_block ex56
        refine am_callV1 (Mc := M_X8_block) (As := [.int x54, .int x55]) (st := []) (pc' := 406) dL_law_403 cw_L_43 wd_2_185 wd_2_186 ⟨_, rfl, rfl⟩ (by decide) (by decide) rfl rfl (Nat.le_of_ble_eq_true rfl) px56 (c_X8_block ex56) rfl ?_
        refine am_aload_n (pc' := 407) dL_law_406 rfl rfl ?_
        refine am_xload_n (pc' := 408) dL_law_407 rfl rfl ?_
        refine am_iload_n (pc' := 409) dL_law_408 rfl rfl ?_
        refine am_iconst (v := (1 : Int32)) (pc' := 410) dL_law_409 rfl rfl ?_
        refine am_iadd (pc' := 411) dL_law_410 rfl ?_
        obtain ⟨x57, ex57, hF⟩ := am_bind hF
        refine am_sald (pc' := 412) dL_law_411 ex57 rfl ?_
        refine am_xload_n (pc' := 413) dL_law_412 rfl rfl ?_
        refine am_iload_n (pc' := 414) dL_law_413 rfl rfl ?_
        refine am_iconst (v := (2 : Int32)) (pc' := 415) dL_law_414 rfl rfl ?_
        refine am_iadd (pc' := 416) dL_law_415 rfl ?_
        obtain ⟨x58, ex58, hF⟩ := am_bind hF
        refine am_sald (pc' := 417) dL_law_416 ex58 rfl ?_
        obtain ⟨x59, ex59, hF⟩ := am_bind hF
        obtain ⟨ox59, px59⟩ := t_X9_block ex59
        refine am_callV1 (Mc := M_X9_block) (As := [.int x57, .int x58]) (st := [.int x56]) (pc' := 420) dL_law_417 cw_L_46 wd_5_85 wd_5_86 ⟨_, rfl, rfl⟩ (by decide) (by decide) rfl rfl (Nat.le_of_ble_eq_true rfl) px59 (c_X9_block ex59) rfl ?_
        rcases am_ite hF with ⟨z60, hF⟩ | ⟨z60, hF⟩
        · refine am_icmp_eq_t (pc' := 1152) dL_law_420 rfl z60 ?_
          exact w_L_law_1152 (w_L_law_18 n) v1 v2 v3 h hF
        · refine am_icmp_eq_f (pc' := 423) (tgt := 1152) dL_law_420 rfl z60 rfl ?_
          refine am_iconst (v := (0 : Int32)) (pc' := 424) dL_law_423 rfl rfl ?_
          cases hF
          exact am_iret dL_law_424 rfl rfl
      rcases am_ite hF with ⟨z61, hF⟩ | ⟨z61, hF⟩
      · refine am_tableIn (c := (7 : Int32)) (pc' := 425) dL_law_32 z61 (by decide) (by decide) rfl rfl ?_
        refine am_aload_n (pc' := 426) dL_law_425 rfl rfl ?_
        refine am_xload_n (pc' := 427) dL_law_426 rfl rfl ?_
        refine am_iload_n (pc' := 428) dL_law_427 rfl rfl ?_
        refine am_iconst (v := (1 : Int32)) (pc' := 429) dL_law_428 rfl rfl ?_
        refine am_iadd (pc' := 430) dL_law_429 rfl ?_
        obtain ⟨x62, ex62, hF⟩ := am_bind hF
        refine am_sald (pc' := 431) dL_law_430 ex62 rfl ?_
        refine am_xload_n (pc' := 432) dL_law_431 rfl rfl ?_
        refine am_iload_n (pc' := 433) dL_law_432 rfl rfl ?_
        refine am_iconst (v := (2 : Int32)) (pc' := 434) dL_law_433 rfl rfl ?_
        refine am_iadd (pc' := 435) dL_law_434 rfl ?_
        obtain ⟨x63, ex63, hF⟩ := am_bind hF
        refine am_sald (pc' := 436) dL_law_435 ex63 rfl ?_
        obtain ⟨x64, ex64, hF⟩ := am_bind hF
        obtain ⟨ox64, px64⟩ := t_X8_open ex64
        refine am_callV1 (Mc := M_X8_open) (As := [.int x62, .int x63]) (st := []) (pc' := 439) dL_law_436 cw_L_47 wd_2_189 wd_2_190 ⟨_, rfl, rfl⟩ (by decide) (by decide) rfl rfl (Nat.le_of_ble_eq_true rfl) px64 (c_X8_open ex64) rfl ?_
        refine am_aload_n (pc' := 440) dL_law_439 rfl rfl ?_
        refine am_xload_n (pc' := 441) dL_law_440 rfl rfl ?_
        refine am_iload_n (pc' := 442) dL_law_441 rfl rfl ?_
        refine am_iconst (v := (1 : Int32)) (pc' := 443) dL_law_442 rfl rfl ?_
        refine am_iadd (pc' := 444) dL_law_443 rfl ?_
        obtain ⟨x65, ex65, hF⟩ := am_bind hF
        refine am_sald (pc' := 445) dL_law_444 ex65 rfl ?_
        refine am_xload_n (pc' := 446) dL_law_445 rfl rfl ?_
        refine am_iload_n (pc' := 447) dL_law_446 rfl rfl ?_
        refine am_iconst (v := (2 : Int32)) (pc' := 448) dL_law_447 rfl rfl ?_
        refine am_iadd (pc' := 449) dL_law_448 rfl ?_
        obtain ⟨x66, ex66, hF⟩ := am_bind hF
        refine am_sald (pc' := 450) dL_law_449 ex66 rfl ?_
        obtain ⟨q67, eq67, hF⟩ := am_bind hF
        obtain ⟨oq67, pq67⟩ := t_X9_open eq67
        refine am_callV1 (Mc := M_X9_open) (As := [.int x65, .int x66]) (st := [.int x64]) (pc' := 453) dL_law_450 cw_L_50 wd_5_89 wd_5_90 ⟨_, rfl, rfl⟩ (by decide) (by decide) rfl rfl (Nat.le_of_ble_eq_true rfl) pq67 (c_X9_open eq67) rfl ?_
        rcases am_ite hF with ⟨z68, hF⟩ | ⟨z68, hF⟩
        · refine am_icmp_eq_t (pc' := 1152) dL_law_453 rfl z68 ?_
          exact w_L_law_1152 (w_L_law_18 n) v1 v2 v3 q67.2 hF
        · refine am_icmp_eq_f (pc' := 456) (tgt := 1152) dL_law_453 rfl z68 rfl ?_
          refine am_iconst (v := (0 : Int32)) (pc' := 457) dL_law_456 rfl rfl ?_
          cases hF
          exact am_iret dL_law_457 rfl rfl
      rcases am_ite hF with ⟨z69, hF⟩ | ⟨z69, hF⟩
      · refine am_tableIn (c := (8 : Int32)) (pc' := 458) dL_law_32 z69 (by decide) (by decide) rfl rfl ?_
        refine am_aload_n (pc' := 459) dL_law_458 rfl rfl ?_
        refine am_xload_n (pc' := 460) dL_law_459 rfl rfl ?_
        refine am_iload_n (pc' := 461) dL_law_460 rfl rfl ?_
        refine am_iconst (v := (1 : Int32)) (pc' := 462) dL_law_461 rfl rfl ?_
        refine am_iadd (pc' := 463) dL_law_462 rfl ?_
        obtain ⟨x70, ex70, hF⟩ := am_bind hF
        refine am_sald (pc' := 464) dL_law_463 ex70 rfl ?_
        refine am_xload_n (pc' := 465) dL_law_464 rfl rfl ?_
        refine am_iload_n (pc' := 466) dL_law_465 rfl rfl ?_
        refine am_iconst (v := (2 : Int32)) (pc' := 467) dL_law_466 rfl rfl ?_
        refine am_iadd (pc' := 468) dL_law_467 rfl ?_
        obtain ⟨x71, ex71, hF⟩ := am_bind hF
        refine am_sald (pc' := 469) dL_law_468 ex71 rfl ?_
        obtain ⟨x72, ex72, hF⟩ := am_bind hF
        obtain ⟨ox72, px72⟩ := t_X8_told ex72
        refine am_callV1 (Mc := M_X8_told) (As := [.int x70, .int x71]) (st := []) (pc' := 472) dL_law_469 cw_L_51 wd_2_193 wd_2_194 ⟨_, rfl, rfl⟩ (by decide) (by decide) rfl rfl (Nat.le_of_ble_eq_true rfl) px72 (c_X8_told ex72) rfl ?_
        refine am_aload_n (pc' := 473) dL_law_472 rfl rfl ?_
        refine am_xload_n (pc' := 474) dL_law_473 rfl rfl ?_
        refine am_iload_n (pc' := 475) dL_law_474 rfl rfl ?_
        refine am_iconst (v := (1 : Int32)) (pc' := 476) dL_law_475 rfl rfl ?_
        refine am_iadd (pc' := 477) dL_law_476 rfl ?_
        obtain ⟨x73, ex73, hF⟩ := am_bind hF
        refine am_sald (pc' := 478) dL_law_477 ex73 rfl ?_
        refine am_xload_n (pc' := 479) dL_law_478 rfl rfl ?_
        refine am_iload_n (pc' := 480) dL_law_479 rfl rfl ?_
        refine am_iconst (v := (2 : Int32)) (pc' := 481) dL_law_480 rfl rfl ?_
        refine am_iadd (pc' := 482) dL_law_481 rfl ?_
        obtain ⟨x74, ex74, hF⟩ := am_bind hF
        refine am_sald (pc' := 483) dL_law_482 ex74 rfl ?_
        obtain ⟨x75, ex75, hF⟩ := am_bind hF
        obtain ⟨ox75, px75⟩ := t_X9_told ex75
        refine am_callV1 (Mc := M_X9_told) (As := [.int x73, .int x74]) (st := [.int x72]) (pc' := 486) dL_law_483 cw_L_54 wd_5_93 wd_5_94 ⟨_, rfl, rfl⟩ (by decide) (by decide) rfl rfl (Nat.le_of_ble_eq_true rfl) px75 (c_X9_told ex75) rfl ?_
        rcases am_ite hF with ⟨z76, hF⟩ | ⟨z76, hF⟩
        · refine am_icmp_eq_t (pc' := 1152) dL_law_486 rfl z76 ?_
          exact w_L_law_1152 (w_L_law_18 n) v1 v2 v3 h hF
        · refine am_icmp_eq_f (pc' := 489) (tgt := 1152) dL_law_486 rfl z76 rfl ?_
          refine am_iconst (v := (0 : Int32)) (pc' := 490) dL_law_489 rfl rfl ?_
          cases hF
          exact am_iret dL_law_490 rfl rfl
      rcases am_ite hF with ⟨z77, hF⟩ | ⟨z77, hF⟩
      · refine am_tableIn (c := (9 : Int32)) (pc' := 491) dL_law_32 z77 (by decide) (by decide) rfl rfl ?_
        refine am_aload_n (pc' := 492) dL_law_491 rfl rfl ?_
        refine am_xload_n (pc' := 493) dL_law_492 rfl rfl ?_
        refine am_iload_n (pc' := 494) dL_law_493 rfl rfl ?_
        refine am_iconst (v := (1 : Int32)) (pc' := 495) dL_law_494 rfl rfl ?_
        refine am_iadd (pc' := 496) dL_law_495 rfl ?_
        obtain ⟨x78, ex78, hF⟩ := am_bind hF
        refine am_sald (pc' := 497) dL_law_496 ex78 rfl ?_
        obtain ⟨x79, ex79, hF⟩ := am_bind hF
        obtain ⟨ox79, px79⟩ := t_X8_count ex79
        refine am_callV1 (Mc := M_X8_count) (As := [.int x78]) (st := []) (pc' := 500) dL_law_497 cw_L_55 wd_2_209 wd_2_210 ⟨_, rfl, rfl⟩ (by decide) (by decide) rfl rfl (Nat.le_of_ble_eq_true rfl) px79 (c_X8_count ex79) rfl ?_
        refine am_aload_n (pc' := 501) dL_law_500 rfl rfl ?_
        refine am_xload_n (pc' := 502) dL_law_501 rfl rfl ?_
        refine am_iload_n (pc' := 503) dL_law_502 rfl rfl ?_
        refine am_iconst (v := (1 : Int32)) (pc' := 504) dL_law_503 rfl rfl ?_
        refine am_iadd (pc' := 505) dL_law_504 rfl ?_
        obtain ⟨x80, ex80, hF⟩ := am_bind hF
        refine am_sald (pc' := 506) dL_law_505 ex80 rfl ?_
        obtain ⟨x81, ex81, hF⟩ := am_bind hF
        obtain ⟨ox81, px81⟩ := t_X9_count ex81
        refine am_callV1 (Mc := M_X9_count) (As := [.int x80]) (st := [.int x79]) (pc' := 509) dL_law_506 cw_L_59 wd_5_105 wd_5_106 ⟨_, rfl, rfl⟩ (by decide) (by decide) rfl rfl (Nat.le_of_ble_eq_true rfl) px81 (c_X9_count ex81) rfl ?_
        rcases am_ite hF with ⟨z82, hF⟩ | ⟨z82, hF⟩
        · refine am_icmp_eq_t (pc' := 1152) dL_law_509 rfl z82 ?_
          exact w_L_law_1152 (w_L_law_18 n) v1 v2 v3 h hF
        · refine am_icmp_eq_f (pc' := 512) (tgt := 1152) dL_law_509 rfl z82 rfl ?_
          refine am_iconst (v := (0 : Int32)) (pc' := 513) dL_law_512 rfl rfl ?_
          cases hF
          exact am_iret dL_law_513 rfl rfl
      rcases am_ite hF with ⟨z83, hF⟩ | ⟨z83, hF⟩
      · refine am_tableIn (c := (10 : Int32)) (pc' := 514) dL_law_32 z83 (by decide) (by decide) rfl rfl ?_
        refine am_aload_n (pc' := 515) dL_law_514 rfl rfl ?_
        refine am_xload_n (pc' := 516) dL_law_515 rfl rfl ?_
        refine am_iload_n (pc' := 517) dL_law_516 rfl rfl ?_
        refine am_iconst (v := (1 : Int32)) (pc' := 518) dL_law_517 rfl rfl ?_
        refine am_iadd (pc' := 519) dL_law_518 rfl ?_
        obtain ⟨x84, ex84, hF⟩ := am_bind hF
        refine am_sald (pc' := 520) dL_law_519 ex84 rfl ?_
        refine am_xload_n (pc' := 521) dL_law_520 rfl rfl ?_
        refine am_iload_n (pc' := 522) dL_law_521 rfl rfl ?_
        refine am_iconst (v := (2 : Int32)) (pc' := 523) dL_law_522 rfl rfl ?_
        refine am_iadd (pc' := 524) dL_law_523 rfl ?_
        obtain ⟨x85, ex85, hF⟩ := am_bind hF
        refine am_sald (pc' := 525) dL_law_524 ex85 rfl ?_
        obtain ⟨x86, ex86, hF⟩ := am_bind hF
        obtain ⟨ox86, px86⟩ := t_X8_share ex86
        refine am_callV1 (Mc := M_X8_share) (As := [.int x84, .int x85]) (st := []) (pc' := 528) dL_law_525 cw_L_60 wd_2_225 wd_2_226 ⟨_, rfl, rfl⟩ (by decide) (by decide) rfl rfl (Nat.le_of_ble_eq_true rfl) px86 (c_X8_share ex86) rfl ?_
        refine am_aload_n (pc' := 529) dL_law_528 rfl rfl ?_
        refine am_xload_n (pc' := 530) dL_law_529 rfl rfl ?_
        refine am_iload_n (pc' := 531) dL_law_530 rfl rfl ?_
        refine am_iconst (v := (1 : Int32)) (pc' := 532) dL_law_531 rfl rfl ?_
        refine am_iadd (pc' := 533) dL_law_532 rfl ?_
        obtain ⟨x87, ex87, hF⟩ := am_bind hF
        refine am_sald (pc' := 534) dL_law_533 ex87 rfl ?_
        refine am_xload_n (pc' := 535) dL_law_534 rfl rfl ?_
        refine am_iload_n (pc' := 536) dL_law_535 rfl rfl ?_
        refine am_iconst (v := (2 : Int32)) (pc' := 537) dL_law_536 rfl rfl ?_
        refine am_iadd (pc' := 538) dL_law_537 rfl ?_
        obtain ⟨x88, ex88, hF⟩ := am_bind hF
        refine am_sald (pc' := 539) dL_law_538 ex88 rfl ?_
        obtain ⟨x89, ex89, hF⟩ := am_bind hF
        obtain ⟨ox89, px89⟩ := t_X9_share ex89
        refine am_callV1 (Mc := M_X9_share) (As := [.int x87, .int x88]) (st := [.int x86]) (pc' := 542) dL_law_539 cw_L_63 wd_5_109 wd_5_110 ⟨_, rfl, rfl⟩ (by decide) (by decide) rfl rfl (Nat.le_of_ble_eq_true rfl) px89 (c_X9_share ex89) rfl ?_
        rcases am_ite hF with ⟨z90, hF⟩ | ⟨z90, hF⟩
        · refine am_icmp_eq_t (pc' := 1152) dL_law_542 rfl z90 ?_
          exact w_L_law_1152 (w_L_law_18 n) v1 v2 v3 h hF
        · refine am_icmp_eq_f (pc' := 545) (tgt := 1152) dL_law_542 rfl z90 rfl ?_
          refine am_iconst (v := (0 : Int32)) (pc' := 546) dL_law_545 rfl rfl ?_
          cases hF
          exact am_iret dL_law_546 rfl rfl
      rcases am_ite hF with ⟨z91, hF⟩ | ⟨z91, hF⟩
      · refine am_tableIn (c := (11 : Int32)) (pc' := 547) dL_law_32 z91 (by decide) (by decide) rfl rfl ?_
        refine am_aload_n (pc' := 548) dL_law_547 rfl rfl ?_
        refine am_xload_n (pc' := 549) dL_law_548 rfl rfl ?_
        refine am_iload_n (pc' := 550) dL_law_549 rfl rfl ?_
        refine am_iconst (v := (1 : Int32)) (pc' := 551) dL_law_550 rfl rfl ?_
        refine am_iadd (pc' := 552) dL_law_551 rfl ?_
        obtain ⟨x92, ex92, hF⟩ := am_bind hF
        refine am_sald (pc' := 553) dL_law_552 ex92 rfl ?_
        refine am_xload_n (pc' := 554) dL_law_553 rfl rfl ?_
        refine am_iload_n (pc' := 555) dL_law_554 rfl rfl ?_
        refine am_iconst (v := (2 : Int32)) (pc' := 556) dL_law_555 rfl rfl ?_
        refine am_iadd (pc' := 557) dL_law_556 rfl ?_
        obtain ⟨x93, ex93, hF⟩ := am_bind hF
        refine am_sald (pc' := 558) dL_law_557 ex93 rfl ?_
        obtain ⟨q94, eq94, hF⟩ := am_bind hF
        obtain ⟨oq94, pq94⟩ := t_X8_size eq94
        refine am_callV1 (Mc := M_X8_size) (As := [.int x92, .int x93]) (st := []) (pc' := 561) dL_law_558 cw_L_64 wd_2_230 wd_2_231 ⟨_, rfl, rfl⟩ (by decide) (by decide) rfl rfl (Nat.le_of_ble_eq_true rfl) pq94 (c_X8_size eq94) rfl ?_
        refine am_aload_n (pc' := 562) dL_law_561 rfl rfl ?_
        refine am_xload_n (pc' := 563) dL_law_562 rfl rfl ?_
        refine am_iload_n (pc' := 564) dL_law_563 rfl rfl ?_
        refine am_iconst (v := (1 : Int32)) (pc' := 565) dL_law_564 rfl rfl ?_
        refine am_iadd (pc' := 566) dL_law_565 rfl ?_
        obtain ⟨x95, ex95, hF⟩ := am_bind hF
        refine am_sald (pc' := 567) dL_law_566 ex95 rfl ?_
        refine am_xload_n (pc' := 568) dL_law_567 rfl rfl ?_
        refine am_iload_n (pc' := 569) dL_law_568 rfl rfl ?_
        refine am_iconst (v := (2 : Int32)) (pc' := 570) dL_law_569 rfl rfl ?_
        refine am_iadd (pc' := 571) dL_law_570 rfl ?_
        obtain ⟨x96, ex96, hF⟩ := am_bind hF
        refine am_sald (pc' := 572) dL_law_571 ex96 rfl ?_
        obtain ⟨q97, eq97, hF⟩ := am_bind hF
        obtain ⟨oq97, pq97⟩ := t_X9_size eq97
        refine am_callV1 (Mc := M_X9_size) (As := [.int x95, .int x96]) (st := [.int q94.1]) (pc' := 575) dL_law_572 cw_L_67 wd_5_195 wd_5_196 ⟨_, rfl, rfl⟩ (by decide) (by decide) rfl rfl (Nat.le_of_ble_eq_true rfl) pq97 (c_X9_size eq97) rfl ?_
        rcases am_ite hF with ⟨z98, hF⟩ | ⟨z98, hF⟩
        · refine am_icmp_eq_t (pc' := 1152) dL_law_575 rfl z98 ?_
          exact w_L_law_1152 (w_L_law_18 n) v1 v2 v3 q97.2 hF
        · refine am_icmp_eq_f (pc' := 578) (tgt := 1152) dL_law_575 rfl z98 rfl ?_
          refine am_iconst (v := (0 : Int32)) (pc' := 579) dL_law_578 rfl rfl ?_
          cases hF
          exact am_iret dL_law_579 rfl rfl
      rcases am_ite hF with ⟨z99, hF⟩ | ⟨z99, hF⟩
      · refine am_tableIn (c := (12 : Int32)) (pc' := 580) dL_law_32 z99 (by decide) (by decide) rfl rfl ?_
        refine am_aload_n (pc' := 581) dL_law_580 rfl rfl ?_
        refine am_xload_n (pc' := 582) dL_law_581 rfl rfl ?_
        refine am_iload_n (pc' := 583) dL_law_582 rfl rfl ?_
        refine am_iconst (v := (1 : Int32)) (pc' := 584) dL_law_583 rfl rfl ?_
        refine am_iadd (pc' := 585) dL_law_584 rfl ?_
        obtain ⟨x100, ex100, hF⟩ := am_bind hF
        refine am_sald (pc' := 586) dL_law_585 ex100 rfl ?_
        refine am_xload_n (pc' := 587) dL_law_586 rfl rfl ?_
        refine am_iload_n (pc' := 588) dL_law_587 rfl rfl ?_
        refine am_iconst (v := (2 : Int32)) (pc' := 589) dL_law_588 rfl rfl ?_
        refine am_iadd (pc' := 590) dL_law_589 rfl ?_
        obtain ⟨x101, ex101, hF⟩ := am_bind hF
        refine am_sald (pc' := 591) dL_law_590 ex101 rfl ?_
        obtain ⟨q102, eq102, hF⟩ := am_bind hF
        obtain ⟨oq102, pq102⟩ := t_X8_time eq102
        refine am_callV1 (Mc := M_X8_time) (As := [.int x100, .int x101]) (st := []) (pc' := 594) dL_law_591 cw_L_68 wd_3_149 wd_3_150 ⟨_, rfl, rfl⟩ (by decide) (by decide) rfl rfl (Nat.le_of_ble_eq_true rfl) pq102 (c_X8_time eq102) rfl ?_
        refine am_aload_n (pc' := 595) dL_law_594 rfl rfl ?_
        refine am_xload_n (pc' := 596) dL_law_595 rfl rfl ?_
        refine am_iload_n (pc' := 597) dL_law_596 rfl rfl ?_
        refine am_iconst (v := (1 : Int32)) (pc' := 598) dL_law_597 rfl rfl ?_
        refine am_iadd (pc' := 599) dL_law_598 rfl ?_
        obtain ⟨x103, ex103, hF⟩ := am_bind hF
        refine am_sald (pc' := 600) dL_law_599 ex103 rfl ?_
        refine am_xload_n (pc' := 601) dL_law_600 rfl rfl ?_
        refine am_iload_n (pc' := 602) dL_law_601 rfl rfl ?_
        refine am_iconst (v := (2 : Int32)) (pc' := 603) dL_law_602 rfl rfl ?_
        refine am_iadd (pc' := 604) dL_law_603 rfl ?_
        obtain ⟨x104, ex104, hF⟩ := am_bind hF
        refine am_sald (pc' := 605) dL_law_604 ex104 rfl ?_
        obtain ⟨q105, eq105, hF⟩ := am_bind hF
        obtain ⟨oq105, pq105⟩ := t_X9_time eq105
        refine am_callV1 (Mc := M_X9_time) (As := [.int x103, .int x104]) (st := [.int q102.1]) (pc' := 608) dL_law_605 cw_L_71 wd_5_208 wd_5_209 ⟨_, rfl, rfl⟩ (by decide) (by decide) rfl rfl (Nat.le_of_ble_eq_true rfl) pq105 (c_X9_time eq105) rfl ?_
        rcases am_ite hF with ⟨z106, hF⟩ | ⟨z106, hF⟩
        · refine am_icmp_eq_t (pc' := 1152) dL_law_608 rfl z106 ?_
          exact w_L_law_1152 (w_L_law_18 n) v1 v2 v3 q105.2 hF
        · refine am_icmp_eq_f (pc' := 611) (tgt := 1152) dL_law_608 rfl z106 rfl ?_
          refine am_iconst (v := (0 : Int32)) (pc' := 612) dL_law_611 rfl rfl ?_
          cases hF
          exact am_iret dL_law_612 rfl rfl
      rcases am_ite hF with ⟨z107, hF⟩ | ⟨z107, hF⟩
      · refine am_tableIn (c := (13 : Int32)) (pc' := 613) dL_law_32 z107 (by decide) (by decide) rfl rfl ?_
        refine am_aload_n (pc' := 614) dL_law_613 rfl rfl ?_
        refine am_xload_n (pc' := 615) dL_law_614 rfl rfl ?_
        refine am_iload_n (pc' := 616) dL_law_615 rfl rfl ?_
        refine am_iconst (v := (1 : Int32)) (pc' := 617) dL_law_616 rfl rfl ?_
        refine am_iadd (pc' := 618) dL_law_617 rfl ?_
        obtain ⟨x108, ex108, hF⟩ := am_bind hF
        refine am_sald (pc' := 619) dL_law_618 ex108 rfl ?_
        refine am_xload_n (pc' := 620) dL_law_619 rfl rfl ?_
        refine am_iload_n (pc' := 621) dL_law_620 rfl rfl ?_
        refine am_iconst (v := (2 : Int32)) (pc' := 622) dL_law_621 rfl rfl ?_
        refine am_iadd (pc' := 623) dL_law_622 rfl ?_
        obtain ⟨x109, ex109, hF⟩ := am_bind hF
        refine am_sald (pc' := 624) dL_law_623 ex109 rfl ?_
        obtain ⟨q110, eq110, hF⟩ := am_bind hF
        obtain ⟨oq110, pq110⟩ := t_X8_cut eq110
        refine am_callV1 (Mc := M_X8_cut) (As := [.int x108, .int x109]) (st := []) (pc' := 627) dL_law_624 cw_L_72 wd_3_153 wd_3_154 ⟨_, rfl, rfl⟩ (by decide) (by decide) rfl rfl (Nat.le_of_ble_eq_true rfl) pq110 (c_X8_cut eq110) rfl ?_
        refine am_aload_n (pc' := 628) dL_law_627 rfl rfl ?_
        refine am_xload_n (pc' := 629) dL_law_628 rfl rfl ?_
        refine am_iload_n (pc' := 630) dL_law_629 rfl rfl ?_
        refine am_iconst (v := (1 : Int32)) (pc' := 631) dL_law_630 rfl rfl ?_
        refine am_iadd (pc' := 632) dL_law_631 rfl ?_
        obtain ⟨x111, ex111, hF⟩ := am_bind hF
        refine am_sald (pc' := 633) dL_law_632 ex111 rfl ?_
        refine am_xload_n (pc' := 634) dL_law_633 rfl rfl ?_
        refine am_iload_n (pc' := 635) dL_law_634 rfl rfl ?_
        refine am_iconst (v := (2 : Int32)) (pc' := 636) dL_law_635 rfl rfl ?_
        refine am_iadd (pc' := 637) dL_law_636 rfl ?_
        obtain ⟨x112, ex112, hF⟩ := am_bind hF
        refine am_sald (pc' := 638) dL_law_637 ex112 rfl ?_
        obtain ⟨q113, eq113, hF⟩ := am_bind hF
        obtain ⟨oq113, pq113⟩ := t_X9_cut eq113
        refine am_callV1 (Mc := M_X9_cut) (As := [.int x111, .int x112]) (st := [.int q110.1]) (pc' := 641) dL_law_638 cw_L_75 wd_5_113 wd_5_114 ⟨_, rfl, rfl⟩ (by decide) (by decide) rfl rfl (Nat.le_of_ble_eq_true rfl) pq113 (c_X9_cut eq113) rfl ?_
        rcases am_ite hF with ⟨z114, hF⟩ | ⟨z114, hF⟩
        · refine am_icmp_eq_t (pc' := 1152) dL_law_641 rfl z114 ?_
          exact w_L_law_1152 (w_L_law_18 n) v1 v2 v3 q113.2 hF
        · refine am_icmp_eq_f (pc' := 644) (tgt := 1152) dL_law_641 rfl z114 rfl ?_
          refine am_iconst (v := (0 : Int32)) (pc' := 645) dL_law_644 rfl rfl ?_
          cases hF
          exact am_iret dL_law_645 rfl rfl
      rcases am_ite hF with ⟨z115, hF⟩ | ⟨z115, hF⟩
      · refine am_tableIn (c := (14 : Int32)) (pc' := 646) dL_law_32 z115 (by decide) (by decide) rfl rfl ?_
        refine am_aload_n (pc' := 647) dL_law_646 rfl rfl ?_
        refine am_xload_n (pc' := 648) dL_law_647 rfl rfl ?_
        refine am_iload_n (pc' := 649) dL_law_648 rfl rfl ?_
        refine am_iconst (v := (1 : Int32)) (pc' := 650) dL_law_649 rfl rfl ?_
        refine am_iadd (pc' := 651) dL_law_650 rfl ?_
        obtain ⟨x116, ex116, hF⟩ := am_bind hF
        refine am_sald (pc' := 652) dL_law_651 ex116 rfl ?_
        refine am_xload_n (pc' := 653) dL_law_652 rfl rfl ?_
        refine am_iload_n (pc' := 654) dL_law_653 rfl rfl ?_
        refine am_iconst (v := (2 : Int32)) (pc' := 655) dL_law_654 rfl rfl ?_
        refine am_iadd (pc' := 656) dL_law_655 rfl ?_
        obtain ⟨x117, ex117, hF⟩ := am_bind hF
        refine am_sald (pc' := 657) dL_law_656 ex117 rfl ?_
        refine am_xload_n (pc' := 658) dL_law_657 rfl rfl ?_
        refine am_iload_n (pc' := 659) dL_law_658 rfl rfl ?_
        refine am_iconst (v := (3 : Int32)) (pc' := 660) dL_law_659 rfl rfl ?_
        refine am_iadd (pc' := 661) dL_law_660 rfl ?_
        obtain ⟨x118, ex118, hF⟩ := am_bind hF
        refine am_sald (pc' := 662) dL_law_661 ex118 rfl ?_
        obtain ⟨q119, eq119, hF⟩ := am_bind hF
        obtain ⟨oq119, pq119⟩ := t_X8_rule eq119
        refine am_callV1 (Mc := M_X8_rule) (As := [.int x116, .int x117, .int x118]) (st := []) (pc' := 665) dL_law_662 cw_L_76 wd_3_157 wd_3_158 ⟨_, rfl, rfl⟩ (by decide) (by decide) rfl rfl (Nat.le_of_ble_eq_true rfl) pq119 (c_X8_rule eq119) rfl ?_
        refine am_aload_n (pc' := 666) dL_law_665 rfl rfl ?_
        refine am_xload_n (pc' := 667) dL_law_666 rfl rfl ?_
        refine am_iload_n (pc' := 668) dL_law_667 rfl rfl ?_
        refine am_iconst (v := (1 : Int32)) (pc' := 669) dL_law_668 rfl rfl ?_
        refine am_iadd (pc' := 670) dL_law_669 rfl ?_
        obtain ⟨x120, ex120, hF⟩ := am_bind hF
        refine am_sald (pc' := 671) dL_law_670 ex120 rfl ?_
        refine am_xload_n (pc' := 672) dL_law_671 rfl rfl ?_
        refine am_iload_n (pc' := 673) dL_law_672 rfl rfl ?_
        refine am_iconst (v := (2 : Int32)) (pc' := 674) dL_law_673 rfl rfl ?_
        refine am_iadd (pc' := 675) dL_law_674 rfl ?_
        obtain ⟨x121, ex121, hF⟩ := am_bind hF
        refine am_sald (pc' := 676) dL_law_675 ex121 rfl ?_
        refine am_xload_n (pc' := 677) dL_law_676 rfl rfl ?_
        refine am_iload_n (pc' := 678) dL_law_677 rfl rfl ?_
        refine am_iconst (v := (3 : Int32)) (pc' := 679) dL_law_678 rfl rfl ?_
        refine am_iadd (pc' := 680) dL_law_679 rfl ?_
        obtain ⟨x122, ex122, hF⟩ := am_bind hF
        refine am_sald (pc' := 681) dL_law_680 ex122 rfl ?_
        obtain ⟨q123, eq123, hF⟩ := am_bind hF
        obtain ⟨oq123, pq123⟩ := t_X9_rule eq123
        refine am_callV1 (Mc := M_X9_rule) (As := [.int x120, .int x121, .int x122]) (st := [.int q119.1]) (pc' := 684) dL_law_681 cw_L_79 wd_5_129 wd_5_130 ⟨_, rfl, rfl⟩ (by decide) (by decide) rfl rfl (Nat.le_of_ble_eq_true rfl) pq123 (c_X9_rule eq123) rfl ?_
        rcases am_ite hF with ⟨z124, hF⟩ | ⟨z124, hF⟩
        · refine am_icmp_eq_t (pc' := 1152) dL_law_684 rfl z124 ?_
          exact w_L_law_1152 (w_L_law_18 n) v1 v2 v3 q123.2 hF
        · refine am_icmp_eq_f (pc' := 687) (tgt := 1152) dL_law_684 rfl z124 rfl ?_
          refine am_iconst (v := (0 : Int32)) (pc' := 688) dL_law_687 rfl rfl ?_
          cases hF
          exact am_iret dL_law_688 rfl rfl
      rcases am_ite hF with ⟨z125, hF⟩ | ⟨z125, hF⟩
      · refine am_tableIn (c := (15 : Int32)) (pc' := 689) dL_law_32 z125 (by decide) (by decide) rfl rfl ?_
        refine am_aload_n (pc' := 690) dL_law_689 rfl rfl ?_
        refine am_xload_n (pc' := 691) dL_law_690 rfl rfl ?_
        refine am_iload_n (pc' := 692) dL_law_691 rfl rfl ?_
        refine am_iconst (v := (1 : Int32)) (pc' := 693) dL_law_692 rfl rfl ?_
        refine am_iadd (pc' := 694) dL_law_693 rfl ?_
        obtain ⟨x126, ex126, hF⟩ := am_bind hF
        refine am_sald (pc' := 695) dL_law_694 ex126 rfl ?_
        refine am_xload_n (pc' := 696) dL_law_695 rfl rfl ?_
        refine am_iload_n (pc' := 697) dL_law_696 rfl rfl ?_
        refine am_iconst (v := (2 : Int32)) (pc' := 698) dL_law_697 rfl rfl ?_
        refine am_iadd (pc' := 699) dL_law_698 rfl ?_
        obtain ⟨x127, ex127, hF⟩ := am_bind hF
        refine am_sald (pc' := 700) dL_law_699 ex127 rfl ?_
        obtain ⟨q128, eq128, hF⟩ := am_bind hF
        obtain ⟨oq128, pq128⟩ := t_X8_bit eq128
        refine am_callV1 (Mc := M_X8_bit) (As := [.int x126, .int x127]) (st := []) (pc' := 703) dL_law_700 cw_L_80 wd_3_166 wd_3_167 ⟨_, rfl, rfl⟩ (by decide) (by decide) rfl rfl (Nat.le_of_ble_eq_true rfl) pq128 (c_X8_bit eq128) rfl ?_
        refine am_aload_n (pc' := 704) dL_law_703 rfl rfl ?_
        refine am_xload_n (pc' := 705) dL_law_704 rfl rfl ?_
        refine am_iload_n (pc' := 706) dL_law_705 rfl rfl ?_
        refine am_iconst (v := (1 : Int32)) (pc' := 707) dL_law_706 rfl rfl ?_
        refine am_iadd (pc' := 708) dL_law_707 rfl ?_
        obtain ⟨x129, ex129, hF⟩ := am_bind hF
        refine am_sald (pc' := 709) dL_law_708 ex129 rfl ?_
        refine am_xload_n (pc' := 710) dL_law_709 rfl rfl ?_
        refine am_iload_n (pc' := 711) dL_law_710 rfl rfl ?_
        refine am_iconst (v := (2 : Int32)) (pc' := 712) dL_law_711 rfl rfl ?_
        refine am_iadd (pc' := 713) dL_law_712 rfl ?_
        obtain ⟨x130, ex130, hF⟩ := am_bind hF
        refine am_sald (pc' := 714) dL_law_713 ex130 rfl ?_
        obtain ⟨q131, eq131, hF⟩ := am_bind hF
        obtain ⟨oq131, pq131⟩ := t_X9_bit eq131
        refine am_callV1 (Mc := M_X9_bit) (As := [.int x129, .int x130]) (st := [.int q128.1]) (pc' := 717) dL_law_714 cw_L_83 wd_5_163 wd_5_164 ⟨_, rfl, rfl⟩ (by decide) (by decide) rfl rfl (Nat.le_of_ble_eq_true rfl) pq131 (c_X9_bit eq131) rfl ?_
        rcases am_ite hF with ⟨z132, hF⟩ | ⟨z132, hF⟩
        · refine am_icmp_eq_t (pc' := 1152) dL_law_717 rfl z132 ?_
          exact w_L_law_1152 (w_L_law_18 n) v1 v2 v3 q131.2 hF
        · refine am_icmp_eq_f (pc' := 720) (tgt := 1152) dL_law_717 rfl z132 rfl ?_
          refine am_iconst (v := (0 : Int32)) (pc' := 721) dL_law_720 rfl rfl ?_
          cases hF
          exact am_iret dL_law_721 rfl rfl
      rcases am_ite hF with ⟨z133, hF⟩ | ⟨z133, hF⟩
      · refine am_tableIn (c := (16 : Int32)) (pc' := 722) dL_law_32 z133 (by decide) (by decide) rfl rfl ?_
        refine am_aload_n (pc' := 723) dL_law_722 rfl rfl ?_
        refine am_xload_n (pc' := 724) dL_law_723 rfl rfl ?_
        refine am_iload_n (pc' := 725) dL_law_724 rfl rfl ?_
        refine am_iconst (v := (1 : Int32)) (pc' := 726) dL_law_725 rfl rfl ?_
        refine am_iadd (pc' := 727) dL_law_726 rfl ?_
        obtain ⟨x134, ex134, hF⟩ := am_bind hF
        refine am_sald (pc' := 728) dL_law_727 ex134 rfl ?_
        refine am_xload_n (pc' := 729) dL_law_728 rfl rfl ?_
        refine am_iload_n (pc' := 730) dL_law_729 rfl rfl ?_
        refine am_iconst (v := (2 : Int32)) (pc' := 731) dL_law_730 rfl rfl ?_
        refine am_iadd (pc' := 732) dL_law_731 rfl ?_
        obtain ⟨x135, ex135, hF⟩ := am_bind hF
        refine am_sald (pc' := 733) dL_law_732 ex135 rfl ?_
        refine am_xload_n (pc' := 734) dL_law_733 rfl rfl ?_
        refine am_iload_n (pc' := 735) dL_law_734 rfl rfl ?_
        refine am_iconst (v := (3 : Int32)) (pc' := 736) dL_law_735 rfl rfl ?_
        refine am_iadd (pc' := 737) dL_law_736 rfl ?_
        obtain ⟨x136, ex136, hF⟩ := am_bind hF
        refine am_sald (pc' := 738) dL_law_737 ex136 rfl ?_
        obtain ⟨q137, eq137, hF⟩ := am_bind hF
        obtain ⟨oq137, pq137⟩ := t_X8_turned eq137
        refine am_callV1 (Mc := M_X8_turned) (As := [.int x134, .int x135, .int x136]) (st := []) (pc' := 741) dL_law_738 cw_L_84 wd_3_170 wd_3_171 ⟨_, rfl, rfl⟩ (by decide) (by decide) rfl rfl (Nat.le_of_ble_eq_true rfl) pq137 (c_X8_turned eq137) rfl ?_
        refine am_aload_n (pc' := 742) dL_law_741 rfl rfl ?_
        refine am_xload_n (pc' := 743) dL_law_742 rfl rfl ?_
        refine am_iload_n (pc' := 744) dL_law_743 rfl rfl ?_
        refine am_iconst (v := (1 : Int32)) (pc' := 745) dL_law_744 rfl rfl ?_
        refine am_iadd (pc' := 746) dL_law_745 rfl ?_
        obtain ⟨x138, ex138, hF⟩ := am_bind hF
        refine am_sald (pc' := 747) dL_law_746 ex138 rfl ?_
        refine am_xload_n (pc' := 748) dL_law_747 rfl rfl ?_
        refine am_iload_n (pc' := 749) dL_law_748 rfl rfl ?_
        refine am_iconst (v := (2 : Int32)) (pc' := 750) dL_law_749 rfl rfl ?_
        refine am_iadd (pc' := 751) dL_law_750 rfl ?_
        obtain ⟨x139, ex139, hF⟩ := am_bind hF
        refine am_sald (pc' := 752) dL_law_751 ex139 rfl ?_
        refine am_xload_n (pc' := 753) dL_law_752 rfl rfl ?_
        refine am_iload_n (pc' := 754) dL_law_753 rfl rfl ?_
        refine am_iconst (v := (3 : Int32)) (pc' := 755) dL_law_754 rfl rfl ?_
        refine am_iadd (pc' := 756) dL_law_755 rfl ?_
        obtain ⟨x140, ex140, hF⟩ := am_bind hF
        refine am_sald (pc' := 757) dL_law_756 ex140 rfl ?_
        obtain ⟨q141, eq141, hF⟩ := am_bind hF
        obtain ⟨oq141, pq141⟩ := t_X9_turned eq141
        refine am_callV1 (Mc := M_X9_turned) (As := [.int x138, .int x139, .int x140]) (st := [.int q137.1]) (pc' := 760) dL_law_757 cw_L_87 wd_5_178 wd_5_179 ⟨_, rfl, rfl⟩ (by decide) (by decide) rfl rfl (Nat.le_of_ble_eq_true rfl) pq141 (c_X9_turned eq141) rfl ?_
        rcases am_ite hF with ⟨z142, hF⟩ | ⟨z142, hF⟩
        · refine am_icmp_eq_t (pc' := 1152) dL_law_760 rfl z142 ?_
          exact w_L_law_1152 (w_L_law_18 n) v1 v2 v3 q141.2 hF
        · refine am_icmp_eq_f (pc' := 763) (tgt := 1152) dL_law_760 rfl z142 rfl ?_
          refine am_iconst (v := (0 : Int32)) (pc' := 764) dL_law_763 rfl rfl ?_
          cases hF
          exact am_iret dL_law_764 rfl rfl
      rcases am_ite hF with ⟨z143, hF⟩ | ⟨z143, hF⟩
      · refine am_tableIn (c := (17 : Int32)) (pc' := 765) dL_law_32 z143 (by decide) (by decide) rfl rfl ?_
        refine am_aload_n (pc' := 766) dL_law_765 rfl rfl ?_
        refine am_xload_n (pc' := 767) dL_law_766 rfl rfl ?_
        refine am_iload_n (pc' := 768) dL_law_767 rfl rfl ?_
        refine am_iconst (v := (1 : Int32)) (pc' := 769) dL_law_768 rfl rfl ?_
        refine am_iadd (pc' := 770) dL_law_769 rfl ?_
        obtain ⟨x144, ex144, hF⟩ := am_bind hF
        refine am_sald (pc' := 771) dL_law_770 ex144 rfl ?_
        refine am_xload_n (pc' := 772) dL_law_771 rfl rfl ?_
        refine am_iload_n (pc' := 773) dL_law_772 rfl rfl ?_
        refine am_iconst (v := (2 : Int32)) (pc' := 774) dL_law_773 rfl rfl ?_
        refine am_iadd (pc' := 775) dL_law_774 rfl ?_
        obtain ⟨x145, ex145, hF⟩ := am_bind hF
        refine am_sald (pc' := 776) dL_law_775 ex145 rfl ?_
        refine am_xload_n (pc' := 777) dL_law_776 rfl rfl ?_
        refine am_iload_n (pc' := 778) dL_law_777 rfl rfl ?_
        refine am_iconst (v := (3 : Int32)) (pc' := 779) dL_law_778 rfl rfl ?_
        refine am_iadd (pc' := 780) dL_law_779 rfl ?_
        obtain ⟨x146, ex146, hF⟩ := am_bind hF
        refine am_sald (pc' := 781) dL_law_780 ex146 rfl ?_
        obtain ⟨q147, eq147, hF⟩ := am_bind hF
        obtain ⟨oq147, pq147⟩ := t_X8_best eq147
        refine am_callV1 (Mc := M_X8_best) (As := [.int x144, .int x145, .int x146]) (st := []) (pc' := 784) dL_law_781 cw_L_88 wd_3_174 wd_3_175 ⟨_, rfl, rfl⟩ (by decide) (by decide) rfl rfl (Nat.le_of_ble_eq_true rfl) pq147 (c_X8_best eq147) rfl ?_
        refine am_aload_n (pc' := 785) dL_law_784 rfl rfl ?_
        refine am_xload_n (pc' := 786) dL_law_785 rfl rfl ?_
        refine am_iload_n (pc' := 787) dL_law_786 rfl rfl ?_
        refine am_iconst (v := (1 : Int32)) (pc' := 788) dL_law_787 rfl rfl ?_
        refine am_iadd (pc' := 789) dL_law_788 rfl ?_
        obtain ⟨x148, ex148, hF⟩ := am_bind hF
        refine am_sald (pc' := 790) dL_law_789 ex148 rfl ?_
        refine am_xload_n (pc' := 791) dL_law_790 rfl rfl ?_
        refine am_iload_n (pc' := 792) dL_law_791 rfl rfl ?_
        refine am_iconst (v := (2 : Int32)) (pc' := 793) dL_law_792 rfl rfl ?_
        refine am_iadd (pc' := 794) dL_law_793 rfl ?_
        obtain ⟨x149, ex149, hF⟩ := am_bind hF
        refine am_sald (pc' := 795) dL_law_794 ex149 rfl ?_
        refine am_xload_n (pc' := 796) dL_law_795 rfl rfl ?_
        refine am_iload_n (pc' := 797) dL_law_796 rfl rfl ?_
        refine am_iconst (v := (3 : Int32)) (pc' := 798) dL_law_797 rfl rfl ?_
        refine am_iadd (pc' := 799) dL_law_798 rfl ?_
        obtain ⟨x150, ex150, hF⟩ := am_bind hF
        refine am_sald (pc' := 800) dL_law_799 ex150 rfl ?_
        obtain ⟨q151, eq151, hF⟩ := am_bind hF
        obtain ⟨oq151, pq151⟩ := t_X9_best eq151
        refine am_callV1 (Mc := M_X9_best) (As := [.int x148, .int x149, .int x150]) (st := [.int q147.1]) (pc' := 803) dL_law_800 cw_L_91 wd_5_216 wd_5_217 ⟨_, rfl, rfl⟩ (by decide) (by decide) rfl rfl (Nat.le_of_ble_eq_true rfl) pq151 (c_X9_best eq151) rfl ?_
        rcases am_ite hF with ⟨z152, hF⟩ | ⟨z152, hF⟩
        · refine am_icmp_eq_t (pc' := 1152) dL_law_803 rfl z152 ?_
          exact w_L_law_1152 (w_L_law_18 n) v1 v2 v3 q151.2 hF
        · refine am_icmp_eq_f (pc' := 806) (tgt := 1152) dL_law_803 rfl z152 rfl ?_
          refine am_iconst (v := (0 : Int32)) (pc' := 807) dL_law_806 rfl rfl ?_
          cases hF
          exact am_iret dL_law_807 rfl rfl
      rcases am_ite hF with ⟨z153, hF⟩ | ⟨z153, hF⟩
      · refine am_tableIn (c := (18 : Int32)) (pc' := 808) dL_law_32 z153 (by decide) (by decide) rfl rfl ?_
        refine am_aload_n (pc' := 809) dL_law_808 rfl rfl ?_
        refine am_xload_n (pc' := 810) dL_law_809 rfl rfl ?_
        refine am_iload_n (pc' := 811) dL_law_810 rfl rfl ?_
        refine am_iconst (v := (1 : Int32)) (pc' := 812) dL_law_811 rfl rfl ?_
        refine am_iadd (pc' := 813) dL_law_812 rfl ?_
        obtain ⟨x154, ex154, hF⟩ := am_bind hF
        refine am_sald (pc' := 814) dL_law_813 ex154 rfl ?_
        obtain ⟨q155, eq155, hF⟩ := am_bind hF
        obtain ⟨oq155, pq155⟩ := t_X8_sign eq155
        refine am_callV1 (Mc := M_X8_sign) (As := [.int x154]) (st := []) (pc' := 817) dL_law_814 cw_L_92 wd_3_214 wd_3_215 ⟨_, rfl, rfl⟩ (by decide) (by decide) rfl rfl (Nat.le_of_ble_eq_true rfl) pq155 (c_X8_sign eq155) rfl ?_
        refine am_aload_n (pc' := 818) dL_law_817 rfl rfl ?_
        refine am_xload_n (pc' := 819) dL_law_818 rfl rfl ?_
        refine am_iload_n (pc' := 820) dL_law_819 rfl rfl ?_
        refine am_iconst (v := (1 : Int32)) (pc' := 821) dL_law_820 rfl rfl ?_
        refine am_iadd (pc' := 822) dL_law_821 rfl ?_
        obtain ⟨x156, ex156, hF⟩ := am_bind hF
        refine am_sald (pc' := 823) dL_law_822 ex156 rfl ?_
        obtain ⟨q157, eq157, hF⟩ := am_bind hF
        obtain ⟨oq157, pq157⟩ := t_X9_sign_ eq157
        refine am_callV1 (Mc := M_X9_sign_) (As := [.int x156]) (st := [.int q155.1]) (pc' := 826) dL_law_823 cw_L_95 wd_5_229 wd_5_230 ⟨_, rfl, rfl⟩ (by decide) (by decide) rfl rfl (Nat.le_of_ble_eq_true rfl) pq157 (c_X9_sign_ eq157) rfl ?_
        rcases am_ite hF with ⟨z158, hF⟩ | ⟨z158, hF⟩
        · refine am_icmp_eq_t (pc' := 1152) dL_law_826 rfl z158 ?_
          exact w_L_law_1152 (w_L_law_18 n) v1 v2 v3 q157.2 hF
        · refine am_icmp_eq_f (pc' := 829) (tgt := 1152) dL_law_826 rfl z158 rfl ?_
          refine am_iconst (v := (0 : Int32)) (pc' := 830) dL_law_829 rfl rfl ?_
          cases hF
          exact am_iret dL_law_830 rfl rfl
      rcases am_ite hF with ⟨z159, hF⟩ | ⟨z159, hF⟩
      · refine am_tableIn (c := (19 : Int32)) (pc' := 831) dL_law_32 z159 (by decide) (by decide) rfl rfl ?_
        refine am_aload_n (pc' := 832) dL_law_831 rfl rfl ?_
        obtain ⟨q160, eq160, hF⟩ := am_bind hF
        obtain ⟨oq160, pq160⟩ := t_X8_clear eq160
        refine am_callV1 (Mc := M_X8_clear) (As := []) (st := []) (pc' := 835) dL_law_832 cw_L_96 wd_3_219 wd_3_220 ⟨_, rfl, rfl⟩ (by decide) (by decide) rfl rfl (Nat.le_of_ble_eq_true rfl) pq160 (c_X8_clear eq160) rfl ?_
        refine am_aload_n (pc' := 836) dL_law_835 rfl rfl ?_
        obtain ⟨q161, eq161, hF⟩ := am_bind hF
        obtain ⟨oq161, pq161⟩ := t_X9_clear eq161
        refine am_callV1 (Mc := M_X9_clear) (As := []) (st := [.int q160.1]) (pc' := 839) dL_law_836 cw_L_99 wd_5_234 wd_5_235 ⟨_, rfl, rfl⟩ (by decide) (by decide) rfl rfl (Nat.le_of_ble_eq_true rfl) pq161 (c_X9_clear eq161) rfl ?_
        rcases am_ite hF with ⟨z162, hF⟩ | ⟨z162, hF⟩
        · refine am_icmp_eq_t (pc' := 1152) dL_law_839 rfl z162 ?_
          exact w_L_law_1152 (w_L_law_18 n) v1 v2 v3 q161.2 hF
        · refine am_icmp_eq_f (pc' := 842) (tgt := 1152) dL_law_839 rfl z162 rfl ?_
          refine am_iconst (v := (0 : Int32)) (pc' := 843) dL_law_842 rfl rfl ?_
          cases hF
          exact am_iret dL_law_843 rfl rfl
      rcases am_ite hF with ⟨z163, hF⟩ | ⟨z163, hF⟩
      · refine am_tableIn (c := (20 : Int32)) (pc' := 844) dL_law_32 z163 (by decide) (by decide) rfl rfl ?_
        refine am_aload_n (pc' := 845) dL_law_844 rfl rfl ?_
        refine am_xload_n (pc' := 846) dL_law_845 rfl rfl ?_
        refine am_iload_n (pc' := 847) dL_law_846 rfl rfl ?_
        refine am_iconst (v := (1 : Int32)) (pc' := 848) dL_law_847 rfl rfl ?_
        refine am_iadd (pc' := 849) dL_law_848 rfl ?_
        obtain ⟨x164, ex164, hF⟩ := am_bind hF
        refine am_sald (pc' := 850) dL_law_849 ex164 rfl ?_
        refine am_xload_n (pc' := 851) dL_law_850 rfl rfl ?_
        refine am_iload_n (pc' := 852) dL_law_851 rfl rfl ?_
        refine am_iconst (v := (2 : Int32)) (pc' := 853) dL_law_852 rfl rfl ?_
        refine am_iadd (pc' := 854) dL_law_853 rfl ?_
        obtain ⟨x165, ex165, hF⟩ := am_bind hF
        refine am_sald (pc' := 855) dL_law_854 ex165 rfl ?_
        refine am_xload_n (pc' := 856) dL_law_855 rfl rfl ?_
        refine am_iload_n (pc' := 857) dL_law_856 rfl rfl ?_
        refine am_iconst (v := (3 : Int32)) (pc' := 858) dL_law_857 rfl rfl ?_
        refine am_iadd (pc' := 859) dL_law_858 rfl ?_
        obtain ⟨x166, ex166, hF⟩ := am_bind hF
        refine am_sald (pc' := 860) dL_law_859 ex166 rfl ?_
        obtain ⟨q167, eq167, hF⟩ := am_bind hF
        obtain ⟨oq167, pq167⟩ := t_X8_seek eq167
        refine am_callV1 (Mc := M_X8_seek) (As := [.int x164, .int x165, .int x166]) (st := []) (pc' := 863) dL_law_860 cw_L_100 wd_3_223 wd_3_224 ⟨_, rfl, rfl⟩ (by decide) (by decide) rfl rfl (Nat.le_of_ble_eq_true rfl) pq167 (c_X8_seek eq167) rfl ?_
        refine am_aload_n (pc' := 864) dL_law_863 rfl rfl ?_
        refine am_xload_n (pc' := 865) dL_law_864 rfl rfl ?_
        refine am_iload_n (pc' := 866) dL_law_865 rfl rfl ?_
        refine am_iconst (v := (1 : Int32)) (pc' := 867) dL_law_866 rfl rfl ?_
        refine am_iadd (pc' := 868) dL_law_867 rfl ?_
        obtain ⟨x168, ex168, hF⟩ := am_bind hF
        refine am_sald (pc' := 869) dL_law_868 ex168 rfl ?_
        refine am_xload_n (pc' := 870) dL_law_869 rfl rfl ?_
        refine am_iload_n (pc' := 871) dL_law_870 rfl rfl ?_
        refine am_iconst (v := (2 : Int32)) (pc' := 872) dL_law_871 rfl rfl ?_
        refine am_iadd (pc' := 873) dL_law_872 rfl ?_
        obtain ⟨x169, ex169, hF⟩ := am_bind hF
        refine am_sald (pc' := 874) dL_law_873 ex169 rfl ?_
        refine am_xload_n (pc' := 875) dL_law_874 rfl rfl ?_
        refine am_iload_n (pc' := 876) dL_law_875 rfl rfl ?_
        refine am_iconst (v := (3 : Int32)) (pc' := 877) dL_law_876 rfl rfl ?_
        refine am_iadd (pc' := 878) dL_law_877 rfl ?_
        obtain ⟨x170, ex170, hF⟩ := am_bind hF
        refine am_sald (pc' := 879) dL_law_878 ex170 rfl ?_
        obtain ⟨q171, eq171, hF⟩ := am_bind hF
        obtain ⟨oq171, pq171⟩ := t_X9_seek eq171
        refine am_callV1 (Mc := M_X9_seek) (As := [.int x168, .int x169, .int x170]) (st := [.int q167.1]) (pc' := 882) dL_law_879 cw_L_103 wd_5_238 wd_5_239 ⟨_, rfl, rfl⟩ (by decide) (by decide) rfl rfl (Nat.le_of_ble_eq_true rfl) pq171 (c_X9_seek eq171) rfl ?_
        rcases am_ite hF with ⟨z172, hF⟩ | ⟨z172, hF⟩
        · refine am_icmp_eq_t (pc' := 1152) dL_law_882 rfl z172 ?_
          exact w_L_law_1152 (w_L_law_18 n) v1 v2 v3 q171.2 hF
        · refine am_icmp_eq_f (pc' := 885) (tgt := 1152) dL_law_882 rfl z172 rfl ?_
          refine am_iconst (v := (0 : Int32)) (pc' := 886) dL_law_885 rfl rfl ?_
          cases hF
          exact am_iret dL_law_886 rfl rfl
      rcases am_ite hF with ⟨z173, hF⟩ | ⟨z173, hF⟩
      · refine am_tableIn (c := (21 : Int32)) (pc' := 887) dL_law_32 z173 (by decide) (by decide) rfl rfl ?_
        refine am_aload_n (pc' := 888) dL_law_887 rfl rfl ?_
        refine am_xload_n (pc' := 889) dL_law_888 rfl rfl ?_
        refine am_iload_n (pc' := 890) dL_law_889 rfl rfl ?_
        refine am_iconst (v := (1 : Int32)) (pc' := 891) dL_law_890 rfl rfl ?_
        refine am_iadd (pc' := 892) dL_law_891 rfl ?_
        obtain ⟨x174, ex174, hF⟩ := am_bind hF
        refine am_sald (pc' := 893) dL_law_892 ex174 rfl ?_
        refine am_xload_n (pc' := 894) dL_law_893 rfl rfl ?_
        refine am_iload_n (pc' := 895) dL_law_894 rfl rfl ?_
        refine am_iconst (v := (2 : Int32)) (pc' := 896) dL_law_895 rfl rfl ?_
        refine am_iadd (pc' := 897) dL_law_896 rfl ?_
        obtain ⟨x175, ex175, hF⟩ := am_bind hF
        refine am_sald (pc' := 898) dL_law_897 ex175 rfl ?_
        refine am_xload_n (pc' := 899) dL_law_898 rfl rfl ?_
        refine am_iload_n (pc' := 900) dL_law_899 rfl rfl ?_
        refine am_iconst (v := (3 : Int32)) (pc' := 901) dL_law_900 rfl rfl ?_
        refine am_iadd (pc' := 902) dL_law_901 rfl ?_
        obtain ⟨x176, ex176, hF⟩ := am_bind hF
        refine am_sald (pc' := 903) dL_law_902 ex176 rfl ?_
        refine am_xload_n (pc' := 904) dL_law_903 rfl rfl ?_
        refine am_iload_n (pc' := 905) dL_law_904 rfl rfl ?_
        refine am_iconst (v := (4 : Int32)) (pc' := 906) dL_law_905 rfl rfl ?_
        refine am_iadd (pc' := 907) dL_law_906 rfl ?_
        obtain ⟨x177, ex177, hF⟩ := am_bind hF
        refine am_sald (pc' := 908) dL_law_907 ex177 rfl ?_
        obtain ⟨q178, eq178, hF⟩ := am_bind hF
        obtain ⟨oq178, pq178⟩ := t_X8_span eq178
        refine am_callV1 (Mc := M_X8_span) (As := [.int x174, .int x175, .int x176, .int x177]) (st := []) (pc' := 911) dL_law_908 cw_L_104 wd_3_235 wd_3_236 ⟨_, rfl, rfl⟩ (by decide) (by decide) rfl rfl (Nat.le_of_ble_eq_true rfl) pq178 (c_X8_span eq178) rfl ?_
        refine am_aload_n (pc' := 912) dL_law_911 rfl rfl ?_
        refine am_xload_n (pc' := 913) dL_law_912 rfl rfl ?_
        refine am_iload_n (pc' := 914) dL_law_913 rfl rfl ?_
        refine am_iconst (v := (1 : Int32)) (pc' := 915) dL_law_914 rfl rfl ?_
        refine am_iadd (pc' := 916) dL_law_915 rfl ?_
        obtain ⟨x179, ex179, hF⟩ := am_bind hF
        refine am_sald (pc' := 917) dL_law_916 ex179 rfl ?_
        refine am_xload_n (pc' := 918) dL_law_917 rfl rfl ?_
        refine am_iload_n (pc' := 919) dL_law_918 rfl rfl ?_
        refine am_iconst (v := (2 : Int32)) (pc' := 920) dL_law_919 rfl rfl ?_
        refine am_iadd (pc' := 921) dL_law_920 rfl ?_
        obtain ⟨x180, ex180, hF⟩ := am_bind hF
        refine am_sald (pc' := 922) dL_law_921 ex180 rfl ?_
        refine am_xload_n (pc' := 923) dL_law_922 rfl rfl ?_
        refine am_iload_n (pc' := 924) dL_law_923 rfl rfl ?_
        refine am_iconst (v := (3 : Int32)) (pc' := 925) dL_law_924 rfl rfl ?_
        refine am_iadd (pc' := 926) dL_law_925 rfl ?_
        obtain ⟨x181, ex181, hF⟩ := am_bind hF
        refine am_sald (pc' := 927) dL_law_926 ex181 rfl ?_
        refine am_xload_n (pc' := 928) dL_law_927 rfl rfl ?_
        refine am_iload_n (pc' := 929) dL_law_928 rfl rfl ?_
        refine am_iconst (v := (4 : Int32)) (pc' := 930) dL_law_929 rfl rfl ?_
        refine am_iadd (pc' := 931) dL_law_930 rfl ?_
        obtain ⟨x182, ex182, hF⟩ := am_bind hF
        refine am_sald (pc' := 932) dL_law_931 ex182 rfl ?_
        obtain ⟨q183, eq183, hF⟩ := am_bind hF
        obtain ⟨oq183, pq183⟩ := t_X9_span eq183
        refine am_callV1 (Mc := M_X9_span) (As := [.int x179, .int x180, .int x181, .int x182]) (st := [.int q178.1]) (pc' := 935) dL_law_932 cw_L_108 wd_6_7 wd_6_8 ⟨_, rfl, rfl⟩ (by decide) (by decide) rfl rfl (Nat.le_of_ble_eq_true rfl) pq183 (c_X9_span eq183) rfl ?_
        rcases am_ite hF with ⟨z184, hF⟩ | ⟨z184, hF⟩
        · refine am_icmp_eq_t (pc' := 1152) dL_law_935 rfl z184 ?_
          exact w_L_law_1152 (w_L_law_18 n) v1 v2 v3 q183.2 hF
        · refine am_icmp_eq_f (pc' := 938) (tgt := 1152) dL_law_935 rfl z184 rfl ?_
          refine am_iconst (v := (0 : Int32)) (pc' := 939) dL_law_938 rfl rfl ?_
          cases hF
          exact am_iret dL_law_939 rfl rfl
      rcases am_ite hF with ⟨z185, hF⟩ | ⟨z185, hF⟩
      · refine am_tableIn (c := (22 : Int32)) (pc' := 940) dL_law_32 z185 (by decide) (by decide) rfl rfl ?_
        refine am_aload_n (pc' := 941) dL_law_940 rfl rfl ?_
        refine am_xload_n (pc' := 942) dL_law_941 rfl rfl ?_
        refine am_iload_n (pc' := 943) dL_law_942 rfl rfl ?_
        refine am_iconst (v := (1 : Int32)) (pc' := 944) dL_law_943 rfl rfl ?_
        refine am_iadd (pc' := 945) dL_law_944 rfl ?_
        obtain ⟨x186, ex186, hF⟩ := am_bind hF
        refine am_sald (pc' := 946) dL_law_945 ex186 rfl ?_
        obtain ⟨q187, eq187, hF⟩ := am_bind hF
        obtain ⟨oq187, pq187⟩ := t_X8_tear eq187
        refine am_callV1 (Mc := M_X8_tear) (As := [.int x186]) (st := []) (pc' := 949) dL_law_946 cw_L_109 wd_4_17 wd_4_18 ⟨_, rfl, rfl⟩ (by decide) (by decide) rfl rfl (Nat.le_of_ble_eq_true rfl) pq187 (c_X8_tear eq187) rfl ?_
        refine am_aload_n (pc' := 950) dL_law_949 rfl rfl ?_
        refine am_xload_n (pc' := 951) dL_law_950 rfl rfl ?_
        refine am_iload_n (pc' := 952) dL_law_951 rfl rfl ?_
        refine am_iconst (v := (1 : Int32)) (pc' := 953) dL_law_952 rfl rfl ?_
        refine am_iadd (pc' := 954) dL_law_953 rfl ?_
        obtain ⟨x188, ex188, hF⟩ := am_bind hF
        refine am_sald (pc' := 955) dL_law_954 ex188 rfl ?_
        obtain ⟨q189, eq189, hF⟩ := am_bind hF
        obtain ⟨oq189, pq189⟩ := t_X9_tear eq189
        refine am_callV1 (Mc := M_X9_tear) (As := [.int x188]) (st := [.int q187.1]) (pc' := 958) dL_law_955 cw_L_112 wd_6_11 wd_6_12 ⟨_, rfl, rfl⟩ (by decide) (by decide) rfl rfl (Nat.le_of_ble_eq_true rfl) pq189 (c_X9_tear eq189) rfl ?_
        rcases am_ite hF with ⟨z190, hF⟩ | ⟨z190, hF⟩
        · refine am_icmp_eq_t (pc' := 1152) dL_law_958 rfl z190 ?_
          exact w_L_law_1152 (w_L_law_18 n) v1 v2 v3 q189.2 hF
        · refine am_icmp_eq_f (pc' := 961) (tgt := 1152) dL_law_958 rfl z190 rfl ?_
          refine am_iconst (v := (0 : Int32)) (pc' := 962) dL_law_961 rfl rfl ?_
          cases hF
          exact am_iret dL_law_962 rfl rfl
      rcases am_ite hF with ⟨z191, hF⟩ | ⟨z191, hF⟩
      · refine am_tableIn (c := (23 : Int32)) (pc' := 963) dL_law_32 z191 (by decide) (by decide) rfl rfl ?_
        refine am_aload_n (pc' := 964) dL_law_963 rfl rfl ?_
        refine am_xload_n (pc' := 965) dL_law_964 rfl rfl ?_
        refine am_iload_n (pc' := 966) dL_law_965 rfl rfl ?_
        refine am_iconst (v := (1 : Int32)) (pc' := 967) dL_law_966 rfl rfl ?_
        refine am_iadd (pc' := 968) dL_law_967 rfl ?_
        obtain ⟨x192, ex192, hF⟩ := am_bind hF
        refine am_sald (pc' := 969) dL_law_968 ex192 rfl ?_
        refine am_xload_n (pc' := 970) dL_law_969 rfl rfl ?_
        refine am_iload_n (pc' := 971) dL_law_970 rfl rfl ?_
        refine am_iconst (v := (2 : Int32)) (pc' := 972) dL_law_971 rfl rfl ?_
        refine am_iadd (pc' := 973) dL_law_972 rfl ?_
        obtain ⟨x193, ex193, hF⟩ := am_bind hF
        refine am_sald (pc' := 974) dL_law_973 ex193 rfl ?_
        refine am_xload_n (pc' := 975) dL_law_974 rfl rfl ?_
        refine am_iload_n (pc' := 976) dL_law_975 rfl rfl ?_
        refine am_iconst (v := (3 : Int32)) (pc' := 977) dL_law_976 rfl rfl ?_
        refine am_iadd (pc' := 978) dL_law_977 rfl ?_
        obtain ⟨x194, ex194, hF⟩ := am_bind hF
        refine am_sald (pc' := 979) dL_law_978 ex194 rfl ?_
        obtain ⟨x195, ex195, hF⟩ := am_bind hF
        obtain ⟨ox195, px195⟩ := t_X8_sums ex195
        refine am_callV1 (Mc := M_X8_sums) (As := [.int x192, .int x193, .int x194]) (st := []) (pc' := 982) dL_law_979 cw_L_113 wd_4_30 wd_4_31 ⟨_, rfl, rfl⟩ (by decide) (by decide) rfl rfl (Nat.le_of_ble_eq_true rfl) px195 (c_X8_sums ex195) rfl ?_
        refine am_aload_n (pc' := 983) dL_law_982 rfl rfl ?_
        refine am_xload_n (pc' := 984) dL_law_983 rfl rfl ?_
        refine am_iload_n (pc' := 985) dL_law_984 rfl rfl ?_
        refine am_iconst (v := (1 : Int32)) (pc' := 986) dL_law_985 rfl rfl ?_
        refine am_iadd (pc' := 987) dL_law_986 rfl ?_
        obtain ⟨x196, ex196, hF⟩ := am_bind hF
        refine am_sald (pc' := 988) dL_law_987 ex196 rfl ?_
        refine am_xload_n (pc' := 989) dL_law_988 rfl rfl ?_
        refine am_iload_n (pc' := 990) dL_law_989 rfl rfl ?_
        refine am_iconst (v := (2 : Int32)) (pc' := 991) dL_law_990 rfl rfl ?_
        refine am_iadd (pc' := 992) dL_law_991 rfl ?_
        obtain ⟨x197, ex197, hF⟩ := am_bind hF
        refine am_sald (pc' := 993) dL_law_992 ex197 rfl ?_
        refine am_xload_n (pc' := 994) dL_law_993 rfl rfl ?_
        refine am_iload_n (pc' := 995) dL_law_994 rfl rfl ?_
        refine am_iconst (v := (3 : Int32)) (pc' := 996) dL_law_995 rfl rfl ?_
        refine am_iadd (pc' := 997) dL_law_996 rfl ?_
        obtain ⟨x198, ex198, hF⟩ := am_bind hF
        refine am_sald (pc' := 998) dL_law_997 ex198 rfl ?_
        obtain ⟨x199, ex199, hF⟩ := am_bind hF
        obtain ⟨ox199, px199⟩ := t_X9_sums ex199
        refine am_callV1 (Mc := M_X9_sums) (As := [.int x196, .int x197, .int x198]) (st := [.int x195]) (pc' := 1001) dL_law_998 cw_L_116 wd_6_15 wd_6_16 ⟨_, rfl, rfl⟩ (by decide) (by decide) rfl rfl (Nat.le_of_ble_eq_true rfl) px199 (c_X9_sums ex199) rfl ?_
        rcases am_ite hF with ⟨z200, hF⟩ | ⟨z200, hF⟩
        · refine am_icmp_eq_t (pc' := 1152) dL_law_1001 rfl z200 ?_
          exact w_L_law_1152 (w_L_law_18 n) v1 v2 v3 h hF
        · refine am_icmp_eq_f (pc' := 1004) (tgt := 1152) dL_law_1001 rfl z200 rfl ?_
          refine am_iconst (v := (0 : Int32)) (pc' := 1005) dL_law_1004 rfl rfl ?_
          cases hF
          exact am_iret dL_law_1005 rfl rfl
      rcases am_ite hF with ⟨z201, hF⟩ | ⟨z201, hF⟩
      · refine am_tableIn (c := (24 : Int32)) (pc' := 1006) dL_law_32 z201 (by decide) (by decide) rfl rfl ?_
        refine am_aload_n (pc' := 1007) dL_law_1006 rfl rfl ?_
        refine am_xload_n (pc' := 1008) dL_law_1007 rfl rfl ?_
        refine am_iload_n (pc' := 1009) dL_law_1008 rfl rfl ?_
        refine am_iconst (v := (1 : Int32)) (pc' := 1010) dL_law_1009 rfl rfl ?_
        refine am_iadd (pc' := 1011) dL_law_1010 rfl ?_
        obtain ⟨x202, ex202, hF⟩ := am_bind hF
        refine am_sald (pc' := 1012) dL_law_1011 ex202 rfl ?_
        obtain ⟨q203, eq203, hF⟩ := am_bind hF
        obtain ⟨oq203, pq203⟩ := t_X8_restore eq203
        refine am_callV1 (Mc := M_X8_restore) (As := [.int x202]) (st := []) (pc' := 1015) dL_law_1012 cw_L_117 wd_4_34 wd_4_35 ⟨_, rfl, rfl⟩ (by decide) (by decide) rfl rfl (Nat.le_of_ble_eq_true rfl) pq203 (c_X8_restore eq203) rfl ?_
        refine am_aload_n (pc' := 1016) dL_law_1015 rfl rfl ?_
        refine am_xload_n (pc' := 1017) dL_law_1016 rfl rfl ?_
        refine am_iload_n (pc' := 1018) dL_law_1017 rfl rfl ?_
        refine am_iconst (v := (1 : Int32)) (pc' := 1019) dL_law_1018 rfl rfl ?_
        refine am_iadd (pc' := 1020) dL_law_1019 rfl ?_
        obtain ⟨x204, ex204, hF⟩ := am_bind hF
        refine am_sald (pc' := 1021) dL_law_1020 ex204 rfl ?_
        obtain ⟨q205, eq205, hF⟩ := am_bind hF
        obtain ⟨oq205, pq205⟩ := t_X9_restore eq205
        refine am_callV1 (Mc := M_X9_restore) (As := [.int x204]) (st := [.int q203.1]) (pc' := 1024) dL_law_1021 cw_L_120 wd_6_20 wd_6_21 ⟨_, rfl, rfl⟩ (by decide) (by decide) rfl rfl (Nat.le_of_ble_eq_true rfl) pq205 (c_X9_restore eq205) rfl ?_
        rcases am_ite hF with ⟨z206, hF⟩ | ⟨z206, hF⟩
        · refine am_icmp_eq_t (pc' := 1152) dL_law_1024 rfl z206 ?_
          exact w_L_law_1152 (w_L_law_18 n) v1 v2 v3 q205.2 hF
        · refine am_icmp_eq_f (pc' := 1027) (tgt := 1152) dL_law_1024 rfl z206 rfl ?_
          refine am_iconst (v := (0 : Int32)) (pc' := 1028) dL_law_1027 rfl rfl ?_
          cases hF
          exact am_iret dL_law_1028 rfl rfl
      rcases am_ite hF with ⟨z207, hF⟩ | ⟨z207, hF⟩
      · refine am_tableIn (c := (25 : Int32)) (pc' := 1029) dL_law_32 z207 (by decide) (by decide) rfl rfl ?_
        refine am_aload_n (pc' := 1030) dL_law_1029 rfl rfl ?_
        refine am_xload_n (pc' := 1031) dL_law_1030 rfl rfl ?_
        refine am_iload_n (pc' := 1032) dL_law_1031 rfl rfl ?_
        refine am_iconst (v := (1 : Int32)) (pc' := 1033) dL_law_1032 rfl rfl ?_
        refine am_iadd (pc' := 1034) dL_law_1033 rfl ?_
        obtain ⟨x208, ex208, hF⟩ := am_bind hF
        refine am_sald (pc' := 1035) dL_law_1034 ex208 rfl ?_
        refine am_xload_n (pc' := 1036) dL_law_1035 rfl rfl ?_
        refine am_iload_n (pc' := 1037) dL_law_1036 rfl rfl ?_
        refine am_iconst (v := (2 : Int32)) (pc' := 1038) dL_law_1037 rfl rfl ?_
        refine am_iadd (pc' := 1039) dL_law_1038 rfl ?_
        obtain ⟨x209, ex209, hF⟩ := am_bind hF
        refine am_sald (pc' := 1040) dL_law_1039 ex209 rfl ?_
        refine am_xload_n (pc' := 1041) dL_law_1040 rfl rfl ?_
        refine am_iload_n (pc' := 1042) dL_law_1041 rfl rfl ?_
        refine am_iconst (v := (3 : Int32)) (pc' := 1043) dL_law_1042 rfl rfl ?_
        refine am_iadd (pc' := 1044) dL_law_1043 rfl ?_
        obtain ⟨x210, ex210, hF⟩ := am_bind hF
        refine am_sald (pc' := 1045) dL_law_1044 ex210 rfl ?_
        obtain ⟨q211, eq211, hF⟩ := am_bind hF
        obtain ⟨oq211, pq211⟩ := t_X8_send eq211
        refine am_callV1 (Mc := M_X8_send) (As := [.int x208, .int x209, .int x210]) (st := []) (pc' := 1048) dL_law_1045 cw_L_121 wd_4_58 wd_4_59 ⟨_, rfl, rfl⟩ (by decide) (by decide) rfl rfl (Nat.le_of_ble_eq_true rfl) pq211 (c_X8_send eq211) rfl ?_
        refine am_aload_n (pc' := 1049) dL_law_1048 rfl rfl ?_
        refine am_xload_n (pc' := 1050) dL_law_1049 rfl rfl ?_
        refine am_iload_n (pc' := 1051) dL_law_1050 rfl rfl ?_
        refine am_iconst (v := (1 : Int32)) (pc' := 1052) dL_law_1051 rfl rfl ?_
        refine am_iadd (pc' := 1053) dL_law_1052 rfl ?_
        obtain ⟨x212, ex212, hF⟩ := am_bind hF
        refine am_sald (pc' := 1054) dL_law_1053 ex212 rfl ?_
        refine am_xload_n (pc' := 1055) dL_law_1054 rfl rfl ?_
        refine am_iload_n (pc' := 1056) dL_law_1055 rfl rfl ?_
        refine am_iconst (v := (2 : Int32)) (pc' := 1057) dL_law_1056 rfl rfl ?_
        refine am_iadd (pc' := 1058) dL_law_1057 rfl ?_
        obtain ⟨x213, ex213, hF⟩ := am_bind hF
        refine am_sald (pc' := 1059) dL_law_1058 ex213 rfl ?_
        refine am_xload_n (pc' := 1060) dL_law_1059 rfl rfl ?_
        refine am_iload_n (pc' := 1061) dL_law_1060 rfl rfl ?_
        refine am_iconst (v := (3 : Int32)) (pc' := 1062) dL_law_1061 rfl rfl ?_
        refine am_iadd (pc' := 1063) dL_law_1062 rfl ?_
        obtain ⟨x214, ex214, hF⟩ := am_bind hF
        refine am_sald (pc' := 1064) dL_law_1063 ex214 rfl ?_
        obtain ⟨q215, eq215, hF⟩ := am_bind hF
        obtain ⟨oq215, pq215⟩ := t_X9_send eq215
        refine am_callV1 (Mc := M_X9_send) (As := [.int x212, .int x213, .int x214]) (st := [.int q211.1]) (pc' := 1067) dL_law_1064 cw_L_124 wd_6_24 wd_6_25 ⟨_, rfl, rfl⟩ (by decide) (by decide) rfl rfl (Nat.le_of_ble_eq_true rfl) pq215 (c_X9_send eq215) rfl ?_
        rcases am_ite hF with ⟨z216, hF⟩ | ⟨z216, hF⟩
        · refine am_icmp_eq_t (pc' := 1152) dL_law_1067 rfl z216 ?_
          exact w_L_law_1152 (w_L_law_18 n) v1 v2 v3 q215.2 hF
        · refine am_icmp_eq_f (pc' := 1070) (tgt := 1152) dL_law_1067 rfl z216 rfl ?_
          refine am_iconst (v := (0 : Int32)) (pc' := 1071) dL_law_1070 rfl rfl ?_
          cases hF
          exact am_iret dL_law_1071 rfl rfl
      rcases am_ite hF with ⟨z217, hF⟩ | ⟨z217, hF⟩
      · refine am_tableIn (c := (26 : Int32)) (pc' := 1072) dL_law_32 z217 (by decide) (by decide) rfl rfl ?_
        refine am_aload_n (pc' := 1073) dL_law_1072 rfl rfl ?_
        refine am_xload_n (pc' := 1074) dL_law_1073 rfl rfl ?_
        refine am_iload_n (pc' := 1075) dL_law_1074 rfl rfl ?_
        refine am_iconst (v := (1 : Int32)) (pc' := 1076) dL_law_1075 rfl rfl ?_
        refine am_iadd (pc' := 1077) dL_law_1076 rfl ?_
        obtain ⟨x218, ex218, hF⟩ := am_bind hF
        refine am_sald (pc' := 1078) dL_law_1077 ex218 rfl ?_
        obtain ⟨x219, ex219, hF⟩ := am_bind hF
        obtain ⟨ox219, px219⟩ := t_X8_ways ex219
        refine am_callV1 (Mc := M_X8_ways) (As := [.int x218]) (st := []) (pc' := 1081) dL_law_1078 cw_L_125 wd_4_76 wd_4_77 ⟨_, rfl, rfl⟩ (by decide) (by decide) rfl rfl (Nat.le_of_ble_eq_true rfl) px219 (c_X8_ways ex219) rfl ?_
        refine am_aload_n (pc' := 1082) dL_law_1081 rfl rfl ?_
        refine am_xload_n (pc' := 1083) dL_law_1082 rfl rfl ?_
        refine am_iload_n (pc' := 1084) dL_law_1083 rfl rfl ?_
        refine am_iconst (v := (1 : Int32)) (pc' := 1085) dL_law_1084 rfl rfl ?_
        refine am_iadd (pc' := 1086) dL_law_1085 rfl ?_
        obtain ⟨x220, ex220, hF⟩ := am_bind hF
        refine am_sald (pc' := 1087) dL_law_1086 ex220 rfl ?_
        obtain ⟨x221, ex221, hF⟩ := am_bind hF
        obtain ⟨ox221, px221⟩ := t_X9_ways ex221
        refine am_callV1 (Mc := M_X9_ways) (As := [.int x220]) (st := [.long x219]) (pc' := 1090) dL_law_1087 cw_L_129 wd_6_32 wd_6_33 ⟨_, rfl, rfl⟩ (by decide) (by decide) rfl rfl (Nat.le_of_ble_eq_true rfl) px221 (c_X9_ways ex221) rfl ?_
        refine am_lcmp (pc' := 1091) dL_law_1090 rfl ?_
        rcases am_ite hF with ⟨z222, hF⟩ | ⟨z222, hF⟩
        · refine am_if_eq_t (pc' := 1152) dL_law_1091 rfl z222 ?_
          exact w_L_law_1152 (w_L_law_18 n) v1 v2 v3 h hF
        · refine am_if_eq_f (pc' := 1094) (tgt := 1152) dL_law_1091 rfl z222 rfl ?_
          refine am_iconst (v := (0 : Int32)) (pc' := 1095) dL_law_1094 rfl rfl ?_
          cases hF
          exact am_iret dL_law_1095 rfl rfl
      rcases am_ite hF with ⟨z223, hF⟩ | ⟨z223, hF⟩
      · refine am_tableIn (c := (27 : Int32)) (pc' := 1096) dL_law_32 z223 (by decide) (by decide) rfl rfl ?_
        refine am_aload_n (pc' := 1097) dL_law_1096 rfl rfl ?_
        refine am_xload_n (pc' := 1098) dL_law_1097 rfl rfl ?_
        refine am_iload_n (pc' := 1099) dL_law_1098 rfl rfl ?_
        refine am_iconst (v := (1 : Int32)) (pc' := 1100) dL_law_1099 rfl rfl ?_
        refine am_iadd (pc' := 1101) dL_law_1100 rfl ?_
        obtain ⟨x224, ex224, hF⟩ := am_bind hF
        refine am_sald (pc' := 1102) dL_law_1101 ex224 rfl ?_
        obtain ⟨x225, ex225, hF⟩ := am_bind hF
        obtain ⟨ox225, px225⟩ := t_X8_bound ex225
        refine am_callV1 (Mc := M_X8_bound) (As := [.int x224]) (st := []) (pc' := 1105) dL_law_1102 cw_L_130 wd_4_87 wd_4_88 ⟨_, rfl, rfl⟩ (by decide) (by decide) rfl rfl (Nat.le_of_ble_eq_true rfl) px225 (c_X8_bound ex225) rfl ?_
        refine am_aload_n (pc' := 1106) dL_law_1105 rfl rfl ?_
        refine am_xload_n (pc' := 1107) dL_law_1106 rfl rfl ?_
        refine am_iload_n (pc' := 1108) dL_law_1107 rfl rfl ?_
        refine am_iconst (v := (1 : Int32)) (pc' := 1109) dL_law_1108 rfl rfl ?_
        refine am_iadd (pc' := 1110) dL_law_1109 rfl ?_
        obtain ⟨x226, ex226, hF⟩ := am_bind hF
        refine am_sald (pc' := 1111) dL_law_1110 ex226 rfl ?_
        obtain ⟨x227, ex227, hF⟩ := am_bind hF
        obtain ⟨ox227, px227⟩ := t_X9_bound ex227
        refine am_callV1 (Mc := M_X9_bound) (As := [.int x226]) (st := [.int x225]) (pc' := 1114) dL_law_1111 cw_L_133 wd_6_48 wd_6_49 ⟨_, rfl, rfl⟩ (by decide) (by decide) rfl rfl (Nat.le_of_ble_eq_true rfl) px227 (c_X9_bound ex227) rfl ?_
        rcases am_ite hF with ⟨z228, hF⟩ | ⟨z228, hF⟩
        · refine am_icmp_eq_t (pc' := 1152) dL_law_1114 rfl z228 ?_
          exact w_L_law_1152 (w_L_law_18 n) v1 v2 v3 h hF
        · refine am_icmp_eq_f (pc' := 1117) (tgt := 1152) dL_law_1114 rfl z228 rfl ?_
          refine am_iconst (v := (0 : Int32)) (pc' := 1118) dL_law_1117 rfl rfl ?_
          cases hF
          exact am_iret dL_law_1118 rfl rfl
      rcases am_ite hF with ⟨z229, hF⟩ | ⟨z229, hF⟩
      · refine am_tableIn (c := (28 : Int32)) (pc' := 1119) dL_law_32 z229 (by decide) (by decide) rfl rfl ?_
        refine am_aload_n (pc' := 1120) dL_law_1119 rfl rfl ?_
        refine am_xload_n (pc' := 1121) dL_law_1120 rfl rfl ?_
        refine am_iload_n (pc' := 1122) dL_law_1121 rfl rfl ?_
        refine am_iconst (v := (1 : Int32)) (pc' := 1123) dL_law_1122 rfl rfl ?_
        refine am_iadd (pc' := 1124) dL_law_1123 rfl ?_
        obtain ⟨x230, ex230, hF⟩ := am_bind hF
        refine am_sald (pc' := 1125) dL_law_1124 ex230 rfl ?_
        refine am_xload_n (pc' := 1126) dL_law_1125 rfl rfl ?_
        refine am_iload_n (pc' := 1127) dL_law_1126 rfl rfl ?_
        refine am_iconst (v := (2 : Int32)) (pc' := 1128) dL_law_1127 rfl rfl ?_
        refine am_iadd (pc' := 1129) dL_law_1128 rfl ?_
        obtain ⟨x231, ex231, hF⟩ := am_bind hF
        refine am_sald (pc' := 1130) dL_law_1129 ex231 rfl ?_
        obtain ⟨x232, ex232, hF⟩ := am_bind hF
        obtain ⟨ox232, px232⟩ := t_X8_entropy ex232
        refine am_callV1 (Mc := M_X8_entropy) (As := [.int x230, .int x231]) (st := []) (pc' := 1133) dL_law_1130 cw_L_134 wd_4_91 wd_4_92 ⟨_, rfl, rfl⟩ (by decide) (by decide) rfl rfl (Nat.le_of_ble_eq_true rfl) px232 (c_X8_entropy ex232) rfl ?_
        refine am_aload_n (pc' := 1134) dL_law_1133 rfl rfl ?_
        refine am_xload_n (pc' := 1135) dL_law_1134 rfl rfl ?_
        refine am_iload_n (pc' := 1136) dL_law_1135 rfl rfl ?_
        refine am_iconst (v := (1 : Int32)) (pc' := 1137) dL_law_1136 rfl rfl ?_
        refine am_iadd (pc' := 1138) dL_law_1137 rfl ?_
        obtain ⟨x233, ex233, hF⟩ := am_bind hF
        refine am_sald (pc' := 1139) dL_law_1138 ex233 rfl ?_
        refine am_xload_n (pc' := 1140) dL_law_1139 rfl rfl ?_
        refine am_iload_n (pc' := 1141) dL_law_1140 rfl rfl ?_
        refine am_iconst (v := (2 : Int32)) (pc' := 1142) dL_law_1141 rfl rfl ?_
        refine am_iadd (pc' := 1143) dL_law_1142 rfl ?_
        obtain ⟨x234, ex234, hF⟩ := am_bind hF
        refine am_sald (pc' := 1144) dL_law_1143 ex234 rfl ?_
        obtain ⟨x235, ex235, hF⟩ := am_bind hF
        obtain ⟨ox235, px235⟩ := t_X9_entropy ex235
        refine am_callV1 (Mc := M_X9_entropy) (As := [.int x233, .int x234]) (st := [.int x232]) (pc' := 1147) dL_law_1144 cw_L_137 wd_6_52 wd_6_53 ⟨_, rfl, rfl⟩ (by decide) (by decide) rfl rfl (Nat.le_of_ble_eq_true rfl) px235 (c_X9_entropy ex235) rfl ?_
        rcases am_ite hF with ⟨z236, hF⟩ | ⟨z236, hF⟩
        · refine am_icmp_eq_t (pc' := 1152) dL_law_1147 rfl z236 ?_
          exact w_L_law_1152 (w_L_law_18 n) v1 v2 v3 h hF
        · refine am_icmp_eq_f (pc' := 1150) (tgt := 1152) dL_law_1147 rfl z236 rfl ?_
          refine am_iconst (v := (0 : Int32)) (pc' := 1151) dL_law_1150 rfl rfl ?_
          cases hF
          exact am_iret dL_law_1151 rfl rfl
      refine am_tableOut (pc' := 1152) dL_law_32 (by have tz3 := lv_neT (a := 0) z3 rfl; have tz13 := lv_neT (a := 1) z13 rfl; have tz17 := lv_neT (a := 2) z17 rfl; have tz27 := lv_neT (a := 3) z27 rfl; have tz37 := lv_neT (a := 4) z37 rfl; have tz45 := lv_neT (a := 5) z45 rfl; have tz53 := lv_neT (a := 6) z53 rfl; have tz61 := lv_neT (a := 7) z61 rfl; have tz69 := lv_neT (a := 8) z69 rfl; have tz77 := lv_neT (a := 9) z77 rfl; have tz83 := lv_neT (a := 10) z83 rfl; have tz91 := lv_neT (a := 11) z91 rfl; have tz99 := lv_neT (a := 12) z99 rfl; have tz107 := lv_neT (a := 13) z107 rfl; have tz115 := lv_neT (a := 14) z115 rfl; have tz125 := lv_neT (a := 15) z125 rfl; have tz133 := lv_neT (a := 16) z133 rfl; have tz143 := lv_neT (a := 17) z143 rfl; have tz153 := lv_neT (a := 18) z153 rfl; have tz159 := lv_neT (a := 19) z159 rfl; have tz163 := lv_neT (a := 20) z163 rfl; have tz173 := lv_neT (a := 21) z173 rfl; have tz185 := lv_neT (a := 22) z185 rfl; have tz191 := lv_neT (a := 23) z191 rfl; have tz201 := lv_neT (a := 24) z201 rfl; have tz207 := lv_neT (a := 25) z207 rfl; have tz217 := lv_neT (a := 26) z217 rfl; have tz223 := lv_neT (a := 27) z223 rfl; have tz229 := lv_neT (a := 28) z229 rfl; omega) rfl ?_
      exact w_L_law_1152 (w_L_law_18 n) v1 v2 v3 h hF
def F_L_law_b (L : Nat) (xs : Nat → Int32) (h : am_H) : Option (Int32 × am_H) :=
  (am_nw 8 h).bind fun p1 =>
  (F_X8_init p1.1 p1.2).bind fun h2 =>
  (am_nw 9 h2).bind fun p3 =>
  (F_X9_init p3.1 p3.2).bind fun h4 =>
  F_L_law_18 L xs am_F p1.1 p3.1 (0 : Int32) h4
theorem w_L_law {g : am_G} {l : Launch} {h0 : am_H} {x : Int32} {hf : am_H}  (h : am_H) (hF : F_L_law_b (g.2.2.1 3) g.2.2.2 h = some (x, hf)) : am_W g l M_L_law h0 (some (.int x)) hf 0 [some (.float 0), none, none, none] [] h := by
  unfold F_L_law_b at hF
  obtain ⟨p1, ep1, hF⟩ := am_bind hF
  refine am_new (pc' := 3) dL_law_0 nx_L_7 ep1 rfl ?_
  refine am_dup (pc' := 4) dL_law_3 rfl rfl ?_
  obtain ⟨h2, eh2, hF⟩ := am_bind hF
  obtain ⟨oh2, ph2⟩ := t_X8_init eh2
  refine am_callI0 (Mc := M_X8_init) (As := []) (st := [.ref p1.1]) (pc' := 7) dL_law_4 cw_L_9 wd_1_16 rfl rfl (by decide) (by decide) rfl rfl (Nat.le_of_ble_eq_true rfl) ph2 (c_X8_init eh2) rfl ?_
  refine am_astore_n (ls' := [some (.float 0), some (.ref p1.1), none, none]) (pc' := 8) dL_law_7 (Nat.le_of_ble_eq_true rfl) rfl rfl ?_
  obtain ⟨p3, ep3, hF⟩ := am_bind hF
  refine am_new (pc' := 11) dL_law_8 nx_L_10 ep3 rfl ?_
  refine am_dup (pc' := 12) dL_law_11 rfl rfl ?_
  obtain ⟨h4, eh4, hF⟩ := am_bind hF
  obtain ⟨oh4, ph4⟩ := t_X9_init eh4
  refine am_callI0 (Mc := M_X9_init) (As := []) (st := [.ref p3.1]) (pc' := 15) dL_law_12 cw_L_12 wd_4_97 rfl rfl (by decide) (by decide) rfl rfl (Nat.le_of_ble_eq_true rfl) ph4 (c_X9_init eh4) rfl ?_
  refine am_astore_n (ls' := [some (.float 0), some (.ref p1.1), some (.ref p3.1), none]) (pc' := 16) dL_law_15 (Nat.le_of_ble_eq_true rfl) rfl rfl ?_
  refine am_iconst (v := (0 : Int32)) (pc' := 17) dL_law_16 rfl rfl ?_
  refine am_istore_n (ls' := [some (.float 0), some (.ref p1.1), some (.ref p3.1), some (.int (0 : Int32))]) (pc' := 18) dL_law_17 (Nat.le_of_ble_eq_true rfl) rfl rfl ?_
  exact w_L_law_18 am_F p1.1 p3.1 (0 : Int32) h4 hF
def F_L_law (L : Nat) (xs : Nat → Int32) (h : am_H) : Option (Int32 × am_H) := F_L_law_b L xs h
