/-! segments, by program (wip/whole/gen/seg.py) -/
theorem dL_law_0 : decode cL_law 0 = .ok (.new 7, 3) := by decide +kernel
theorem dL_law_3 : decode cL_law 3 = .ok (.dup, 1) := by decide +kernel
theorem dL_law_4 : decode cL_law 4 = .ok (.invokespecial 9, 3) := by decide +kernel
theorem dL_law_7 : decode cL_law 7 = .ok (.astore_n 1, 1) := by decide +kernel
theorem dL_law_8 : decode cL_law 8 = .ok (.new 10, 3) := by decide +kernel
theorem dL_law_11 : decode cL_law 11 = .ok (.dup, 1) := by decide +kernel
theorem dL_law_12 : decode cL_law 12 = .ok (.invokespecial 12, 3) := by decide +kernel
theorem dL_law_15 : decode cL_law 15 = .ok (.astore_n 2, 1) := by decide +kernel
theorem dL_law_16 : decode cL_law 16 = .ok (.iconst 0, 1) := by decide +kernel
theorem dL_law_17 : decode cL_law 17 = .ok (.istore_n 3, 1) := by decide +kernel
theorem dL_law_18 : decode cL_law 18 = .ok (.iload_n 3, 1) := by decide +kernel
theorem dL_law_19 : decode cL_law 19 = .ok (.aload_n 0, 1) := by decide +kernel
theorem dL_law_20 : decode cL_law 20 = .ok (.arraylength, 1) := by decide +kernel
theorem dL_law_21 : decode cL_law 21 = .ok (.iconst 5, 1) := by decide +kernel
theorem dL_law_22 : decode cL_law 22 = .ok (.isub, 1) := by decide +kernel
theorem dL_law_23 : decode cL_law 23 = .ok (.if_icmp .gt 954, 3) := by decide +kernel
theorem dL_law_26 : decode cL_law 26 = .ok (.aload_n 0, 1) := by decide +kernel
theorem dL_law_27 : decode cL_law 27 = .ok (.iload_n 3, 1) := by decide +kernel
theorem dL_law_28 : decode cL_law 28 = .ok (.iaload, 1) := by decide +kernel
theorem dL_law_29 : decode cL_law 29 = .ok (.bipush 31, 2) := by decide +kernel
theorem dL_law_31 : decode cL_law 31 = .ok (.iand, 1) := by decide +kernel
theorem dL_law_32 : decode cL_law 32 = .ok (.tableswitch 939 0 28 #[132, 155, 168, 181, 194, 217, 250, 293, 326, 339, 362, 415, 448, 481, 494, 507, 530, 553, 576, 599, 622, 635, 648, 671, 724, 767, 830, 893, 916], 132) := by decide +kernel
theorem dL_law_164 : decode cL_law 164 = .ok (.aload_n 1, 1) := by decide +kernel
theorem dL_law_165 : decode cL_law 165 = .ok (.aload_n 0, 1) := by decide +kernel
theorem dL_law_166 : decode cL_law 166 = .ok (.iload_n 3, 1) := by decide +kernel
theorem dL_law_167 : decode cL_law 167 = .ok (.iconst 1, 1) := by decide +kernel
theorem dL_law_168 : decode cL_law 168 = .ok (.iadd, 1) := by decide +kernel
theorem dL_law_169 : decode cL_law 169 = .ok (.iaload, 1) := by decide +kernel
theorem dL_law_170 : decode cL_law 170 = .ok (.invokevirtual 13, 3) := by decide +kernel
theorem dL_law_173 : decode cL_law 173 = .ok (.aload_n 2, 1) := by decide +kernel
theorem dL_law_174 : decode cL_law 174 = .ok (.aload_n 0, 1) := by decide +kernel
theorem dL_law_175 : decode cL_law 175 = .ok (.iload_n 3, 1) := by decide +kernel
theorem dL_law_176 : decode cL_law 176 = .ok (.iconst 1, 1) := by decide +kernel
theorem dL_law_177 : decode cL_law 177 = .ok (.iadd, 1) := by decide +kernel
theorem dL_law_178 : decode cL_law 178 = .ok (.iaload, 1) := by decide +kernel
theorem dL_law_179 : decode cL_law 179 = .ok (.invokevirtual 17, 3) := by decide +kernel
theorem dL_law_182 : decode cL_law 182 = .ok (.if_icmp .eq 789, 3) := by decide +kernel
theorem dL_law_185 : decode cL_law 185 = .ok (.iconst 0, 1) := by decide +kernel
theorem dL_law_186 : decode cL_law 186 = .ok (.ireturn, 1) := by decide +kernel
theorem dL_law_187 : decode cL_law 187 = .ok (.aload_n 1, 1) := by decide +kernel
theorem dL_law_188 : decode cL_law 188 = .ok (.invokevirtual 18, 3) := by decide +kernel
theorem dL_law_191 : decode cL_law 191 = .ok (.aload_n 2, 1) := by decide +kernel
theorem dL_law_192 : decode cL_law 192 = .ok (.invokevirtual 22, 3) := by decide +kernel
theorem dL_law_195 : decode cL_law 195 = .ok (.if_icmp .eq 776, 3) := by decide +kernel
theorem dL_law_198 : decode cL_law 198 = .ok (.iconst 0, 1) := by decide +kernel
theorem dL_law_199 : decode cL_law 199 = .ok (.ireturn, 1) := by decide +kernel
theorem dL_law_200 : decode cL_law 200 = .ok (.aload_n 1, 1) := by decide +kernel
theorem dL_law_201 : decode cL_law 201 = .ok (.invokevirtual 23, 3) := by decide +kernel
theorem dL_law_204 : decode cL_law 204 = .ok (.aload_n 2, 1) := by decide +kernel
theorem dL_law_205 : decode cL_law 205 = .ok (.invokevirtual 26, 3) := by decide +kernel
theorem dL_law_208 : decode cL_law 208 = .ok (.if_icmp .eq 763, 3) := by decide +kernel
theorem dL_law_211 : decode cL_law 211 = .ok (.iconst 0, 1) := by decide +kernel
theorem dL_law_212 : decode cL_law 212 = .ok (.ireturn, 1) := by decide +kernel
theorem dL_law_213 : decode cL_law 213 = .ok (.aload_n 1, 1) := by decide +kernel
theorem dL_law_214 : decode cL_law 214 = .ok (.invokevirtual 27, 3) := by decide +kernel
theorem dL_law_217 : decode cL_law 217 = .ok (.aload_n 2, 1) := by decide +kernel
theorem dL_law_218 : decode cL_law 218 = .ok (.invokevirtual 30, 3) := by decide +kernel
theorem dL_law_221 : decode cL_law 221 = .ok (.if_icmp .eq 750, 3) := by decide +kernel
theorem dL_law_224 : decode cL_law 224 = .ok (.iconst 0, 1) := by decide +kernel
theorem dL_law_225 : decode cL_law 225 = .ok (.ireturn, 1) := by decide +kernel
theorem dL_law_226 : decode cL_law 226 = .ok (.aload_n 1, 1) := by decide +kernel
theorem dL_law_227 : decode cL_law 227 = .ok (.aload_n 0, 1) := by decide +kernel
theorem dL_law_228 : decode cL_law 228 = .ok (.iload_n 3, 1) := by decide +kernel
theorem dL_law_229 : decode cL_law 229 = .ok (.iconst 1, 1) := by decide +kernel
theorem dL_law_230 : decode cL_law 230 = .ok (.iadd, 1) := by decide +kernel
theorem dL_law_231 : decode cL_law 231 = .ok (.iaload, 1) := by decide +kernel
theorem dL_law_232 : decode cL_law 232 = .ok (.invokevirtual 31, 3) := by decide +kernel
theorem dL_law_235 : decode cL_law 235 = .ok (.aload_n 2, 1) := by decide +kernel
theorem dL_law_236 : decode cL_law 236 = .ok (.aload_n 0, 1) := by decide +kernel
theorem dL_law_237 : decode cL_law 237 = .ok (.iload_n 3, 1) := by decide +kernel
theorem dL_law_238 : decode cL_law 238 = .ok (.iconst 1, 1) := by decide +kernel
theorem dL_law_239 : decode cL_law 239 = .ok (.iadd, 1) := by decide +kernel
theorem dL_law_240 : decode cL_law 240 = .ok (.iaload, 1) := by decide +kernel
theorem dL_law_241 : decode cL_law 241 = .ok (.invokevirtual 34, 3) := by decide +kernel
theorem dL_law_244 : decode cL_law 244 = .ok (.if_icmp .eq 727, 3) := by decide +kernel
theorem dL_law_247 : decode cL_law 247 = .ok (.iconst 0, 1) := by decide +kernel
theorem dL_law_248 : decode cL_law 248 = .ok (.ireturn, 1) := by decide +kernel
theorem dL_law_249 : decode cL_law 249 = .ok (.aload_n 1, 1) := by decide +kernel
theorem dL_law_250 : decode cL_law 250 = .ok (.aload_n 0, 1) := by decide +kernel
theorem dL_law_251 : decode cL_law 251 = .ok (.iload_n 3, 1) := by decide +kernel
theorem dL_law_252 : decode cL_law 252 = .ok (.iconst 1, 1) := by decide +kernel
theorem dL_law_253 : decode cL_law 253 = .ok (.iadd, 1) := by decide +kernel
theorem dL_law_254 : decode cL_law 254 = .ok (.iaload, 1) := by decide +kernel
theorem dL_law_255 : decode cL_law 255 = .ok (.aload_n 0, 1) := by decide +kernel
theorem dL_law_256 : decode cL_law 256 = .ok (.iload_n 3, 1) := by decide +kernel
theorem dL_law_257 : decode cL_law 257 = .ok (.iconst 2, 1) := by decide +kernel
theorem dL_law_258 : decode cL_law 258 = .ok (.iadd, 1) := by decide +kernel
theorem dL_law_259 : decode cL_law 259 = .ok (.iaload, 1) := by decide +kernel
theorem dL_law_260 : decode cL_law 260 = .ok (.invokevirtual 35, 3) := by decide +kernel
theorem dL_law_263 : decode cL_law 263 = .ok (.aload_n 2, 1) := by decide +kernel
theorem dL_law_264 : decode cL_law 264 = .ok (.aload_n 0, 1) := by decide +kernel
theorem dL_law_265 : decode cL_law 265 = .ok (.iload_n 3, 1) := by decide +kernel
theorem dL_law_266 : decode cL_law 266 = .ok (.iconst 1, 1) := by decide +kernel
theorem dL_law_267 : decode cL_law 267 = .ok (.iadd, 1) := by decide +kernel
theorem dL_law_268 : decode cL_law 268 = .ok (.iaload, 1) := by decide +kernel
theorem dL_law_269 : decode cL_law 269 = .ok (.aload_n 0, 1) := by decide +kernel
theorem dL_law_270 : decode cL_law 270 = .ok (.iload_n 3, 1) := by decide +kernel
theorem dL_law_271 : decode cL_law 271 = .ok (.iconst 2, 1) := by decide +kernel
theorem dL_law_272 : decode cL_law 272 = .ok (.iadd, 1) := by decide +kernel
theorem dL_law_273 : decode cL_law 273 = .ok (.iaload, 1) := by decide +kernel
theorem dL_law_274 : decode cL_law 274 = .ok (.invokevirtual 39, 3) := by decide +kernel
theorem dL_law_277 : decode cL_law 277 = .ok (.if_icmp .eq 694, 3) := by decide +kernel
theorem dL_law_280 : decode cL_law 280 = .ok (.iconst 0, 1) := by decide +kernel
theorem dL_law_281 : decode cL_law 281 = .ok (.ireturn, 1) := by decide +kernel
theorem dL_law_282 : decode cL_law 282 = .ok (.aload_n 1, 1) := by decide +kernel
theorem dL_law_283 : decode cL_law 283 = .ok (.aload_n 0, 1) := by decide +kernel
theorem dL_law_284 : decode cL_law 284 = .ok (.iload_n 3, 1) := by decide +kernel
theorem dL_law_285 : decode cL_law 285 = .ok (.iconst 1, 1) := by decide +kernel
theorem dL_law_286 : decode cL_law 286 = .ok (.iadd, 1) := by decide +kernel
theorem dL_law_287 : decode cL_law 287 = .ok (.iaload, 1) := by decide +kernel
theorem dL_law_288 : decode cL_law 288 = .ok (.aload_n 0, 1) := by decide +kernel
theorem dL_law_289 : decode cL_law 289 = .ok (.iload_n 3, 1) := by decide +kernel
theorem dL_law_290 : decode cL_law 290 = .ok (.iconst 2, 1) := by decide +kernel
theorem dL_law_291 : decode cL_law 291 = .ok (.iadd, 1) := by decide +kernel
theorem dL_law_292 : decode cL_law 292 = .ok (.iaload, 1) := by decide +kernel
theorem dL_law_293 : decode cL_law 293 = .ok (.aload_n 0, 1) := by decide +kernel
theorem dL_law_294 : decode cL_law 294 = .ok (.iload_n 3, 1) := by decide +kernel
theorem dL_law_295 : decode cL_law 295 = .ok (.iconst 3, 1) := by decide +kernel
theorem dL_law_296 : decode cL_law 296 = .ok (.iadd, 1) := by decide +kernel
theorem dL_law_297 : decode cL_law 297 = .ok (.iaload, 1) := by decide +kernel
theorem dL_law_298 : decode cL_law 298 = .ok (.invokevirtual 40, 3) := by decide +kernel
theorem dL_law_301 : decode cL_law 301 = .ok (.aload_n 2, 1) := by decide +kernel
theorem dL_law_302 : decode cL_law 302 = .ok (.aload_n 0, 1) := by decide +kernel
theorem dL_law_303 : decode cL_law 303 = .ok (.iload_n 3, 1) := by decide +kernel
theorem dL_law_304 : decode cL_law 304 = .ok (.iconst 1, 1) := by decide +kernel
theorem dL_law_305 : decode cL_law 305 = .ok (.iadd, 1) := by decide +kernel
theorem dL_law_306 : decode cL_law 306 = .ok (.iaload, 1) := by decide +kernel
theorem dL_law_307 : decode cL_law 307 = .ok (.aload_n 0, 1) := by decide +kernel
theorem dL_law_308 : decode cL_law 308 = .ok (.iload_n 3, 1) := by decide +kernel
theorem dL_law_309 : decode cL_law 309 = .ok (.iconst 2, 1) := by decide +kernel
theorem dL_law_310 : decode cL_law 310 = .ok (.iadd, 1) := by decide +kernel
theorem dL_law_311 : decode cL_law 311 = .ok (.iaload, 1) := by decide +kernel
theorem dL_law_312 : decode cL_law 312 = .ok (.aload_n 0, 1) := by decide +kernel
theorem dL_law_313 : decode cL_law 313 = .ok (.iload_n 3, 1) := by decide +kernel
theorem dL_law_314 : decode cL_law 314 = .ok (.iconst 3, 1) := by decide +kernel
theorem dL_law_315 : decode cL_law 315 = .ok (.iadd, 1) := by decide +kernel
theorem dL_law_316 : decode cL_law 316 = .ok (.iaload, 1) := by decide +kernel
theorem dL_law_317 : decode cL_law 317 = .ok (.invokevirtual 44, 3) := by decide +kernel
theorem dL_law_320 : decode cL_law 320 = .ok (.if_icmp .eq 651, 3) := by decide +kernel
theorem dL_law_323 : decode cL_law 323 = .ok (.iconst 0, 1) := by decide +kernel
theorem dL_law_324 : decode cL_law 324 = .ok (.ireturn, 1) := by decide +kernel
theorem dL_law_325 : decode cL_law 325 = .ok (.aload_n 1, 1) := by decide +kernel
theorem dL_law_326 : decode cL_law 326 = .ok (.aload_n 0, 1) := by decide +kernel
theorem dL_law_327 : decode cL_law 327 = .ok (.iload_n 3, 1) := by decide +kernel
theorem dL_law_328 : decode cL_law 328 = .ok (.iconst 1, 1) := by decide +kernel
theorem dL_law_329 : decode cL_law 329 = .ok (.iadd, 1) := by decide +kernel
theorem dL_law_330 : decode cL_law 330 = .ok (.iaload, 1) := by decide +kernel
theorem dL_law_331 : decode cL_law 331 = .ok (.aload_n 0, 1) := by decide +kernel
theorem dL_law_332 : decode cL_law 332 = .ok (.iload_n 3, 1) := by decide +kernel
theorem dL_law_333 : decode cL_law 333 = .ok (.iconst 2, 1) := by decide +kernel
theorem dL_law_334 : decode cL_law 334 = .ok (.iadd, 1) := by decide +kernel
theorem dL_law_335 : decode cL_law 335 = .ok (.iaload, 1) := by decide +kernel
theorem dL_law_336 : decode cL_law 336 = .ok (.invokevirtual 45, 3) := by decide +kernel
theorem dL_law_339 : decode cL_law 339 = .ok (.aload_n 2, 1) := by decide +kernel
theorem dL_law_340 : decode cL_law 340 = .ok (.aload_n 0, 1) := by decide +kernel
theorem dL_law_341 : decode cL_law 341 = .ok (.iload_n 3, 1) := by decide +kernel
theorem dL_law_342 : decode cL_law 342 = .ok (.iconst 1, 1) := by decide +kernel
theorem dL_law_343 : decode cL_law 343 = .ok (.iadd, 1) := by decide +kernel
theorem dL_law_344 : decode cL_law 344 = .ok (.iaload, 1) := by decide +kernel
theorem dL_law_345 : decode cL_law 345 = .ok (.aload_n 0, 1) := by decide +kernel
theorem dL_law_346 : decode cL_law 346 = .ok (.iload_n 3, 1) := by decide +kernel
theorem dL_law_347 : decode cL_law 347 = .ok (.iconst 2, 1) := by decide +kernel
theorem dL_law_348 : decode cL_law 348 = .ok (.iadd, 1) := by decide +kernel
theorem dL_law_349 : decode cL_law 349 = .ok (.iaload, 1) := by decide +kernel
theorem dL_law_350 : decode cL_law 350 = .ok (.invokevirtual 48, 3) := by decide +kernel
theorem dL_law_353 : decode cL_law 353 = .ok (.if_icmp .eq 618, 3) := by decide +kernel
theorem dL_law_356 : decode cL_law 356 = .ok (.iconst 0, 1) := by decide +kernel
theorem dL_law_357 : decode cL_law 357 = .ok (.ireturn, 1) := by decide +kernel
theorem dL_law_358 : decode cL_law 358 = .ok (.aload_n 1, 1) := by decide +kernel
theorem dL_law_359 : decode cL_law 359 = .ok (.invokevirtual 49, 3) := by decide +kernel
theorem dL_law_362 : decode cL_law 362 = .ok (.aload_n 2, 1) := by decide +kernel
theorem dL_law_363 : decode cL_law 363 = .ok (.invokevirtual 52, 3) := by decide +kernel
theorem dL_law_366 : decode cL_law 366 = .ok (.if_icmp .eq 605, 3) := by decide +kernel
theorem dL_law_369 : decode cL_law 369 = .ok (.iconst 0, 1) := by decide +kernel
theorem dL_law_370 : decode cL_law 370 = .ok (.ireturn, 1) := by decide +kernel
theorem dL_law_371 : decode cL_law 371 = .ok (.aload_n 1, 1) := by decide +kernel
theorem dL_law_372 : decode cL_law 372 = .ok (.aload_n 0, 1) := by decide +kernel
theorem dL_law_373 : decode cL_law 373 = .ok (.iload_n 3, 1) := by decide +kernel
theorem dL_law_374 : decode cL_law 374 = .ok (.iconst 1, 1) := by decide +kernel
theorem dL_law_375 : decode cL_law 375 = .ok (.iadd, 1) := by decide +kernel
theorem dL_law_376 : decode cL_law 376 = .ok (.iaload, 1) := by decide +kernel
theorem dL_law_377 : decode cL_law 377 = .ok (.invokevirtual 53, 3) := by decide +kernel
theorem dL_law_380 : decode cL_law 380 = .ok (.aload_n 2, 1) := by decide +kernel
theorem dL_law_381 : decode cL_law 381 = .ok (.aload_n 0, 1) := by decide +kernel
theorem dL_law_382 : decode cL_law 382 = .ok (.iload_n 3, 1) := by decide +kernel
theorem dL_law_383 : decode cL_law 383 = .ok (.iconst 1, 1) := by decide +kernel
theorem dL_law_384 : decode cL_law 384 = .ok (.iadd, 1) := by decide +kernel
theorem dL_law_385 : decode cL_law 385 = .ok (.iaload, 1) := by decide +kernel
theorem dL_law_386 : decode cL_law 386 = .ok (.invokevirtual 56, 3) := by decide +kernel
theorem dL_law_389 : decode cL_law 389 = .ok (.if_icmp .eq 582, 3) := by decide +kernel
theorem dL_law_392 : decode cL_law 392 = .ok (.iconst 0, 1) := by decide +kernel
theorem dL_law_393 : decode cL_law 393 = .ok (.ireturn, 1) := by decide +kernel
theorem dL_law_394 : decode cL_law 394 = .ok (.aload_n 1, 1) := by decide +kernel
theorem dL_law_395 : decode cL_law 395 = .ok (.aload_n 0, 1) := by decide +kernel
theorem dL_law_396 : decode cL_law 396 = .ok (.iload_n 3, 1) := by decide +kernel
theorem dL_law_397 : decode cL_law 397 = .ok (.iconst 1, 1) := by decide +kernel
theorem dL_law_398 : decode cL_law 398 = .ok (.iadd, 1) := by decide +kernel
theorem dL_law_399 : decode cL_law 399 = .ok (.iaload, 1) := by decide +kernel
theorem dL_law_400 : decode cL_law 400 = .ok (.aload_n 0, 1) := by decide +kernel
theorem dL_law_401 : decode cL_law 401 = .ok (.iload_n 3, 1) := by decide +kernel
theorem dL_law_402 : decode cL_law 402 = .ok (.iconst 2, 1) := by decide +kernel
theorem dL_law_403 : decode cL_law 403 = .ok (.iadd, 1) := by decide +kernel
theorem dL_law_404 : decode cL_law 404 = .ok (.iaload, 1) := by decide +kernel
theorem dL_law_405 : decode cL_law 405 = .ok (.aload_n 0, 1) := by decide +kernel
theorem dL_law_406 : decode cL_law 406 = .ok (.iload_n 3, 1) := by decide +kernel
theorem dL_law_407 : decode cL_law 407 = .ok (.iconst 3, 1) := by decide +kernel
theorem dL_law_408 : decode cL_law 408 = .ok (.iadd, 1) := by decide +kernel
theorem dL_law_409 : decode cL_law 409 = .ok (.iaload, 1) := by decide +kernel
theorem dL_law_410 : decode cL_law 410 = .ok (.aload_n 0, 1) := by decide +kernel
theorem dL_law_411 : decode cL_law 411 = .ok (.iload_n 3, 1) := by decide +kernel
theorem dL_law_412 : decode cL_law 412 = .ok (.iconst 4, 1) := by decide +kernel
theorem dL_law_413 : decode cL_law 413 = .ok (.iadd, 1) := by decide +kernel
theorem dL_law_414 : decode cL_law 414 = .ok (.iaload, 1) := by decide +kernel
theorem dL_law_415 : decode cL_law 415 = .ok (.invokevirtual 57, 3) := by decide +kernel
theorem dL_law_418 : decode cL_law 418 = .ok (.aload_n 2, 1) := by decide +kernel
theorem dL_law_419 : decode cL_law 419 = .ok (.aload_n 0, 1) := by decide +kernel
theorem dL_law_420 : decode cL_law 420 = .ok (.iload_n 3, 1) := by decide +kernel
theorem dL_law_421 : decode cL_law 421 = .ok (.iconst 1, 1) := by decide +kernel
theorem dL_law_422 : decode cL_law 422 = .ok (.iadd, 1) := by decide +kernel
theorem dL_law_423 : decode cL_law 423 = .ok (.iaload, 1) := by decide +kernel
theorem dL_law_424 : decode cL_law 424 = .ok (.aload_n 0, 1) := by decide +kernel
theorem dL_law_425 : decode cL_law 425 = .ok (.iload_n 3, 1) := by decide +kernel
theorem dL_law_426 : decode cL_law 426 = .ok (.iconst 2, 1) := by decide +kernel
theorem dL_law_427 : decode cL_law 427 = .ok (.iadd, 1) := by decide +kernel
theorem dL_law_428 : decode cL_law 428 = .ok (.iaload, 1) := by decide +kernel
theorem dL_law_429 : decode cL_law 429 = .ok (.aload_n 0, 1) := by decide +kernel
theorem dL_law_430 : decode cL_law 430 = .ok (.iload_n 3, 1) := by decide +kernel
theorem dL_law_431 : decode cL_law 431 = .ok (.iconst 3, 1) := by decide +kernel
theorem dL_law_432 : decode cL_law 432 = .ok (.iadd, 1) := by decide +kernel
theorem dL_law_433 : decode cL_law 433 = .ok (.iaload, 1) := by decide +kernel
theorem dL_law_434 : decode cL_law 434 = .ok (.aload_n 0, 1) := by decide +kernel
theorem dL_law_435 : decode cL_law 435 = .ok (.iload_n 3, 1) := by decide +kernel
theorem dL_law_436 : decode cL_law 436 = .ok (.iconst 4, 1) := by decide +kernel
theorem dL_law_437 : decode cL_law 437 = .ok (.iadd, 1) := by decide +kernel
theorem dL_law_438 : decode cL_law 438 = .ok (.iaload, 1) := by decide +kernel
theorem dL_law_439 : decode cL_law 439 = .ok (.invokevirtual 61, 3) := by decide +kernel
theorem dL_law_442 : decode cL_law 442 = .ok (.if_icmp .eq 529, 3) := by decide +kernel
theorem dL_law_445 : decode cL_law 445 = .ok (.iconst 0, 1) := by decide +kernel
theorem dL_law_446 : decode cL_law 446 = .ok (.ireturn, 1) := by decide +kernel
theorem dL_law_447 : decode cL_law 447 = .ok (.aload_n 1, 1) := by decide +kernel
theorem dL_law_448 : decode cL_law 448 = .ok (.aload_n 0, 1) := by decide +kernel
theorem dL_law_449 : decode cL_law 449 = .ok (.iload_n 3, 1) := by decide +kernel
theorem dL_law_450 : decode cL_law 450 = .ok (.iconst 1, 1) := by decide +kernel
theorem dL_law_451 : decode cL_law 451 = .ok (.iadd, 1) := by decide +kernel
theorem dL_law_452 : decode cL_law 452 = .ok (.iaload, 1) := by decide +kernel
theorem dL_law_453 : decode cL_law 453 = .ok (.aload_n 0, 1) := by decide +kernel
theorem dL_law_454 : decode cL_law 454 = .ok (.iload_n 3, 1) := by decide +kernel
theorem dL_law_455 : decode cL_law 455 = .ok (.iconst 2, 1) := by decide +kernel
theorem dL_law_456 : decode cL_law 456 = .ok (.iadd, 1) := by decide +kernel
theorem dL_law_457 : decode cL_law 457 = .ok (.iaload, 1) := by decide +kernel
theorem dL_law_458 : decode cL_law 458 = .ok (.invokevirtual 62, 3) := by decide +kernel
theorem dL_law_461 : decode cL_law 461 = .ok (.aload_n 2, 1) := by decide +kernel
theorem dL_law_462 : decode cL_law 462 = .ok (.aload_n 0, 1) := by decide +kernel
theorem dL_law_463 : decode cL_law 463 = .ok (.iload_n 3, 1) := by decide +kernel
theorem dL_law_464 : decode cL_law 464 = .ok (.iconst 1, 1) := by decide +kernel
theorem dL_law_465 : decode cL_law 465 = .ok (.iadd, 1) := by decide +kernel
theorem dL_law_466 : decode cL_law 466 = .ok (.iaload, 1) := by decide +kernel
theorem dL_law_467 : decode cL_law 467 = .ok (.aload_n 0, 1) := by decide +kernel
theorem dL_law_468 : decode cL_law 468 = .ok (.iload_n 3, 1) := by decide +kernel
theorem dL_law_469 : decode cL_law 469 = .ok (.iconst 2, 1) := by decide +kernel
theorem dL_law_470 : decode cL_law 470 = .ok (.iadd, 1) := by decide +kernel
theorem dL_law_471 : decode cL_law 471 = .ok (.iaload, 1) := by decide +kernel
theorem dL_law_472 : decode cL_law 472 = .ok (.invokevirtual 65, 3) := by decide +kernel
theorem dL_law_475 : decode cL_law 475 = .ok (.if_icmp .eq 496, 3) := by decide +kernel
theorem dL_law_478 : decode cL_law 478 = .ok (.iconst 0, 1) := by decide +kernel
theorem dL_law_479 : decode cL_law 479 = .ok (.ireturn, 1) := by decide +kernel
theorem dL_law_480 : decode cL_law 480 = .ok (.aload_n 1, 1) := by decide +kernel
theorem dL_law_481 : decode cL_law 481 = .ok (.aload_n 0, 1) := by decide +kernel
theorem dL_law_482 : decode cL_law 482 = .ok (.iload_n 3, 1) := by decide +kernel
theorem dL_law_483 : decode cL_law 483 = .ok (.iconst 1, 1) := by decide +kernel
theorem dL_law_484 : decode cL_law 484 = .ok (.iadd, 1) := by decide +kernel
theorem dL_law_485 : decode cL_law 485 = .ok (.iaload, 1) := by decide +kernel
theorem dL_law_486 : decode cL_law 486 = .ok (.aload_n 0, 1) := by decide +kernel
theorem dL_law_487 : decode cL_law 487 = .ok (.iload_n 3, 1) := by decide +kernel
theorem dL_law_488 : decode cL_law 488 = .ok (.iconst 2, 1) := by decide +kernel
theorem dL_law_489 : decode cL_law 489 = .ok (.iadd, 1) := by decide +kernel
theorem dL_law_490 : decode cL_law 490 = .ok (.iaload, 1) := by decide +kernel
theorem dL_law_491 : decode cL_law 491 = .ok (.invokevirtual 66, 3) := by decide +kernel
theorem dL_law_494 : decode cL_law 494 = .ok (.aload_n 2, 1) := by decide +kernel
theorem dL_law_495 : decode cL_law 495 = .ok (.aload_n 0, 1) := by decide +kernel
theorem dL_law_496 : decode cL_law 496 = .ok (.iload_n 3, 1) := by decide +kernel
theorem dL_law_497 : decode cL_law 497 = .ok (.iconst 1, 1) := by decide +kernel
theorem dL_law_498 : decode cL_law 498 = .ok (.iadd, 1) := by decide +kernel
theorem dL_law_499 : decode cL_law 499 = .ok (.iaload, 1) := by decide +kernel
theorem dL_law_500 : decode cL_law 500 = .ok (.aload_n 0, 1) := by decide +kernel
theorem dL_law_501 : decode cL_law 501 = .ok (.iload_n 3, 1) := by decide +kernel
theorem dL_law_502 : decode cL_law 502 = .ok (.iconst 2, 1) := by decide +kernel
theorem dL_law_503 : decode cL_law 503 = .ok (.iadd, 1) := by decide +kernel
theorem dL_law_504 : decode cL_law 504 = .ok (.iaload, 1) := by decide +kernel
theorem dL_law_505 : decode cL_law 505 = .ok (.invokevirtual 69, 3) := by decide +kernel
theorem dL_law_508 : decode cL_law 508 = .ok (.if_icmp .eq 463, 3) := by decide +kernel
theorem dL_law_511 : decode cL_law 511 = .ok (.iconst 0, 1) := by decide +kernel
theorem dL_law_512 : decode cL_law 512 = .ok (.ireturn, 1) := by decide +kernel
theorem dL_law_513 : decode cL_law 513 = .ok (.aload_n 1, 1) := by decide +kernel
theorem dL_law_514 : decode cL_law 514 = .ok (.invokevirtual 70, 3) := by decide +kernel
theorem dL_law_517 : decode cL_law 517 = .ok (.aload_n 2, 1) := by decide +kernel
theorem dL_law_518 : decode cL_law 518 = .ok (.invokevirtual 73, 3) := by decide +kernel
theorem dL_law_521 : decode cL_law 521 = .ok (.if_icmp .eq 450, 3) := by decide +kernel
theorem dL_law_524 : decode cL_law 524 = .ok (.iconst 0, 1) := by decide +kernel
theorem dL_law_525 : decode cL_law 525 = .ok (.ireturn, 1) := by decide +kernel
theorem dL_law_526 : decode cL_law 526 = .ok (.aload_n 1, 1) := by decide +kernel
theorem dL_law_527 : decode cL_law 527 = .ok (.invokevirtual 74, 3) := by decide +kernel
theorem dL_law_530 : decode cL_law 530 = .ok (.aload_n 2, 1) := by decide +kernel
theorem dL_law_531 : decode cL_law 531 = .ok (.invokevirtual 77, 3) := by decide +kernel
theorem dL_law_534 : decode cL_law 534 = .ok (.if_icmp .eq 437, 3) := by decide +kernel
theorem dL_law_537 : decode cL_law 537 = .ok (.iconst 0, 1) := by decide +kernel
theorem dL_law_538 : decode cL_law 538 = .ok (.ireturn, 1) := by decide +kernel
theorem dL_law_539 : decode cL_law 539 = .ok (.aload_n 1, 1) := by decide +kernel
theorem dL_law_540 : decode cL_law 540 = .ok (.aload_n 0, 1) := by decide +kernel
theorem dL_law_541 : decode cL_law 541 = .ok (.iload_n 3, 1) := by decide +kernel
theorem dL_law_542 : decode cL_law 542 = .ok (.iconst 1, 1) := by decide +kernel
theorem dL_law_543 : decode cL_law 543 = .ok (.iadd, 1) := by decide +kernel
theorem dL_law_544 : decode cL_law 544 = .ok (.iaload, 1) := by decide +kernel
theorem dL_law_545 : decode cL_law 545 = .ok (.invokevirtual 78, 3) := by decide +kernel
theorem dL_law_548 : decode cL_law 548 = .ok (.aload_n 2, 1) := by decide +kernel
theorem dL_law_549 : decode cL_law 549 = .ok (.aload_n 0, 1) := by decide +kernel
theorem dL_law_550 : decode cL_law 550 = .ok (.iload_n 3, 1) := by decide +kernel
theorem dL_law_551 : decode cL_law 551 = .ok (.iconst 1, 1) := by decide +kernel
theorem dL_law_552 : decode cL_law 552 = .ok (.iadd, 1) := by decide +kernel
theorem dL_law_553 : decode cL_law 553 = .ok (.iaload, 1) := by decide +kernel
theorem dL_law_554 : decode cL_law 554 = .ok (.invokevirtual 81, 3) := by decide +kernel
theorem dL_law_557 : decode cL_law 557 = .ok (.if_icmp .eq 414, 3) := by decide +kernel
theorem dL_law_560 : decode cL_law 560 = .ok (.iconst 0, 1) := by decide +kernel
theorem dL_law_561 : decode cL_law 561 = .ok (.ireturn, 1) := by decide +kernel
theorem dL_law_562 : decode cL_law 562 = .ok (.aload_n 1, 1) := by decide +kernel
theorem dL_law_563 : decode cL_law 563 = .ok (.aload_n 0, 1) := by decide +kernel
theorem dL_law_564 : decode cL_law 564 = .ok (.iload_n 3, 1) := by decide +kernel
theorem dL_law_565 : decode cL_law 565 = .ok (.iconst 1, 1) := by decide +kernel
theorem dL_law_566 : decode cL_law 566 = .ok (.iadd, 1) := by decide +kernel
theorem dL_law_567 : decode cL_law 567 = .ok (.iaload, 1) := by decide +kernel
theorem dL_law_568 : decode cL_law 568 = .ok (.invokevirtual 82, 3) := by decide +kernel
theorem dL_law_571 : decode cL_law 571 = .ok (.aload_n 2, 1) := by decide +kernel
theorem dL_law_572 : decode cL_law 572 = .ok (.aload_n 0, 1) := by decide +kernel
theorem dL_law_573 : decode cL_law 573 = .ok (.iload_n 3, 1) := by decide +kernel
theorem dL_law_574 : decode cL_law 574 = .ok (.iconst 1, 1) := by decide +kernel
theorem dL_law_575 : decode cL_law 575 = .ok (.iadd, 1) := by decide +kernel
theorem dL_law_576 : decode cL_law 576 = .ok (.iaload, 1) := by decide +kernel
theorem dL_law_577 : decode cL_law 577 = .ok (.invokevirtual 85, 3) := by decide +kernel
theorem dL_law_580 : decode cL_law 580 = .ok (.if_icmp .eq 391, 3) := by decide +kernel
theorem dL_law_583 : decode cL_law 583 = .ok (.iconst 0, 1) := by decide +kernel
theorem dL_law_584 : decode cL_law 584 = .ok (.ireturn, 1) := by decide +kernel
theorem dL_law_585 : decode cL_law 585 = .ok (.aload_n 1, 1) := by decide +kernel
theorem dL_law_586 : decode cL_law 586 = .ok (.aload_n 0, 1) := by decide +kernel
theorem dL_law_587 : decode cL_law 587 = .ok (.iload_n 3, 1) := by decide +kernel
theorem dL_law_588 : decode cL_law 588 = .ok (.iconst 1, 1) := by decide +kernel
theorem dL_law_589 : decode cL_law 589 = .ok (.iadd, 1) := by decide +kernel
theorem dL_law_590 : decode cL_law 590 = .ok (.iaload, 1) := by decide +kernel
theorem dL_law_591 : decode cL_law 591 = .ok (.invokevirtual 86, 3) := by decide +kernel
theorem dL_law_594 : decode cL_law 594 = .ok (.aload_n 2, 1) := by decide +kernel
theorem dL_law_595 : decode cL_law 595 = .ok (.aload_n 0, 1) := by decide +kernel
theorem dL_law_596 : decode cL_law 596 = .ok (.iload_n 3, 1) := by decide +kernel
theorem dL_law_597 : decode cL_law 597 = .ok (.iconst 1, 1) := by decide +kernel
theorem dL_law_598 : decode cL_law 598 = .ok (.iadd, 1) := by decide +kernel
theorem dL_law_599 : decode cL_law 599 = .ok (.iaload, 1) := by decide +kernel
theorem dL_law_600 : decode cL_law 600 = .ok (.invokevirtual 89, 3) := by decide +kernel
theorem dL_law_603 : decode cL_law 603 = .ok (.if_icmp .eq 368, 3) := by decide +kernel
theorem dL_law_606 : decode cL_law 606 = .ok (.iconst 0, 1) := by decide +kernel
theorem dL_law_607 : decode cL_law 607 = .ok (.ireturn, 1) := by decide +kernel
theorem dL_law_608 : decode cL_law 608 = .ok (.aload_n 1, 1) := by decide +kernel
theorem dL_law_609 : decode cL_law 609 = .ok (.aload_n 0, 1) := by decide +kernel
theorem dL_law_610 : decode cL_law 610 = .ok (.iload_n 3, 1) := by decide +kernel
theorem dL_law_611 : decode cL_law 611 = .ok (.iconst 1, 1) := by decide +kernel
theorem dL_law_612 : decode cL_law 612 = .ok (.iadd, 1) := by decide +kernel
theorem dL_law_613 : decode cL_law 613 = .ok (.iaload, 1) := by decide +kernel
theorem dL_law_614 : decode cL_law 614 = .ok (.invokevirtual 90, 3) := by decide +kernel
theorem dL_law_617 : decode cL_law 617 = .ok (.aload_n 2, 1) := by decide +kernel
theorem dL_law_618 : decode cL_law 618 = .ok (.aload_n 0, 1) := by decide +kernel
theorem dL_law_619 : decode cL_law 619 = .ok (.iload_n 3, 1) := by decide +kernel
theorem dL_law_620 : decode cL_law 620 = .ok (.iconst 1, 1) := by decide +kernel
theorem dL_law_621 : decode cL_law 621 = .ok (.iadd, 1) := by decide +kernel
theorem dL_law_622 : decode cL_law 622 = .ok (.iaload, 1) := by decide +kernel
theorem dL_law_623 : decode cL_law 623 = .ok (.invokevirtual 93, 3) := by decide +kernel
theorem dL_law_626 : decode cL_law 626 = .ok (.if_icmp .eq 345, 3) := by decide +kernel
theorem dL_law_629 : decode cL_law 629 = .ok (.iconst 0, 1) := by decide +kernel
theorem dL_law_630 : decode cL_law 630 = .ok (.ireturn, 1) := by decide +kernel
theorem dL_law_631 : decode cL_law 631 = .ok (.aload_n 1, 1) := by decide +kernel
theorem dL_law_632 : decode cL_law 632 = .ok (.aload_n 0, 1) := by decide +kernel
theorem dL_law_633 : decode cL_law 633 = .ok (.iload_n 3, 1) := by decide +kernel
theorem dL_law_634 : decode cL_law 634 = .ok (.iconst 1, 1) := by decide +kernel
theorem dL_law_635 : decode cL_law 635 = .ok (.iadd, 1) := by decide +kernel
theorem dL_law_636 : decode cL_law 636 = .ok (.iaload, 1) := by decide +kernel
theorem dL_law_637 : decode cL_law 637 = .ok (.invokevirtual 94, 3) := by decide +kernel
theorem dL_law_640 : decode cL_law 640 = .ok (.aload_n 2, 1) := by decide +kernel
theorem dL_law_641 : decode cL_law 641 = .ok (.aload_n 0, 1) := by decide +kernel
theorem dL_law_642 : decode cL_law 642 = .ok (.iload_n 3, 1) := by decide +kernel
theorem dL_law_643 : decode cL_law 643 = .ok (.iconst 1, 1) := by decide +kernel
theorem dL_law_644 : decode cL_law 644 = .ok (.iadd, 1) := by decide +kernel
theorem dL_law_645 : decode cL_law 645 = .ok (.iaload, 1) := by decide +kernel
theorem dL_law_646 : decode cL_law 646 = .ok (.invokevirtual 97, 3) := by decide +kernel
theorem dL_law_649 : decode cL_law 649 = .ok (.if_icmp .eq 322, 3) := by decide +kernel
theorem dL_law_652 : decode cL_law 652 = .ok (.iconst 0, 1) := by decide +kernel
theorem dL_law_653 : decode cL_law 653 = .ok (.ireturn, 1) := by decide +kernel
theorem dL_law_654 : decode cL_law 654 = .ok (.aload_n 1, 1) := by decide +kernel
theorem dL_law_655 : decode cL_law 655 = .ok (.invokevirtual 98, 3) := by decide +kernel
theorem dL_law_658 : decode cL_law 658 = .ok (.aload_n 2, 1) := by decide +kernel
theorem dL_law_659 : decode cL_law 659 = .ok (.invokevirtual 101, 3) := by decide +kernel
theorem dL_law_662 : decode cL_law 662 = .ok (.if_icmp .eq 309, 3) := by decide +kernel
theorem dL_law_665 : decode cL_law 665 = .ok (.iconst 0, 1) := by decide +kernel
theorem dL_law_666 : decode cL_law 666 = .ok (.ireturn, 1) := by decide +kernel
theorem dL_law_667 : decode cL_law 667 = .ok (.aload_n 1, 1) := by decide +kernel
theorem dL_law_668 : decode cL_law 668 = .ok (.invokevirtual 102, 3) := by decide +kernel
theorem dL_law_671 : decode cL_law 671 = .ok (.aload_n 2, 1) := by decide +kernel
theorem dL_law_672 : decode cL_law 672 = .ok (.invokevirtual 105, 3) := by decide +kernel
theorem dL_law_675 : decode cL_law 675 = .ok (.if_icmp .eq 296, 3) := by decide +kernel
theorem dL_law_678 : decode cL_law 678 = .ok (.iconst 0, 1) := by decide +kernel
theorem dL_law_679 : decode cL_law 679 = .ok (.ireturn, 1) := by decide +kernel
theorem dL_law_680 : decode cL_law 680 = .ok (.aload_n 1, 1) := by decide +kernel
theorem dL_law_681 : decode cL_law 681 = .ok (.aload_n 0, 1) := by decide +kernel
theorem dL_law_682 : decode cL_law 682 = .ok (.iload_n 3, 1) := by decide +kernel
theorem dL_law_683 : decode cL_law 683 = .ok (.iconst 1, 1) := by decide +kernel
theorem dL_law_684 : decode cL_law 684 = .ok (.iadd, 1) := by decide +kernel
theorem dL_law_685 : decode cL_law 685 = .ok (.iaload, 1) := by decide +kernel
theorem dL_law_686 : decode cL_law 686 = .ok (.invokevirtual 106, 3) := by decide +kernel
theorem dL_law_689 : decode cL_law 689 = .ok (.aload_n 2, 1) := by decide +kernel
theorem dL_law_690 : decode cL_law 690 = .ok (.aload_n 0, 1) := by decide +kernel
theorem dL_law_691 : decode cL_law 691 = .ok (.iload_n 3, 1) := by decide +kernel
theorem dL_law_692 : decode cL_law 692 = .ok (.iconst 1, 1) := by decide +kernel
theorem dL_law_693 : decode cL_law 693 = .ok (.iadd, 1) := by decide +kernel
theorem dL_law_694 : decode cL_law 694 = .ok (.iaload, 1) := by decide +kernel
theorem dL_law_695 : decode cL_law 695 = .ok (.invokevirtual 109, 3) := by decide +kernel
theorem dL_law_698 : decode cL_law 698 = .ok (.if_icmp .eq 273, 3) := by decide +kernel
theorem dL_law_701 : decode cL_law 701 = .ok (.iconst 0, 1) := by decide +kernel
theorem dL_law_702 : decode cL_law 702 = .ok (.ireturn, 1) := by decide +kernel
theorem dL_law_703 : decode cL_law 703 = .ok (.aload_n 1, 1) := by decide +kernel
theorem dL_law_704 : decode cL_law 704 = .ok (.aload_n 0, 1) := by decide +kernel
theorem dL_law_705 : decode cL_law 705 = .ok (.iload_n 3, 1) := by decide +kernel
theorem dL_law_706 : decode cL_law 706 = .ok (.iconst 1, 1) := by decide +kernel
theorem dL_law_707 : decode cL_law 707 = .ok (.iadd, 1) := by decide +kernel
theorem dL_law_708 : decode cL_law 708 = .ok (.iaload, 1) := by decide +kernel
theorem dL_law_709 : decode cL_law 709 = .ok (.aload_n 0, 1) := by decide +kernel
theorem dL_law_710 : decode cL_law 710 = .ok (.iload_n 3, 1) := by decide +kernel
theorem dL_law_711 : decode cL_law 711 = .ok (.iconst 2, 1) := by decide +kernel
theorem dL_law_712 : decode cL_law 712 = .ok (.iadd, 1) := by decide +kernel
theorem dL_law_713 : decode cL_law 713 = .ok (.iaload, 1) := by decide +kernel
theorem dL_law_714 : decode cL_law 714 = .ok (.aload_n 0, 1) := by decide +kernel
theorem dL_law_715 : decode cL_law 715 = .ok (.iload_n 3, 1) := by decide +kernel
theorem dL_law_716 : decode cL_law 716 = .ok (.iconst 3, 1) := by decide +kernel
theorem dL_law_717 : decode cL_law 717 = .ok (.iadd, 1) := by decide +kernel
theorem dL_law_718 : decode cL_law 718 = .ok (.iaload, 1) := by decide +kernel
theorem dL_law_719 : decode cL_law 719 = .ok (.aload_n 0, 1) := by decide +kernel
theorem dL_law_720 : decode cL_law 720 = .ok (.iload_n 3, 1) := by decide +kernel
theorem dL_law_721 : decode cL_law 721 = .ok (.iconst 4, 1) := by decide +kernel
theorem dL_law_722 : decode cL_law 722 = .ok (.iadd, 1) := by decide +kernel
theorem dL_law_723 : decode cL_law 723 = .ok (.iaload, 1) := by decide +kernel
theorem dL_law_724 : decode cL_law 724 = .ok (.invokevirtual 110, 3) := by decide +kernel
theorem dL_law_727 : decode cL_law 727 = .ok (.aload_n 2, 1) := by decide +kernel
theorem dL_law_728 : decode cL_law 728 = .ok (.aload_n 0, 1) := by decide +kernel
theorem dL_law_729 : decode cL_law 729 = .ok (.iload_n 3, 1) := by decide +kernel
theorem dL_law_730 : decode cL_law 730 = .ok (.iconst 1, 1) := by decide +kernel
theorem dL_law_731 : decode cL_law 731 = .ok (.iadd, 1) := by decide +kernel
theorem dL_law_732 : decode cL_law 732 = .ok (.iaload, 1) := by decide +kernel
theorem dL_law_733 : decode cL_law 733 = .ok (.aload_n 0, 1) := by decide +kernel
theorem dL_law_734 : decode cL_law 734 = .ok (.iload_n 3, 1) := by decide +kernel
theorem dL_law_735 : decode cL_law 735 = .ok (.iconst 2, 1) := by decide +kernel
theorem dL_law_736 : decode cL_law 736 = .ok (.iadd, 1) := by decide +kernel
theorem dL_law_737 : decode cL_law 737 = .ok (.iaload, 1) := by decide +kernel
theorem dL_law_738 : decode cL_law 738 = .ok (.aload_n 0, 1) := by decide +kernel
theorem dL_law_739 : decode cL_law 739 = .ok (.iload_n 3, 1) := by decide +kernel
theorem dL_law_740 : decode cL_law 740 = .ok (.iconst 3, 1) := by decide +kernel
theorem dL_law_741 : decode cL_law 741 = .ok (.iadd, 1) := by decide +kernel
theorem dL_law_742 : decode cL_law 742 = .ok (.iaload, 1) := by decide +kernel
theorem dL_law_743 : decode cL_law 743 = .ok (.aload_n 0, 1) := by decide +kernel
theorem dL_law_744 : decode cL_law 744 = .ok (.iload_n 3, 1) := by decide +kernel
theorem dL_law_745 : decode cL_law 745 = .ok (.iconst 4, 1) := by decide +kernel
theorem dL_law_746 : decode cL_law 746 = .ok (.iadd, 1) := by decide +kernel
theorem dL_law_747 : decode cL_law 747 = .ok (.iaload, 1) := by decide +kernel
theorem dL_law_748 : decode cL_law 748 = .ok (.invokevirtual 113, 3) := by decide +kernel
theorem dL_law_751 : decode cL_law 751 = .ok (.if_icmp .eq 220, 3) := by decide +kernel
theorem dL_law_754 : decode cL_law 754 = .ok (.iconst 0, 1) := by decide +kernel
theorem dL_law_755 : decode cL_law 755 = .ok (.ireturn, 1) := by decide +kernel
theorem dL_law_756 : decode cL_law 756 = .ok (.aload_n 1, 1) := by decide +kernel
theorem dL_law_757 : decode cL_law 757 = .ok (.aload_n 0, 1) := by decide +kernel
theorem dL_law_758 : decode cL_law 758 = .ok (.iload_n 3, 1) := by decide +kernel
theorem dL_law_759 : decode cL_law 759 = .ok (.iconst 1, 1) := by decide +kernel
theorem dL_law_760 : decode cL_law 760 = .ok (.iadd, 1) := by decide +kernel
theorem dL_law_761 : decode cL_law 761 = .ok (.iaload, 1) := by decide +kernel
theorem dL_law_762 : decode cL_law 762 = .ok (.aload_n 0, 1) := by decide +kernel
theorem dL_law_763 : decode cL_law 763 = .ok (.iload_n 3, 1) := by decide +kernel
theorem dL_law_764 : decode cL_law 764 = .ok (.iconst 2, 1) := by decide +kernel
theorem dL_law_765 : decode cL_law 765 = .ok (.iadd, 1) := by decide +kernel
theorem dL_law_766 : decode cL_law 766 = .ok (.iaload, 1) := by decide +kernel
theorem dL_law_767 : decode cL_law 767 = .ok (.aload_n 0, 1) := by decide +kernel
theorem dL_law_768 : decode cL_law 768 = .ok (.iload_n 3, 1) := by decide +kernel
theorem dL_law_769 : decode cL_law 769 = .ok (.iconst 3, 1) := by decide +kernel
theorem dL_law_770 : decode cL_law 770 = .ok (.iadd, 1) := by decide +kernel
theorem dL_law_771 : decode cL_law 771 = .ok (.iaload, 1) := by decide +kernel
theorem dL_law_772 : decode cL_law 772 = .ok (.invokevirtual 114, 3) := by decide +kernel
theorem dL_law_775 : decode cL_law 775 = .ok (.aload_n 2, 1) := by decide +kernel
theorem dL_law_776 : decode cL_law 776 = .ok (.aload_n 0, 1) := by decide +kernel
theorem dL_law_777 : decode cL_law 777 = .ok (.iload_n 3, 1) := by decide +kernel
theorem dL_law_778 : decode cL_law 778 = .ok (.iconst 1, 1) := by decide +kernel
theorem dL_law_779 : decode cL_law 779 = .ok (.iadd, 1) := by decide +kernel
theorem dL_law_780 : decode cL_law 780 = .ok (.iaload, 1) := by decide +kernel
theorem dL_law_781 : decode cL_law 781 = .ok (.aload_n 0, 1) := by decide +kernel
theorem dL_law_782 : decode cL_law 782 = .ok (.iload_n 3, 1) := by decide +kernel
theorem dL_law_783 : decode cL_law 783 = .ok (.iconst 2, 1) := by decide +kernel
theorem dL_law_784 : decode cL_law 784 = .ok (.iadd, 1) := by decide +kernel
theorem dL_law_785 : decode cL_law 785 = .ok (.iaload, 1) := by decide +kernel
theorem dL_law_786 : decode cL_law 786 = .ok (.aload_n 0, 1) := by decide +kernel
theorem dL_law_787 : decode cL_law 787 = .ok (.iload_n 3, 1) := by decide +kernel
theorem dL_law_788 : decode cL_law 788 = .ok (.iconst 3, 1) := by decide +kernel
theorem dL_law_789 : decode cL_law 789 = .ok (.iadd, 1) := by decide +kernel
theorem dL_law_790 : decode cL_law 790 = .ok (.iaload, 1) := by decide +kernel
theorem dL_law_791 : decode cL_law 791 = .ok (.invokevirtual 117, 3) := by decide +kernel
theorem dL_law_794 : decode cL_law 794 = .ok (.if_icmp .eq 177, 3) := by decide +kernel
theorem dL_law_797 : decode cL_law 797 = .ok (.iconst 0, 1) := by decide +kernel
theorem dL_law_798 : decode cL_law 798 = .ok (.ireturn, 1) := by decide +kernel
theorem dL_law_799 : decode cL_law 799 = .ok (.aload_n 1, 1) := by decide +kernel
theorem dL_law_800 : decode cL_law 800 = .ok (.aload_n 0, 1) := by decide +kernel
theorem dL_law_801 : decode cL_law 801 = .ok (.iload_n 3, 1) := by decide +kernel
theorem dL_law_802 : decode cL_law 802 = .ok (.iconst 1, 1) := by decide +kernel
theorem dL_law_803 : decode cL_law 803 = .ok (.iadd, 1) := by decide +kernel
theorem dL_law_804 : decode cL_law 804 = .ok (.iaload, 1) := by decide +kernel
theorem dL_law_805 : decode cL_law 805 = .ok (.aload_n 0, 1) := by decide +kernel
theorem dL_law_806 : decode cL_law 806 = .ok (.iload_n 3, 1) := by decide +kernel
theorem dL_law_807 : decode cL_law 807 = .ok (.iconst 2, 1) := by decide +kernel
theorem dL_law_808 : decode cL_law 808 = .ok (.iadd, 1) := by decide +kernel
theorem dL_law_809 : decode cL_law 809 = .ok (.iaload, 1) := by decide +kernel
theorem dL_law_810 : decode cL_law 810 = .ok (.i2l, 1) := by decide +kernel
theorem dL_law_811 : decode cL_law 811 = .ok (.bipush 32, 2) := by decide +kernel
theorem dL_law_813 : decode cL_law 813 = .ok (.lshl, 1) := by decide +kernel
theorem dL_law_814 : decode cL_law 814 = .ok (.aload_n 0, 1) := by decide +kernel
theorem dL_law_815 : decode cL_law 815 = .ok (.iload_n 3, 1) := by decide +kernel
theorem dL_law_816 : decode cL_law 816 = .ok (.iconst 3, 1) := by decide +kernel
theorem dL_law_817 : decode cL_law 817 = .ok (.iadd, 1) := by decide +kernel
theorem dL_law_818 : decode cL_law 818 = .ok (.iaload, 1) := by decide +kernel
theorem dL_law_819 : decode cL_law 819 = .ok (.i2l, 1) := by decide +kernel
theorem dL_law_820 : decode cL_law 820 = .ok (.ldc2_w 118, 3) := by decide +kernel
theorem dL_law_823 : decode cL_law 823 = .ok (.land, 1) := by decide +kernel
theorem dL_law_824 : decode cL_law 824 = .ok (.lor, 1) := by decide +kernel
theorem dL_law_825 : decode cL_law 825 = .ok (.invokevirtual 120, 3) := by decide +kernel
theorem dL_law_828 : decode cL_law 828 = .ok (.aload_n 2, 1) := by decide +kernel
theorem dL_law_829 : decode cL_law 829 = .ok (.aload_n 0, 1) := by decide +kernel
theorem dL_law_830 : decode cL_law 830 = .ok (.iload_n 3, 1) := by decide +kernel
theorem dL_law_831 : decode cL_law 831 = .ok (.iconst 1, 1) := by decide +kernel
theorem dL_law_832 : decode cL_law 832 = .ok (.iadd, 1) := by decide +kernel
theorem dL_law_833 : decode cL_law 833 = .ok (.iaload, 1) := by decide +kernel
theorem dL_law_834 : decode cL_law 834 = .ok (.aload_n 0, 1) := by decide +kernel
theorem dL_law_835 : decode cL_law 835 = .ok (.iload_n 3, 1) := by decide +kernel
theorem dL_law_836 : decode cL_law 836 = .ok (.iconst 2, 1) := by decide +kernel
theorem dL_law_837 : decode cL_law 837 = .ok (.iadd, 1) := by decide +kernel
theorem dL_law_838 : decode cL_law 838 = .ok (.iaload, 1) := by decide +kernel
theorem dL_law_839 : decode cL_law 839 = .ok (.i2l, 1) := by decide +kernel
theorem dL_law_840 : decode cL_law 840 = .ok (.bipush 32, 2) := by decide +kernel
theorem dL_law_842 : decode cL_law 842 = .ok (.lshl, 1) := by decide +kernel
theorem dL_law_843 : decode cL_law 843 = .ok (.aload_n 0, 1) := by decide +kernel
theorem dL_law_844 : decode cL_law 844 = .ok (.iload_n 3, 1) := by decide +kernel
theorem dL_law_845 : decode cL_law 845 = .ok (.iconst 3, 1) := by decide +kernel
theorem dL_law_846 : decode cL_law 846 = .ok (.iadd, 1) := by decide +kernel
theorem dL_law_847 : decode cL_law 847 = .ok (.iaload, 1) := by decide +kernel
theorem dL_law_848 : decode cL_law 848 = .ok (.i2l, 1) := by decide +kernel
theorem dL_law_849 : decode cL_law 849 = .ok (.ldc2_w 118, 3) := by decide +kernel
theorem dL_law_852 : decode cL_law 852 = .ok (.land, 1) := by decide +kernel
theorem dL_law_853 : decode cL_law 853 = .ok (.lor, 1) := by decide +kernel
theorem dL_law_854 : decode cL_law 854 = .ok (.invokevirtual 124, 3) := by decide +kernel
theorem dL_law_857 : decode cL_law 857 = .ok (.if_icmp .eq 114, 3) := by decide +kernel
theorem dL_law_860 : decode cL_law 860 = .ok (.iconst 0, 1) := by decide +kernel
theorem dL_law_861 : decode cL_law 861 = .ok (.ireturn, 1) := by decide +kernel
theorem dL_law_862 : decode cL_law 862 = .ok (.aload_n 1, 1) := by decide +kernel
theorem dL_law_863 : decode cL_law 863 = .ok (.aload_n 0, 1) := by decide +kernel
theorem dL_law_864 : decode cL_law 864 = .ok (.iload_n 3, 1) := by decide +kernel
theorem dL_law_865 : decode cL_law 865 = .ok (.iconst 1, 1) := by decide +kernel
theorem dL_law_866 : decode cL_law 866 = .ok (.iadd, 1) := by decide +kernel
theorem dL_law_867 : decode cL_law 867 = .ok (.iaload, 1) := by decide +kernel
theorem dL_law_868 : decode cL_law 868 = .ok (.i2l, 1) := by decide +kernel
theorem dL_law_869 : decode cL_law 869 = .ok (.bipush 32, 2) := by decide +kernel
theorem dL_law_871 : decode cL_law 871 = .ok (.lshl, 1) := by decide +kernel
theorem dL_law_872 : decode cL_law 872 = .ok (.aload_n 0, 1) := by decide +kernel
theorem dL_law_873 : decode cL_law 873 = .ok (.iload_n 3, 1) := by decide +kernel
theorem dL_law_874 : decode cL_law 874 = .ok (.iconst 2, 1) := by decide +kernel
theorem dL_law_875 : decode cL_law 875 = .ok (.iadd, 1) := by decide +kernel
theorem dL_law_876 : decode cL_law 876 = .ok (.iaload, 1) := by decide +kernel
theorem dL_law_877 : decode cL_law 877 = .ok (.i2l, 1) := by decide +kernel
theorem dL_law_878 : decode cL_law 878 = .ok (.ldc2_w 118, 3) := by decide +kernel
theorem dL_law_881 : decode cL_law 881 = .ok (.land, 1) := by decide +kernel
theorem dL_law_882 : decode cL_law 882 = .ok (.lor, 1) := by decide +kernel
theorem dL_law_883 : decode cL_law 883 = .ok (.aload_n 0, 1) := by decide +kernel
theorem dL_law_884 : decode cL_law 884 = .ok (.iload_n 3, 1) := by decide +kernel
theorem dL_law_885 : decode cL_law 885 = .ok (.iconst 3, 1) := by decide +kernel
theorem dL_law_886 : decode cL_law 886 = .ok (.iadd, 1) := by decide +kernel
theorem dL_law_887 : decode cL_law 887 = .ok (.iaload, 1) := by decide +kernel
theorem dL_law_888 : decode cL_law 888 = .ok (.invokevirtual 125, 3) := by decide +kernel
theorem dL_law_891 : decode cL_law 891 = .ok (.aload_n 2, 1) := by decide +kernel
theorem dL_law_892 : decode cL_law 892 = .ok (.aload_n 0, 1) := by decide +kernel
theorem dL_law_893 : decode cL_law 893 = .ok (.iload_n 3, 1) := by decide +kernel
theorem dL_law_894 : decode cL_law 894 = .ok (.iconst 1, 1) := by decide +kernel
theorem dL_law_895 : decode cL_law 895 = .ok (.iadd, 1) := by decide +kernel
theorem dL_law_896 : decode cL_law 896 = .ok (.iaload, 1) := by decide +kernel
theorem dL_law_897 : decode cL_law 897 = .ok (.i2l, 1) := by decide +kernel
theorem dL_law_898 : decode cL_law 898 = .ok (.bipush 32, 2) := by decide +kernel
theorem dL_law_900 : decode cL_law 900 = .ok (.lshl, 1) := by decide +kernel
theorem dL_law_901 : decode cL_law 901 = .ok (.aload_n 0, 1) := by decide +kernel
theorem dL_law_902 : decode cL_law 902 = .ok (.iload_n 3, 1) := by decide +kernel
theorem dL_law_903 : decode cL_law 903 = .ok (.iconst 2, 1) := by decide +kernel
theorem dL_law_904 : decode cL_law 904 = .ok (.iadd, 1) := by decide +kernel
theorem dL_law_905 : decode cL_law 905 = .ok (.iaload, 1) := by decide +kernel
theorem dL_law_906 : decode cL_law 906 = .ok (.i2l, 1) := by decide +kernel
theorem dL_law_907 : decode cL_law 907 = .ok (.ldc2_w 118, 3) := by decide +kernel
theorem dL_law_910 : decode cL_law 910 = .ok (.land, 1) := by decide +kernel
theorem dL_law_911 : decode cL_law 911 = .ok (.lor, 1) := by decide +kernel
theorem dL_law_912 : decode cL_law 912 = .ok (.aload_n 0, 1) := by decide +kernel
theorem dL_law_913 : decode cL_law 913 = .ok (.iload_n 3, 1) := by decide +kernel
theorem dL_law_914 : decode cL_law 914 = .ok (.iconst 3, 1) := by decide +kernel
theorem dL_law_915 : decode cL_law 915 = .ok (.iadd, 1) := by decide +kernel
theorem dL_law_916 : decode cL_law 916 = .ok (.iaload, 1) := by decide +kernel
theorem dL_law_917 : decode cL_law 917 = .ok (.invokevirtual 129, 3) := by decide +kernel
theorem dL_law_920 : decode cL_law 920 = .ok (.if_icmp .eq 51, 3) := by decide +kernel
theorem dL_law_923 : decode cL_law 923 = .ok (.iconst 0, 1) := by decide +kernel
theorem dL_law_924 : decode cL_law 924 = .ok (.ireturn, 1) := by decide +kernel
theorem dL_law_925 : decode cL_law 925 = .ok (.aload_n 1, 1) := by decide +kernel
theorem dL_law_926 : decode cL_law 926 = .ok (.aload_n 0, 1) := by decide +kernel
theorem dL_law_927 : decode cL_law 927 = .ok (.iload_n 3, 1) := by decide +kernel
theorem dL_law_928 : decode cL_law 928 = .ok (.iconst 1, 1) := by decide +kernel
theorem dL_law_929 : decode cL_law 929 = .ok (.iadd, 1) := by decide +kernel
theorem dL_law_930 : decode cL_law 930 = .ok (.iaload, 1) := by decide +kernel
theorem dL_law_931 : decode cL_law 931 = .ok (.invokevirtual 130, 3) := by decide +kernel
theorem dL_law_934 : decode cL_law 934 = .ok (.aload_n 2, 1) := by decide +kernel
theorem dL_law_935 : decode cL_law 935 = .ok (.aload_n 0, 1) := by decide +kernel
theorem dL_law_936 : decode cL_law 936 = .ok (.iload_n 3, 1) := by decide +kernel
theorem dL_law_937 : decode cL_law 937 = .ok (.iconst 1, 1) := by decide +kernel
theorem dL_law_938 : decode cL_law 938 = .ok (.iadd, 1) := by decide +kernel
theorem dL_law_939 : decode cL_law 939 = .ok (.iaload, 1) := by decide +kernel
theorem dL_law_940 : decode cL_law 940 = .ok (.invokevirtual 133, 3) := by decide +kernel
theorem dL_law_943 : decode cL_law 943 = .ok (.if_icmp .eq 28, 3) := by decide +kernel
theorem dL_law_946 : decode cL_law 946 = .ok (.iconst 0, 1) := by decide +kernel
theorem dL_law_947 : decode cL_law 947 = .ok (.ireturn, 1) := by decide +kernel
theorem dL_law_948 : decode cL_law 948 = .ok (.aload_n 1, 1) := by decide +kernel
theorem dL_law_949 : decode cL_law 949 = .ok (.aload_n 0, 1) := by decide +kernel
theorem dL_law_950 : decode cL_law 950 = .ok (.iload_n 3, 1) := by decide +kernel
theorem dL_law_951 : decode cL_law 951 = .ok (.iconst 1, 1) := by decide +kernel
theorem dL_law_952 : decode cL_law 952 = .ok (.iadd, 1) := by decide +kernel
theorem dL_law_953 : decode cL_law 953 = .ok (.iaload, 1) := by decide +kernel
theorem dL_law_954 : decode cL_law 954 = .ok (.invokevirtual 134, 3) := by decide +kernel
theorem dL_law_957 : decode cL_law 957 = .ok (.aload_n 2, 1) := by decide +kernel
theorem dL_law_958 : decode cL_law 958 = .ok (.aload_n 0, 1) := by decide +kernel
theorem dL_law_959 : decode cL_law 959 = .ok (.iload_n 3, 1) := by decide +kernel
theorem dL_law_960 : decode cL_law 960 = .ok (.iconst 1, 1) := by decide +kernel
theorem dL_law_961 : decode cL_law 961 = .ok (.iadd, 1) := by decide +kernel
theorem dL_law_962 : decode cL_law 962 = .ok (.iaload, 1) := by decide +kernel
theorem dL_law_963 : decode cL_law 963 = .ok (.invokevirtual 137, 3) := by decide +kernel
theorem dL_law_966 : decode cL_law 966 = .ok (.if_icmp .eq 5, 3) := by decide +kernel
theorem dL_law_969 : decode cL_law 969 = .ok (.iconst 0, 1) := by decide +kernel
theorem dL_law_970 : decode cL_law 970 = .ok (.ireturn, 1) := by decide +kernel
theorem dL_law_971 : decode cL_law 971 = .ok (.iinc 3 5, 3) := by decide +kernel
theorem dL_law_974 : decode cL_law 974 = .ok (.goto (-956), 3) := by decide +kernel
theorem dL_law_977 : decode cL_law 977 = .ok (.iconst 1, 1) := by decide +kernel
theorem dL_law_978 : decode cL_law 978 = .ok (.ireturn, 1) := by decide +kernel
abbrev x_L_law : Cx := (8, cL_law, false, some (.boolean))
set_option maxRecDepth 10000 in
theorem g_L_law_0 {E : Ev} {d : Nat} {G : Hp} {Q : Po} {x0 : Nat} (h : (qCV E d i_X6_init [.ref ((nxA E G))] (psh G (cO 6 (fDf 6)) (fSz 6)) fun G1 => (qCV E d i_X7_init [.ref ((nxA E G1))] (psh G1 (cO 7 (fDf 7)) (fSz 7)) fun G2 => Xr E d x_L_law 18 [some (.ref x0), some (.ref ((nxA E G))), some (.ref ((nxA E G1))), some (.int ((iv 0)))] [] G2 Q))) : Xr E d x_L_law 0 [some (.ref x0), none, none, none] [] G Q := by
  refine r_new dL_law_0 rfl (by decide) ?_
  refine r_dup dL_law_3 rfl ?_
  refine r_cV dL_law_4 rfl (invI_eq rfl rfl rfl rfl rfl rfl ⟨rfl, Nat.le_of_ble_eq_true rfl⟩) (qCV_imp (fun G1 h => ?_) h)
  refine r_astore_n dL_law_7 rfl ?_
  refine r_new dL_law_8 rfl (by decide) ?_
  refine r_dup dL_law_11 rfl ?_
  refine r_cV dL_law_12 rfl (invI_eq rfl rfl rfl rfl rfl rfl ⟨rfl, Nat.le_of_ble_eq_true rfl⟩) (qCV_imp (fun G2 h => ?_) h)
  refine r_astore_n dL_law_15 rfl ?_
  refine r_iconst dL_law_16 ?_
  refine r_istore_n dL_law_17 rfl ?_
  exact h
set_option maxRecDepth 10000 in
theorem g_L_law_18 {E : Ev} {d : Nat} {G : Hp} {Q : Po} {x0 : Nat} {x1 : Nat} {x2 : Nat} {x3 : Int32} (h : (qL 8 E G x0 fun v1 => (if (v1 - (iv 5)) < x3 then Q (some (.int (iv 1))) G else (qIA 8 E G x0 x3 fun v2 => (if ((v2 &&& (iv 31))).toInt = 0 then (qIA 8 E G x0 (x3 + (iv 1)) fun v3 => (rcv E G x1 6 = true ∧ (qCI E d i_X6_append [.ref x1, .int v3] G fun v5 G4 => (qIA 8 E G4 x0 (x3 + (iv 1)) fun v6 => (rcv E G4 x2 7 = true ∧ (qCI E d i_X7_append [.ref x2, .int v6] G4 fun v8 G7 => (if v5 = v8 then Xr E d x_L_law 18 [some (.ref x0), some (.ref x1), some (.ref x2), some (.int ((x3 + (iv 5))))] [] G7 Q else Q (some (.int (iv 0))) G7))))))) else (if ((v2 &&& (iv 31))).toInt = 1 then (rcv E G x1 6 = true ∧ (qCI E d i_X6_clearText [.ref x1] G fun v10 G9 => (rcv E G9 x2 7 = true ∧ (qCI E d i_X7_clearText [.ref x2] G9 fun v12 G11 => (if v10 = v12 then Xr E d x_L_law 18 [some (.ref x0), some (.ref x1), some (.ref x2), some (.int ((x3 + (iv 5))))] [] G11 Q else Q (some (.int (iv 0))) G11))))) else (if ((v2 &&& (iv 31))).toInt = 2 then (rcv E G x1 6 = true ∧ (qCI E d i_X6_errorPosition [.ref x1] G fun v14 G13 => (rcv E G13 x2 7 = true ∧ (qCI E d i_X7_errorPosition [.ref x2] G13 fun v16 G15 => (if v14 = v16 then Xr E d x_L_law 18 [some (.ref x0), some (.ref x1), some (.ref x2), some (.int ((x3 + (iv 5))))] [] G15 Q else Q (some (.int (iv 0))) G15))))) else (if ((v2 &&& (iv 31))).toInt = 3 then (rcv E G x1 6 = true ∧ (qCI E d i_X6_load [.ref x1] G fun v18 G17 => (rcv E G17 x2 7 = true ∧ (qCI E d i_X7_load [.ref x2] G17 fun v20 G19 => (if v18 = v20 then Xr E d x_L_law 18 [some (.ref x0), some (.ref x1), some (.ref x2), some (.int ((x3 + (iv 5))))] [] G19 Q else Q (some (.int (iv 0))) G19))))) else (if ((v2 &&& (iv 31))).toInt = 4 then (qIA 8 E G x0 (x3 + (iv 1)) fun v21 => (rcv E G x1 6 = true ∧ (qCI E d i_X6_bodyLength [.ref x1, .int v21] G fun v23 G22 => (qIA 8 E G22 x0 (x3 + (iv 1)) fun v24 => (rcv E G22 x2 7 = true ∧ (qCI E d i_X7_bodyLength [.ref x2, .int v24] G22 fun v26 G25 => (if v23 = v26 then Xr E d x_L_law 18 [some (.ref x0), some (.ref x1), some (.ref x2), some (.int ((x3 + (iv 5))))] [] G25 Q else Q (some (.int (iv 0))) G25))))))) else (if ((v2 &&& (iv 31))).toInt = 5 then (qIA 8 E G x0 (x3 + (iv 1)) fun v27 => (qIA 8 E G x0 (x3 + (iv 2)) fun v28 => (rcv E G x1 6 = true ∧ (qCI E d i_X6_bodySymbol [.ref x1, .int v27, .int v28] G fun v30 G29 => (qIA 8 E G29 x0 (x3 + (iv 1)) fun v31 => (qIA 8 E G29 x0 (x3 + (iv 2)) fun v32 => (rcv E G29 x2 7 = true ∧ (qCI E d i_X7_bodySymbol [.ref x2, .int v31, .int v32] G29 fun v34 G33 => (if v30 = v34 then Xr E d x_L_law 18 [some (.ref x0), some (.ref x1), some (.ref x2), some (.int ((x3 + (iv 5))))] [] G33 Q else Q (some (.int (iv 0))) G33))))))))) else (if ((v2 &&& (iv 31))).toInt = 6 then (qIA 8 E G x0 (x3 + (iv 1)) fun v35 => (qIA 8 E G x0 (x3 + (iv 2)) fun v36 => (qIA 8 E G x0 (x3 + (iv 3)) fun v37 => (rcv E G x1 6 = true ∧ (qCI E d i_X6_transition [.ref x1, .int v35, .int v36, .int v37] G fun v39 G38 => (qIA 8 E G38 x0 (x3 + (iv 1)) fun v40 => (qIA 8 E G38 x0 (x3 + (iv 2)) fun v41 => (qIA 8 E G38 x0 (x3 + (iv 3)) fun v42 => (rcv E G38 x2 7 = true ∧ (qCI E d i_X7_transition [.ref x2, .int v40, .int v41, .int v42] G38 fun v44 G43 => (if v39 = v44 then Xr E d x_L_law 18 [some (.ref x0), some (.ref x1), some (.ref x2), some (.int ((x3 + (iv 5))))] [] G43 Q else Q (some (.int (iv 0))) G43))))))))))) else (if ((v2 &&& (iv 31))).toInt = 7 then (qIA 8 E G x0 (x3 + (iv 1)) fun v45 => (qIA 8 E G x0 (x3 + (iv 2)) fun v46 => (rcv E G x1 6 = true ∧ (qCI E d i_X6_hasTransition [.ref x1, .int v45, .int v46] G fun v48 G47 => (qIA 8 E G47 x0 (x3 + (iv 1)) fun v49 => (qIA 8 E G47 x0 (x3 + (iv 2)) fun v50 => (rcv E G47 x2 7 = true ∧ (qCI E d i_X7_hasTransition [.ref x2, .int v49, .int v50] G47 fun v52 G51 => (if v48 = v52 then Xr E d x_L_law 18 [some (.ref x0), some (.ref x1), some (.ref x2), some (.int ((x3 + (iv 5))))] [] G51 Q else Q (some (.int (iv 0))) G51))))))))) else (if ((v2 &&& (iv 31))).toInt = 8 then (rcv E G x1 6 = true ∧ (qCI E d i_X6_reachable [.ref x1] G fun v54 G53 => (rcv E G53 x2 7 = true ∧ (qCI E d i_X7_reachable [.ref x2] G53 fun v56 G55 => (if v54 = v56 then Xr E d x_L_law 18 [some (.ref x0), some (.ref x1), some (.ref x2), some (.int ((x3 + (iv 5))))] [] G55 Q else Q (some (.int (iv 0))) G55))))) else (if ((v2 &&& (iv 31))).toInt = 9 then (qIA 8 E G x0 (x3 + (iv 1)) fun v57 => (rcv E G x1 6 = true ∧ (qCI E d i_X6_setBody [.ref x1, .int v57] G fun v59 G58 => (qIA 8 E G58 x0 (x3 + (iv 1)) fun v60 => (rcv E G58 x2 7 = true ∧ (qCI E d i_X7_setBody [.ref x2, .int v60] G58 fun v62 G61 => (if v59 = v62 then Xr E d x_L_law 18 [some (.ref x0), some (.ref x1), some (.ref x2), some (.int ((x3 + (iv 5))))] [] G61 Q else Q (some (.int (iv 0))) G61))))))) else (if ((v2 &&& (iv 31))).toInt = 10 then (qIA 8 E G x0 (x3 + (iv 1)) fun v63 => (qIA 8 E G x0 (x3 + (iv 2)) fun v64 => (qIA 8 E G x0 (x3 + (iv 3)) fun v65 => (qIA 8 E G x0 (x3 + (iv 4)) fun v66 => (rcv E G x1 6 = true ∧ (qCI E d i_X6_setTransition [.ref x1, .int v63, .int v64, .int v65, .int v66] G fun v68 G67 => (qIA 8 E G67 x0 (x3 + (iv 1)) fun v69 => (qIA 8 E G67 x0 (x3 + (iv 2)) fun v70 => (qIA 8 E G67 x0 (x3 + (iv 3)) fun v71 => (qIA 8 E G67 x0 (x3 + (iv 4)) fun v72 => (rcv E G67 x2 7 = true ∧ (qCI E d i_X7_setTransition [.ref x2, .int v69, .int v70, .int v71, .int v72] G67 fun v74 G73 => (if v68 = v74 then Xr E d x_L_law 18 [some (.ref x0), some (.ref x1), some (.ref x2), some (.int ((x3 + (iv 5))))] [] G73 Q else Q (some (.int (iv 0))) G73))))))))))))) else (if ((v2 &&& (iv 31))).toInt = 11 then (qIA 8 E G x0 (x3 + (iv 1)) fun v75 => (qIA 8 E G x0 (x3 + (iv 2)) fun v76 => (rcv E G x1 6 = true ∧ (qCI E d i_X6_removeTransition [.ref x1, .int v75, .int v76] G fun v78 G77 => (qIA 8 E G77 x0 (x3 + (iv 1)) fun v79 => (qIA 8 E G77 x0 (x3 + (iv 2)) fun v80 => (rcv E G77 x2 7 = true ∧ (qCI E d i_X7_removeTransition [.ref x2, .int v79, .int v80] G77 fun v82 G81 => (if v78 = v82 then Xr E d x_L_law 18 [some (.ref x0), some (.ref x1), some (.ref x2), some (.int ((x3 + (iv 5))))] [] G81 Q else Q (some (.int (iv 0))) G81))))))))) else (if ((v2 &&& (iv 31))).toInt = 12 then (qIA 8 E G x0 (x3 + (iv 1)) fun v83 => (qIA 8 E G x0 (x3 + (iv 2)) fun v84 => (rcv E G x1 6 = true ∧ (qCI E d i_X6_inline [.ref x1, .int v83, .int v84] G fun v86 G85 => (qIA 8 E G85 x0 (x3 + (iv 1)) fun v87 => (qIA 8 E G85 x0 (x3 + (iv 2)) fun v88 => (rcv E G85 x2 7 = true ∧ (qCI E d i_X7_inline [.ref x2, .int v87, .int v88] G85 fun v90 G89 => (if v86 = v90 then Xr E d x_L_law 18 [some (.ref x0), some (.ref x1), some (.ref x2), some (.int ((x3 + (iv 5))))] [] G89 Q else Q (some (.int (iv 0))) G89))))))))) else (if ((v2 &&& (iv 31))).toInt = 13 then (rcv E G x1 6 = true ∧ (qCI E d i_X6_exchange [.ref x1] G fun v92 G91 => (rcv E G91 x2 7 = true ∧ (qCI E d i_X7_exchange [.ref x2] G91 fun v94 G93 => (if v92 = v94 then Xr E d x_L_law 18 [some (.ref x0), some (.ref x1), some (.ref x2), some (.int ((x3 + (iv 5))))] [] G93 Q else Q (some (.int (iv 0))) G93))))) else (if ((v2 &&& (iv 31))).toInt = 14 then (rcv E G x1 6 = true ∧ (qCI E d i_X6_undo [.ref x1] G fun v96 G95 => (rcv E G95 x2 7 = true ∧ (qCI E d i_X7_undo [.ref x2] G95 fun v98 G97 => (if v96 = v98 then Xr E d x_L_law 18 [some (.ref x0), some (.ref x1), some (.ref x2), some (.int ((x3 + (iv 5))))] [] G97 Q else Q (some (.int (iv 0))) G97))))) else (if ((v2 &&& (iv 31))).toInt = 15 then (qIA 8 E G x0 (x3 + (iv 1)) fun v99 => (rcv E G x1 6 = true ∧ (qCI E d i_X6_labelAt [.ref x1, .int v99] G fun v101 G100 => (qIA 8 E G100 x0 (x3 + (iv 1)) fun v102 => (rcv E G100 x2 7 = true ∧ (qCI E d i_X7_labelAt [.ref x2, .int v102] G100 fun v104 G103 => (if v101 = v104 then Xr E d x_L_law 18 [some (.ref x0), some (.ref x1), some (.ref x2), some (.int ((x3 + (iv 5))))] [] G103 Q else Q (some (.int (iv 0))) G103))))))) else (if ((v2 &&& (iv 31))).toInt = 16 then (qIA 8 E G x0 (x3 + (iv 1)) fun v105 => (rcv E G x1 6 = true ∧ (qCI E d i_X6_expansionsAt [.ref x1, .int v105] G fun v107 G106 => (qIA 8 E G106 x0 (x3 + (iv 1)) fun v108 => (rcv E G106 x2 7 = true ∧ (qCI E d i_X7_expansionsAt [.ref x2, .int v108] G106 fun v110 G109 => (if v107 = v110 then Xr E d x_L_law 18 [some (.ref x0), some (.ref x1), some (.ref x2), some (.int ((x3 + (iv 5))))] [] G109 Q else Q (some (.int (iv 0))) G109))))))) else (if ((v2 &&& (iv 31))).toInt = 17 then (qIA 8 E G x0 (x3 + (iv 1)) fun v111 => (rcv E G x1 6 = true ∧ (qCI E d i_X6_stateAt [.ref x1, .int v111] G fun v113 G112 => (qIA 8 E G112 x0 (x3 + (iv 1)) fun v114 => (rcv E G112 x2 7 = true ∧ (qCI E d i_X7_stateAt [.ref x2, .int v114] G112 fun v116 G115 => (if v113 = v116 then Xr E d x_L_law 18 [some (.ref x0), some (.ref x1), some (.ref x2), some (.int ((x3 + (iv 5))))] [] G115 Q else Q (some (.int (iv 0))) G115))))))) else (if ((v2 &&& (iv 31))).toInt = 18 then (qIA 8 E G x0 (x3 + (iv 1)) fun v117 => (rcv E G x1 6 = true ∧ (qCI E d i_X6_nodesAtDepth [.ref x1, .int v117] G fun v119 G118 => (qIA 8 E G118 x0 (x3 + (iv 1)) fun v120 => (rcv E G118 x2 7 = true ∧ (qCI E d i_X7_nodesAtDepth [.ref x2, .int v120] G118 fun v122 G121 => (if v119 = v122 then Xr E d x_L_law 18 [some (.ref x0), some (.ref x1), some (.ref x2), some (.int ((x3 + (iv 5))))] [] G121 Q else Q (some (.int (iv 0))) G121))))))) else (if ((v2 &&& (iv 31))).toInt = 19 then (qIA 8 E G x0 (x3 + (iv 1)) fun v123 => (rcv E G x1 6 = true ∧ (qCI E d i_X6_wrongBranch [.ref x1, .int v123] G fun v125 G124 => (qIA 8 E G124 x0 (x3 + (iv 1)) fun v126 => (rcv E G124 x2 7 = true ∧ (qCI E d i_X7_wrongBranch [.ref x2, .int v126] G124 fun v128 G127 => (if v125 = v128 then Xr E d x_L_law 18 [some (.ref x0), some (.ref x1), some (.ref x2), some (.int ((x3 + (iv 5))))] [] G127 Q else Q (some (.int (iv 0))) G127))))))) else (if ((v2 &&& (iv 31))).toInt = 20 then (rcv E G x1 6 = true ∧ (qCI E d i_X6_accepts [.ref x1] G fun v130 G129 => (rcv E G129 x2 7 = true ∧ (qCI E d i_X7_accepts [.ref x2] G129 fun v132 G131 => (if v130 = v132 then Xr E d x_L_law 18 [some (.ref x0), some (.ref x1), some (.ref x2), some (.int ((x3 + (iv 5))))] [] G131 Q else Q (some (.int (iv 0))) G131))))) else (if ((v2 &&& (iv 31))).toInt = 21 then (rcv E G x1 6 = true ∧ (qCI E d i_X6_rounds [.ref x1] G fun v134 G133 => (rcv E G133 x2 7 = true ∧ (qCI E d i_X7_rounds [.ref x2] G133 fun v136 G135 => (if v134 = v136 then Xr E d x_L_law 18 [some (.ref x0), some (.ref x1), some (.ref x2), some (.int ((x3 + (iv 5))))] [] G135 Q else Q (some (.int (iv 0))) G135))))) else (if ((v2 &&& (iv 31))).toInt = 22 then (qIA 8 E G x0 (x3 + (iv 1)) fun v137 => (rcv E G x1 6 = true ∧ (qCI E d i_X6_typingCount [.ref x1, .int v137] G fun v139 G138 => (qIA 8 E G138 x0 (x3 + (iv 1)) fun v140 => (rcv E G138 x2 7 = true ∧ (qCI E d i_X7_typingCount [.ref x2, .int v140] G138 fun v142 G141 => (if v139 = v142 then Xr E d x_L_law 18 [some (.ref x0), some (.ref x1), some (.ref x2), some (.int ((x3 + (iv 5))))] [] G141 Q else Q (some (.int (iv 0))) G141))))))) else (if ((v2 &&& (iv 31))).toInt = 23 then (qIA 8 E G x0 (x3 + (iv 1)) fun v143 => (qIA 8 E G x0 (x3 + (iv 2)) fun v144 => (qIA 8 E G x0 (x3 + (iv 3)) fun v145 => (qIA 8 E G x0 (x3 + (iv 4)) fun v146 => (rcv E G x1 6 = true ∧ (qCI E d i_X6_isValid [.ref x1, .int v143, .int v144, .int v145, .int v146] G fun v148 G147 => (qIA 8 E G147 x0 (x3 + (iv 1)) fun v149 => (qIA 8 E G147 x0 (x3 + (iv 2)) fun v150 => (qIA 8 E G147 x0 (x3 + (iv 3)) fun v151 => (qIA 8 E G147 x0 (x3 + (iv 4)) fun v152 => (rcv E G147 x2 7 = true ∧ (qCI E d i_X7_isValid [.ref x2, .int v149, .int v150, .int v151, .int v152] G147 fun v154 G153 => (if v148 = v154 then Xr E d x_L_law 18 [some (.ref x0), some (.ref x1), some (.ref x2), some (.int ((x3 + (iv 5))))] [] G153 Q else Q (some (.int (iv 0))) G153))))))))))))) else (if ((v2 &&& (iv 31))).toInt = 24 then (qIA 8 E G x0 (x3 + (iv 1)) fun v155 => (qIA 8 E G x0 (x3 + (iv 2)) fun v156 => (qIA 8 E G x0 (x3 + (iv 3)) fun v157 => (rcv E G x1 6 = true ∧ (qCI E d i_X6_demand [.ref x1, .int v155, .int v156, .int v157] G fun v159 G158 => (qIA 8 E G158 x0 (x3 + (iv 1)) fun v160 => (qIA 8 E G158 x0 (x3 + (iv 2)) fun v161 => (qIA 8 E G158 x0 (x3 + (iv 3)) fun v162 => (rcv E G158 x2 7 = true ∧ (qCI E d i_X7_demand [.ref x2, .int v160, .int v161, .int v162] G158 fun v164 G163 => (if v159 = v164 then Xr E d x_L_law 18 [some (.ref x0), some (.ref x1), some (.ref x2), some (.int ((x3 + (iv 5))))] [] G163 Q else Q (some (.int (iv 0))) G163))))))))))) else (if ((v2 &&& (iv 31))).toInt = 25 then (qIA 8 E G x0 (x3 + (iv 1)) fun v165 => (qIA 8 E G x0 (x3 + (iv 2)) fun v166 => (qIA 8 E G x0 (x3 + (iv 3)) fun v167 => (rcv E G x1 6 = true ∧ (qCI E d i_X6_runScript [.ref x1, .int v165, .long (((((v166).toInt64) <<< (((iv 32)).toInt64 &&& 63)) ||| (((v167).toInt64) &&& 4294967295)))] G fun v169 G168 => (qIA 8 E G168 x0 (x3 + (iv 1)) fun v170 => (qIA 8 E G168 x0 (x3 + (iv 2)) fun v171 => (qIA 8 E G168 x0 (x3 + (iv 3)) fun v172 => (rcv E G168 x2 7 = true ∧ (qCI E d i_X7_runScript [.ref x2, .int v170, .long (((((v171).toInt64) <<< (((iv 32)).toInt64 &&& 63)) ||| (((v172).toInt64) &&& 4294967295)))] G168 fun v174 G173 => (if v169 = v174 then Xr E d x_L_law 18 [some (.ref x0), some (.ref x1), some (.ref x2), some (.int ((x3 + (iv 5))))] [] G173 Q else Q (some (.int (iv 0))) G173))))))))))) else (if ((v2 &&& (iv 31))).toInt = 26 then (qIA 8 E G x0 (x3 + (iv 1)) fun v175 => (qIA 8 E G x0 (x3 + (iv 2)) fun v176 => (qIA 8 E G x0 (x3 + (iv 3)) fun v177 => (rcv E G x1 6 = true ∧ (qCI E d i_X6_descend [.ref x1, .long (((((v175).toInt64) <<< (((iv 32)).toInt64 &&& 63)) ||| (((v176).toInt64) &&& 4294967295))), .int v177] G fun v179 G178 => (qIA 8 E G178 x0 (x3 + (iv 1)) fun v180 => (qIA 8 E G178 x0 (x3 + (iv 2)) fun v181 => (qIA 8 E G178 x0 (x3 + (iv 3)) fun v182 => (rcv E G178 x2 7 = true ∧ (qCI E d i_X7_descend [.ref x2, .long (((((v180).toInt64) <<< (((iv 32)).toInt64 &&& 63)) ||| (((v181).toInt64) &&& 4294967295))), .int v182] G178 fun v184 G183 => (if v179 = v184 then Xr E d x_L_law 18 [some (.ref x0), some (.ref x1), some (.ref x2), some (.int ((x3 + (iv 5))))] [] G183 Q else Q (some (.int (iv 0))) G183))))))))))) else (if ((v2 &&& (iv 31))).toInt = 27 then (qIA 8 E G x0 (x3 + (iv 1)) fun v185 => (rcv E G x1 6 = true ∧ (qCI E d i_X6_save [.ref x1, .int v185] G fun v187 G186 => (qIA 8 E G186 x0 (x3 + (iv 1)) fun v188 => (rcv E G186 x2 7 = true ∧ (qCI E d i_X7_save [.ref x2, .int v188] G186 fun v190 G189 => (if v187 = v190 then Xr E d x_L_law 18 [some (.ref x0), some (.ref x1), some (.ref x2), some (.int ((x3 + (iv 5))))] [] G189 Q else Q (some (.int (iv 0))) G189))))))) else (if ((v2 &&& (iv 31))).toInt = 28 then (qIA 8 E G x0 (x3 + (iv 1)) fun v191 => (rcv E G x1 6 = true ∧ (qCI E d i_X6_restore [.ref x1, .int v191] G fun v193 G192 => (qIA 8 E G192 x0 (x3 + (iv 1)) fun v194 => (rcv E G192 x2 7 = true ∧ (qCI E d i_X7_restore [.ref x2, .int v194] G192 fun v196 G195 => (if v193 = v196 then Xr E d x_L_law 18 [some (.ref x0), some (.ref x1), some (.ref x2), some (.int ((x3 + (iv 5))))] [] G195 Q else Q (some (.int (iv 0))) G195))))))) else Xr E d x_L_law 18 [some (.ref x0), some (.ref x1), some (.ref x2), some (.int ((x3 + (iv 5))))] [] G Q))))))))))))))))))))))))))))))))) : Xr E d x_L_law 18 [some (.ref x0), some (.ref x1), some (.ref x2), some (.int x3)] [] G Q := by
  refine r_iload_n dL_law_18 rfl ?_
  refine r_aload_n dL_law_19 rfl ?_
  refine r_alen dL_law_20 (qL_imp (fun v1 h => ?_) h)
  refine r_iconst dL_law_21 ?_
  refine r_isub dL_law_22 ?_
  refine r_cgt (tgt := 977) dL_law_23 (by decide) (ite_imp (fun h => ?_) (fun h => ?_) h)
  · refine r_iconst dL_law_977 ?_
    exact r_iret dL_law_978 rfl ⟨rfl, h⟩
  · refine r_aload_n dL_law_26 rfl ?_
    refine r_iload_n dL_law_27 rfl ?_
    refine r_iald dL_law_28 (qIA_imp (fun v2 h => ?_) h)
    refine r_bipush dL_law_29 rfl ?_
    refine r_iand dL_law_31 ?_
    by_cases e0 : ((v2 &&& (iv 31))).toInt = 0
    · rw [if_pos e0] at h
      refine r_tswIn (tgt := 164) (off := 132) dL_law_32 (by rw [e0]; decide) (by rw [e0]; rfl) (by decide) ?_
      refine r_aload_n dL_law_164 rfl ?_
      refine r_aload_n dL_law_165 rfl ?_
      refine r_iload_n dL_law_166 rfl ?_
      refine r_iconst dL_law_167 ?_
      refine r_iadd dL_law_168 ?_
      refine r_iald dL_law_169 (qIA_imp (fun v3 h => ?_) h)
      refine r_cI dL_law_170 rfl (invV_eq rfl rfl rfl rfl rfl rfl ⟨rfl, Nat.le_of_ble_eq_true rfl⟩ h.1) (qCI_imp (fun v5 G4 h => ?_) h.2)
      refine r_aload_n dL_law_173 rfl ?_
      refine r_aload_n dL_law_174 rfl ?_
      refine r_iload_n dL_law_175 rfl ?_
      refine r_iconst dL_law_176 ?_
      refine r_iadd dL_law_177 ?_
      refine r_iald dL_law_178 (qIA_imp (fun v6 h => ?_) h)
      refine r_cI dL_law_179 rfl (invV_eq rfl rfl rfl rfl rfl rfl ⟨rfl, Nat.le_of_ble_eq_true rfl⟩ h.1) (qCI_imp (fun v8 G7 h => ?_) h.2)
      refine r_ceq (tgt := 971) dL_law_182 (by decide) (ite_imp (fun h => ?_) (fun h => ?_) h)
      · refine r_iinc dL_law_971 rfl rfl ?_
        refine r_goto (tgt := 18) dL_law_974 (by decide) ?_
        exact h
      · refine r_iconst dL_law_185 ?_
        exact r_iret dL_law_186 rfl ⟨rfl, h⟩
    rw [if_neg e0] at h
    by_cases e1 : ((v2 &&& (iv 31))).toInt = 1
    · rw [if_pos e1] at h
      refine r_tswIn (tgt := 187) (off := 155) dL_law_32 (by rw [e1]; decide) (by rw [e1]; rfl) (by decide) ?_
      refine r_aload_n dL_law_187 rfl ?_
      refine r_cI dL_law_188 rfl (invV_eq rfl rfl rfl rfl rfl rfl ⟨rfl, Nat.le_of_ble_eq_true rfl⟩ h.1) (qCI_imp (fun v10 G9 h => ?_) h.2)
      refine r_aload_n dL_law_191 rfl ?_
      refine r_cI dL_law_192 rfl (invV_eq rfl rfl rfl rfl rfl rfl ⟨rfl, Nat.le_of_ble_eq_true rfl⟩ h.1) (qCI_imp (fun v12 G11 h => ?_) h.2)
      refine r_ceq (tgt := 971) dL_law_195 (by decide) (ite_imp (fun h => ?_) (fun h => ?_) h)
      · refine r_iinc dL_law_971 rfl rfl ?_
        refine r_goto (tgt := 18) dL_law_974 (by decide) ?_
        exact h
      · refine r_iconst dL_law_198 ?_
        exact r_iret dL_law_199 rfl ⟨rfl, h⟩
    rw [if_neg e1] at h
    by_cases e2 : ((v2 &&& (iv 31))).toInt = 2
    · rw [if_pos e2] at h
      refine r_tswIn (tgt := 200) (off := 168) dL_law_32 (by rw [e2]; decide) (by rw [e2]; rfl) (by decide) ?_
      refine r_aload_n dL_law_200 rfl ?_
      refine r_cI dL_law_201 rfl (invV_eq rfl rfl rfl rfl rfl rfl ⟨rfl, Nat.le_of_ble_eq_true rfl⟩ h.1) (qCI_imp (fun v14 G13 h => ?_) h.2)
      refine r_aload_n dL_law_204 rfl ?_
      refine r_cI dL_law_205 rfl (invV_eq rfl rfl rfl rfl rfl rfl ⟨rfl, Nat.le_of_ble_eq_true rfl⟩ h.1) (qCI_imp (fun v16 G15 h => ?_) h.2)
      refine r_ceq (tgt := 971) dL_law_208 (by decide) (ite_imp (fun h => ?_) (fun h => ?_) h)
      · refine r_iinc dL_law_971 rfl rfl ?_
        refine r_goto (tgt := 18) dL_law_974 (by decide) ?_
        exact h
      · refine r_iconst dL_law_211 ?_
        exact r_iret dL_law_212 rfl ⟨rfl, h⟩
    rw [if_neg e2] at h
    by_cases e3 : ((v2 &&& (iv 31))).toInt = 3
    · rw [if_pos e3] at h
      refine r_tswIn (tgt := 213) (off := 181) dL_law_32 (by rw [e3]; decide) (by rw [e3]; rfl) (by decide) ?_
      refine r_aload_n dL_law_213 rfl ?_
      refine r_cI dL_law_214 rfl (invV_eq rfl rfl rfl rfl rfl rfl ⟨rfl, Nat.le_of_ble_eq_true rfl⟩ h.1) (qCI_imp (fun v18 G17 h => ?_) h.2)
      refine r_aload_n dL_law_217 rfl ?_
      refine r_cI dL_law_218 rfl (invV_eq rfl rfl rfl rfl rfl rfl ⟨rfl, Nat.le_of_ble_eq_true rfl⟩ h.1) (qCI_imp (fun v20 G19 h => ?_) h.2)
      refine r_ceq (tgt := 971) dL_law_221 (by decide) (ite_imp (fun h => ?_) (fun h => ?_) h)
      · refine r_iinc dL_law_971 rfl rfl ?_
        refine r_goto (tgt := 18) dL_law_974 (by decide) ?_
        exact h
      · refine r_iconst dL_law_224 ?_
        exact r_iret dL_law_225 rfl ⟨rfl, h⟩
    rw [if_neg e3] at h
    by_cases e4 : ((v2 &&& (iv 31))).toInt = 4
    · rw [if_pos e4] at h
      refine r_tswIn (tgt := 226) (off := 194) dL_law_32 (by rw [e4]; decide) (by rw [e4]; rfl) (by decide) ?_
      refine r_aload_n dL_law_226 rfl ?_
      refine r_aload_n dL_law_227 rfl ?_
      refine r_iload_n dL_law_228 rfl ?_
      refine r_iconst dL_law_229 ?_
      refine r_iadd dL_law_230 ?_
      refine r_iald dL_law_231 (qIA_imp (fun v21 h => ?_) h)
      refine r_cI dL_law_232 rfl (invV_eq rfl rfl rfl rfl rfl rfl ⟨rfl, Nat.le_of_ble_eq_true rfl⟩ h.1) (qCI_imp (fun v23 G22 h => ?_) h.2)
      refine r_aload_n dL_law_235 rfl ?_
      refine r_aload_n dL_law_236 rfl ?_
      refine r_iload_n dL_law_237 rfl ?_
      refine r_iconst dL_law_238 ?_
      refine r_iadd dL_law_239 ?_
      refine r_iald dL_law_240 (qIA_imp (fun v24 h => ?_) h)
      refine r_cI dL_law_241 rfl (invV_eq rfl rfl rfl rfl rfl rfl ⟨rfl, Nat.le_of_ble_eq_true rfl⟩ h.1) (qCI_imp (fun v26 G25 h => ?_) h.2)
      refine r_ceq (tgt := 971) dL_law_244 (by decide) (ite_imp (fun h => ?_) (fun h => ?_) h)
      · refine r_iinc dL_law_971 rfl rfl ?_
        refine r_goto (tgt := 18) dL_law_974 (by decide) ?_
        exact h
      · refine r_iconst dL_law_247 ?_
        exact r_iret dL_law_248 rfl ⟨rfl, h⟩
    rw [if_neg e4] at h
    by_cases e5 : ((v2 &&& (iv 31))).toInt = 5
    · rw [if_pos e5] at h
      refine r_tswIn (tgt := 249) (off := 217) dL_law_32 (by rw [e5]; decide) (by rw [e5]; rfl) (by decide) ?_
      refine r_aload_n dL_law_249 rfl ?_
      refine r_aload_n dL_law_250 rfl ?_
      refine r_iload_n dL_law_251 rfl ?_
      refine r_iconst dL_law_252 ?_
      refine r_iadd dL_law_253 ?_
      refine r_iald dL_law_254 (qIA_imp (fun v27 h => ?_) h)
      refine r_aload_n dL_law_255 rfl ?_
      refine r_iload_n dL_law_256 rfl ?_
      refine r_iconst dL_law_257 ?_
      refine r_iadd dL_law_258 ?_
      refine r_iald dL_law_259 (qIA_imp (fun v28 h => ?_) h)
      refine r_cI dL_law_260 rfl (invV_eq rfl rfl rfl rfl rfl rfl ⟨rfl, Nat.le_of_ble_eq_true rfl⟩ h.1) (qCI_imp (fun v30 G29 h => ?_) h.2)
      refine r_aload_n dL_law_263 rfl ?_
      refine r_aload_n dL_law_264 rfl ?_
      refine r_iload_n dL_law_265 rfl ?_
      refine r_iconst dL_law_266 ?_
      refine r_iadd dL_law_267 ?_
      refine r_iald dL_law_268 (qIA_imp (fun v31 h => ?_) h)
      refine r_aload_n dL_law_269 rfl ?_
      refine r_iload_n dL_law_270 rfl ?_
      refine r_iconst dL_law_271 ?_
      refine r_iadd dL_law_272 ?_
      refine r_iald dL_law_273 (qIA_imp (fun v32 h => ?_) h)
      refine r_cI dL_law_274 rfl (invV_eq rfl rfl rfl rfl rfl rfl ⟨rfl, Nat.le_of_ble_eq_true rfl⟩ h.1) (qCI_imp (fun v34 G33 h => ?_) h.2)
      refine r_ceq (tgt := 971) dL_law_277 (by decide) (ite_imp (fun h => ?_) (fun h => ?_) h)
      · refine r_iinc dL_law_971 rfl rfl ?_
        refine r_goto (tgt := 18) dL_law_974 (by decide) ?_
        exact h
      · refine r_iconst dL_law_280 ?_
        exact r_iret dL_law_281 rfl ⟨rfl, h⟩
    rw [if_neg e5] at h
    by_cases e6 : ((v2 &&& (iv 31))).toInt = 6
    · rw [if_pos e6] at h
      refine r_tswIn (tgt := 282) (off := 250) dL_law_32 (by rw [e6]; decide) (by rw [e6]; rfl) (by decide) ?_
      refine r_aload_n dL_law_282 rfl ?_
      refine r_aload_n dL_law_283 rfl ?_
      refine r_iload_n dL_law_284 rfl ?_
      refine r_iconst dL_law_285 ?_
      refine r_iadd dL_law_286 ?_
      refine r_iald dL_law_287 (qIA_imp (fun v35 h => ?_) h)
      refine r_aload_n dL_law_288 rfl ?_
      refine r_iload_n dL_law_289 rfl ?_
      refine r_iconst dL_law_290 ?_
      refine r_iadd dL_law_291 ?_
      refine r_iald dL_law_292 (qIA_imp (fun v36 h => ?_) h)
      refine r_aload_n dL_law_293 rfl ?_
      refine r_iload_n dL_law_294 rfl ?_
      refine r_iconst dL_law_295 ?_
      refine r_iadd dL_law_296 ?_
      refine r_iald dL_law_297 (qIA_imp (fun v37 h => ?_) h)
      refine r_cI dL_law_298 rfl (invV_eq rfl rfl rfl rfl rfl rfl ⟨rfl, Nat.le_of_ble_eq_true rfl⟩ h.1) (qCI_imp (fun v39 G38 h => ?_) h.2)
      refine r_aload_n dL_law_301 rfl ?_
      refine r_aload_n dL_law_302 rfl ?_
      refine r_iload_n dL_law_303 rfl ?_
      refine r_iconst dL_law_304 ?_
      refine r_iadd dL_law_305 ?_
      refine r_iald dL_law_306 (qIA_imp (fun v40 h => ?_) h)
      refine r_aload_n dL_law_307 rfl ?_
      refine r_iload_n dL_law_308 rfl ?_
      refine r_iconst dL_law_309 ?_
      refine r_iadd dL_law_310 ?_
      refine r_iald dL_law_311 (qIA_imp (fun v41 h => ?_) h)
      refine r_aload_n dL_law_312 rfl ?_
      refine r_iload_n dL_law_313 rfl ?_
      refine r_iconst dL_law_314 ?_
      refine r_iadd dL_law_315 ?_
      refine r_iald dL_law_316 (qIA_imp (fun v42 h => ?_) h)
      refine r_cI dL_law_317 rfl (invV_eq rfl rfl rfl rfl rfl rfl ⟨rfl, Nat.le_of_ble_eq_true rfl⟩ h.1) (qCI_imp (fun v44 G43 h => ?_) h.2)
      refine r_ceq (tgt := 971) dL_law_320 (by decide) (ite_imp (fun h => ?_) (fun h => ?_) h)
      · refine r_iinc dL_law_971 rfl rfl ?_
        refine r_goto (tgt := 18) dL_law_974 (by decide) ?_
        exact h
      · refine r_iconst dL_law_323 ?_
        exact r_iret dL_law_324 rfl ⟨rfl, h⟩
    rw [if_neg e6] at h
    by_cases e7 : ((v2 &&& (iv 31))).toInt = 7
    · rw [if_pos e7] at h
      refine r_tswIn (tgt := 325) (off := 293) dL_law_32 (by rw [e7]; decide) (by rw [e7]; rfl) (by decide) ?_
      refine r_aload_n dL_law_325 rfl ?_
      refine r_aload_n dL_law_326 rfl ?_
      refine r_iload_n dL_law_327 rfl ?_
      refine r_iconst dL_law_328 ?_
      refine r_iadd dL_law_329 ?_
      refine r_iald dL_law_330 (qIA_imp (fun v45 h => ?_) h)
      refine r_aload_n dL_law_331 rfl ?_
      refine r_iload_n dL_law_332 rfl ?_
      refine r_iconst dL_law_333 ?_
      refine r_iadd dL_law_334 ?_
      refine r_iald dL_law_335 (qIA_imp (fun v46 h => ?_) h)
      refine r_cI dL_law_336 rfl (invV_eq rfl rfl rfl rfl rfl rfl ⟨rfl, Nat.le_of_ble_eq_true rfl⟩ h.1) (qCI_imp (fun v48 G47 h => ?_) h.2)
      refine r_aload_n dL_law_339 rfl ?_
      refine r_aload_n dL_law_340 rfl ?_
      refine r_iload_n dL_law_341 rfl ?_
      refine r_iconst dL_law_342 ?_
      refine r_iadd dL_law_343 ?_
      refine r_iald dL_law_344 (qIA_imp (fun v49 h => ?_) h)
      refine r_aload_n dL_law_345 rfl ?_
      refine r_iload_n dL_law_346 rfl ?_
      refine r_iconst dL_law_347 ?_
      refine r_iadd dL_law_348 ?_
      refine r_iald dL_law_349 (qIA_imp (fun v50 h => ?_) h)
      refine r_cI dL_law_350 rfl (invV_eq rfl rfl rfl rfl rfl rfl ⟨rfl, Nat.le_of_ble_eq_true rfl⟩ h.1) (qCI_imp (fun v52 G51 h => ?_) h.2)
      refine r_ceq (tgt := 971) dL_law_353 (by decide) (ite_imp (fun h => ?_) (fun h => ?_) h)
      · refine r_iinc dL_law_971 rfl rfl ?_
        refine r_goto (tgt := 18) dL_law_974 (by decide) ?_
        exact h
      · refine r_iconst dL_law_356 ?_
        exact r_iret dL_law_357 rfl ⟨rfl, h⟩
    rw [if_neg e7] at h
    by_cases e8 : ((v2 &&& (iv 31))).toInt = 8
    · rw [if_pos e8] at h
      refine r_tswIn (tgt := 358) (off := 326) dL_law_32 (by rw [e8]; decide) (by rw [e8]; rfl) (by decide) ?_
      refine r_aload_n dL_law_358 rfl ?_
      refine r_cI dL_law_359 rfl (invV_eq rfl rfl rfl rfl rfl rfl ⟨rfl, Nat.le_of_ble_eq_true rfl⟩ h.1) (qCI_imp (fun v54 G53 h => ?_) h.2)
      refine r_aload_n dL_law_362 rfl ?_
      refine r_cI dL_law_363 rfl (invV_eq rfl rfl rfl rfl rfl rfl ⟨rfl, Nat.le_of_ble_eq_true rfl⟩ h.1) (qCI_imp (fun v56 G55 h => ?_) h.2)
      refine r_ceq (tgt := 971) dL_law_366 (by decide) (ite_imp (fun h => ?_) (fun h => ?_) h)
      · refine r_iinc dL_law_971 rfl rfl ?_
        refine r_goto (tgt := 18) dL_law_974 (by decide) ?_
        exact h
      · refine r_iconst dL_law_369 ?_
        exact r_iret dL_law_370 rfl ⟨rfl, h⟩
    rw [if_neg e8] at h
    by_cases e9 : ((v2 &&& (iv 31))).toInt = 9
    · rw [if_pos e9] at h
      refine r_tswIn (tgt := 371) (off := 339) dL_law_32 (by rw [e9]; decide) (by rw [e9]; rfl) (by decide) ?_
      refine r_aload_n dL_law_371 rfl ?_
      refine r_aload_n dL_law_372 rfl ?_
      refine r_iload_n dL_law_373 rfl ?_
      refine r_iconst dL_law_374 ?_
      refine r_iadd dL_law_375 ?_
      refine r_iald dL_law_376 (qIA_imp (fun v57 h => ?_) h)
      refine r_cI dL_law_377 rfl (invV_eq rfl rfl rfl rfl rfl rfl ⟨rfl, Nat.le_of_ble_eq_true rfl⟩ h.1) (qCI_imp (fun v59 G58 h => ?_) h.2)
      refine r_aload_n dL_law_380 rfl ?_
      refine r_aload_n dL_law_381 rfl ?_
      refine r_iload_n dL_law_382 rfl ?_
      refine r_iconst dL_law_383 ?_
      refine r_iadd dL_law_384 ?_
      refine r_iald dL_law_385 (qIA_imp (fun v60 h => ?_) h)
      refine r_cI dL_law_386 rfl (invV_eq rfl rfl rfl rfl rfl rfl ⟨rfl, Nat.le_of_ble_eq_true rfl⟩ h.1) (qCI_imp (fun v62 G61 h => ?_) h.2)
      refine r_ceq (tgt := 971) dL_law_389 (by decide) (ite_imp (fun h => ?_) (fun h => ?_) h)
      · refine r_iinc dL_law_971 rfl rfl ?_
        refine r_goto (tgt := 18) dL_law_974 (by decide) ?_
        exact h
      · refine r_iconst dL_law_392 ?_
        exact r_iret dL_law_393 rfl ⟨rfl, h⟩
    rw [if_neg e9] at h
    by_cases e10 : ((v2 &&& (iv 31))).toInt = 10
    · rw [if_pos e10] at h
      refine r_tswIn (tgt := 394) (off := 362) dL_law_32 (by rw [e10]; decide) (by rw [e10]; rfl) (by decide) ?_
      refine r_aload_n dL_law_394 rfl ?_
      refine r_aload_n dL_law_395 rfl ?_
      refine r_iload_n dL_law_396 rfl ?_
      refine r_iconst dL_law_397 ?_
      refine r_iadd dL_law_398 ?_
      refine r_iald dL_law_399 (qIA_imp (fun v63 h => ?_) h)
      refine r_aload_n dL_law_400 rfl ?_
      refine r_iload_n dL_law_401 rfl ?_
      refine r_iconst dL_law_402 ?_
      refine r_iadd dL_law_403 ?_
      refine r_iald dL_law_404 (qIA_imp (fun v64 h => ?_) h)
      refine r_aload_n dL_law_405 rfl ?_
      refine r_iload_n dL_law_406 rfl ?_
      refine r_iconst dL_law_407 ?_
      refine r_iadd dL_law_408 ?_
      refine r_iald dL_law_409 (qIA_imp (fun v65 h => ?_) h)
      refine r_aload_n dL_law_410 rfl ?_
      refine r_iload_n dL_law_411 rfl ?_
      refine r_iconst dL_law_412 ?_
      refine r_iadd dL_law_413 ?_
      refine r_iald dL_law_414 (qIA_imp (fun v66 h => ?_) h)
      refine r_cI dL_law_415 rfl (invV_eq rfl rfl rfl rfl rfl rfl ⟨rfl, Nat.le_of_ble_eq_true rfl⟩ h.1) (qCI_imp (fun v68 G67 h => ?_) h.2)
      refine r_aload_n dL_law_418 rfl ?_
      refine r_aload_n dL_law_419 rfl ?_
      refine r_iload_n dL_law_420 rfl ?_
      refine r_iconst dL_law_421 ?_
      refine r_iadd dL_law_422 ?_
      refine r_iald dL_law_423 (qIA_imp (fun v69 h => ?_) h)
      refine r_aload_n dL_law_424 rfl ?_
      refine r_iload_n dL_law_425 rfl ?_
      refine r_iconst dL_law_426 ?_
      refine r_iadd dL_law_427 ?_
      refine r_iald dL_law_428 (qIA_imp (fun v70 h => ?_) h)
      refine r_aload_n dL_law_429 rfl ?_
      refine r_iload_n dL_law_430 rfl ?_
      refine r_iconst dL_law_431 ?_
      refine r_iadd dL_law_432 ?_
      refine r_iald dL_law_433 (qIA_imp (fun v71 h => ?_) h)
      refine r_aload_n dL_law_434 rfl ?_
      refine r_iload_n dL_law_435 rfl ?_
      refine r_iconst dL_law_436 ?_
      refine r_iadd dL_law_437 ?_
      refine r_iald dL_law_438 (qIA_imp (fun v72 h => ?_) h)
      refine r_cI dL_law_439 rfl (invV_eq rfl rfl rfl rfl rfl rfl ⟨rfl, Nat.le_of_ble_eq_true rfl⟩ h.1) (qCI_imp (fun v74 G73 h => ?_) h.2)
      refine r_ceq (tgt := 971) dL_law_442 (by decide) (ite_imp (fun h => ?_) (fun h => ?_) h)
      · refine r_iinc dL_law_971 rfl rfl ?_
        refine r_goto (tgt := 18) dL_law_974 (by decide) ?_
        exact h
      · refine r_iconst dL_law_445 ?_
        exact r_iret dL_law_446 rfl ⟨rfl, h⟩
    rw [if_neg e10] at h
    by_cases e11 : ((v2 &&& (iv 31))).toInt = 11
    · rw [if_pos e11] at h
      refine r_tswIn (tgt := 447) (off := 415) dL_law_32 (by rw [e11]; decide) (by rw [e11]; rfl) (by decide) ?_
      refine r_aload_n dL_law_447 rfl ?_
      refine r_aload_n dL_law_448 rfl ?_
      refine r_iload_n dL_law_449 rfl ?_
      refine r_iconst dL_law_450 ?_
      refine r_iadd dL_law_451 ?_
      refine r_iald dL_law_452 (qIA_imp (fun v75 h => ?_) h)
      refine r_aload_n dL_law_453 rfl ?_
      refine r_iload_n dL_law_454 rfl ?_
      refine r_iconst dL_law_455 ?_
      refine r_iadd dL_law_456 ?_
      refine r_iald dL_law_457 (qIA_imp (fun v76 h => ?_) h)
      refine r_cI dL_law_458 rfl (invV_eq rfl rfl rfl rfl rfl rfl ⟨rfl, Nat.le_of_ble_eq_true rfl⟩ h.1) (qCI_imp (fun v78 G77 h => ?_) h.2)
      refine r_aload_n dL_law_461 rfl ?_
      refine r_aload_n dL_law_462 rfl ?_
      refine r_iload_n dL_law_463 rfl ?_
      refine r_iconst dL_law_464 ?_
      refine r_iadd dL_law_465 ?_
      refine r_iald dL_law_466 (qIA_imp (fun v79 h => ?_) h)
      refine r_aload_n dL_law_467 rfl ?_
      refine r_iload_n dL_law_468 rfl ?_
      refine r_iconst dL_law_469 ?_
      refine r_iadd dL_law_470 ?_
      refine r_iald dL_law_471 (qIA_imp (fun v80 h => ?_) h)
      refine r_cI dL_law_472 rfl (invV_eq rfl rfl rfl rfl rfl rfl ⟨rfl, Nat.le_of_ble_eq_true rfl⟩ h.1) (qCI_imp (fun v82 G81 h => ?_) h.2)
      refine r_ceq (tgt := 971) dL_law_475 (by decide) (ite_imp (fun h => ?_) (fun h => ?_) h)
      · refine r_iinc dL_law_971 rfl rfl ?_
        refine r_goto (tgt := 18) dL_law_974 (by decide) ?_
        exact h
      · refine r_iconst dL_law_478 ?_
        exact r_iret dL_law_479 rfl ⟨rfl, h⟩
    rw [if_neg e11] at h
    by_cases e12 : ((v2 &&& (iv 31))).toInt = 12
    · rw [if_pos e12] at h
      refine r_tswIn (tgt := 480) (off := 448) dL_law_32 (by rw [e12]; decide) (by rw [e12]; rfl) (by decide) ?_
      refine r_aload_n dL_law_480 rfl ?_
      refine r_aload_n dL_law_481 rfl ?_
      refine r_iload_n dL_law_482 rfl ?_
      refine r_iconst dL_law_483 ?_
      refine r_iadd dL_law_484 ?_
      refine r_iald dL_law_485 (qIA_imp (fun v83 h => ?_) h)
      refine r_aload_n dL_law_486 rfl ?_
      refine r_iload_n dL_law_487 rfl ?_
      refine r_iconst dL_law_488 ?_
      refine r_iadd dL_law_489 ?_
      refine r_iald dL_law_490 (qIA_imp (fun v84 h => ?_) h)
      refine r_cI dL_law_491 rfl (invV_eq rfl rfl rfl rfl rfl rfl ⟨rfl, Nat.le_of_ble_eq_true rfl⟩ h.1) (qCI_imp (fun v86 G85 h => ?_) h.2)
      refine r_aload_n dL_law_494 rfl ?_
      refine r_aload_n dL_law_495 rfl ?_
      refine r_iload_n dL_law_496 rfl ?_
      refine r_iconst dL_law_497 ?_
      refine r_iadd dL_law_498 ?_
      refine r_iald dL_law_499 (qIA_imp (fun v87 h => ?_) h)
      refine r_aload_n dL_law_500 rfl ?_
      refine r_iload_n dL_law_501 rfl ?_
      refine r_iconst dL_law_502 ?_
      refine r_iadd dL_law_503 ?_
      refine r_iald dL_law_504 (qIA_imp (fun v88 h => ?_) h)
      refine r_cI dL_law_505 rfl (invV_eq rfl rfl rfl rfl rfl rfl ⟨rfl, Nat.le_of_ble_eq_true rfl⟩ h.1) (qCI_imp (fun v90 G89 h => ?_) h.2)
      refine r_ceq (tgt := 971) dL_law_508 (by decide) (ite_imp (fun h => ?_) (fun h => ?_) h)
      · refine r_iinc dL_law_971 rfl rfl ?_
        refine r_goto (tgt := 18) dL_law_974 (by decide) ?_
        exact h
      · refine r_iconst dL_law_511 ?_
        exact r_iret dL_law_512 rfl ⟨rfl, h⟩
    rw [if_neg e12] at h
    by_cases e13 : ((v2 &&& (iv 31))).toInt = 13
    · rw [if_pos e13] at h
      refine r_tswIn (tgt := 513) (off := 481) dL_law_32 (by rw [e13]; decide) (by rw [e13]; rfl) (by decide) ?_
      refine r_aload_n dL_law_513 rfl ?_
      refine r_cI dL_law_514 rfl (invV_eq rfl rfl rfl rfl rfl rfl ⟨rfl, Nat.le_of_ble_eq_true rfl⟩ h.1) (qCI_imp (fun v92 G91 h => ?_) h.2)
      refine r_aload_n dL_law_517 rfl ?_
      refine r_cI dL_law_518 rfl (invV_eq rfl rfl rfl rfl rfl rfl ⟨rfl, Nat.le_of_ble_eq_true rfl⟩ h.1) (qCI_imp (fun v94 G93 h => ?_) h.2)
      refine r_ceq (tgt := 971) dL_law_521 (by decide) (ite_imp (fun h => ?_) (fun h => ?_) h)
      · refine r_iinc dL_law_971 rfl rfl ?_
        refine r_goto (tgt := 18) dL_law_974 (by decide) ?_
        exact h
      · refine r_iconst dL_law_524 ?_
        exact r_iret dL_law_525 rfl ⟨rfl, h⟩
    rw [if_neg e13] at h
    by_cases e14 : ((v2 &&& (iv 31))).toInt = 14
    · rw [if_pos e14] at h
      refine r_tswIn (tgt := 526) (off := 494) dL_law_32 (by rw [e14]; decide) (by rw [e14]; rfl) (by decide) ?_
      refine r_aload_n dL_law_526 rfl ?_
      refine r_cI dL_law_527 rfl (invV_eq rfl rfl rfl rfl rfl rfl ⟨rfl, Nat.le_of_ble_eq_true rfl⟩ h.1) (qCI_imp (fun v96 G95 h => ?_) h.2)
      refine r_aload_n dL_law_530 rfl ?_
      refine r_cI dL_law_531 rfl (invV_eq rfl rfl rfl rfl rfl rfl ⟨rfl, Nat.le_of_ble_eq_true rfl⟩ h.1) (qCI_imp (fun v98 G97 h => ?_) h.2)
      refine r_ceq (tgt := 971) dL_law_534 (by decide) (ite_imp (fun h => ?_) (fun h => ?_) h)
      · refine r_iinc dL_law_971 rfl rfl ?_
        refine r_goto (tgt := 18) dL_law_974 (by decide) ?_
        exact h
      · refine r_iconst dL_law_537 ?_
        exact r_iret dL_law_538 rfl ⟨rfl, h⟩
    rw [if_neg e14] at h
    by_cases e15 : ((v2 &&& (iv 31))).toInt = 15
    · rw [if_pos e15] at h
      refine r_tswIn (tgt := 539) (off := 507) dL_law_32 (by rw [e15]; decide) (by rw [e15]; rfl) (by decide) ?_
      refine r_aload_n dL_law_539 rfl ?_
      refine r_aload_n dL_law_540 rfl ?_
      refine r_iload_n dL_law_541 rfl ?_
      refine r_iconst dL_law_542 ?_
      refine r_iadd dL_law_543 ?_
      refine r_iald dL_law_544 (qIA_imp (fun v99 h => ?_) h)
      refine r_cI dL_law_545 rfl (invV_eq rfl rfl rfl rfl rfl rfl ⟨rfl, Nat.le_of_ble_eq_true rfl⟩ h.1) (qCI_imp (fun v101 G100 h => ?_) h.2)
      refine r_aload_n dL_law_548 rfl ?_
      refine r_aload_n dL_law_549 rfl ?_
      refine r_iload_n dL_law_550 rfl ?_
      refine r_iconst dL_law_551 ?_
      refine r_iadd dL_law_552 ?_
      refine r_iald dL_law_553 (qIA_imp (fun v102 h => ?_) h)
      refine r_cI dL_law_554 rfl (invV_eq rfl rfl rfl rfl rfl rfl ⟨rfl, Nat.le_of_ble_eq_true rfl⟩ h.1) (qCI_imp (fun v104 G103 h => ?_) h.2)
      refine r_ceq (tgt := 971) dL_law_557 (by decide) (ite_imp (fun h => ?_) (fun h => ?_) h)
      · refine r_iinc dL_law_971 rfl rfl ?_
        refine r_goto (tgt := 18) dL_law_974 (by decide) ?_
        exact h
      · refine r_iconst dL_law_560 ?_
        exact r_iret dL_law_561 rfl ⟨rfl, h⟩
    rw [if_neg e15] at h
    by_cases e16 : ((v2 &&& (iv 31))).toInt = 16
    · rw [if_pos e16] at h
      refine r_tswIn (tgt := 562) (off := 530) dL_law_32 (by rw [e16]; decide) (by rw [e16]; rfl) (by decide) ?_
      refine r_aload_n dL_law_562 rfl ?_
      refine r_aload_n dL_law_563 rfl ?_
      refine r_iload_n dL_law_564 rfl ?_
      refine r_iconst dL_law_565 ?_
      refine r_iadd dL_law_566 ?_
      refine r_iald dL_law_567 (qIA_imp (fun v105 h => ?_) h)
      refine r_cI dL_law_568 rfl (invV_eq rfl rfl rfl rfl rfl rfl ⟨rfl, Nat.le_of_ble_eq_true rfl⟩ h.1) (qCI_imp (fun v107 G106 h => ?_) h.2)
      refine r_aload_n dL_law_571 rfl ?_
      refine r_aload_n dL_law_572 rfl ?_
      refine r_iload_n dL_law_573 rfl ?_
      refine r_iconst dL_law_574 ?_
      refine r_iadd dL_law_575 ?_
      refine r_iald dL_law_576 (qIA_imp (fun v108 h => ?_) h)
      refine r_cI dL_law_577 rfl (invV_eq rfl rfl rfl rfl rfl rfl ⟨rfl, Nat.le_of_ble_eq_true rfl⟩ h.1) (qCI_imp (fun v110 G109 h => ?_) h.2)
      refine r_ceq (tgt := 971) dL_law_580 (by decide) (ite_imp (fun h => ?_) (fun h => ?_) h)
      · refine r_iinc dL_law_971 rfl rfl ?_
        refine r_goto (tgt := 18) dL_law_974 (by decide) ?_
        exact h
      · refine r_iconst dL_law_583 ?_
        exact r_iret dL_law_584 rfl ⟨rfl, h⟩
    rw [if_neg e16] at h
    by_cases e17 : ((v2 &&& (iv 31))).toInt = 17
    · rw [if_pos e17] at h
      refine r_tswIn (tgt := 585) (off := 553) dL_law_32 (by rw [e17]; decide) (by rw [e17]; rfl) (by decide) ?_
      refine r_aload_n dL_law_585 rfl ?_
      refine r_aload_n dL_law_586 rfl ?_
      refine r_iload_n dL_law_587 rfl ?_
      refine r_iconst dL_law_588 ?_
      refine r_iadd dL_law_589 ?_
      refine r_iald dL_law_590 (qIA_imp (fun v111 h => ?_) h)
      refine r_cI dL_law_591 rfl (invV_eq rfl rfl rfl rfl rfl rfl ⟨rfl, Nat.le_of_ble_eq_true rfl⟩ h.1) (qCI_imp (fun v113 G112 h => ?_) h.2)
      refine r_aload_n dL_law_594 rfl ?_
      refine r_aload_n dL_law_595 rfl ?_
      refine r_iload_n dL_law_596 rfl ?_
      refine r_iconst dL_law_597 ?_
      refine r_iadd dL_law_598 ?_
      refine r_iald dL_law_599 (qIA_imp (fun v114 h => ?_) h)
      refine r_cI dL_law_600 rfl (invV_eq rfl rfl rfl rfl rfl rfl ⟨rfl, Nat.le_of_ble_eq_true rfl⟩ h.1) (qCI_imp (fun v116 G115 h => ?_) h.2)
      refine r_ceq (tgt := 971) dL_law_603 (by decide) (ite_imp (fun h => ?_) (fun h => ?_) h)
      · refine r_iinc dL_law_971 rfl rfl ?_
        refine r_goto (tgt := 18) dL_law_974 (by decide) ?_
        exact h
      · refine r_iconst dL_law_606 ?_
        exact r_iret dL_law_607 rfl ⟨rfl, h⟩
    rw [if_neg e17] at h
    by_cases e18 : ((v2 &&& (iv 31))).toInt = 18
    · rw [if_pos e18] at h
      refine r_tswIn (tgt := 608) (off := 576) dL_law_32 (by rw [e18]; decide) (by rw [e18]; rfl) (by decide) ?_
      refine r_aload_n dL_law_608 rfl ?_
      refine r_aload_n dL_law_609 rfl ?_
      refine r_iload_n dL_law_610 rfl ?_
      refine r_iconst dL_law_611 ?_
      refine r_iadd dL_law_612 ?_
      refine r_iald dL_law_613 (qIA_imp (fun v117 h => ?_) h)
      refine r_cI dL_law_614 rfl (invV_eq rfl rfl rfl rfl rfl rfl ⟨rfl, Nat.le_of_ble_eq_true rfl⟩ h.1) (qCI_imp (fun v119 G118 h => ?_) h.2)
      refine r_aload_n dL_law_617 rfl ?_
      refine r_aload_n dL_law_618 rfl ?_
      refine r_iload_n dL_law_619 rfl ?_
      refine r_iconst dL_law_620 ?_
      refine r_iadd dL_law_621 ?_
      refine r_iald dL_law_622 (qIA_imp (fun v120 h => ?_) h)
      refine r_cI dL_law_623 rfl (invV_eq rfl rfl rfl rfl rfl rfl ⟨rfl, Nat.le_of_ble_eq_true rfl⟩ h.1) (qCI_imp (fun v122 G121 h => ?_) h.2)
      refine r_ceq (tgt := 971) dL_law_626 (by decide) (ite_imp (fun h => ?_) (fun h => ?_) h)
      · refine r_iinc dL_law_971 rfl rfl ?_
        refine r_goto (tgt := 18) dL_law_974 (by decide) ?_
        exact h
      · refine r_iconst dL_law_629 ?_
        exact r_iret dL_law_630 rfl ⟨rfl, h⟩
    rw [if_neg e18] at h
    by_cases e19 : ((v2 &&& (iv 31))).toInt = 19
    · rw [if_pos e19] at h
      refine r_tswIn (tgt := 631) (off := 599) dL_law_32 (by rw [e19]; decide) (by rw [e19]; rfl) (by decide) ?_
      refine r_aload_n dL_law_631 rfl ?_
      refine r_aload_n dL_law_632 rfl ?_
      refine r_iload_n dL_law_633 rfl ?_
      refine r_iconst dL_law_634 ?_
      refine r_iadd dL_law_635 ?_
      refine r_iald dL_law_636 (qIA_imp (fun v123 h => ?_) h)
      refine r_cI dL_law_637 rfl (invV_eq rfl rfl rfl rfl rfl rfl ⟨rfl, Nat.le_of_ble_eq_true rfl⟩ h.1) (qCI_imp (fun v125 G124 h => ?_) h.2)
      refine r_aload_n dL_law_640 rfl ?_
      refine r_aload_n dL_law_641 rfl ?_
      refine r_iload_n dL_law_642 rfl ?_
      refine r_iconst dL_law_643 ?_
      refine r_iadd dL_law_644 ?_
      refine r_iald dL_law_645 (qIA_imp (fun v126 h => ?_) h)
      refine r_cI dL_law_646 rfl (invV_eq rfl rfl rfl rfl rfl rfl ⟨rfl, Nat.le_of_ble_eq_true rfl⟩ h.1) (qCI_imp (fun v128 G127 h => ?_) h.2)
      refine r_ceq (tgt := 971) dL_law_649 (by decide) (ite_imp (fun h => ?_) (fun h => ?_) h)
      · refine r_iinc dL_law_971 rfl rfl ?_
        refine r_goto (tgt := 18) dL_law_974 (by decide) ?_
        exact h
      · refine r_iconst dL_law_652 ?_
        exact r_iret dL_law_653 rfl ⟨rfl, h⟩
    rw [if_neg e19] at h
    by_cases e20 : ((v2 &&& (iv 31))).toInt = 20
    · rw [if_pos e20] at h
      refine r_tswIn (tgt := 654) (off := 622) dL_law_32 (by rw [e20]; decide) (by rw [e20]; rfl) (by decide) ?_
      refine r_aload_n dL_law_654 rfl ?_
      refine r_cI dL_law_655 rfl (invV_eq rfl rfl rfl rfl rfl rfl ⟨rfl, Nat.le_of_ble_eq_true rfl⟩ h.1) (qCI_imp (fun v130 G129 h => ?_) h.2)
      refine r_aload_n dL_law_658 rfl ?_
      refine r_cI dL_law_659 rfl (invV_eq rfl rfl rfl rfl rfl rfl ⟨rfl, Nat.le_of_ble_eq_true rfl⟩ h.1) (qCI_imp (fun v132 G131 h => ?_) h.2)
      refine r_ceq (tgt := 971) dL_law_662 (by decide) (ite_imp (fun h => ?_) (fun h => ?_) h)
      · refine r_iinc dL_law_971 rfl rfl ?_
        refine r_goto (tgt := 18) dL_law_974 (by decide) ?_
        exact h
      · refine r_iconst dL_law_665 ?_
        exact r_iret dL_law_666 rfl ⟨rfl, h⟩
    rw [if_neg e20] at h
    by_cases e21 : ((v2 &&& (iv 31))).toInt = 21
    · rw [if_pos e21] at h
      refine r_tswIn (tgt := 667) (off := 635) dL_law_32 (by rw [e21]; decide) (by rw [e21]; rfl) (by decide) ?_
      refine r_aload_n dL_law_667 rfl ?_
      refine r_cI dL_law_668 rfl (invV_eq rfl rfl rfl rfl rfl rfl ⟨rfl, Nat.le_of_ble_eq_true rfl⟩ h.1) (qCI_imp (fun v134 G133 h => ?_) h.2)
      refine r_aload_n dL_law_671 rfl ?_
      refine r_cI dL_law_672 rfl (invV_eq rfl rfl rfl rfl rfl rfl ⟨rfl, Nat.le_of_ble_eq_true rfl⟩ h.1) (qCI_imp (fun v136 G135 h => ?_) h.2)
      refine r_ceq (tgt := 971) dL_law_675 (by decide) (ite_imp (fun h => ?_) (fun h => ?_) h)
      · refine r_iinc dL_law_971 rfl rfl ?_
        refine r_goto (tgt := 18) dL_law_974 (by decide) ?_
        exact h
      · refine r_iconst dL_law_678 ?_
        exact r_iret dL_law_679 rfl ⟨rfl, h⟩
    rw [if_neg e21] at h
    by_cases e22 : ((v2 &&& (iv 31))).toInt = 22
    · rw [if_pos e22] at h
      refine r_tswIn (tgt := 680) (off := 648) dL_law_32 (by rw [e22]; decide) (by rw [e22]; rfl) (by decide) ?_
      refine r_aload_n dL_law_680 rfl ?_
      refine r_aload_n dL_law_681 rfl ?_
      refine r_iload_n dL_law_682 rfl ?_
      refine r_iconst dL_law_683 ?_
      refine r_iadd dL_law_684 ?_
      refine r_iald dL_law_685 (qIA_imp (fun v137 h => ?_) h)
      refine r_cI dL_law_686 rfl (invV_eq rfl rfl rfl rfl rfl rfl ⟨rfl, Nat.le_of_ble_eq_true rfl⟩ h.1) (qCI_imp (fun v139 G138 h => ?_) h.2)
      refine r_aload_n dL_law_689 rfl ?_
      refine r_aload_n dL_law_690 rfl ?_
      refine r_iload_n dL_law_691 rfl ?_
      refine r_iconst dL_law_692 ?_
      refine r_iadd dL_law_693 ?_
      refine r_iald dL_law_694 (qIA_imp (fun v140 h => ?_) h)
      refine r_cI dL_law_695 rfl (invV_eq rfl rfl rfl rfl rfl rfl ⟨rfl, Nat.le_of_ble_eq_true rfl⟩ h.1) (qCI_imp (fun v142 G141 h => ?_) h.2)
      refine r_ceq (tgt := 971) dL_law_698 (by decide) (ite_imp (fun h => ?_) (fun h => ?_) h)
      · refine r_iinc dL_law_971 rfl rfl ?_
        refine r_goto (tgt := 18) dL_law_974 (by decide) ?_
        exact h
      · refine r_iconst dL_law_701 ?_
        exact r_iret dL_law_702 rfl ⟨rfl, h⟩
    rw [if_neg e22] at h
    by_cases e23 : ((v2 &&& (iv 31))).toInt = 23
    · rw [if_pos e23] at h
      refine r_tswIn (tgt := 703) (off := 671) dL_law_32 (by rw [e23]; decide) (by rw [e23]; rfl) (by decide) ?_
      refine r_aload_n dL_law_703 rfl ?_
      refine r_aload_n dL_law_704 rfl ?_
      refine r_iload_n dL_law_705 rfl ?_
      refine r_iconst dL_law_706 ?_
      refine r_iadd dL_law_707 ?_
      refine r_iald dL_law_708 (qIA_imp (fun v143 h => ?_) h)
      refine r_aload_n dL_law_709 rfl ?_
      refine r_iload_n dL_law_710 rfl ?_
      refine r_iconst dL_law_711 ?_
      refine r_iadd dL_law_712 ?_
      refine r_iald dL_law_713 (qIA_imp (fun v144 h => ?_) h)
      refine r_aload_n dL_law_714 rfl ?_
      refine r_iload_n dL_law_715 rfl ?_
      refine r_iconst dL_law_716 ?_
      refine r_iadd dL_law_717 ?_
      refine r_iald dL_law_718 (qIA_imp (fun v145 h => ?_) h)
      refine r_aload_n dL_law_719 rfl ?_
      refine r_iload_n dL_law_720 rfl ?_
      refine r_iconst dL_law_721 ?_
      refine r_iadd dL_law_722 ?_
      refine r_iald dL_law_723 (qIA_imp (fun v146 h => ?_) h)
      refine r_cI dL_law_724 rfl (invV_eq rfl rfl rfl rfl rfl rfl ⟨rfl, Nat.le_of_ble_eq_true rfl⟩ h.1) (qCI_imp (fun v148 G147 h => ?_) h.2)
      refine r_aload_n dL_law_727 rfl ?_
      refine r_aload_n dL_law_728 rfl ?_
      refine r_iload_n dL_law_729 rfl ?_
      refine r_iconst dL_law_730 ?_
      refine r_iadd dL_law_731 ?_
      refine r_iald dL_law_732 (qIA_imp (fun v149 h => ?_) h)
      refine r_aload_n dL_law_733 rfl ?_
      refine r_iload_n dL_law_734 rfl ?_
      refine r_iconst dL_law_735 ?_
      refine r_iadd dL_law_736 ?_
      refine r_iald dL_law_737 (qIA_imp (fun v150 h => ?_) h)
      refine r_aload_n dL_law_738 rfl ?_
      refine r_iload_n dL_law_739 rfl ?_
      refine r_iconst dL_law_740 ?_
      refine r_iadd dL_law_741 ?_
      refine r_iald dL_law_742 (qIA_imp (fun v151 h => ?_) h)
      refine r_aload_n dL_law_743 rfl ?_
      refine r_iload_n dL_law_744 rfl ?_
      refine r_iconst dL_law_745 ?_
      refine r_iadd dL_law_746 ?_
      refine r_iald dL_law_747 (qIA_imp (fun v152 h => ?_) h)
      refine r_cI dL_law_748 rfl (invV_eq rfl rfl rfl rfl rfl rfl ⟨rfl, Nat.le_of_ble_eq_true rfl⟩ h.1) (qCI_imp (fun v154 G153 h => ?_) h.2)
      refine r_ceq (tgt := 971) dL_law_751 (by decide) (ite_imp (fun h => ?_) (fun h => ?_) h)
      · refine r_iinc dL_law_971 rfl rfl ?_
        refine r_goto (tgt := 18) dL_law_974 (by decide) ?_
        exact h
      · refine r_iconst dL_law_754 ?_
        exact r_iret dL_law_755 rfl ⟨rfl, h⟩
    rw [if_neg e23] at h
    by_cases e24 : ((v2 &&& (iv 31))).toInt = 24
    · rw [if_pos e24] at h
      refine r_tswIn (tgt := 756) (off := 724) dL_law_32 (by rw [e24]; decide) (by rw [e24]; rfl) (by decide) ?_
      refine r_aload_n dL_law_756 rfl ?_
      refine r_aload_n dL_law_757 rfl ?_
      refine r_iload_n dL_law_758 rfl ?_
      refine r_iconst dL_law_759 ?_
      refine r_iadd dL_law_760 ?_
      refine r_iald dL_law_761 (qIA_imp (fun v155 h => ?_) h)
      refine r_aload_n dL_law_762 rfl ?_
      refine r_iload_n dL_law_763 rfl ?_
      refine r_iconst dL_law_764 ?_
      refine r_iadd dL_law_765 ?_
      refine r_iald dL_law_766 (qIA_imp (fun v156 h => ?_) h)
      refine r_aload_n dL_law_767 rfl ?_
      refine r_iload_n dL_law_768 rfl ?_
      refine r_iconst dL_law_769 ?_
      refine r_iadd dL_law_770 ?_
      refine r_iald dL_law_771 (qIA_imp (fun v157 h => ?_) h)
      refine r_cI dL_law_772 rfl (invV_eq rfl rfl rfl rfl rfl rfl ⟨rfl, Nat.le_of_ble_eq_true rfl⟩ h.1) (qCI_imp (fun v159 G158 h => ?_) h.2)
      refine r_aload_n dL_law_775 rfl ?_
      refine r_aload_n dL_law_776 rfl ?_
      refine r_iload_n dL_law_777 rfl ?_
      refine r_iconst dL_law_778 ?_
      refine r_iadd dL_law_779 ?_
      refine r_iald dL_law_780 (qIA_imp (fun v160 h => ?_) h)
      refine r_aload_n dL_law_781 rfl ?_
      refine r_iload_n dL_law_782 rfl ?_
      refine r_iconst dL_law_783 ?_
      refine r_iadd dL_law_784 ?_
      refine r_iald dL_law_785 (qIA_imp (fun v161 h => ?_) h)
      refine r_aload_n dL_law_786 rfl ?_
      refine r_iload_n dL_law_787 rfl ?_
      refine r_iconst dL_law_788 ?_
      refine r_iadd dL_law_789 ?_
      refine r_iald dL_law_790 (qIA_imp (fun v162 h => ?_) h)
      refine r_cI dL_law_791 rfl (invV_eq rfl rfl rfl rfl rfl rfl ⟨rfl, Nat.le_of_ble_eq_true rfl⟩ h.1) (qCI_imp (fun v164 G163 h => ?_) h.2)
      refine r_ceq (tgt := 971) dL_law_794 (by decide) (ite_imp (fun h => ?_) (fun h => ?_) h)
      · refine r_iinc dL_law_971 rfl rfl ?_
        refine r_goto (tgt := 18) dL_law_974 (by decide) ?_
        exact h
      · refine r_iconst dL_law_797 ?_
        exact r_iret dL_law_798 rfl ⟨rfl, h⟩
    rw [if_neg e24] at h
    by_cases e25 : ((v2 &&& (iv 31))).toInt = 25
    · rw [if_pos e25] at h
      refine r_tswIn (tgt := 799) (off := 767) dL_law_32 (by rw [e25]; decide) (by rw [e25]; rfl) (by decide) ?_
      refine r_aload_n dL_law_799 rfl ?_
      refine r_aload_n dL_law_800 rfl ?_
      refine r_iload_n dL_law_801 rfl ?_
      refine r_iconst dL_law_802 ?_
      refine r_iadd dL_law_803 ?_
      refine r_iald dL_law_804 (qIA_imp (fun v165 h => ?_) h)
      refine r_aload_n dL_law_805 rfl ?_
      refine r_iload_n dL_law_806 rfl ?_
      refine r_iconst dL_law_807 ?_
      refine r_iadd dL_law_808 ?_
      refine r_iald dL_law_809 (qIA_imp (fun v166 h => ?_) h)
      refine r_i2l dL_law_810 ?_
      refine r_bipush dL_law_811 rfl ?_
      refine r_lshl dL_law_813 ?_
      refine r_aload_n dL_law_814 rfl ?_
      refine r_iload_n dL_law_815 rfl ?_
      refine r_iconst dL_law_816 ?_
      refine r_iadd dL_law_817 ?_
      refine r_iald dL_law_818 (qIA_imp (fun v167 h => ?_) h)
      refine r_i2l dL_law_819 ?_
      refine r_ldc2 dL_law_820 rfl ?_
      refine r_land dL_law_823 ?_
      refine r_lor dL_law_824 ?_
      refine r_cI dL_law_825 rfl (invV_eq rfl rfl rfl rfl rfl rfl ⟨rfl, Nat.le_of_ble_eq_true rfl⟩ h.1) (qCI_imp (fun v169 G168 h => ?_) h.2)
      refine r_aload_n dL_law_828 rfl ?_
      refine r_aload_n dL_law_829 rfl ?_
      refine r_iload_n dL_law_830 rfl ?_
      refine r_iconst dL_law_831 ?_
      refine r_iadd dL_law_832 ?_
      refine r_iald dL_law_833 (qIA_imp (fun v170 h => ?_) h)
      refine r_aload_n dL_law_834 rfl ?_
      refine r_iload_n dL_law_835 rfl ?_
      refine r_iconst dL_law_836 ?_
      refine r_iadd dL_law_837 ?_
      refine r_iald dL_law_838 (qIA_imp (fun v171 h => ?_) h)
      refine r_i2l dL_law_839 ?_
      refine r_bipush dL_law_840 rfl ?_
      refine r_lshl dL_law_842 ?_
      refine r_aload_n dL_law_843 rfl ?_
      refine r_iload_n dL_law_844 rfl ?_
      refine r_iconst dL_law_845 ?_
      refine r_iadd dL_law_846 ?_
      refine r_iald dL_law_847 (qIA_imp (fun v172 h => ?_) h)
      refine r_i2l dL_law_848 ?_
      refine r_ldc2 dL_law_849 rfl ?_
      refine r_land dL_law_852 ?_
      refine r_lor dL_law_853 ?_
      refine r_cI dL_law_854 rfl (invV_eq rfl rfl rfl rfl rfl rfl ⟨rfl, Nat.le_of_ble_eq_true rfl⟩ h.1) (qCI_imp (fun v174 G173 h => ?_) h.2)
      refine r_ceq (tgt := 971) dL_law_857 (by decide) (ite_imp (fun h => ?_) (fun h => ?_) h)
      · refine r_iinc dL_law_971 rfl rfl ?_
        refine r_goto (tgt := 18) dL_law_974 (by decide) ?_
        exact h
      · refine r_iconst dL_law_860 ?_
        exact r_iret dL_law_861 rfl ⟨rfl, h⟩
    rw [if_neg e25] at h
    by_cases e26 : ((v2 &&& (iv 31))).toInt = 26
    · rw [if_pos e26] at h
      refine r_tswIn (tgt := 862) (off := 830) dL_law_32 (by rw [e26]; decide) (by rw [e26]; rfl) (by decide) ?_
      refine r_aload_n dL_law_862 rfl ?_
      refine r_aload_n dL_law_863 rfl ?_
      refine r_iload_n dL_law_864 rfl ?_
      refine r_iconst dL_law_865 ?_
      refine r_iadd dL_law_866 ?_
      refine r_iald dL_law_867 (qIA_imp (fun v175 h => ?_) h)
      refine r_i2l dL_law_868 ?_
      refine r_bipush dL_law_869 rfl ?_
      refine r_lshl dL_law_871 ?_
      refine r_aload_n dL_law_872 rfl ?_
      refine r_iload_n dL_law_873 rfl ?_
      refine r_iconst dL_law_874 ?_
      refine r_iadd dL_law_875 ?_
      refine r_iald dL_law_876 (qIA_imp (fun v176 h => ?_) h)
      refine r_i2l dL_law_877 ?_
      refine r_ldc2 dL_law_878 rfl ?_
      refine r_land dL_law_881 ?_
      refine r_lor dL_law_882 ?_
      refine r_aload_n dL_law_883 rfl ?_
      refine r_iload_n dL_law_884 rfl ?_
      refine r_iconst dL_law_885 ?_
      refine r_iadd dL_law_886 ?_
      refine r_iald dL_law_887 (qIA_imp (fun v177 h => ?_) h)
      refine r_cI dL_law_888 rfl (invV_eq rfl rfl rfl rfl rfl rfl ⟨rfl, Nat.le_of_ble_eq_true rfl⟩ h.1) (qCI_imp (fun v179 G178 h => ?_) h.2)
      refine r_aload_n dL_law_891 rfl ?_
      refine r_aload_n dL_law_892 rfl ?_
      refine r_iload_n dL_law_893 rfl ?_
      refine r_iconst dL_law_894 ?_
      refine r_iadd dL_law_895 ?_
      refine r_iald dL_law_896 (qIA_imp (fun v180 h => ?_) h)
      refine r_i2l dL_law_897 ?_
      refine r_bipush dL_law_898 rfl ?_
      refine r_lshl dL_law_900 ?_
      refine r_aload_n dL_law_901 rfl ?_
      refine r_iload_n dL_law_902 rfl ?_
      refine r_iconst dL_law_903 ?_
      refine r_iadd dL_law_904 ?_
      refine r_iald dL_law_905 (qIA_imp (fun v181 h => ?_) h)
      refine r_i2l dL_law_906 ?_
      refine r_ldc2 dL_law_907 rfl ?_
      refine r_land dL_law_910 ?_
      refine r_lor dL_law_911 ?_
      refine r_aload_n dL_law_912 rfl ?_
      refine r_iload_n dL_law_913 rfl ?_
      refine r_iconst dL_law_914 ?_
      refine r_iadd dL_law_915 ?_
      refine r_iald dL_law_916 (qIA_imp (fun v182 h => ?_) h)
      refine r_cI dL_law_917 rfl (invV_eq rfl rfl rfl rfl rfl rfl ⟨rfl, Nat.le_of_ble_eq_true rfl⟩ h.1) (qCI_imp (fun v184 G183 h => ?_) h.2)
      refine r_ceq (tgt := 971) dL_law_920 (by decide) (ite_imp (fun h => ?_) (fun h => ?_) h)
      · refine r_iinc dL_law_971 rfl rfl ?_
        refine r_goto (tgt := 18) dL_law_974 (by decide) ?_
        exact h
      · refine r_iconst dL_law_923 ?_
        exact r_iret dL_law_924 rfl ⟨rfl, h⟩
    rw [if_neg e26] at h
    by_cases e27 : ((v2 &&& (iv 31))).toInt = 27
    · rw [if_pos e27] at h
      refine r_tswIn (tgt := 925) (off := 893) dL_law_32 (by rw [e27]; decide) (by rw [e27]; rfl) (by decide) ?_
      refine r_aload_n dL_law_925 rfl ?_
      refine r_aload_n dL_law_926 rfl ?_
      refine r_iload_n dL_law_927 rfl ?_
      refine r_iconst dL_law_928 ?_
      refine r_iadd dL_law_929 ?_
      refine r_iald dL_law_930 (qIA_imp (fun v185 h => ?_) h)
      refine r_cI dL_law_931 rfl (invV_eq rfl rfl rfl rfl rfl rfl ⟨rfl, Nat.le_of_ble_eq_true rfl⟩ h.1) (qCI_imp (fun v187 G186 h => ?_) h.2)
      refine r_aload_n dL_law_934 rfl ?_
      refine r_aload_n dL_law_935 rfl ?_
      refine r_iload_n dL_law_936 rfl ?_
      refine r_iconst dL_law_937 ?_
      refine r_iadd dL_law_938 ?_
      refine r_iald dL_law_939 (qIA_imp (fun v188 h => ?_) h)
      refine r_cI dL_law_940 rfl (invV_eq rfl rfl rfl rfl rfl rfl ⟨rfl, Nat.le_of_ble_eq_true rfl⟩ h.1) (qCI_imp (fun v190 G189 h => ?_) h.2)
      refine r_ceq (tgt := 971) dL_law_943 (by decide) (ite_imp (fun h => ?_) (fun h => ?_) h)
      · refine r_iinc dL_law_971 rfl rfl ?_
        refine r_goto (tgt := 18) dL_law_974 (by decide) ?_
        exact h
      · refine r_iconst dL_law_946 ?_
        exact r_iret dL_law_947 rfl ⟨rfl, h⟩
    rw [if_neg e27] at h
    by_cases e28 : ((v2 &&& (iv 31))).toInt = 28
    · rw [if_pos e28] at h
      refine r_tswIn (tgt := 948) (off := 916) dL_law_32 (by rw [e28]; decide) (by rw [e28]; rfl) (by decide) ?_
      refine r_aload_n dL_law_948 rfl ?_
      refine r_aload_n dL_law_949 rfl ?_
      refine r_iload_n dL_law_950 rfl ?_
      refine r_iconst dL_law_951 ?_
      refine r_iadd dL_law_952 ?_
      refine r_iald dL_law_953 (qIA_imp (fun v191 h => ?_) h)
      refine r_cI dL_law_954 rfl (invV_eq rfl rfl rfl rfl rfl rfl ⟨rfl, Nat.le_of_ble_eq_true rfl⟩ h.1) (qCI_imp (fun v193 G192 h => ?_) h.2)
      refine r_aload_n dL_law_957 rfl ?_
      refine r_aload_n dL_law_958 rfl ?_
      refine r_iload_n dL_law_959 rfl ?_
      refine r_iconst dL_law_960 ?_
      refine r_iadd dL_law_961 ?_
      refine r_iald dL_law_962 (qIA_imp (fun v194 h => ?_) h)
      refine r_cI dL_law_963 rfl (invV_eq rfl rfl rfl rfl rfl rfl ⟨rfl, Nat.le_of_ble_eq_true rfl⟩ h.1) (qCI_imp (fun v196 G195 h => ?_) h.2)
      refine r_ceq (tgt := 971) dL_law_966 (by decide) (ite_imp (fun h => ?_) (fun h => ?_) h)
      · refine r_iinc dL_law_971 rfl rfl ?_
        refine r_goto (tgt := 18) dL_law_974 (by decide) ?_
        exact h
      · refine r_iconst dL_law_969 ?_
        exact r_iret dL_law_970 rfl ⟨rfl, h⟩
    rw [if_neg e28] at h
    refine r_tswOut (tgt := 971) dL_law_32 (by omega) (by decide) ?_
    refine r_iinc dL_law_971 rfl rfl ?_
    refine r_goto (tgt := 18) dL_law_974 (by decide) ?_
    exact h
