/-! the law: its instructions: printed by program (wip/whole/gen/law.py) -/
theorem dl_0 : decode code 0 = .ok (.new 7, 3) := by decide +kernel
theorem dl_3 : decode code 3 = .ok (.dup, 1) := by decide +kernel
theorem dl_4 : decode code 4 = .ok (.invokespecial 9, 3) := by decide +kernel
theorem dl_7 : decode code 7 = .ok (.astore_n 1, 1) := by decide +kernel
theorem dl_8 : decode code 8 = .ok (.new 10, 3) := by decide +kernel
theorem dl_11 : decode code 11 = .ok (.dup, 1) := by decide +kernel
theorem dl_12 : decode code 12 = .ok (.invokespecial 12, 3) := by decide +kernel
theorem dl_15 : decode code 15 = .ok (.astore_n 2, 1) := by decide +kernel
theorem dl_16 : decode code 16 = .ok (.iconst 0, 1) := by decide +kernel
theorem dl_17 : decode code 17 = .ok (.istore_n 3, 1) := by decide +kernel
theorem dl_18 : decode code 18 = .ok (.iload_n 3, 1) := by decide +kernel
theorem dl_19 : decode code 19 = .ok (.aload_n 0, 1) := by decide +kernel
theorem dl_20 : decode code 20 = .ok (.arraylength, 1) := by decide +kernel
theorem dl_21 : decode code 21 = .ok (.iconst 4, 1) := by decide +kernel
theorem dl_22 : decode code 22 = .ok (.isub, 1) := by decide +kernel
theorem dl_23 : decode code 23 = .ok (.if_icmp .gt 813, 3) := by decide +kernel
theorem dl_26 : decode code 26 = .ok (.aload_n 0, 1) := by decide +kernel
theorem dl_27 : decode code 27 = .ok (.iload_n 3, 1) := by decide +kernel
theorem dl_28 : decode code 28 = .ok (.iaload, 1) := by decide +kernel
theorem dl_29 : decode code 29 = .ok (.bipush 31, 2) := by decide +kernel
theorem dl_31 : decode code 31 = .ok (.iand, 1) := by decide +kernel
theorem dl_32 : decode code 32 = .ok (.tableswitch 798 0 25 #[120, 143, 166, 189, 222, 245, 278, 311, 324, 347, 370, 403, 436, 469, 492, 515, 538, 561, 574, 587, 630, 663, 686, 719, 752, 775], 120) := by decide +kernel
theorem dl_152 : decode code 152 = .ok (.aload_n 1, 1) := by decide +kernel
theorem dl_153 : decode code 153 = .ok (.aload_n 0, 1) := by decide +kernel
theorem dl_154 : decode code 154 = .ok (.iload_n 3, 1) := by decide +kernel
theorem dl_155 : decode code 155 = .ok (.iconst 1, 1) := by decide +kernel
theorem dl_156 : decode code 156 = .ok (.iadd, 1) := by decide +kernel
theorem dl_157 : decode code 157 = .ok (.iaload, 1) := by decide +kernel
theorem dl_158 : decode code 158 = .ok (.invokevirtual 13, 3) := by decide +kernel
theorem dl_161 : decode code 161 = .ok (.aload_n 2, 1) := by decide +kernel
theorem dl_162 : decode code 162 = .ok (.aload_n 0, 1) := by decide +kernel
theorem dl_163 : decode code 163 = .ok (.iload_n 3, 1) := by decide +kernel
theorem dl_164 : decode code 164 = .ok (.iconst 1, 1) := by decide +kernel
theorem dl_165 : decode code 165 = .ok (.iadd, 1) := by decide +kernel
theorem dl_166 : decode code 166 = .ok (.iaload, 1) := by decide +kernel
theorem dl_167 : decode code 167 = .ok (.invokevirtual 17, 3) := by decide +kernel
theorem dl_170 : decode code 170 = .ok (.if_icmp .eq 660, 3) := by decide +kernel
theorem dl_173 : decode code 173 = .ok (.iconst 0, 1) := by decide +kernel
theorem dl_174 : decode code 174 = .ok (.ireturn, 1) := by decide +kernel
theorem dl_175 : decode code 175 = .ok (.aload_n 1, 1) := by decide +kernel
theorem dl_176 : decode code 176 = .ok (.aload_n 0, 1) := by decide +kernel
theorem dl_177 : decode code 177 = .ok (.iload_n 3, 1) := by decide +kernel
theorem dl_178 : decode code 178 = .ok (.iconst 1, 1) := by decide +kernel
theorem dl_179 : decode code 179 = .ok (.iadd, 1) := by decide +kernel
theorem dl_180 : decode code 180 = .ok (.iaload, 1) := by decide +kernel
theorem dl_181 : decode code 181 = .ok (.invokevirtual 18, 3) := by decide +kernel
theorem dl_184 : decode code 184 = .ok (.aload_n 2, 1) := by decide +kernel
theorem dl_185 : decode code 185 = .ok (.aload_n 0, 1) := by decide +kernel
theorem dl_186 : decode code 186 = .ok (.iload_n 3, 1) := by decide +kernel
theorem dl_187 : decode code 187 = .ok (.iconst 1, 1) := by decide +kernel
theorem dl_188 : decode code 188 = .ok (.iadd, 1) := by decide +kernel
theorem dl_189 : decode code 189 = .ok (.iaload, 1) := by decide +kernel
theorem dl_190 : decode code 190 = .ok (.invokevirtual 21, 3) := by decide +kernel
theorem dl_193 : decode code 193 = .ok (.if_icmp .eq 637, 3) := by decide +kernel
theorem dl_196 : decode code 196 = .ok (.iconst 0, 1) := by decide +kernel
theorem dl_197 : decode code 197 = .ok (.ireturn, 1) := by decide +kernel
theorem dl_198 : decode code 198 = .ok (.aload_n 1, 1) := by decide +kernel
theorem dl_199 : decode code 199 = .ok (.aload_n 0, 1) := by decide +kernel
theorem dl_200 : decode code 200 = .ok (.iload_n 3, 1) := by decide +kernel
theorem dl_201 : decode code 201 = .ok (.iconst 1, 1) := by decide +kernel
theorem dl_202 : decode code 202 = .ok (.iadd, 1) := by decide +kernel
theorem dl_203 : decode code 203 = .ok (.iaload, 1) := by decide +kernel
theorem dl_204 : decode code 204 = .ok (.invokevirtual 22, 3) := by decide +kernel
theorem dl_207 : decode code 207 = .ok (.aload_n 2, 1) := by decide +kernel
theorem dl_208 : decode code 208 = .ok (.aload_n 0, 1) := by decide +kernel
theorem dl_209 : decode code 209 = .ok (.iload_n 3, 1) := by decide +kernel
theorem dl_210 : decode code 210 = .ok (.iconst 1, 1) := by decide +kernel
theorem dl_211 : decode code 211 = .ok (.iadd, 1) := by decide +kernel
theorem dl_212 : decode code 212 = .ok (.iaload, 1) := by decide +kernel
theorem dl_213 : decode code 213 = .ok (.invokevirtual 25, 3) := by decide +kernel
theorem dl_216 : decode code 216 = .ok (.if_icmp .eq 614, 3) := by decide +kernel
theorem dl_219 : decode code 219 = .ok (.iconst 0, 1) := by decide +kernel
theorem dl_220 : decode code 220 = .ok (.ireturn, 1) := by decide +kernel
theorem dl_221 : decode code 221 = .ok (.aload_n 1, 1) := by decide +kernel
theorem dl_222 : decode code 222 = .ok (.aload_n 0, 1) := by decide +kernel
theorem dl_223 : decode code 223 = .ok (.iload_n 3, 1) := by decide +kernel
theorem dl_224 : decode code 224 = .ok (.iconst 1, 1) := by decide +kernel
theorem dl_225 : decode code 225 = .ok (.iadd, 1) := by decide +kernel
theorem dl_226 : decode code 226 = .ok (.iaload, 1) := by decide +kernel
theorem dl_227 : decode code 227 = .ok (.aload_n 0, 1) := by decide +kernel
theorem dl_228 : decode code 228 = .ok (.iload_n 3, 1) := by decide +kernel
theorem dl_229 : decode code 229 = .ok (.iconst 2, 1) := by decide +kernel
theorem dl_230 : decode code 230 = .ok (.iadd, 1) := by decide +kernel
theorem dl_231 : decode code 231 = .ok (.iaload, 1) := by decide +kernel
theorem dl_232 : decode code 232 = .ok (.invokevirtual 26, 3) := by decide +kernel
theorem dl_235 : decode code 235 = .ok (.aload_n 2, 1) := by decide +kernel
theorem dl_236 : decode code 236 = .ok (.aload_n 0, 1) := by decide +kernel
theorem dl_237 : decode code 237 = .ok (.iload_n 3, 1) := by decide +kernel
theorem dl_238 : decode code 238 = .ok (.iconst 1, 1) := by decide +kernel
theorem dl_239 : decode code 239 = .ok (.iadd, 1) := by decide +kernel
theorem dl_240 : decode code 240 = .ok (.iaload, 1) := by decide +kernel
theorem dl_241 : decode code 241 = .ok (.aload_n 0, 1) := by decide +kernel
theorem dl_242 : decode code 242 = .ok (.iload_n 3, 1) := by decide +kernel
theorem dl_243 : decode code 243 = .ok (.iconst 2, 1) := by decide +kernel
theorem dl_244 : decode code 244 = .ok (.iadd, 1) := by decide +kernel
theorem dl_245 : decode code 245 = .ok (.iaload, 1) := by decide +kernel
theorem dl_246 : decode code 246 = .ok (.invokevirtual 30, 3) := by decide +kernel
theorem dl_249 : decode code 249 = .ok (.if_icmp .eq 581, 3) := by decide +kernel
theorem dl_252 : decode code 252 = .ok (.iconst 0, 1) := by decide +kernel
theorem dl_253 : decode code 253 = .ok (.ireturn, 1) := by decide +kernel
theorem dl_254 : decode code 254 = .ok (.aload_n 1, 1) := by decide +kernel
theorem dl_255 : decode code 255 = .ok (.aload_n 0, 1) := by decide +kernel
theorem dl_256 : decode code 256 = .ok (.iload_n 3, 1) := by decide +kernel
theorem dl_257 : decode code 257 = .ok (.iconst 1, 1) := by decide +kernel
theorem dl_258 : decode code 258 = .ok (.iadd, 1) := by decide +kernel
theorem dl_259 : decode code 259 = .ok (.iaload, 1) := by decide +kernel
theorem dl_260 : decode code 260 = .ok (.invokevirtual 31, 3) := by decide +kernel
theorem dl_263 : decode code 263 = .ok (.aload_n 2, 1) := by decide +kernel
theorem dl_264 : decode code 264 = .ok (.aload_n 0, 1) := by decide +kernel
theorem dl_265 : decode code 265 = .ok (.iload_n 3, 1) := by decide +kernel
theorem dl_266 : decode code 266 = .ok (.iconst 1, 1) := by decide +kernel
theorem dl_267 : decode code 267 = .ok (.iadd, 1) := by decide +kernel
theorem dl_268 : decode code 268 = .ok (.iaload, 1) := by decide +kernel
theorem dl_269 : decode code 269 = .ok (.invokevirtual 34, 3) := by decide +kernel
theorem dl_272 : decode code 272 = .ok (.if_icmp .eq 558, 3) := by decide +kernel
theorem dl_275 : decode code 275 = .ok (.iconst 0, 1) := by decide +kernel
theorem dl_276 : decode code 276 = .ok (.ireturn, 1) := by decide +kernel
theorem dl_277 : decode code 277 = .ok (.aload_n 1, 1) := by decide +kernel
theorem dl_278 : decode code 278 = .ok (.aload_n 0, 1) := by decide +kernel
theorem dl_279 : decode code 279 = .ok (.iload_n 3, 1) := by decide +kernel
theorem dl_280 : decode code 280 = .ok (.iconst 1, 1) := by decide +kernel
theorem dl_281 : decode code 281 = .ok (.iadd, 1) := by decide +kernel
theorem dl_282 : decode code 282 = .ok (.iaload, 1) := by decide +kernel
theorem dl_283 : decode code 283 = .ok (.aload_n 0, 1) := by decide +kernel
theorem dl_284 : decode code 284 = .ok (.iload_n 3, 1) := by decide +kernel
theorem dl_285 : decode code 285 = .ok (.iconst 2, 1) := by decide +kernel
theorem dl_286 : decode code 286 = .ok (.iadd, 1) := by decide +kernel
theorem dl_287 : decode code 287 = .ok (.iaload, 1) := by decide +kernel
theorem dl_288 : decode code 288 = .ok (.invokevirtual 35, 3) := by decide +kernel
theorem dl_291 : decode code 291 = .ok (.aload_n 2, 1) := by decide +kernel
theorem dl_292 : decode code 292 = .ok (.aload_n 0, 1) := by decide +kernel
theorem dl_293 : decode code 293 = .ok (.iload_n 3, 1) := by decide +kernel
theorem dl_294 : decode code 294 = .ok (.iconst 1, 1) := by decide +kernel
theorem dl_295 : decode code 295 = .ok (.iadd, 1) := by decide +kernel
theorem dl_296 : decode code 296 = .ok (.iaload, 1) := by decide +kernel
theorem dl_297 : decode code 297 = .ok (.aload_n 0, 1) := by decide +kernel
theorem dl_298 : decode code 298 = .ok (.iload_n 3, 1) := by decide +kernel
theorem dl_299 : decode code 299 = .ok (.iconst 2, 1) := by decide +kernel
theorem dl_300 : decode code 300 = .ok (.iadd, 1) := by decide +kernel
theorem dl_301 : decode code 301 = .ok (.iaload, 1) := by decide +kernel
theorem dl_302 : decode code 302 = .ok (.invokevirtual 38, 3) := by decide +kernel
theorem dl_305 : decode code 305 = .ok (.if_icmp .eq 525, 3) := by decide +kernel
theorem dl_308 : decode code 308 = .ok (.iconst 0, 1) := by decide +kernel
theorem dl_309 : decode code 309 = .ok (.ireturn, 1) := by decide +kernel
theorem dl_310 : decode code 310 = .ok (.aload_n 1, 1) := by decide +kernel
theorem dl_311 : decode code 311 = .ok (.aload_n 0, 1) := by decide +kernel
theorem dl_312 : decode code 312 = .ok (.iload_n 3, 1) := by decide +kernel
theorem dl_313 : decode code 313 = .ok (.iconst 1, 1) := by decide +kernel
theorem dl_314 : decode code 314 = .ok (.iadd, 1) := by decide +kernel
theorem dl_315 : decode code 315 = .ok (.iaload, 1) := by decide +kernel
theorem dl_316 : decode code 316 = .ok (.aload_n 0, 1) := by decide +kernel
theorem dl_317 : decode code 317 = .ok (.iload_n 3, 1) := by decide +kernel
theorem dl_318 : decode code 318 = .ok (.iconst 2, 1) := by decide +kernel
theorem dl_319 : decode code 319 = .ok (.iadd, 1) := by decide +kernel
theorem dl_320 : decode code 320 = .ok (.iaload, 1) := by decide +kernel
theorem dl_321 : decode code 321 = .ok (.invokevirtual 39, 3) := by decide +kernel
theorem dl_324 : decode code 324 = .ok (.aload_n 2, 1) := by decide +kernel
theorem dl_325 : decode code 325 = .ok (.aload_n 0, 1) := by decide +kernel
theorem dl_326 : decode code 326 = .ok (.iload_n 3, 1) := by decide +kernel
theorem dl_327 : decode code 327 = .ok (.iconst 1, 1) := by decide +kernel
theorem dl_328 : decode code 328 = .ok (.iadd, 1) := by decide +kernel
theorem dl_329 : decode code 329 = .ok (.iaload, 1) := by decide +kernel
theorem dl_330 : decode code 330 = .ok (.aload_n 0, 1) := by decide +kernel
theorem dl_331 : decode code 331 = .ok (.iload_n 3, 1) := by decide +kernel
theorem dl_332 : decode code 332 = .ok (.iconst 2, 1) := by decide +kernel
theorem dl_333 : decode code 333 = .ok (.iadd, 1) := by decide +kernel
theorem dl_334 : decode code 334 = .ok (.iaload, 1) := by decide +kernel
theorem dl_335 : decode code 335 = .ok (.invokevirtual 42, 3) := by decide +kernel
theorem dl_338 : decode code 338 = .ok (.if_icmp .eq 492, 3) := by decide +kernel
theorem dl_341 : decode code 341 = .ok (.iconst 0, 1) := by decide +kernel
theorem dl_342 : decode code 342 = .ok (.ireturn, 1) := by decide +kernel
theorem dl_343 : decode code 343 = .ok (.aload_n 1, 1) := by decide +kernel
theorem dl_344 : decode code 344 = .ok (.invokevirtual 43, 3) := by decide +kernel
theorem dl_347 : decode code 347 = .ok (.aload_n 2, 1) := by decide +kernel
theorem dl_348 : decode code 348 = .ok (.invokevirtual 47, 3) := by decide +kernel
theorem dl_351 : decode code 351 = .ok (.if_icmp .eq 479, 3) := by decide +kernel
theorem dl_354 : decode code 354 = .ok (.iconst 0, 1) := by decide +kernel
theorem dl_355 : decode code 355 = .ok (.ireturn, 1) := by decide +kernel
theorem dl_356 : decode code 356 = .ok (.aload_n 1, 1) := by decide +kernel
theorem dl_357 : decode code 357 = .ok (.aload_n 0, 1) := by decide +kernel
theorem dl_358 : decode code 358 = .ok (.iload_n 3, 1) := by decide +kernel
theorem dl_359 : decode code 359 = .ok (.iconst 1, 1) := by decide +kernel
theorem dl_360 : decode code 360 = .ok (.iadd, 1) := by decide +kernel
theorem dl_361 : decode code 361 = .ok (.iaload, 1) := by decide +kernel
theorem dl_362 : decode code 362 = .ok (.invokevirtual 48, 3) := by decide +kernel
theorem dl_365 : decode code 365 = .ok (.aload_n 2, 1) := by decide +kernel
theorem dl_366 : decode code 366 = .ok (.aload_n 0, 1) := by decide +kernel
theorem dl_367 : decode code 367 = .ok (.iload_n 3, 1) := by decide +kernel
theorem dl_368 : decode code 368 = .ok (.iconst 1, 1) := by decide +kernel
theorem dl_369 : decode code 369 = .ok (.iadd, 1) := by decide +kernel
theorem dl_370 : decode code 370 = .ok (.iaload, 1) := by decide +kernel
theorem dl_371 : decode code 371 = .ok (.invokevirtual 51, 3) := by decide +kernel
theorem dl_374 : decode code 374 = .ok (.if_icmp .eq 456, 3) := by decide +kernel
theorem dl_377 : decode code 377 = .ok (.iconst 0, 1) := by decide +kernel
theorem dl_378 : decode code 378 = .ok (.ireturn, 1) := by decide +kernel
theorem dl_379 : decode code 379 = .ok (.aload_n 1, 1) := by decide +kernel
theorem dl_380 : decode code 380 = .ok (.aload_n 0, 1) := by decide +kernel
theorem dl_381 : decode code 381 = .ok (.iload_n 3, 1) := by decide +kernel
theorem dl_382 : decode code 382 = .ok (.iconst 1, 1) := by decide +kernel
theorem dl_383 : decode code 383 = .ok (.iadd, 1) := by decide +kernel
theorem dl_384 : decode code 384 = .ok (.iaload, 1) := by decide +kernel
theorem dl_385 : decode code 385 = .ok (.invokevirtual 52, 3) := by decide +kernel
theorem dl_388 : decode code 388 = .ok (.aload_n 2, 1) := by decide +kernel
theorem dl_389 : decode code 389 = .ok (.aload_n 0, 1) := by decide +kernel
theorem dl_390 : decode code 390 = .ok (.iload_n 3, 1) := by decide +kernel
theorem dl_391 : decode code 391 = .ok (.iconst 1, 1) := by decide +kernel
theorem dl_392 : decode code 392 = .ok (.iadd, 1) := by decide +kernel
theorem dl_393 : decode code 393 = .ok (.iaload, 1) := by decide +kernel
theorem dl_394 : decode code 394 = .ok (.invokevirtual 55, 3) := by decide +kernel
theorem dl_397 : decode code 397 = .ok (.if_icmp .eq 433, 3) := by decide +kernel
theorem dl_400 : decode code 400 = .ok (.iconst 0, 1) := by decide +kernel
theorem dl_401 : decode code 401 = .ok (.ireturn, 1) := by decide +kernel
theorem dl_402 : decode code 402 = .ok (.aload_n 1, 1) := by decide +kernel
theorem dl_403 : decode code 403 = .ok (.aload_n 0, 1) := by decide +kernel
theorem dl_404 : decode code 404 = .ok (.iload_n 3, 1) := by decide +kernel
theorem dl_405 : decode code 405 = .ok (.iconst 1, 1) := by decide +kernel
theorem dl_406 : decode code 406 = .ok (.iadd, 1) := by decide +kernel
theorem dl_407 : decode code 407 = .ok (.iaload, 1) := by decide +kernel
theorem dl_408 : decode code 408 = .ok (.aload_n 0, 1) := by decide +kernel
theorem dl_409 : decode code 409 = .ok (.iload_n 3, 1) := by decide +kernel
theorem dl_410 : decode code 410 = .ok (.iconst 2, 1) := by decide +kernel
theorem dl_411 : decode code 411 = .ok (.iadd, 1) := by decide +kernel
theorem dl_412 : decode code 412 = .ok (.iaload, 1) := by decide +kernel
theorem dl_413 : decode code 413 = .ok (.invokevirtual 56, 3) := by decide +kernel
theorem dl_416 : decode code 416 = .ok (.aload_n 2, 1) := by decide +kernel
theorem dl_417 : decode code 417 = .ok (.aload_n 0, 1) := by decide +kernel
theorem dl_418 : decode code 418 = .ok (.iload_n 3, 1) := by decide +kernel
theorem dl_419 : decode code 419 = .ok (.iconst 1, 1) := by decide +kernel
theorem dl_420 : decode code 420 = .ok (.iadd, 1) := by decide +kernel
theorem dl_421 : decode code 421 = .ok (.iaload, 1) := by decide +kernel
theorem dl_422 : decode code 422 = .ok (.aload_n 0, 1) := by decide +kernel
theorem dl_423 : decode code 423 = .ok (.iload_n 3, 1) := by decide +kernel
theorem dl_424 : decode code 424 = .ok (.iconst 2, 1) := by decide +kernel
theorem dl_425 : decode code 425 = .ok (.iadd, 1) := by decide +kernel
theorem dl_426 : decode code 426 = .ok (.iaload, 1) := by decide +kernel
theorem dl_427 : decode code 427 = .ok (.invokevirtual 59, 3) := by decide +kernel
theorem dl_430 : decode code 430 = .ok (.if_icmp .eq 400, 3) := by decide +kernel
theorem dl_433 : decode code 433 = .ok (.iconst 0, 1) := by decide +kernel
theorem dl_434 : decode code 434 = .ok (.ireturn, 1) := by decide +kernel
theorem dl_435 : decode code 435 = .ok (.aload_n 1, 1) := by decide +kernel
theorem dl_436 : decode code 436 = .ok (.aload_n 0, 1) := by decide +kernel
theorem dl_437 : decode code 437 = .ok (.iload_n 3, 1) := by decide +kernel
theorem dl_438 : decode code 438 = .ok (.iconst 1, 1) := by decide +kernel
theorem dl_439 : decode code 439 = .ok (.iadd, 1) := by decide +kernel
theorem dl_440 : decode code 440 = .ok (.iaload, 1) := by decide +kernel
theorem dl_441 : decode code 441 = .ok (.aload_n 0, 1) := by decide +kernel
theorem dl_442 : decode code 442 = .ok (.iload_n 3, 1) := by decide +kernel
theorem dl_443 : decode code 443 = .ok (.iconst 2, 1) := by decide +kernel
theorem dl_444 : decode code 444 = .ok (.iadd, 1) := by decide +kernel
theorem dl_445 : decode code 445 = .ok (.iaload, 1) := by decide +kernel
theorem dl_446 : decode code 446 = .ok (.invokevirtual 60, 3) := by decide +kernel
theorem dl_449 : decode code 449 = .ok (.aload_n 2, 1) := by decide +kernel
theorem dl_450 : decode code 450 = .ok (.aload_n 0, 1) := by decide +kernel
theorem dl_451 : decode code 451 = .ok (.iload_n 3, 1) := by decide +kernel
theorem dl_452 : decode code 452 = .ok (.iconst 1, 1) := by decide +kernel
theorem dl_453 : decode code 453 = .ok (.iadd, 1) := by decide +kernel
theorem dl_454 : decode code 454 = .ok (.iaload, 1) := by decide +kernel
theorem dl_455 : decode code 455 = .ok (.aload_n 0, 1) := by decide +kernel
theorem dl_456 : decode code 456 = .ok (.iload_n 3, 1) := by decide +kernel
theorem dl_457 : decode code 457 = .ok (.iconst 2, 1) := by decide +kernel
theorem dl_458 : decode code 458 = .ok (.iadd, 1) := by decide +kernel
theorem dl_459 : decode code 459 = .ok (.iaload, 1) := by decide +kernel
theorem dl_460 : decode code 460 = .ok (.invokevirtual 63, 3) := by decide +kernel
theorem dl_463 : decode code 463 = .ok (.if_icmp .eq 367, 3) := by decide +kernel
theorem dl_466 : decode code 466 = .ok (.iconst 0, 1) := by decide +kernel
theorem dl_467 : decode code 467 = .ok (.ireturn, 1) := by decide +kernel
theorem dl_468 : decode code 468 = .ok (.aload_n 1, 1) := by decide +kernel
theorem dl_469 : decode code 469 = .ok (.aload_n 0, 1) := by decide +kernel
theorem dl_470 : decode code 470 = .ok (.iload_n 3, 1) := by decide +kernel
theorem dl_471 : decode code 471 = .ok (.iconst 1, 1) := by decide +kernel
theorem dl_472 : decode code 472 = .ok (.iadd, 1) := by decide +kernel
theorem dl_473 : decode code 473 = .ok (.iaload, 1) := by decide +kernel
theorem dl_474 : decode code 474 = .ok (.aload_n 0, 1) := by decide +kernel
theorem dl_475 : decode code 475 = .ok (.iload_n 3, 1) := by decide +kernel
theorem dl_476 : decode code 476 = .ok (.iconst 2, 1) := by decide +kernel
theorem dl_477 : decode code 477 = .ok (.iadd, 1) := by decide +kernel
theorem dl_478 : decode code 478 = .ok (.iaload, 1) := by decide +kernel
theorem dl_479 : decode code 479 = .ok (.invokevirtual 64, 3) := by decide +kernel
theorem dl_482 : decode code 482 = .ok (.aload_n 2, 1) := by decide +kernel
theorem dl_483 : decode code 483 = .ok (.aload_n 0, 1) := by decide +kernel
theorem dl_484 : decode code 484 = .ok (.iload_n 3, 1) := by decide +kernel
theorem dl_485 : decode code 485 = .ok (.iconst 1, 1) := by decide +kernel
theorem dl_486 : decode code 486 = .ok (.iadd, 1) := by decide +kernel
theorem dl_487 : decode code 487 = .ok (.iaload, 1) := by decide +kernel
theorem dl_488 : decode code 488 = .ok (.aload_n 0, 1) := by decide +kernel
theorem dl_489 : decode code 489 = .ok (.iload_n 3, 1) := by decide +kernel
theorem dl_490 : decode code 490 = .ok (.iconst 2, 1) := by decide +kernel
theorem dl_491 : decode code 491 = .ok (.iadd, 1) := by decide +kernel
theorem dl_492 : decode code 492 = .ok (.iaload, 1) := by decide +kernel
theorem dl_493 : decode code 493 = .ok (.invokevirtual 67, 3) := by decide +kernel
theorem dl_496 : decode code 496 = .ok (.if_icmp .eq 334, 3) := by decide +kernel
theorem dl_499 : decode code 499 = .ok (.iconst 0, 1) := by decide +kernel
theorem dl_500 : decode code 500 = .ok (.ireturn, 1) := by decide +kernel
theorem dl_501 : decode code 501 = .ok (.aload_n 1, 1) := by decide +kernel
theorem dl_502 : decode code 502 = .ok (.aload_n 0, 1) := by decide +kernel
theorem dl_503 : decode code 503 = .ok (.iload_n 3, 1) := by decide +kernel
theorem dl_504 : decode code 504 = .ok (.iconst 1, 1) := by decide +kernel
theorem dl_505 : decode code 505 = .ok (.iadd, 1) := by decide +kernel
theorem dl_506 : decode code 506 = .ok (.iaload, 1) := by decide +kernel
theorem dl_507 : decode code 507 = .ok (.invokevirtual 68, 3) := by decide +kernel
theorem dl_510 : decode code 510 = .ok (.aload_n 2, 1) := by decide +kernel
theorem dl_511 : decode code 511 = .ok (.aload_n 0, 1) := by decide +kernel
theorem dl_512 : decode code 512 = .ok (.iload_n 3, 1) := by decide +kernel
theorem dl_513 : decode code 513 = .ok (.iconst 1, 1) := by decide +kernel
theorem dl_514 : decode code 514 = .ok (.iadd, 1) := by decide +kernel
theorem dl_515 : decode code 515 = .ok (.iaload, 1) := by decide +kernel
theorem dl_516 : decode code 516 = .ok (.invokevirtual 71, 3) := by decide +kernel
theorem dl_519 : decode code 519 = .ok (.if_icmp .eq 311, 3) := by decide +kernel
theorem dl_522 : decode code 522 = .ok (.iconst 0, 1) := by decide +kernel
theorem dl_523 : decode code 523 = .ok (.ireturn, 1) := by decide +kernel
theorem dl_524 : decode code 524 = .ok (.aload_n 1, 1) := by decide +kernel
theorem dl_525 : decode code 525 = .ok (.aload_n 0, 1) := by decide +kernel
theorem dl_526 : decode code 526 = .ok (.iload_n 3, 1) := by decide +kernel
theorem dl_527 : decode code 527 = .ok (.iconst 1, 1) := by decide +kernel
theorem dl_528 : decode code 528 = .ok (.iadd, 1) := by decide +kernel
theorem dl_529 : decode code 529 = .ok (.iaload, 1) := by decide +kernel
theorem dl_530 : decode code 530 = .ok (.invokevirtual 72, 3) := by decide +kernel
theorem dl_533 : decode code 533 = .ok (.aload_n 2, 1) := by decide +kernel
theorem dl_534 : decode code 534 = .ok (.aload_n 0, 1) := by decide +kernel
theorem dl_535 : decode code 535 = .ok (.iload_n 3, 1) := by decide +kernel
theorem dl_536 : decode code 536 = .ok (.iconst 1, 1) := by decide +kernel
theorem dl_537 : decode code 537 = .ok (.iadd, 1) := by decide +kernel
theorem dl_538 : decode code 538 = .ok (.iaload, 1) := by decide +kernel
theorem dl_539 : decode code 539 = .ok (.invokevirtual 75, 3) := by decide +kernel
theorem dl_542 : decode code 542 = .ok (.if_icmp .eq 288, 3) := by decide +kernel
theorem dl_545 : decode code 545 = .ok (.iconst 0, 1) := by decide +kernel
theorem dl_546 : decode code 546 = .ok (.ireturn, 1) := by decide +kernel
theorem dl_547 : decode code 547 = .ok (.aload_n 1, 1) := by decide +kernel
theorem dl_548 : decode code 548 = .ok (.aload_n 0, 1) := by decide +kernel
theorem dl_549 : decode code 549 = .ok (.iload_n 3, 1) := by decide +kernel
theorem dl_550 : decode code 550 = .ok (.iconst 1, 1) := by decide +kernel
theorem dl_551 : decode code 551 = .ok (.iadd, 1) := by decide +kernel
theorem dl_552 : decode code 552 = .ok (.iaload, 1) := by decide +kernel
theorem dl_553 : decode code 553 = .ok (.invokevirtual 76, 3) := by decide +kernel
theorem dl_556 : decode code 556 = .ok (.aload_n 2, 1) := by decide +kernel
theorem dl_557 : decode code 557 = .ok (.aload_n 0, 1) := by decide +kernel
theorem dl_558 : decode code 558 = .ok (.iload_n 3, 1) := by decide +kernel
theorem dl_559 : decode code 559 = .ok (.iconst 1, 1) := by decide +kernel
theorem dl_560 : decode code 560 = .ok (.iadd, 1) := by decide +kernel
theorem dl_561 : decode code 561 = .ok (.iaload, 1) := by decide +kernel
theorem dl_562 : decode code 562 = .ok (.invokevirtual 79, 3) := by decide +kernel
theorem dl_565 : decode code 565 = .ok (.if_icmp .eq 265, 3) := by decide +kernel
theorem dl_568 : decode code 568 = .ok (.iconst 0, 1) := by decide +kernel
theorem dl_569 : decode code 569 = .ok (.ireturn, 1) := by decide +kernel
theorem dl_570 : decode code 570 = .ok (.aload_n 1, 1) := by decide +kernel
theorem dl_571 : decode code 571 = .ok (.aload_n 0, 1) := by decide +kernel
theorem dl_572 : decode code 572 = .ok (.iload_n 3, 1) := by decide +kernel
theorem dl_573 : decode code 573 = .ok (.iconst 1, 1) := by decide +kernel
theorem dl_574 : decode code 574 = .ok (.iadd, 1) := by decide +kernel
theorem dl_575 : decode code 575 = .ok (.iaload, 1) := by decide +kernel
theorem dl_576 : decode code 576 = .ok (.invokevirtual 80, 3) := by decide +kernel
theorem dl_579 : decode code 579 = .ok (.aload_n 2, 1) := by decide +kernel
theorem dl_580 : decode code 580 = .ok (.aload_n 0, 1) := by decide +kernel
theorem dl_581 : decode code 581 = .ok (.iload_n 3, 1) := by decide +kernel
theorem dl_582 : decode code 582 = .ok (.iconst 1, 1) := by decide +kernel
theorem dl_583 : decode code 583 = .ok (.iadd, 1) := by decide +kernel
theorem dl_584 : decode code 584 = .ok (.iaload, 1) := by decide +kernel
theorem dl_585 : decode code 585 = .ok (.invokevirtual 83, 3) := by decide +kernel
theorem dl_588 : decode code 588 = .ok (.if_icmp .eq 242, 3) := by decide +kernel
theorem dl_591 : decode code 591 = .ok (.iconst 0, 1) := by decide +kernel
theorem dl_592 : decode code 592 = .ok (.ireturn, 1) := by decide +kernel
theorem dl_593 : decode code 593 = .ok (.aload_n 1, 1) := by decide +kernel
theorem dl_594 : decode code 594 = .ok (.invokevirtual 84, 3) := by decide +kernel
theorem dl_597 : decode code 597 = .ok (.aload_n 2, 1) := by decide +kernel
theorem dl_598 : decode code 598 = .ok (.invokevirtual 87, 3) := by decide +kernel
theorem dl_601 : decode code 601 = .ok (.if_icmp .eq 229, 3) := by decide +kernel
theorem dl_604 : decode code 604 = .ok (.iconst 0, 1) := by decide +kernel
theorem dl_605 : decode code 605 = .ok (.ireturn, 1) := by decide +kernel
theorem dl_606 : decode code 606 = .ok (.aload_n 1, 1) := by decide +kernel
theorem dl_607 : decode code 607 = .ok (.invokevirtual 88, 3) := by decide +kernel
theorem dl_610 : decode code 610 = .ok (.aload_n 2, 1) := by decide +kernel
theorem dl_611 : decode code 611 = .ok (.invokevirtual 91, 3) := by decide +kernel
theorem dl_614 : decode code 614 = .ok (.if_icmp .eq 216, 3) := by decide +kernel
theorem dl_617 : decode code 617 = .ok (.iconst 0, 1) := by decide +kernel
theorem dl_618 : decode code 618 = .ok (.ireturn, 1) := by decide +kernel
theorem dl_619 : decode code 619 = .ok (.aload_n 1, 1) := by decide +kernel
theorem dl_620 : decode code 620 = .ok (.aload_n 0, 1) := by decide +kernel
theorem dl_621 : decode code 621 = .ok (.iload_n 3, 1) := by decide +kernel
theorem dl_622 : decode code 622 = .ok (.iconst 1, 1) := by decide +kernel
theorem dl_623 : decode code 623 = .ok (.iadd, 1) := by decide +kernel
theorem dl_624 : decode code 624 = .ok (.iaload, 1) := by decide +kernel
theorem dl_625 : decode code 625 = .ok (.aload_n 0, 1) := by decide +kernel
theorem dl_626 : decode code 626 = .ok (.iload_n 3, 1) := by decide +kernel
theorem dl_627 : decode code 627 = .ok (.iconst 2, 1) := by decide +kernel
theorem dl_628 : decode code 628 = .ok (.iadd, 1) := by decide +kernel
theorem dl_629 : decode code 629 = .ok (.iaload, 1) := by decide +kernel
theorem dl_630 : decode code 630 = .ok (.aload_n 0, 1) := by decide +kernel
theorem dl_631 : decode code 631 = .ok (.iload_n 3, 1) := by decide +kernel
theorem dl_632 : decode code 632 = .ok (.iconst 3, 1) := by decide +kernel
theorem dl_633 : decode code 633 = .ok (.iadd, 1) := by decide +kernel
theorem dl_634 : decode code 634 = .ok (.iaload, 1) := by decide +kernel
theorem dl_635 : decode code 635 = .ok (.invokevirtual 92, 3) := by decide +kernel
theorem dl_638 : decode code 638 = .ok (.aload_n 2, 1) := by decide +kernel
theorem dl_639 : decode code 639 = .ok (.aload_n 0, 1) := by decide +kernel
theorem dl_640 : decode code 640 = .ok (.iload_n 3, 1) := by decide +kernel
theorem dl_641 : decode code 641 = .ok (.iconst 1, 1) := by decide +kernel
theorem dl_642 : decode code 642 = .ok (.iadd, 1) := by decide +kernel
theorem dl_643 : decode code 643 = .ok (.iaload, 1) := by decide +kernel
theorem dl_644 : decode code 644 = .ok (.aload_n 0, 1) := by decide +kernel
theorem dl_645 : decode code 645 = .ok (.iload_n 3, 1) := by decide +kernel
theorem dl_646 : decode code 646 = .ok (.iconst 2, 1) := by decide +kernel
theorem dl_647 : decode code 647 = .ok (.iadd, 1) := by decide +kernel
theorem dl_648 : decode code 648 = .ok (.iaload, 1) := by decide +kernel
theorem dl_649 : decode code 649 = .ok (.aload_n 0, 1) := by decide +kernel
theorem dl_650 : decode code 650 = .ok (.iload_n 3, 1) := by decide +kernel
theorem dl_651 : decode code 651 = .ok (.iconst 3, 1) := by decide +kernel
theorem dl_652 : decode code 652 = .ok (.iadd, 1) := by decide +kernel
theorem dl_653 : decode code 653 = .ok (.iaload, 1) := by decide +kernel
theorem dl_654 : decode code 654 = .ok (.invokevirtual 96, 3) := by decide +kernel
theorem dl_657 : decode code 657 = .ok (.if_icmp .eq 173, 3) := by decide +kernel
theorem dl_660 : decode code 660 = .ok (.iconst 0, 1) := by decide +kernel
theorem dl_661 : decode code 661 = .ok (.ireturn, 1) := by decide +kernel
theorem dl_662 : decode code 662 = .ok (.aload_n 1, 1) := by decide +kernel
theorem dl_663 : decode code 663 = .ok (.aload_n 0, 1) := by decide +kernel
theorem dl_664 : decode code 664 = .ok (.iload_n 3, 1) := by decide +kernel
theorem dl_665 : decode code 665 = .ok (.iconst 1, 1) := by decide +kernel
theorem dl_666 : decode code 666 = .ok (.iadd, 1) := by decide +kernel
theorem dl_667 : decode code 667 = .ok (.iaload, 1) := by decide +kernel
theorem dl_668 : decode code 668 = .ok (.aload_n 0, 1) := by decide +kernel
theorem dl_669 : decode code 669 = .ok (.iload_n 3, 1) := by decide +kernel
theorem dl_670 : decode code 670 = .ok (.iconst 2, 1) := by decide +kernel
theorem dl_671 : decode code 671 = .ok (.iadd, 1) := by decide +kernel
theorem dl_672 : decode code 672 = .ok (.iaload, 1) := by decide +kernel
theorem dl_673 : decode code 673 = .ok (.invokevirtual 97, 3) := by decide +kernel
theorem dl_676 : decode code 676 = .ok (.aload_n 2, 1) := by decide +kernel
theorem dl_677 : decode code 677 = .ok (.aload_n 0, 1) := by decide +kernel
theorem dl_678 : decode code 678 = .ok (.iload_n 3, 1) := by decide +kernel
theorem dl_679 : decode code 679 = .ok (.iconst 1, 1) := by decide +kernel
theorem dl_680 : decode code 680 = .ok (.iadd, 1) := by decide +kernel
theorem dl_681 : decode code 681 = .ok (.iaload, 1) := by decide +kernel
theorem dl_682 : decode code 682 = .ok (.aload_n 0, 1) := by decide +kernel
theorem dl_683 : decode code 683 = .ok (.iload_n 3, 1) := by decide +kernel
theorem dl_684 : decode code 684 = .ok (.iconst 2, 1) := by decide +kernel
theorem dl_685 : decode code 685 = .ok (.iadd, 1) := by decide +kernel
theorem dl_686 : decode code 686 = .ok (.iaload, 1) := by decide +kernel
theorem dl_687 : decode code 687 = .ok (.invokevirtual 100, 3) := by decide +kernel
theorem dl_690 : decode code 690 = .ok (.if_icmp .eq 140, 3) := by decide +kernel
theorem dl_693 : decode code 693 = .ok (.iconst 0, 1) := by decide +kernel
theorem dl_694 : decode code 694 = .ok (.ireturn, 1) := by decide +kernel
theorem dl_695 : decode code 695 = .ok (.aload_n 1, 1) := by decide +kernel
theorem dl_696 : decode code 696 = .ok (.aload_n 0, 1) := by decide +kernel
theorem dl_697 : decode code 697 = .ok (.iload_n 3, 1) := by decide +kernel
theorem dl_698 : decode code 698 = .ok (.iconst 1, 1) := by decide +kernel
theorem dl_699 : decode code 699 = .ok (.iadd, 1) := by decide +kernel
theorem dl_700 : decode code 700 = .ok (.iaload, 1) := by decide +kernel
theorem dl_701 : decode code 701 = .ok (.invokevirtual 101, 3) := by decide +kernel
theorem dl_704 : decode code 704 = .ok (.aload_n 2, 1) := by decide +kernel
theorem dl_705 : decode code 705 = .ok (.aload_n 0, 1) := by decide +kernel
theorem dl_706 : decode code 706 = .ok (.iload_n 3, 1) := by decide +kernel
theorem dl_707 : decode code 707 = .ok (.iconst 1, 1) := by decide +kernel
theorem dl_708 : decode code 708 = .ok (.iadd, 1) := by decide +kernel
theorem dl_709 : decode code 709 = .ok (.iaload, 1) := by decide +kernel
theorem dl_710 : decode code 710 = .ok (.invokevirtual 104, 3) := by decide +kernel
theorem dl_713 : decode code 713 = .ok (.if_icmp .eq 117, 3) := by decide +kernel
theorem dl_716 : decode code 716 = .ok (.iconst 0, 1) := by decide +kernel
theorem dl_717 : decode code 717 = .ok (.ireturn, 1) := by decide +kernel
theorem dl_718 : decode code 718 = .ok (.aload_n 1, 1) := by decide +kernel
theorem dl_719 : decode code 719 = .ok (.aload_n 0, 1) := by decide +kernel
theorem dl_720 : decode code 720 = .ok (.iload_n 3, 1) := by decide +kernel
theorem dl_721 : decode code 721 = .ok (.iconst 1, 1) := by decide +kernel
theorem dl_722 : decode code 722 = .ok (.iadd, 1) := by decide +kernel
theorem dl_723 : decode code 723 = .ok (.iaload, 1) := by decide +kernel
theorem dl_724 : decode code 724 = .ok (.aload_n 0, 1) := by decide +kernel
theorem dl_725 : decode code 725 = .ok (.iload_n 3, 1) := by decide +kernel
theorem dl_726 : decode code 726 = .ok (.iconst 2, 1) := by decide +kernel
theorem dl_727 : decode code 727 = .ok (.iadd, 1) := by decide +kernel
theorem dl_728 : decode code 728 = .ok (.iaload, 1) := by decide +kernel
theorem dl_729 : decode code 729 = .ok (.invokevirtual 105, 3) := by decide +kernel
theorem dl_732 : decode code 732 = .ok (.aload_n 2, 1) := by decide +kernel
theorem dl_733 : decode code 733 = .ok (.aload_n 0, 1) := by decide +kernel
theorem dl_734 : decode code 734 = .ok (.iload_n 3, 1) := by decide +kernel
theorem dl_735 : decode code 735 = .ok (.iconst 1, 1) := by decide +kernel
theorem dl_736 : decode code 736 = .ok (.iadd, 1) := by decide +kernel
theorem dl_737 : decode code 737 = .ok (.iaload, 1) := by decide +kernel
theorem dl_738 : decode code 738 = .ok (.aload_n 0, 1) := by decide +kernel
theorem dl_739 : decode code 739 = .ok (.iload_n 3, 1) := by decide +kernel
theorem dl_740 : decode code 740 = .ok (.iconst 2, 1) := by decide +kernel
theorem dl_741 : decode code 741 = .ok (.iadd, 1) := by decide +kernel
theorem dl_742 : decode code 742 = .ok (.iaload, 1) := by decide +kernel
theorem dl_743 : decode code 743 = .ok (.invokevirtual 108, 3) := by decide +kernel
theorem dl_746 : decode code 746 = .ok (.if_icmp .eq 84, 3) := by decide +kernel
theorem dl_749 : decode code 749 = .ok (.iconst 0, 1) := by decide +kernel
theorem dl_750 : decode code 750 = .ok (.ireturn, 1) := by decide +kernel
theorem dl_751 : decode code 751 = .ok (.aload_n 1, 1) := by decide +kernel
theorem dl_752 : decode code 752 = .ok (.aload_n 0, 1) := by decide +kernel
theorem dl_753 : decode code 753 = .ok (.iload_n 3, 1) := by decide +kernel
theorem dl_754 : decode code 754 = .ok (.iconst 1, 1) := by decide +kernel
theorem dl_755 : decode code 755 = .ok (.iadd, 1) := by decide +kernel
theorem dl_756 : decode code 756 = .ok (.iaload, 1) := by decide +kernel
theorem dl_757 : decode code 757 = .ok (.aload_n 0, 1) := by decide +kernel
theorem dl_758 : decode code 758 = .ok (.iload_n 3, 1) := by decide +kernel
theorem dl_759 : decode code 759 = .ok (.iconst 2, 1) := by decide +kernel
theorem dl_760 : decode code 760 = .ok (.iadd, 1) := by decide +kernel
theorem dl_761 : decode code 761 = .ok (.iaload, 1) := by decide +kernel
theorem dl_762 : decode code 762 = .ok (.invokevirtual 109, 3) := by decide +kernel
theorem dl_765 : decode code 765 = .ok (.aload_n 2, 1) := by decide +kernel
theorem dl_766 : decode code 766 = .ok (.aload_n 0, 1) := by decide +kernel
theorem dl_767 : decode code 767 = .ok (.iload_n 3, 1) := by decide +kernel
theorem dl_768 : decode code 768 = .ok (.iconst 1, 1) := by decide +kernel
theorem dl_769 : decode code 769 = .ok (.iadd, 1) := by decide +kernel
theorem dl_770 : decode code 770 = .ok (.iaload, 1) := by decide +kernel
theorem dl_771 : decode code 771 = .ok (.aload_n 0, 1) := by decide +kernel
theorem dl_772 : decode code 772 = .ok (.iload_n 3, 1) := by decide +kernel
theorem dl_773 : decode code 773 = .ok (.iconst 2, 1) := by decide +kernel
theorem dl_774 : decode code 774 = .ok (.iadd, 1) := by decide +kernel
theorem dl_775 : decode code 775 = .ok (.iaload, 1) := by decide +kernel
theorem dl_776 : decode code 776 = .ok (.invokevirtual 112, 3) := by decide +kernel
theorem dl_779 : decode code 779 = .ok (.if_icmp .eq 51, 3) := by decide +kernel
theorem dl_782 : decode code 782 = .ok (.iconst 0, 1) := by decide +kernel
theorem dl_783 : decode code 783 = .ok (.ireturn, 1) := by decide +kernel
theorem dl_784 : decode code 784 = .ok (.aload_n 1, 1) := by decide +kernel
theorem dl_785 : decode code 785 = .ok (.aload_n 0, 1) := by decide +kernel
theorem dl_786 : decode code 786 = .ok (.iload_n 3, 1) := by decide +kernel
theorem dl_787 : decode code 787 = .ok (.iconst 1, 1) := by decide +kernel
theorem dl_788 : decode code 788 = .ok (.iadd, 1) := by decide +kernel
theorem dl_789 : decode code 789 = .ok (.iaload, 1) := by decide +kernel
theorem dl_790 : decode code 790 = .ok (.invokevirtual 113, 3) := by decide +kernel
theorem dl_793 : decode code 793 = .ok (.aload_n 2, 1) := by decide +kernel
theorem dl_794 : decode code 794 = .ok (.aload_n 0, 1) := by decide +kernel
theorem dl_795 : decode code 795 = .ok (.iload_n 3, 1) := by decide +kernel
theorem dl_796 : decode code 796 = .ok (.iconst 1, 1) := by decide +kernel
theorem dl_797 : decode code 797 = .ok (.iadd, 1) := by decide +kernel
theorem dl_798 : decode code 798 = .ok (.iaload, 1) := by decide +kernel
theorem dl_799 : decode code 799 = .ok (.invokevirtual 116, 3) := by decide +kernel
theorem dl_802 : decode code 802 = .ok (.if_icmp .eq 28, 3) := by decide +kernel
theorem dl_805 : decode code 805 = .ok (.iconst 0, 1) := by decide +kernel
theorem dl_806 : decode code 806 = .ok (.ireturn, 1) := by decide +kernel
theorem dl_807 : decode code 807 = .ok (.aload_n 1, 1) := by decide +kernel
theorem dl_808 : decode code 808 = .ok (.aload_n 0, 1) := by decide +kernel
theorem dl_809 : decode code 809 = .ok (.iload_n 3, 1) := by decide +kernel
theorem dl_810 : decode code 810 = .ok (.iconst 1, 1) := by decide +kernel
theorem dl_811 : decode code 811 = .ok (.iadd, 1) := by decide +kernel
theorem dl_812 : decode code 812 = .ok (.iaload, 1) := by decide +kernel
theorem dl_813 : decode code 813 = .ok (.invokevirtual 117, 3) := by decide +kernel
theorem dl_816 : decode code 816 = .ok (.aload_n 2, 1) := by decide +kernel
theorem dl_817 : decode code 817 = .ok (.aload_n 0, 1) := by decide +kernel
theorem dl_818 : decode code 818 = .ok (.iload_n 3, 1) := by decide +kernel
theorem dl_819 : decode code 819 = .ok (.iconst 1, 1) := by decide +kernel
theorem dl_820 : decode code 820 = .ok (.iadd, 1) := by decide +kernel
theorem dl_821 : decode code 821 = .ok (.iaload, 1) := by decide +kernel
theorem dl_822 : decode code 822 = .ok (.invokevirtual 120, 3) := by decide +kernel
theorem dl_825 : decode code 825 = .ok (.if_icmp .eq 5, 3) := by decide +kernel
theorem dl_828 : decode code 828 = .ok (.iconst 0, 1) := by decide +kernel
theorem dl_829 : decode code 829 = .ok (.ireturn, 1) := by decide +kernel
theorem dl_830 : decode code 830 = .ok (.iinc 3 4, 3) := by decide +kernel
theorem dl_833 : decode code 833 = .ok (.goto (-815), 3) := by decide +kernel
theorem dl_836 : decode code 836 = .ok (.iconst 1, 1) := by decide +kernel
theorem dl_837 : decode code 837 = .ok (.ireturn, 1) := by decide +kernel
