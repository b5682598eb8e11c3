/-! the law's code, row by row, and its arms: printed by law.py -/
theorem dW_0 : decode code 0 = .ok (.new 7, 3) := by decide +kernel
theorem dW_3 : decode code 3 = .ok (.dup, 1) := by decide +kernel
theorem dW_4 : decode code 4 = .ok (.invokespecial 9, 3) := by decide +kernel
theorem dW_7 : decode code 7 = .ok (.astore_n 1, 1) := by decide +kernel
theorem dW_8 : decode code 8 = .ok (.new 10, 3) := by decide +kernel
theorem dW_11 : decode code 11 = .ok (.dup, 1) := by decide +kernel
theorem dW_12 : decode code 12 = .ok (.invokespecial 12, 3) := by decide +kernel
theorem dW_15 : decode code 15 = .ok (.astore_n 2, 1) := by decide +kernel
theorem dW_16 : decode code 16 = .ok (.iconst 0, 1) := by decide +kernel
theorem dW_17 : decode code 17 = .ok (.istore_n 3, 1) := by decide +kernel
theorem dW_18 : decode code 18 = .ok (.iload_n 3, 1) := by decide +kernel
theorem dW_19 : decode code 19 = .ok (.aload_n 0, 1) := by decide +kernel
theorem dW_20 : decode code 20 = .ok (.arraylength, 1) := by decide +kernel
theorem dW_21 : decode code 21 = .ok (.bipush 6, 2) := by decide +kernel
theorem dW_23 : decode code 23 = .ok (.isub, 1) := by decide +kernel
theorem dW_24 : decode code 24 = .ok (.if_icmp .gt 978, 3) := by decide +kernel
theorem dW_27 : decode code 27 = .ok (.aload_n 0, 1) := by decide +kernel
theorem dW_28 : decode code 28 = .ok (.iload_n 3, 1) := by decide +kernel
theorem dW_29 : decode code 29 = .ok (.iaload, 1) := by decide +kernel
theorem dW_30 : decode code 30 = .ok (.bipush 31, 2) := by decide +kernel
theorem dW_32 : decode code 32 = .ok (.iand, 1) := by decide +kernel
theorem dW_33 : decode code 33 = .ok (.tableswitch 963 0 27 #[127, 170, 213, 246, 269, 282, 305, 328, 361, 384, 417, 450, 463, 476, 499, 532, 565, 589, 612, 635, 679, 692, 705, 728, 771, 814, 877, 930], 127) := by decide +kernel
theorem dW_160 : decode code 160 = .ok (.aload_n 1, 1) := by decide +kernel
theorem dW_161 : decode code 161 = .ok (.aload_n 0, 1) := by decide +kernel
theorem dW_162 : decode code 162 = .ok (.iload_n 3, 1) := by decide +kernel
theorem dW_163 : decode code 163 = .ok (.iconst 1, 1) := by decide +kernel
theorem dW_164 : decode code 164 = .ok (.iadd, 1) := by decide +kernel
theorem dW_165 : decode code 165 = .ok (.iaload, 1) := by decide +kernel
theorem dW_166 : decode code 166 = .ok (.aload_n 0, 1) := by decide +kernel
theorem dW_167 : decode code 167 = .ok (.iload_n 3, 1) := by decide +kernel
theorem dW_168 : decode code 168 = .ok (.iconst 2, 1) := by decide +kernel
theorem dW_169 : decode code 169 = .ok (.iadd, 1) := by decide +kernel
theorem dW_170 : decode code 170 = .ok (.iaload, 1) := by decide +kernel
theorem dW_171 : decode code 171 = .ok (.aload_n 0, 1) := by decide +kernel
theorem dW_172 : decode code 172 = .ok (.iload_n 3, 1) := by decide +kernel
theorem dW_173 : decode code 173 = .ok (.iconst 3, 1) := by decide +kernel
theorem dW_174 : decode code 174 = .ok (.iadd, 1) := by decide +kernel
theorem dW_175 : decode code 175 = .ok (.iaload, 1) := by decide +kernel
theorem dW_176 : decode code 176 = .ok (.invokevirtual 13, 3) := by decide +kernel
theorem dW_179 : decode code 179 = .ok (.aload_n 2, 1) := by decide +kernel
theorem dW_180 : decode code 180 = .ok (.aload_n 0, 1) := by decide +kernel
theorem dW_181 : decode code 181 = .ok (.iload_n 3, 1) := by decide +kernel
theorem dW_182 : decode code 182 = .ok (.iconst 1, 1) := by decide +kernel
theorem dW_183 : decode code 183 = .ok (.iadd, 1) := by decide +kernel
theorem dW_184 : decode code 184 = .ok (.iaload, 1) := by decide +kernel
theorem dW_185 : decode code 185 = .ok (.aload_n 0, 1) := by decide +kernel
theorem dW_186 : decode code 186 = .ok (.iload_n 3, 1) := by decide +kernel
theorem dW_187 : decode code 187 = .ok (.iconst 2, 1) := by decide +kernel
theorem dW_188 : decode code 188 = .ok (.iadd, 1) := by decide +kernel
theorem dW_189 : decode code 189 = .ok (.iaload, 1) := by decide +kernel
theorem dW_190 : decode code 190 = .ok (.aload_n 0, 1) := by decide +kernel
theorem dW_191 : decode code 191 = .ok (.iload_n 3, 1) := by decide +kernel
theorem dW_192 : decode code 192 = .ok (.iconst 3, 1) := by decide +kernel
theorem dW_193 : decode code 193 = .ok (.iadd, 1) := by decide +kernel
theorem dW_194 : decode code 194 = .ok (.iaload, 1) := by decide +kernel
theorem dW_195 : decode code 195 = .ok (.invokevirtual 17, 3) := by decide +kernel
theorem dW_198 : decode code 198 = .ok (.if_icmp .eq 798, 3) := by decide +kernel
theorem dW_201 : decode code 201 = .ok (.iconst 0, 1) := by decide +kernel
theorem dW_202 : decode code 202 = .ok (.ireturn, 1) := by decide +kernel
theorem dW_203 : decode code 203 = .ok (.aload_n 1, 1) := by decide +kernel
theorem dW_204 : decode code 204 = .ok (.aload_n 0, 1) := by decide +kernel
theorem dW_205 : decode code 205 = .ok (.iload_n 3, 1) := by decide +kernel
theorem dW_206 : decode code 206 = .ok (.iconst 1, 1) := by decide +kernel
theorem dW_207 : decode code 207 = .ok (.iadd, 1) := by decide +kernel
theorem dW_208 : decode code 208 = .ok (.iaload, 1) := by decide +kernel
theorem dW_209 : decode code 209 = .ok (.aload_n 0, 1) := by decide +kernel
theorem dW_210 : decode code 210 = .ok (.iload_n 3, 1) := by decide +kernel
theorem dW_211 : decode code 211 = .ok (.iconst 2, 1) := by decide +kernel
theorem dW_212 : decode code 212 = .ok (.iadd, 1) := by decide +kernel
theorem dW_213 : decode code 213 = .ok (.iaload, 1) := by decide +kernel
theorem dW_214 : decode code 214 = .ok (.aload_n 0, 1) := by decide +kernel
theorem dW_215 : decode code 215 = .ok (.iload_n 3, 1) := by decide +kernel
theorem dW_216 : decode code 216 = .ok (.iconst 3, 1) := by decide +kernel
theorem dW_217 : decode code 217 = .ok (.iadd, 1) := by decide +kernel
theorem dW_218 : decode code 218 = .ok (.iaload, 1) := by decide +kernel
theorem dW_219 : decode code 219 = .ok (.invokevirtual 18, 3) := by decide +kernel
theorem dW_222 : decode code 222 = .ok (.aload_n 2, 1) := by decide +kernel
theorem dW_223 : decode code 223 = .ok (.aload_n 0, 1) := by decide +kernel
theorem dW_224 : decode code 224 = .ok (.iload_n 3, 1) := by decide +kernel
theorem dW_225 : decode code 225 = .ok (.iconst 1, 1) := by decide +kernel
theorem dW_226 : decode code 226 = .ok (.iadd, 1) := by decide +kernel
theorem dW_227 : decode code 227 = .ok (.iaload, 1) := by decide +kernel
theorem dW_228 : decode code 228 = .ok (.aload_n 0, 1) := by decide +kernel
theorem dW_229 : decode code 229 = .ok (.iload_n 3, 1) := by decide +kernel
theorem dW_230 : decode code 230 = .ok (.iconst 2, 1) := by decide +kernel
theorem dW_231 : decode code 231 = .ok (.iadd, 1) := by decide +kernel
theorem dW_232 : decode code 232 = .ok (.iaload, 1) := by decide +kernel
theorem dW_233 : decode code 233 = .ok (.aload_n 0, 1) := by decide +kernel
theorem dW_234 : decode code 234 = .ok (.iload_n 3, 1) := by decide +kernel
theorem dW_235 : decode code 235 = .ok (.iconst 3, 1) := by decide +kernel
theorem dW_236 : decode code 236 = .ok (.iadd, 1) := by decide +kernel
theorem dW_237 : decode code 237 = .ok (.iaload, 1) := by decide +kernel
theorem dW_238 : decode code 238 = .ok (.invokevirtual 21, 3) := by decide +kernel
theorem dW_241 : decode code 241 = .ok (.if_icmp .eq 755, 3) := by decide +kernel
theorem dW_244 : decode code 244 = .ok (.iconst 0, 1) := by decide +kernel
theorem dW_245 : decode code 245 = .ok (.ireturn, 1) := by decide +kernel
theorem dW_246 : decode code 246 = .ok (.aload_n 1, 1) := by decide +kernel
theorem dW_247 : decode code 247 = .ok (.aload_n 0, 1) := by decide +kernel
theorem dW_248 : decode code 248 = .ok (.iload_n 3, 1) := by decide +kernel
theorem dW_249 : decode code 249 = .ok (.iconst 1, 1) := by decide +kernel
theorem dW_250 : decode code 250 = .ok (.iadd, 1) := by decide +kernel
theorem dW_251 : decode code 251 = .ok (.iaload, 1) := by decide +kernel
theorem dW_252 : decode code 252 = .ok (.aload_n 0, 1) := by decide +kernel
theorem dW_253 : decode code 253 = .ok (.iload_n 3, 1) := by decide +kernel
theorem dW_254 : decode code 254 = .ok (.iconst 2, 1) := by decide +kernel
theorem dW_255 : decode code 255 = .ok (.iadd, 1) := by decide +kernel
theorem dW_256 : decode code 256 = .ok (.iaload, 1) := by decide +kernel
theorem dW_257 : decode code 257 = .ok (.invokevirtual 22, 3) := by decide +kernel
theorem dW_260 : decode code 260 = .ok (.aload_n 2, 1) := by decide +kernel
theorem dW_261 : decode code 261 = .ok (.aload_n 0, 1) := by decide +kernel
theorem dW_262 : decode code 262 = .ok (.iload_n 3, 1) := by decide +kernel
theorem dW_263 : decode code 263 = .ok (.iconst 1, 1) := by decide +kernel
theorem dW_264 : decode code 264 = .ok (.iadd, 1) := by decide +kernel
theorem dW_265 : decode code 265 = .ok (.iaload, 1) := by decide +kernel
theorem dW_266 : decode code 266 = .ok (.aload_n 0, 1) := by decide +kernel
theorem dW_267 : decode code 267 = .ok (.iload_n 3, 1) := by decide +kernel
theorem dW_268 : decode code 268 = .ok (.iconst 2, 1) := by decide +kernel
theorem dW_269 : decode code 269 = .ok (.iadd, 1) := by decide +kernel
theorem dW_270 : decode code 270 = .ok (.iaload, 1) := by decide +kernel
theorem dW_271 : decode code 271 = .ok (.invokevirtual 26, 3) := by decide +kernel
theorem dW_274 : decode code 274 = .ok (.if_icmp .eq 722, 3) := by decide +kernel
theorem dW_277 : decode code 277 = .ok (.iconst 0, 1) := by decide +kernel
theorem dW_278 : decode code 278 = .ok (.ireturn, 1) := by decide +kernel
theorem dW_279 : decode code 279 = .ok (.aload_n 1, 1) := by decide +kernel
theorem dW_280 : decode code 280 = .ok (.aload_n 0, 1) := by decide +kernel
theorem dW_281 : decode code 281 = .ok (.iload_n 3, 1) := by decide +kernel
theorem dW_282 : decode code 282 = .ok (.iconst 1, 1) := by decide +kernel
theorem dW_283 : decode code 283 = .ok (.iadd, 1) := by decide +kernel
theorem dW_284 : decode code 284 = .ok (.iaload, 1) := by decide +kernel
theorem dW_285 : decode code 285 = .ok (.invokevirtual 27, 3) := by decide +kernel
theorem dW_288 : decode code 288 = .ok (.aload_n 2, 1) := by decide +kernel
theorem dW_289 : decode code 289 = .ok (.aload_n 0, 1) := by decide +kernel
theorem dW_290 : decode code 290 = .ok (.iload_n 3, 1) := by decide +kernel
theorem dW_291 : decode code 291 = .ok (.iconst 1, 1) := by decide +kernel
theorem dW_292 : decode code 292 = .ok (.iadd, 1) := by decide +kernel
theorem dW_293 : decode code 293 = .ok (.iaload, 1) := by decide +kernel
theorem dW_294 : decode code 294 = .ok (.invokevirtual 31, 3) := by decide +kernel
theorem dW_297 : decode code 297 = .ok (.if_icmp .eq 699, 3) := by decide +kernel
theorem dW_300 : decode code 300 = .ok (.iconst 0, 1) := by decide +kernel
theorem dW_301 : decode code 301 = .ok (.ireturn, 1) := by decide +kernel
theorem dW_302 : decode code 302 = .ok (.aload_n 1, 1) := by decide +kernel
theorem dW_303 : decode code 303 = .ok (.invokevirtual 32, 3) := by decide +kernel
theorem dW_306 : decode code 306 = .ok (.aload_n 2, 1) := by decide +kernel
theorem dW_307 : decode code 307 = .ok (.invokevirtual 36, 3) := by decide +kernel
theorem dW_310 : decode code 310 = .ok (.if_icmp .eq 686, 3) := by decide +kernel
theorem dW_313 : decode code 313 = .ok (.iconst 0, 1) := by decide +kernel
theorem dW_314 : decode code 314 = .ok (.ireturn, 1) := by decide +kernel
theorem dW_315 : decode code 315 = .ok (.aload_n 1, 1) := by decide +kernel
theorem dW_316 : decode code 316 = .ok (.aload_n 0, 1) := by decide +kernel
theorem dW_317 : decode code 317 = .ok (.iload_n 3, 1) := by decide +kernel
theorem dW_318 : decode code 318 = .ok (.iconst 1, 1) := by decide +kernel
theorem dW_319 : decode code 319 = .ok (.iadd, 1) := by decide +kernel
theorem dW_320 : decode code 320 = .ok (.iaload, 1) := by decide +kernel
theorem dW_321 : decode code 321 = .ok (.invokevirtual 37, 3) := by decide +kernel
theorem dW_324 : decode code 324 = .ok (.aload_n 2, 1) := by decide +kernel
theorem dW_325 : decode code 325 = .ok (.aload_n 0, 1) := by decide +kernel
theorem dW_326 : decode code 326 = .ok (.iload_n 3, 1) := by decide +kernel
theorem dW_327 : decode code 327 = .ok (.iconst 1, 1) := by decide +kernel
theorem dW_328 : decode code 328 = .ok (.iadd, 1) := by decide +kernel
theorem dW_329 : decode code 329 = .ok (.iaload, 1) := by decide +kernel
theorem dW_330 : decode code 330 = .ok (.invokevirtual 40, 3) := by decide +kernel
theorem dW_333 : decode code 333 = .ok (.if_icmp .eq 663, 3) := by decide +kernel
theorem dW_336 : decode code 336 = .ok (.iconst 0, 1) := by decide +kernel
theorem dW_337 : decode code 337 = .ok (.ireturn, 1) := by decide +kernel
theorem dW_338 : decode code 338 = .ok (.aload_n 1, 1) := by decide +kernel
theorem dW_339 : decode code 339 = .ok (.aload_n 0, 1) := by decide +kernel
theorem dW_340 : decode code 340 = .ok (.iload_n 3, 1) := by decide +kernel
theorem dW_341 : decode code 341 = .ok (.iconst 1, 1) := by decide +kernel
theorem dW_342 : decode code 342 = .ok (.iadd, 1) := by decide +kernel
theorem dW_343 : decode code 343 = .ok (.iaload, 1) := by decide +kernel
theorem dW_344 : decode code 344 = .ok (.invokevirtual 41, 3) := by decide +kernel
theorem dW_347 : decode code 347 = .ok (.aload_n 2, 1) := by decide +kernel
theorem dW_348 : decode code 348 = .ok (.aload_n 0, 1) := by decide +kernel
theorem dW_349 : decode code 349 = .ok (.iload_n 3, 1) := by decide +kernel
theorem dW_350 : decode code 350 = .ok (.iconst 1, 1) := by decide +kernel
theorem dW_351 : decode code 351 = .ok (.iadd, 1) := by decide +kernel
theorem dW_352 : decode code 352 = .ok (.iaload, 1) := by decide +kernel
theorem dW_353 : decode code 353 = .ok (.invokevirtual 44, 3) := by decide +kernel
theorem dW_356 : decode code 356 = .ok (.if_icmp .eq 640, 3) := by decide +kernel
theorem dW_359 : decode code 359 = .ok (.iconst 0, 1) := by decide +kernel
theorem dW_360 : decode code 360 = .ok (.ireturn, 1) := by decide +kernel
theorem dW_361 : decode code 361 = .ok (.aload_n 1, 1) := by decide +kernel
theorem dW_362 : decode code 362 = .ok (.aload_n 0, 1) := by decide +kernel
theorem dW_363 : decode code 363 = .ok (.iload_n 3, 1) := by decide +kernel
theorem dW_364 : decode code 364 = .ok (.iconst 1, 1) := by decide +kernel
theorem dW_365 : decode code 365 = .ok (.iadd, 1) := by decide +kernel
theorem dW_366 : decode code 366 = .ok (.iaload, 1) := by decide +kernel
theorem dW_367 : decode code 367 = .ok (.aload_n 0, 1) := by decide +kernel
theorem dW_368 : decode code 368 = .ok (.iload_n 3, 1) := by decide +kernel
theorem dW_369 : decode code 369 = .ok (.iconst 2, 1) := by decide +kernel
theorem dW_370 : decode code 370 = .ok (.iadd, 1) := by decide +kernel
theorem dW_371 : decode code 371 = .ok (.iaload, 1) := by decide +kernel
theorem dW_372 : decode code 372 = .ok (.invokevirtual 45, 3) := by decide +kernel
theorem dW_375 : decode code 375 = .ok (.aload_n 2, 1) := by decide +kernel
theorem dW_376 : decode code 376 = .ok (.aload_n 0, 1) := by decide +kernel
theorem dW_377 : decode code 377 = .ok (.iload_n 3, 1) := by decide +kernel
theorem dW_378 : decode code 378 = .ok (.iconst 1, 1) := by decide +kernel
theorem dW_379 : decode code 379 = .ok (.iadd, 1) := by decide +kernel
theorem dW_380 : decode code 380 = .ok (.iaload, 1) := by decide +kernel
theorem dW_381 : decode code 381 = .ok (.aload_n 0, 1) := by decide +kernel
theorem dW_382 : decode code 382 = .ok (.iload_n 3, 1) := by decide +kernel
theorem dW_383 : decode code 383 = .ok (.iconst 2, 1) := by decide +kernel
theorem dW_384 : decode code 384 = .ok (.iadd, 1) := by decide +kernel
theorem dW_385 : decode code 385 = .ok (.iaload, 1) := by decide +kernel
theorem dW_386 : decode code 386 = .ok (.invokevirtual 48, 3) := by decide +kernel
theorem dW_389 : decode code 389 = .ok (.if_icmp .eq 607, 3) := by decide +kernel
theorem dW_392 : decode code 392 = .ok (.iconst 0, 1) := by decide +kernel
theorem dW_393 : decode code 393 = .ok (.ireturn, 1) := by decide +kernel
theorem dW_394 : decode code 394 = .ok (.aload_n 1, 1) := by decide +kernel
theorem dW_395 : decode code 395 = .ok (.aload_n 0, 1) := by decide +kernel
theorem dW_396 : decode code 396 = .ok (.iload_n 3, 1) := by decide +kernel
theorem dW_397 : decode code 397 = .ok (.iconst 1, 1) := by decide +kernel
theorem dW_398 : decode code 398 = .ok (.iadd, 1) := by decide +kernel
theorem dW_399 : decode code 399 = .ok (.iaload, 1) := by decide +kernel
theorem dW_400 : decode code 400 = .ok (.invokevirtual 49, 3) := by decide +kernel
theorem dW_403 : decode code 403 = .ok (.aload_n 2, 1) := by decide +kernel
theorem dW_404 : decode code 404 = .ok (.aload_n 0, 1) := by decide +kernel
theorem dW_405 : decode code 405 = .ok (.iload_n 3, 1) := by decide +kernel
theorem dW_406 : decode code 406 = .ok (.iconst 1, 1) := by decide +kernel
theorem dW_407 : decode code 407 = .ok (.iadd, 1) := by decide +kernel
theorem dW_408 : decode code 408 = .ok (.iaload, 1) := by decide +kernel
theorem dW_409 : decode code 409 = .ok (.invokevirtual 52, 3) := by decide +kernel
theorem dW_412 : decode code 412 = .ok (.if_icmp .eq 584, 3) := by decide +kernel
theorem dW_415 : decode code 415 = .ok (.iconst 0, 1) := by decide +kernel
theorem dW_416 : decode code 416 = .ok (.ireturn, 1) := by decide +kernel
theorem dW_417 : decode code 417 = .ok (.aload_n 1, 1) := by decide +kernel
theorem dW_418 : decode code 418 = .ok (.aload_n 0, 1) := by decide +kernel
theorem dW_419 : decode code 419 = .ok (.iload_n 3, 1) := by decide +kernel
theorem dW_420 : decode code 420 = .ok (.iconst 1, 1) := by decide +kernel
theorem dW_421 : decode code 421 = .ok (.iadd, 1) := by decide +kernel
theorem dW_422 : decode code 422 = .ok (.iaload, 1) := by decide +kernel
theorem dW_423 : decode code 423 = .ok (.aload_n 0, 1) := by decide +kernel
theorem dW_424 : decode code 424 = .ok (.iload_n 3, 1) := by decide +kernel
theorem dW_425 : decode code 425 = .ok (.iconst 2, 1) := by decide +kernel
theorem dW_426 : decode code 426 = .ok (.iadd, 1) := by decide +kernel
theorem dW_427 : decode code 427 = .ok (.iaload, 1) := by decide +kernel
theorem dW_428 : decode code 428 = .ok (.invokevirtual 53, 3) := by decide +kernel
theorem dW_431 : decode code 431 = .ok (.aload_n 2, 1) := by decide +kernel
theorem dW_432 : decode code 432 = .ok (.aload_n 0, 1) := by decide +kernel
theorem dW_433 : decode code 433 = .ok (.iload_n 3, 1) := by decide +kernel
theorem dW_434 : decode code 434 = .ok (.iconst 1, 1) := by decide +kernel
theorem dW_435 : decode code 435 = .ok (.iadd, 1) := by decide +kernel
theorem dW_436 : decode code 436 = .ok (.iaload, 1) := by decide +kernel
theorem dW_437 : decode code 437 = .ok (.aload_n 0, 1) := by decide +kernel
theorem dW_438 : decode code 438 = .ok (.iload_n 3, 1) := by decide +kernel
theorem dW_439 : decode code 439 = .ok (.iconst 2, 1) := by decide +kernel
theorem dW_440 : decode code 440 = .ok (.iadd, 1) := by decide +kernel
theorem dW_441 : decode code 441 = .ok (.iaload, 1) := by decide +kernel
theorem dW_442 : decode code 442 = .ok (.invokevirtual 56, 3) := by decide +kernel
theorem dW_445 : decode code 445 = .ok (.if_icmp .eq 551, 3) := by decide +kernel
theorem dW_448 : decode code 448 = .ok (.iconst 0, 1) := by decide +kernel
theorem dW_449 : decode code 449 = .ok (.ireturn, 1) := by decide +kernel
theorem dW_450 : decode code 450 = .ok (.aload_n 1, 1) := by decide +kernel
theorem dW_451 : decode code 451 = .ok (.aload_n 0, 1) := by decide +kernel
theorem dW_452 : decode code 452 = .ok (.iload_n 3, 1) := by decide +kernel
theorem dW_453 : decode code 453 = .ok (.iconst 1, 1) := by decide +kernel
theorem dW_454 : decode code 454 = .ok (.iadd, 1) := by decide +kernel
theorem dW_455 : decode code 455 = .ok (.iaload, 1) := by decide +kernel
theorem dW_456 : decode code 456 = .ok (.aload_n 0, 1) := by decide +kernel
theorem dW_457 : decode code 457 = .ok (.iload_n 3, 1) := by decide +kernel
theorem dW_458 : decode code 458 = .ok (.iconst 2, 1) := by decide +kernel
theorem dW_459 : decode code 459 = .ok (.iadd, 1) := by decide +kernel
theorem dW_460 : decode code 460 = .ok (.iaload, 1) := by decide +kernel
theorem dW_461 : decode code 461 = .ok (.invokevirtual 57, 3) := by decide +kernel
theorem dW_464 : decode code 464 = .ok (.aload_n 2, 1) := by decide +kernel
theorem dW_465 : decode code 465 = .ok (.aload_n 0, 1) := by decide +kernel
theorem dW_466 : decode code 466 = .ok (.iload_n 3, 1) := by decide +kernel
theorem dW_467 : decode code 467 = .ok (.iconst 1, 1) := by decide +kernel
theorem dW_468 : decode code 468 = .ok (.iadd, 1) := by decide +kernel
theorem dW_469 : decode code 469 = .ok (.iaload, 1) := by decide +kernel
theorem dW_470 : decode code 470 = .ok (.aload_n 0, 1) := by decide +kernel
theorem dW_471 : decode code 471 = .ok (.iload_n 3, 1) := by decide +kernel
theorem dW_472 : decode code 472 = .ok (.iconst 2, 1) := by decide +kernel
theorem dW_473 : decode code 473 = .ok (.iadd, 1) := by decide +kernel
theorem dW_474 : decode code 474 = .ok (.iaload, 1) := by decide +kernel
theorem dW_475 : decode code 475 = .ok (.invokevirtual 60, 3) := by decide +kernel
theorem dW_478 : decode code 478 = .ok (.if_icmp .eq 518, 3) := by decide +kernel
theorem dW_481 : decode code 481 = .ok (.iconst 0, 1) := by decide +kernel
theorem dW_482 : decode code 482 = .ok (.ireturn, 1) := by decide +kernel
theorem dW_483 : decode code 483 = .ok (.aload_n 1, 1) := by decide +kernel
theorem dW_484 : decode code 484 = .ok (.invokevirtual 61, 3) := by decide +kernel
theorem dW_487 : decode code 487 = .ok (.aload_n 2, 1) := by decide +kernel
theorem dW_488 : decode code 488 = .ok (.invokevirtual 64, 3) := by decide +kernel
theorem dW_491 : decode code 491 = .ok (.if_icmp .eq 505, 3) := by decide +kernel
theorem dW_494 : decode code 494 = .ok (.iconst 0, 1) := by decide +kernel
theorem dW_495 : decode code 495 = .ok (.ireturn, 1) := by decide +kernel
theorem dW_496 : decode code 496 = .ok (.aload_n 1, 1) := by decide +kernel
theorem dW_497 : decode code 497 = .ok (.invokevirtual 65, 3) := by decide +kernel
theorem dW_500 : decode code 500 = .ok (.aload_n 2, 1) := by decide +kernel
theorem dW_501 : decode code 501 = .ok (.invokevirtual 68, 3) := by decide +kernel
theorem dW_504 : decode code 504 = .ok (.if_icmp .eq 492, 3) := by decide +kernel
theorem dW_507 : decode code 507 = .ok (.iconst 0, 1) := by decide +kernel
theorem dW_508 : decode code 508 = .ok (.ireturn, 1) := by decide +kernel
theorem dW_509 : decode code 509 = .ok (.aload_n 1, 1) := by decide +kernel
theorem dW_510 : decode code 510 = .ok (.aload_n 0, 1) := by decide +kernel
theorem dW_511 : decode code 511 = .ok (.iload_n 3, 1) := by decide +kernel
theorem dW_512 : decode code 512 = .ok (.iconst 1, 1) := by decide +kernel
theorem dW_513 : decode code 513 = .ok (.iadd, 1) := by decide +kernel
theorem dW_514 : decode code 514 = .ok (.iaload, 1) := by decide +kernel
theorem dW_515 : decode code 515 = .ok (.invokevirtual 69, 3) := by decide +kernel
theorem dW_518 : decode code 518 = .ok (.aload_n 2, 1) := by decide +kernel
theorem dW_519 : decode code 519 = .ok (.aload_n 0, 1) := by decide +kernel
theorem dW_520 : decode code 520 = .ok (.iload_n 3, 1) := by decide +kernel
theorem dW_521 : decode code 521 = .ok (.iconst 1, 1) := by decide +kernel
theorem dW_522 : decode code 522 = .ok (.iadd, 1) := by decide +kernel
theorem dW_523 : decode code 523 = .ok (.iaload, 1) := by decide +kernel
theorem dW_524 : decode code 524 = .ok (.invokevirtual 72, 3) := by decide +kernel
theorem dW_527 : decode code 527 = .ok (.if_icmp .eq 469, 3) := by decide +kernel
theorem dW_530 : decode code 530 = .ok (.iconst 0, 1) := by decide +kernel
theorem dW_531 : decode code 531 = .ok (.ireturn, 1) := by decide +kernel
theorem dW_532 : decode code 532 = .ok (.aload_n 1, 1) := by decide +kernel
theorem dW_533 : decode code 533 = .ok (.aload_n 0, 1) := by decide +kernel
theorem dW_534 : decode code 534 = .ok (.iload_n 3, 1) := by decide +kernel
theorem dW_535 : decode code 535 = .ok (.iconst 1, 1) := by decide +kernel
theorem dW_536 : decode code 536 = .ok (.iadd, 1) := by decide +kernel
theorem dW_537 : decode code 537 = .ok (.iaload, 1) := by decide +kernel
theorem dW_538 : decode code 538 = .ok (.aload_n 0, 1) := by decide +kernel
theorem dW_539 : decode code 539 = .ok (.iload_n 3, 1) := by decide +kernel
theorem dW_540 : decode code 540 = .ok (.iconst 2, 1) := by decide +kernel
theorem dW_541 : decode code 541 = .ok (.iadd, 1) := by decide +kernel
theorem dW_542 : decode code 542 = .ok (.iaload, 1) := by decide +kernel
theorem dW_543 : decode code 543 = .ok (.invokevirtual 73, 3) := by decide +kernel
theorem dW_546 : decode code 546 = .ok (.aload_n 2, 1) := by decide +kernel
theorem dW_547 : decode code 547 = .ok (.aload_n 0, 1) := by decide +kernel
theorem dW_548 : decode code 548 = .ok (.iload_n 3, 1) := by decide +kernel
theorem dW_549 : decode code 549 = .ok (.iconst 1, 1) := by decide +kernel
theorem dW_550 : decode code 550 = .ok (.iadd, 1) := by decide +kernel
theorem dW_551 : decode code 551 = .ok (.iaload, 1) := by decide +kernel
theorem dW_552 : decode code 552 = .ok (.aload_n 0, 1) := by decide +kernel
theorem dW_553 : decode code 553 = .ok (.iload_n 3, 1) := by decide +kernel
theorem dW_554 : decode code 554 = .ok (.iconst 2, 1) := by decide +kernel
theorem dW_555 : decode code 555 = .ok (.iadd, 1) := by decide +kernel
theorem dW_556 : decode code 556 = .ok (.iaload, 1) := by decide +kernel
theorem dW_557 : decode code 557 = .ok (.invokevirtual 76, 3) := by decide +kernel
theorem dW_560 : decode code 560 = .ok (.if_icmp .eq 436, 3) := by decide +kernel
theorem dW_563 : decode code 563 = .ok (.iconst 0, 1) := by decide +kernel
theorem dW_564 : decode code 564 = .ok (.ireturn, 1) := by decide +kernel
theorem dW_565 : decode code 565 = .ok (.aload_n 1, 1) := by decide +kernel
theorem dW_566 : decode code 566 = .ok (.aload_n 0, 1) := by decide +kernel
theorem dW_567 : decode code 567 = .ok (.iload_n 3, 1) := by decide +kernel
theorem dW_568 : decode code 568 = .ok (.iconst 1, 1) := by decide +kernel
theorem dW_569 : decode code 569 = .ok (.iadd, 1) := by decide +kernel
theorem dW_570 : decode code 570 = .ok (.iaload, 1) := by decide +kernel
theorem dW_571 : decode code 571 = .ok (.aload_n 0, 1) := by decide +kernel
theorem dW_572 : decode code 572 = .ok (.iload_n 3, 1) := by decide +kernel
theorem dW_573 : decode code 573 = .ok (.iconst 2, 1) := by decide +kernel
theorem dW_574 : decode code 574 = .ok (.iadd, 1) := by decide +kernel
theorem dW_575 : decode code 575 = .ok (.iaload, 1) := by decide +kernel
theorem dW_576 : decode code 576 = .ok (.invokevirtual 77, 3) := by decide +kernel
theorem dW_579 : decode code 579 = .ok (.aload_n 2, 1) := by decide +kernel
theorem dW_580 : decode code 580 = .ok (.aload_n 0, 1) := by decide +kernel
theorem dW_581 : decode code 581 = .ok (.iload_n 3, 1) := by decide +kernel
theorem dW_582 : decode code 582 = .ok (.iconst 1, 1) := by decide +kernel
theorem dW_583 : decode code 583 = .ok (.iadd, 1) := by decide +kernel
theorem dW_584 : decode code 584 = .ok (.iaload, 1) := by decide +kernel
theorem dW_585 : decode code 585 = .ok (.aload_n 0, 1) := by decide +kernel
theorem dW_586 : decode code 586 = .ok (.iload_n 3, 1) := by decide +kernel
theorem dW_587 : decode code 587 = .ok (.iconst 2, 1) := by decide +kernel
theorem dW_588 : decode code 588 = .ok (.iadd, 1) := by decide +kernel
theorem dW_589 : decode code 589 = .ok (.iaload, 1) := by decide +kernel
theorem dW_590 : decode code 590 = .ok (.invokevirtual 80, 3) := by decide +kernel
theorem dW_593 : decode code 593 = .ok (.if_icmp .eq 403, 3) := by decide +kernel
theorem dW_596 : decode code 596 = .ok (.iconst 0, 1) := by decide +kernel
theorem dW_597 : decode code 597 = .ok (.ireturn, 1) := by decide +kernel
theorem dW_598 : decode code 598 = .ok (.aload_n 1, 1) := by decide +kernel
theorem dW_599 : decode code 599 = .ok (.aload_n 0, 1) := by decide +kernel
theorem dW_600 : decode code 600 = .ok (.iload_n 3, 1) := by decide +kernel
theorem dW_601 : decode code 601 = .ok (.iconst 1, 1) := by decide +kernel
theorem dW_602 : decode code 602 = .ok (.iadd, 1) := by decide +kernel
theorem dW_603 : decode code 603 = .ok (.iaload, 1) := by decide +kernel
theorem dW_604 : decode code 604 = .ok (.invokevirtual 81, 3) := by decide +kernel
theorem dW_607 : decode code 607 = .ok (.aload_n 2, 1) := by decide +kernel
theorem dW_608 : decode code 608 = .ok (.aload_n 0, 1) := by decide +kernel
theorem dW_609 : decode code 609 = .ok (.iload_n 3, 1) := by decide +kernel
theorem dW_610 : decode code 610 = .ok (.iconst 1, 1) := by decide +kernel
theorem dW_611 : decode code 611 = .ok (.iadd, 1) := by decide +kernel
theorem dW_612 : decode code 612 = .ok (.iaload, 1) := by decide +kernel
theorem dW_613 : decode code 613 = .ok (.invokevirtual 85, 3) := by decide +kernel
theorem dW_616 : decode code 616 = .ok (.lcmp, 1) := by decide +kernel
theorem dW_617 : decode code 617 = .ok (.ifCond .eq 379, 3) := by decide +kernel
theorem dW_620 : decode code 620 = .ok (.iconst 0, 1) := by decide +kernel
theorem dW_621 : decode code 621 = .ok (.ireturn, 1) := by decide +kernel
theorem dW_622 : decode code 622 = .ok (.aload_n 1, 1) := by decide +kernel
theorem dW_623 : decode code 623 = .ok (.aload_n 0, 1) := by decide +kernel
theorem dW_624 : decode code 624 = .ok (.iload_n 3, 1) := by decide +kernel
theorem dW_625 : decode code 625 = .ok (.iconst 1, 1) := by decide +kernel
theorem dW_626 : decode code 626 = .ok (.iadd, 1) := by decide +kernel
theorem dW_627 : decode code 627 = .ok (.iaload, 1) := by decide +kernel
theorem dW_628 : decode code 628 = .ok (.invokevirtual 86, 3) := by decide +kernel
theorem dW_631 : decode code 631 = .ok (.aload_n 2, 1) := by decide +kernel
theorem dW_632 : decode code 632 = .ok (.aload_n 0, 1) := by decide +kernel
theorem dW_633 : decode code 633 = .ok (.iload_n 3, 1) := by decide +kernel
theorem dW_634 : decode code 634 = .ok (.iconst 1, 1) := by decide +kernel
theorem dW_635 : decode code 635 = .ok (.iadd, 1) := by decide +kernel
theorem dW_636 : decode code 636 = .ok (.iaload, 1) := by decide +kernel
theorem dW_637 : decode code 637 = .ok (.invokevirtual 89, 3) := by decide +kernel
theorem dW_640 : decode code 640 = .ok (.if_icmp .eq 356, 3) := by decide +kernel
theorem dW_643 : decode code 643 = .ok (.iconst 0, 1) := by decide +kernel
theorem dW_644 : decode code 644 = .ok (.ireturn, 1) := by decide +kernel
theorem dW_645 : decode code 645 = .ok (.aload_n 1, 1) := by decide +kernel
theorem dW_646 : decode code 646 = .ok (.aload_n 0, 1) := by decide +kernel
theorem dW_647 : decode code 647 = .ok (.iload_n 3, 1) := by decide +kernel
theorem dW_648 : decode code 648 = .ok (.iconst 1, 1) := by decide +kernel
theorem dW_649 : decode code 649 = .ok (.iadd, 1) := by decide +kernel
theorem dW_650 : decode code 650 = .ok (.iaload, 1) := by decide +kernel
theorem dW_651 : decode code 651 = .ok (.invokevirtual 90, 3) := by decide +kernel
theorem dW_654 : decode code 654 = .ok (.aload_n 2, 1) := by decide +kernel
theorem dW_655 : decode code 655 = .ok (.aload_n 0, 1) := by decide +kernel
theorem dW_656 : decode code 656 = .ok (.iload_n 3, 1) := by decide +kernel
theorem dW_657 : decode code 657 = .ok (.iconst 1, 1) := by decide +kernel
theorem dW_658 : decode code 658 = .ok (.iadd, 1) := by decide +kernel
theorem dW_659 : decode code 659 = .ok (.iaload, 1) := by decide +kernel
theorem dW_660 : decode code 660 = .ok (.invokevirtual 93, 3) := by decide +kernel
theorem dW_663 : decode code 663 = .ok (.if_icmp .eq 333, 3) := by decide +kernel
theorem dW_666 : decode code 666 = .ok (.iconst 0, 1) := by decide +kernel
theorem dW_667 : decode code 667 = .ok (.ireturn, 1) := by decide +kernel
theorem dW_668 : decode code 668 = .ok (.aload_n 1, 1) := by decide +kernel
theorem dW_669 : decode code 669 = .ok (.aload_n 0, 1) := by decide +kernel
theorem dW_670 : decode code 670 = .ok (.iload_n 3, 1) := by decide +kernel
theorem dW_671 : decode code 671 = .ok (.iconst 1, 1) := by decide +kernel
theorem dW_672 : decode code 672 = .ok (.iadd, 1) := by decide +kernel
theorem dW_673 : decode code 673 = .ok (.iaload, 1) := by decide +kernel
theorem dW_674 : decode code 674 = .ok (.aload_n 0, 1) := by decide +kernel
theorem dW_675 : decode code 675 = .ok (.iload_n 3, 1) := by decide +kernel
theorem dW_676 : decode code 676 = .ok (.iconst 2, 1) := by decide +kernel
theorem dW_677 : decode code 677 = .ok (.iadd, 1) := by decide +kernel
theorem dW_678 : decode code 678 = .ok (.iaload, 1) := by decide +kernel
theorem dW_679 : decode code 679 = .ok (.aload_n 0, 1) := by decide +kernel
theorem dW_680 : decode code 680 = .ok (.iload_n 3, 1) := by decide +kernel
theorem dW_681 : decode code 681 = .ok (.iconst 3, 1) := by decide +kernel
theorem dW_682 : decode code 682 = .ok (.iadd, 1) := by decide +kernel
theorem dW_683 : decode code 683 = .ok (.iaload, 1) := by decide +kernel
theorem dW_684 : decode code 684 = .ok (.invokevirtual 94, 3) := by decide +kernel
theorem dW_687 : decode code 687 = .ok (.aload_n 2, 1) := by decide +kernel
theorem dW_688 : decode code 688 = .ok (.aload_n 0, 1) := by decide +kernel
theorem dW_689 : decode code 689 = .ok (.iload_n 3, 1) := by decide +kernel
theorem dW_690 : decode code 690 = .ok (.iconst 1, 1) := by decide +kernel
theorem dW_691 : decode code 691 = .ok (.iadd, 1) := by decide +kernel
theorem dW_692 : decode code 692 = .ok (.iaload, 1) := by decide +kernel
theorem dW_693 : decode code 693 = .ok (.aload_n 0, 1) := by decide +kernel
theorem dW_694 : decode code 694 = .ok (.iload_n 3, 1) := by decide +kernel
theorem dW_695 : decode code 695 = .ok (.iconst 2, 1) := by decide +kernel
theorem dW_696 : decode code 696 = .ok (.iadd, 1) := by decide +kernel
theorem dW_697 : decode code 697 = .ok (.iaload, 1) := by decide +kernel
theorem dW_698 : decode code 698 = .ok (.aload_n 0, 1) := by decide +kernel
theorem dW_699 : decode code 699 = .ok (.iload_n 3, 1) := by decide +kernel
theorem dW_700 : decode code 700 = .ok (.iconst 3, 1) := by decide +kernel
theorem dW_701 : decode code 701 = .ok (.iadd, 1) := by decide +kernel
theorem dW_702 : decode code 702 = .ok (.iaload, 1) := by decide +kernel
theorem dW_703 : decode code 703 = .ok (.invokevirtual 98, 3) := by decide +kernel
theorem dW_706 : decode code 706 = .ok (.lcmp, 1) := by decide +kernel
theorem dW_707 : decode code 707 = .ok (.ifCond .eq 289, 3) := by decide +kernel
theorem dW_710 : decode code 710 = .ok (.iconst 0, 1) := by decide +kernel
theorem dW_711 : decode code 711 = .ok (.ireturn, 1) := by decide +kernel
theorem dW_712 : decode code 712 = .ok (.aload_n 1, 1) := by decide +kernel
theorem dW_713 : decode code 713 = .ok (.invokevirtual 99, 3) := by decide +kernel
theorem dW_716 : decode code 716 = .ok (.aload_n 2, 1) := by decide +kernel
theorem dW_717 : decode code 717 = .ok (.invokevirtual 102, 3) := by decide +kernel
theorem dW_720 : decode code 720 = .ok (.if_icmp .eq 276, 3) := by decide +kernel
theorem dW_723 : decode code 723 = .ok (.iconst 0, 1) := by decide +kernel
theorem dW_724 : decode code 724 = .ok (.ireturn, 1) := by decide +kernel
theorem dW_725 : decode code 725 = .ok (.aload_n 1, 1) := by decide +kernel
theorem dW_726 : decode code 726 = .ok (.invokevirtual 103, 3) := by decide +kernel
theorem dW_729 : decode code 729 = .ok (.aload_n 2, 1) := by decide +kernel
theorem dW_730 : decode code 730 = .ok (.invokevirtual 106, 3) := by decide +kernel
theorem dW_733 : decode code 733 = .ok (.if_icmp .eq 263, 3) := by decide +kernel
theorem dW_736 : decode code 736 = .ok (.iconst 0, 1) := by decide +kernel
theorem dW_737 : decode code 737 = .ok (.ireturn, 1) := by decide +kernel
theorem dW_738 : decode code 738 = .ok (.aload_n 1, 1) := by decide +kernel
theorem dW_739 : decode code 739 = .ok (.aload_n 0, 1) := by decide +kernel
theorem dW_740 : decode code 740 = .ok (.iload_n 3, 1) := by decide +kernel
theorem dW_741 : decode code 741 = .ok (.iconst 1, 1) := by decide +kernel
theorem dW_742 : decode code 742 = .ok (.iadd, 1) := by decide +kernel
theorem dW_743 : decode code 743 = .ok (.iaload, 1) := by decide +kernel
theorem dW_744 : decode code 744 = .ok (.invokevirtual 107, 3) := by decide +kernel
theorem dW_747 : decode code 747 = .ok (.aload_n 2, 1) := by decide +kernel
theorem dW_748 : decode code 748 = .ok (.aload_n 0, 1) := by decide +kernel
theorem dW_749 : decode code 749 = .ok (.iload_n 3, 1) := by decide +kernel
theorem dW_750 : decode code 750 = .ok (.iconst 1, 1) := by decide +kernel
theorem dW_751 : decode code 751 = .ok (.iadd, 1) := by decide +kernel
theorem dW_752 : decode code 752 = .ok (.iaload, 1) := by decide +kernel
theorem dW_753 : decode code 753 = .ok (.invokevirtual 110, 3) := by decide +kernel
theorem dW_756 : decode code 756 = .ok (.if_icmp .eq 240, 3) := by decide +kernel
theorem dW_759 : decode code 759 = .ok (.iconst 0, 1) := by decide +kernel
theorem dW_760 : decode code 760 = .ok (.ireturn, 1) := by decide +kernel
theorem dW_761 : decode code 761 = .ok (.aload_n 1, 1) := by decide +kernel
theorem dW_762 : decode code 762 = .ok (.aload_n 0, 1) := by decide +kernel
theorem dW_763 : decode code 763 = .ok (.iload_n 3, 1) := by decide +kernel
theorem dW_764 : decode code 764 = .ok (.iconst 1, 1) := by decide +kernel
theorem dW_765 : decode code 765 = .ok (.iadd, 1) := by decide +kernel
theorem dW_766 : decode code 766 = .ok (.iaload, 1) := by decide +kernel
theorem dW_767 : decode code 767 = .ok (.aload_n 0, 1) := by decide +kernel
theorem dW_768 : decode code 768 = .ok (.iload_n 3, 1) := by decide +kernel
theorem dW_769 : decode code 769 = .ok (.iconst 2, 1) := by decide +kernel
theorem dW_770 : decode code 770 = .ok (.iadd, 1) := by decide +kernel
theorem dW_771 : decode code 771 = .ok (.iaload, 1) := by decide +kernel
theorem dW_772 : decode code 772 = .ok (.aload_n 0, 1) := by decide +kernel
theorem dW_773 : decode code 773 = .ok (.iload_n 3, 1) := by decide +kernel
theorem dW_774 : decode code 774 = .ok (.iconst 3, 1) := by decide +kernel
theorem dW_775 : decode code 775 = .ok (.iadd, 1) := by decide +kernel
theorem dW_776 : decode code 776 = .ok (.iaload, 1) := by decide +kernel
theorem dW_777 : decode code 777 = .ok (.invokevirtual 111, 3) := by decide +kernel
theorem dW_780 : decode code 780 = .ok (.aload_n 2, 1) := by decide +kernel
theorem dW_781 : decode code 781 = .ok (.aload_n 0, 1) := by decide +kernel
theorem dW_782 : decode code 782 = .ok (.iload_n 3, 1) := by decide +kernel
theorem dW_783 : decode code 783 = .ok (.iconst 1, 1) := by decide +kernel
theorem dW_784 : decode code 784 = .ok (.iadd, 1) := by decide +kernel
theorem dW_785 : decode code 785 = .ok (.iaload, 1) := by decide +kernel
theorem dW_786 : decode code 786 = .ok (.aload_n 0, 1) := by decide +kernel
theorem dW_787 : decode code 787 = .ok (.iload_n 3, 1) := by decide +kernel
theorem dW_788 : decode code 788 = .ok (.iconst 2, 1) := by decide +kernel
theorem dW_789 : decode code 789 = .ok (.iadd, 1) := by decide +kernel
theorem dW_790 : decode code 790 = .ok (.iaload, 1) := by decide +kernel
theorem dW_791 : decode code 791 = .ok (.aload_n 0, 1) := by decide +kernel
theorem dW_792 : decode code 792 = .ok (.iload_n 3, 1) := by decide +kernel
theorem dW_793 : decode code 793 = .ok (.iconst 3, 1) := by decide +kernel
theorem dW_794 : decode code 794 = .ok (.iadd, 1) := by decide +kernel
theorem dW_795 : decode code 795 = .ok (.iaload, 1) := by decide +kernel
theorem dW_796 : decode code 796 = .ok (.invokevirtual 114, 3) := by decide +kernel
theorem dW_799 : decode code 799 = .ok (.if_icmp .eq 197, 3) := by decide +kernel
theorem dW_802 : decode code 802 = .ok (.iconst 0, 1) := by decide +kernel
theorem dW_803 : decode code 803 = .ok (.ireturn, 1) := by decide +kernel
theorem dW_804 : decode code 804 = .ok (.aload_n 1, 1) := by decide +kernel
theorem dW_805 : decode code 805 = .ok (.aload_n 0, 1) := by decide +kernel
theorem dW_806 : decode code 806 = .ok (.iload_n 3, 1) := by decide +kernel
theorem dW_807 : decode code 807 = .ok (.iconst 1, 1) := by decide +kernel
theorem dW_808 : decode code 808 = .ok (.iadd, 1) := by decide +kernel
theorem dW_809 : decode code 809 = .ok (.iaload, 1) := by decide +kernel
theorem dW_810 : decode code 810 = .ok (.aload_n 0, 1) := by decide +kernel
theorem dW_811 : decode code 811 = .ok (.iload_n 3, 1) := by decide +kernel
theorem dW_812 : decode code 812 = .ok (.iconst 2, 1) := by decide +kernel
theorem dW_813 : decode code 813 = .ok (.iadd, 1) := by decide +kernel
theorem dW_814 : decode code 814 = .ok (.iaload, 1) := by decide +kernel
theorem dW_815 : decode code 815 = .ok (.aload_n 0, 1) := by decide +kernel
theorem dW_816 : decode code 816 = .ok (.iload_n 3, 1) := by decide +kernel
theorem dW_817 : decode code 817 = .ok (.iconst 3, 1) := by decide +kernel
theorem dW_818 : decode code 818 = .ok (.iadd, 1) := by decide +kernel
theorem dW_819 : decode code 819 = .ok (.iaload, 1) := by decide +kernel
theorem dW_820 : decode code 820 = .ok (.invokevirtual 115, 3) := by decide +kernel
theorem dW_823 : decode code 823 = .ok (.aload_n 2, 1) := by decide +kernel
theorem dW_824 : decode code 824 = .ok (.aload_n 0, 1) := by decide +kernel
theorem dW_825 : decode code 825 = .ok (.iload_n 3, 1) := by decide +kernel
theorem dW_826 : decode code 826 = .ok (.iconst 1, 1) := by decide +kernel
theorem dW_827 : decode code 827 = .ok (.iadd, 1) := by decide +kernel
theorem dW_828 : decode code 828 = .ok (.iaload, 1) := by decide +kernel
theorem dW_829 : decode code 829 = .ok (.aload_n 0, 1) := by decide +kernel
theorem dW_830 : decode code 830 = .ok (.iload_n 3, 1) := by decide +kernel
theorem dW_831 : decode code 831 = .ok (.iconst 2, 1) := by decide +kernel
theorem dW_832 : decode code 832 = .ok (.iadd, 1) := by decide +kernel
theorem dW_833 : decode code 833 = .ok (.iaload, 1) := by decide +kernel
theorem dW_834 : decode code 834 = .ok (.aload_n 0, 1) := by decide +kernel
theorem dW_835 : decode code 835 = .ok (.iload_n 3, 1) := by decide +kernel
theorem dW_836 : decode code 836 = .ok (.iconst 3, 1) := by decide +kernel
theorem dW_837 : decode code 837 = .ok (.iadd, 1) := by decide +kernel
theorem dW_838 : decode code 838 = .ok (.iaload, 1) := by decide +kernel
theorem dW_839 : decode code 839 = .ok (.invokevirtual 118, 3) := by decide +kernel
theorem dW_842 : decode code 842 = .ok (.if_icmp .eq 154, 3) := by decide +kernel
theorem dW_845 : decode code 845 = .ok (.iconst 0, 1) := by decide +kernel
theorem dW_846 : decode code 846 = .ok (.ireturn, 1) := by decide +kernel
theorem dW_847 : decode code 847 = .ok (.aload_n 1, 1) := by decide +kernel
theorem dW_848 : decode code 848 = .ok (.aload_n 0, 1) := by decide +kernel
theorem dW_849 : decode code 849 = .ok (.iload_n 3, 1) := by decide +kernel
theorem dW_850 : decode code 850 = .ok (.iconst 1, 1) := by decide +kernel
theorem dW_851 : decode code 851 = .ok (.iadd, 1) := by decide +kernel
theorem dW_852 : decode code 852 = .ok (.iaload, 1) := by decide +kernel
theorem dW_853 : decode code 853 = .ok (.aload_n 0, 1) := by decide +kernel
theorem dW_854 : decode code 854 = .ok (.iload_n 3, 1) := by decide +kernel
theorem dW_855 : decode code 855 = .ok (.iconst 2, 1) := by decide +kernel
theorem dW_856 : decode code 856 = .ok (.iadd, 1) := by decide +kernel
theorem dW_857 : decode code 857 = .ok (.iaload, 1) := by decide +kernel
theorem dW_858 : decode code 858 = .ok (.aload_n 0, 1) := by decide +kernel
theorem dW_859 : decode code 859 = .ok (.iload_n 3, 1) := by decide +kernel
theorem dW_860 : decode code 860 = .ok (.iconst 3, 1) := by decide +kernel
theorem dW_861 : decode code 861 = .ok (.iadd, 1) := by decide +kernel
theorem dW_862 : decode code 862 = .ok (.iaload, 1) := by decide +kernel
theorem dW_863 : decode code 863 = .ok (.aload_n 0, 1) := by decide +kernel
theorem dW_864 : decode code 864 = .ok (.iload_n 3, 1) := by decide +kernel
theorem dW_865 : decode code 865 = .ok (.iconst 4, 1) := by decide +kernel
theorem dW_866 : decode code 866 = .ok (.iadd, 1) := by decide +kernel
theorem dW_867 : decode code 867 = .ok (.iaload, 1) := by decide +kernel
theorem dW_868 : decode code 868 = .ok (.aload_n 0, 1) := by decide +kernel
theorem dW_869 : decode code 869 = .ok (.iload_n 3, 1) := by decide +kernel
theorem dW_870 : decode code 870 = .ok (.iconst 5, 1) := by decide +kernel
theorem dW_871 : decode code 871 = .ok (.iadd, 1) := by decide +kernel
theorem dW_872 : decode code 872 = .ok (.iaload, 1) := by decide +kernel
theorem dW_873 : decode code 873 = .ok (.invokevirtual 119, 3) := by decide +kernel
theorem dW_876 : decode code 876 = .ok (.aload_n 2, 1) := by decide +kernel
theorem dW_877 : decode code 877 = .ok (.aload_n 0, 1) := by decide +kernel
theorem dW_878 : decode code 878 = .ok (.iload_n 3, 1) := by decide +kernel
theorem dW_879 : decode code 879 = .ok (.iconst 1, 1) := by decide +kernel
theorem dW_880 : decode code 880 = .ok (.iadd, 1) := by decide +kernel
theorem dW_881 : decode code 881 = .ok (.iaload, 1) := by decide +kernel
theorem dW_882 : decode code 882 = .ok (.aload_n 0, 1) := by decide +kernel
theorem dW_883 : decode code 883 = .ok (.iload_n 3, 1) := by decide +kernel
theorem dW_884 : decode code 884 = .ok (.iconst 2, 1) := by decide +kernel
theorem dW_885 : decode code 885 = .ok (.iadd, 1) := by decide +kernel
theorem dW_886 : decode code 886 = .ok (.iaload, 1) := by decide +kernel
theorem dW_887 : decode code 887 = .ok (.aload_n 0, 1) := by decide +kernel
theorem dW_888 : decode code 888 = .ok (.iload_n 3, 1) := by decide +kernel
theorem dW_889 : decode code 889 = .ok (.iconst 3, 1) := by decide +kernel
theorem dW_890 : decode code 890 = .ok (.iadd, 1) := by decide +kernel
theorem dW_891 : decode code 891 = .ok (.iaload, 1) := by decide +kernel
theorem dW_892 : decode code 892 = .ok (.aload_n 0, 1) := by decide +kernel
theorem dW_893 : decode code 893 = .ok (.iload_n 3, 1) := by decide +kernel
theorem dW_894 : decode code 894 = .ok (.iconst 4, 1) := by decide +kernel
theorem dW_895 : decode code 895 = .ok (.iadd, 1) := by decide +kernel
theorem dW_896 : decode code 896 = .ok (.iaload, 1) := by decide +kernel
theorem dW_897 : decode code 897 = .ok (.aload_n 0, 1) := by decide +kernel
theorem dW_898 : decode code 898 = .ok (.iload_n 3, 1) := by decide +kernel
theorem dW_899 : decode code 899 = .ok (.iconst 5, 1) := by decide +kernel
theorem dW_900 : decode code 900 = .ok (.iadd, 1) := by decide +kernel
theorem dW_901 : decode code 901 = .ok (.iaload, 1) := by decide +kernel
theorem dW_902 : decode code 902 = .ok (.invokevirtual 123, 3) := by decide +kernel
theorem dW_905 : decode code 905 = .ok (.if_icmp .eq 91, 3) := by decide +kernel
theorem dW_908 : decode code 908 = .ok (.iconst 0, 1) := by decide +kernel
theorem dW_909 : decode code 909 = .ok (.ireturn, 1) := by decide +kernel
theorem dW_910 : decode code 910 = .ok (.aload_n 1, 1) := by decide +kernel
theorem dW_911 : decode code 911 = .ok (.aload_n 0, 1) := by decide +kernel
theorem dW_912 : decode code 912 = .ok (.iload_n 3, 1) := by decide +kernel
theorem dW_913 : decode code 913 = .ok (.iconst 1, 1) := by decide +kernel
theorem dW_914 : decode code 914 = .ok (.iadd, 1) := by decide +kernel
theorem dW_915 : decode code 915 = .ok (.iaload, 1) := by decide +kernel
theorem dW_916 : decode code 916 = .ok (.aload_n 0, 1) := by decide +kernel
theorem dW_917 : decode code 917 = .ok (.iload_n 3, 1) := by decide +kernel
theorem dW_918 : decode code 918 = .ok (.iconst 2, 1) := by decide +kernel
theorem dW_919 : decode code 919 = .ok (.iadd, 1) := by decide +kernel
theorem dW_920 : decode code 920 = .ok (.iaload, 1) := by decide +kernel
theorem dW_921 : decode code 921 = .ok (.aload_n 0, 1) := by decide +kernel
theorem dW_922 : decode code 922 = .ok (.iload_n 3, 1) := by decide +kernel
theorem dW_923 : decode code 923 = .ok (.iconst 3, 1) := by decide +kernel
theorem dW_924 : decode code 924 = .ok (.iadd, 1) := by decide +kernel
theorem dW_925 : decode code 925 = .ok (.iaload, 1) := by decide +kernel
theorem dW_926 : decode code 926 = .ok (.aload_n 0, 1) := by decide +kernel
theorem dW_927 : decode code 927 = .ok (.iload_n 3, 1) := by decide +kernel
theorem dW_928 : decode code 928 = .ok (.iconst 4, 1) := by decide +kernel
theorem dW_929 : decode code 929 = .ok (.iadd, 1) := by decide +kernel
theorem dW_930 : decode code 930 = .ok (.iaload, 1) := by decide +kernel
theorem dW_931 : decode code 931 = .ok (.invokevirtual 124, 3) := by decide +kernel
theorem dW_934 : decode code 934 = .ok (.aload_n 2, 1) := by decide +kernel
theorem dW_935 : decode code 935 = .ok (.aload_n 0, 1) := by decide +kernel
theorem dW_936 : decode code 936 = .ok (.iload_n 3, 1) := by decide +kernel
theorem dW_937 : decode code 937 = .ok (.iconst 1, 1) := by decide +kernel
theorem dW_938 : decode code 938 = .ok (.iadd, 1) := by decide +kernel
theorem dW_939 : decode code 939 = .ok (.iaload, 1) := by decide +kernel
theorem dW_940 : decode code 940 = .ok (.aload_n 0, 1) := by decide +kernel
theorem dW_941 : decode code 941 = .ok (.iload_n 3, 1) := by decide +kernel
theorem dW_942 : decode code 942 = .ok (.iconst 2, 1) := by decide +kernel
theorem dW_943 : decode code 943 = .ok (.iadd, 1) := by decide +kernel
theorem dW_944 : decode code 944 = .ok (.iaload, 1) := by decide +kernel
theorem dW_945 : decode code 945 = .ok (.aload_n 0, 1) := by decide +kernel
theorem dW_946 : decode code 946 = .ok (.iload_n 3, 1) := by decide +kernel
theorem dW_947 : decode code 947 = .ok (.iconst 3, 1) := by decide +kernel
theorem dW_948 : decode code 948 = .ok (.iadd, 1) := by decide +kernel
theorem dW_949 : decode code 949 = .ok (.iaload, 1) := by decide +kernel
theorem dW_950 : decode code 950 = .ok (.aload_n 0, 1) := by decide +kernel
theorem dW_951 : decode code 951 = .ok (.iload_n 3, 1) := by decide +kernel
theorem dW_952 : decode code 952 = .ok (.iconst 4, 1) := by decide +kernel
theorem dW_953 : decode code 953 = .ok (.iadd, 1) := by decide +kernel
theorem dW_954 : decode code 954 = .ok (.iaload, 1) := by decide +kernel
theorem dW_955 : decode code 955 = .ok (.invokevirtual 128, 3) := by decide +kernel
theorem dW_958 : decode code 958 = .ok (.if_icmp .eq 38, 3) := by decide +kernel
theorem dW_961 : decode code 961 = .ok (.iconst 0, 1) := by decide +kernel
theorem dW_962 : decode code 962 = .ok (.ireturn, 1) := by decide +kernel
theorem dW_963 : decode code 963 = .ok (.aload_n 1, 1) := by decide +kernel
theorem dW_964 : decode code 964 = .ok (.aload_n 0, 1) := by decide +kernel
theorem dW_965 : decode code 965 = .ok (.iload_n 3, 1) := by decide +kernel
theorem dW_966 : decode code 966 = .ok (.iconst 1, 1) := by decide +kernel
theorem dW_967 : decode code 967 = .ok (.iadd, 1) := by decide +kernel
theorem dW_968 : decode code 968 = .ok (.iaload, 1) := by decide +kernel
theorem dW_969 : decode code 969 = .ok (.aload_n 0, 1) := by decide +kernel
theorem dW_970 : decode code 970 = .ok (.iload_n 3, 1) := by decide +kernel
theorem dW_971 : decode code 971 = .ok (.iconst 2, 1) := by decide +kernel
theorem dW_972 : decode code 972 = .ok (.iadd, 1) := by decide +kernel
theorem dW_973 : decode code 973 = .ok (.iaload, 1) := by decide +kernel
theorem dW_974 : decode code 974 = .ok (.invokevirtual 129, 3) := by decide +kernel
theorem dW_977 : decode code 977 = .ok (.aload_n 2, 1) := by decide +kernel
theorem dW_978 : decode code 978 = .ok (.aload_n 0, 1) := by decide +kernel
theorem dW_979 : decode code 979 = .ok (.iload_n 3, 1) := by decide +kernel
theorem dW_980 : decode code 980 = .ok (.iconst 1, 1) := by decide +kernel
theorem dW_981 : decode code 981 = .ok (.iadd, 1) := by decide +kernel
theorem dW_982 : decode code 982 = .ok (.iaload, 1) := by decide +kernel
theorem dW_983 : decode code 983 = .ok (.aload_n 0, 1) := by decide +kernel
theorem dW_984 : decode code 984 = .ok (.iload_n 3, 1) := by decide +kernel
theorem dW_985 : decode code 985 = .ok (.iconst 2, 1) := by decide +kernel
theorem dW_986 : decode code 986 = .ok (.iadd, 1) := by decide +kernel
theorem dW_987 : decode code 987 = .ok (.iaload, 1) := by decide +kernel
theorem dW_988 : decode code 988 = .ok (.invokevirtual 132, 3) := by decide +kernel
theorem dW_991 : decode code 991 = .ok (.if_icmp .eq 5, 3) := by decide +kernel
theorem dW_994 : decode code 994 = .ok (.iconst 0, 1) := by decide +kernel
theorem dW_995 : decode code 995 = .ok (.ireturn, 1) := by decide +kernel
theorem dW_996 : decode code 996 = .ok (.iinc 3 6, 3) := by decide +kernel
theorem dW_999 : decode code 999 = .ok (.goto (-981), 3) := by decide +kernel
theorem dW_1002 : decode code 1002 = .ok (.iconst 1, 1) := by decide +kernel
theorem dW_1003 : decode code 1003 = .ok (.ireturn, 1) := by decide +kernel
section ARMS
variable {l : Launch} {D : va_G} {cy : Nat → ClassId} {adX adY : Nat → Nat} {AX AY AL : Nat → Prop} {Γ : MT} {b L : Nat} {xs : Nat → Int32} {Q : State → Prop}
theorem arm_set (C : LC l D cy adX adY AX AY AL Γ b L xs) {A B : Mem} {i : Nat} (hi : i + 6 ≤ L) (hR : Rel A B) (k : ∀ A' B' : Mem, Rel A' B' → GW D l AL Γ 4 Q 996 (lvL b (adX 0) (adY 0) (nI i)) [] (wsO layX (XX l D cy adX AX) A') (wsO layM (XX l D cy adY AY) B')) : GW D l AL Γ 4 Q 160 (lvL b (adX 0) (adY 0) (nI i)) [] (wsO layX (XX l D cy adX AX) A) (wsO layM (XX l D cy adY AY) B) := by
  obtain ⟨A', B', v, e1, e2, hR'⟩ := c_set hR (xs (i + 1)) (xs (i + 2)) (xs (i + 3))
  refine l_aload_n C (pn := 161) rfl 2 rfl dW_160 ?_
  refine l_arg C (pn := 166) rfl rfl rfl rfl rfl (j := 1) (by decide) (by omega) dW_161 dW_162 dW_163 dW_164 dW_165 ?_
  refine l_arg C (pn := 171) rfl rfl rfl rfl rfl (j := 2) (by decide) (by omega) dW_166 dW_167 dW_168 dW_169 dW_170 ?_
  refine l_arg C (pn := 176) rfl rfl rfl rfl rfl (j := 3) (by decide) (by omega) dW_171 dW_172 dW_173 dW_174 dW_175 ?_
  refine l_callX C (pn := 179) (As := [.int (xs (i + 1)), .int (xs (i + 2)), .int (xs (i + 3))]) (rest := []) rfl (by decide) mv_L_13 rfl (w_x_set e1) rfl rfl (Nat.le_of_ble_eq_true rfl) dW_176 ?_
  refine l_aload_n C (pn := 180) rfl 1 rfl dW_179 ?_
  refine l_arg C (pn := 185) rfl rfl rfl rfl rfl (j := 1) (by decide) (by omega) dW_180 dW_181 dW_182 dW_183 dW_184 ?_
  refine l_arg C (pn := 190) rfl rfl rfl rfl rfl (j := 2) (by decide) (by omega) dW_185 dW_186 dW_187 dW_188 dW_189 ?_
  refine l_arg C (pn := 195) rfl rfl rfl rfl rfl (j := 3) (by decide) (by omega) dW_190 dW_191 dW_192 dW_193 dW_194 ?_
  refine l_callY C (pn := 198) (As := [.int (xs (i + 1)), .int (xs (i + 2)), .int (xs (i + 3))]) (rest := [.int v]) rfl (by decide) mv_L_17 rfl (w_m_set e2) rfl rfl (Nat.le_of_ble_eq_true rfl) dW_195 ?_
  exact l_same C (tgt := 996) (by decide) dW_198 (k _ _ hR')
theorem arm_wall (C : LC l D cy adX adY AX AY AL Γ b L xs) {A B : Mem} {i : Nat} (hi : i + 6 ≤ L) (hR : Rel A B) (k : ∀ A' B' : Mem, Rel A' B' → GW D l AL Γ 4 Q 996 (lvL b (adX 0) (adY 0) (nI i)) [] (wsO layX (XX l D cy adX AX) A') (wsO layM (XX l D cy adY AY) B')) : GW D l AL Γ 4 Q 203 (lvL b (adX 0) (adY 0) (nI i)) [] (wsO layX (XX l D cy adX AX) A) (wsO layM (XX l D cy adY AY) B) := by
  obtain ⟨A', B', v, e1, e2, hR'⟩ := c_wall hR (xs (i + 1)) (xs (i + 2)) (xs (i + 3))
  refine l_aload_n C (pn := 204) rfl 2 rfl dW_203 ?_
  refine l_arg C (pn := 209) rfl rfl rfl rfl rfl (j := 1) (by decide) (by omega) dW_204 dW_205 dW_206 dW_207 dW_208 ?_
  refine l_arg C (pn := 214) rfl rfl rfl rfl rfl (j := 2) (by decide) (by omega) dW_209 dW_210 dW_211 dW_212 dW_213 ?_
  refine l_arg C (pn := 219) rfl rfl rfl rfl rfl (j := 3) (by decide) (by omega) dW_214 dW_215 dW_216 dW_217 dW_218 ?_
  refine l_callX C (pn := 222) (As := [.int (xs (i + 1)), .int (xs (i + 2)), .int (xs (i + 3))]) (rest := []) rfl (by decide) mv_L_18 rfl (w_x_wall e1) rfl rfl (Nat.le_of_ble_eq_true rfl) dW_219 ?_
  refine l_aload_n C (pn := 223) rfl 1 rfl dW_222 ?_
  refine l_arg C (pn := 228) rfl rfl rfl rfl rfl (j := 1) (by decide) (by omega) dW_223 dW_224 dW_225 dW_226 dW_227 ?_
  refine l_arg C (pn := 233) rfl rfl rfl rfl rfl (j := 2) (by decide) (by omega) dW_228 dW_229 dW_230 dW_231 dW_232 ?_
  refine l_arg C (pn := 238) rfl rfl rfl rfl rfl (j := 3) (by decide) (by omega) dW_233 dW_234 dW_235 dW_236 dW_237 ?_
  refine l_callY C (pn := 241) (As := [.int (xs (i + 1)), .int (xs (i + 2)), .int (xs (i + 3))]) (rest := [.int v]) rfl (by decide) mv_L_21 rfl (w_m_wall e2) rfl rfl (Nat.le_of_ble_eq_true rfl) dW_238 ?_
  exact l_same C (tgt := 996) (by decide) dW_241 (k _ _ hR')
theorem arm_told (C : LC l D cy adX adY AX AY AL Γ b L xs) {A B : Mem} {i : Nat} (hi : i + 6 ≤ L) (hR : Rel A B) (k : ∀ A' B' : Mem, Rel A' B' → GW D l AL Γ 4 Q 996 (lvL b (adX 0) (adY 0) (nI i)) [] (wsO layX (XX l D cy adX AX) A') (wsO layM (XX l D cy adY AY) B')) : GW D l AL Γ 4 Q 246 (lvL b (adX 0) (adY 0) (nI i)) [] (wsO layX (XX l D cy adX AX) A) (wsO layM (XX l D cy adY AY) B) := by
  obtain ⟨A', B', v, e1, e2, hR'⟩ := c_told hR (xs (i + 1)) (xs (i + 2))
  refine l_aload_n C (pn := 247) rfl 2 rfl dW_246 ?_
  refine l_arg C (pn := 252) rfl rfl rfl rfl rfl (j := 1) (by decide) (by omega) dW_247 dW_248 dW_249 dW_250 dW_251 ?_
  refine l_arg C (pn := 257) rfl rfl rfl rfl rfl (j := 2) (by decide) (by omega) dW_252 dW_253 dW_254 dW_255 dW_256 ?_
  refine l_callX C (pn := 260) (As := [.int (xs (i + 1)), .int (xs (i + 2))]) (rest := []) rfl (by decide) mv_L_22 rfl (w_x_told e1) rfl rfl (Nat.le_of_ble_eq_true rfl) dW_257 ?_
  refine l_aload_n C (pn := 261) rfl 1 rfl dW_260 ?_
  refine l_arg C (pn := 266) rfl rfl rfl rfl rfl (j := 1) (by decide) (by omega) dW_261 dW_262 dW_263 dW_264 dW_265 ?_
  refine l_arg C (pn := 271) rfl rfl rfl rfl rfl (j := 2) (by decide) (by omega) dW_266 dW_267 dW_268 dW_269 dW_270 ?_
  refine l_callY C (pn := 274) (As := [.int (xs (i + 1)), .int (xs (i + 2))]) (rest := [.int v]) rfl (by decide) mv_L_26 rfl (w_m_told e2) rfl rfl (Nat.le_of_ble_eq_true rfl) dW_271 ?_
  exact l_same C (tgt := 996) (by decide) dW_274 (k _ _ hR')
theorem arm_feed (C : LC l D cy adX adY AX AY AL Γ b L xs) {A B : Mem} {i : Nat} (hi : i + 6 ≤ L) (hR : Rel A B) (k : ∀ A' B' : Mem, Rel A' B' → GW D l AL Γ 4 Q 996 (lvL b (adX 0) (adY 0) (nI i)) [] (wsO layX (XX l D cy adX AX) A') (wsO layM (XX l D cy adY AY) B')) : GW D l AL Γ 4 Q 279 (lvL b (adX 0) (adY 0) (nI i)) [] (wsO layX (XX l D cy adX AX) A) (wsO layM (XX l D cy adY AY) B) := by
  obtain ⟨A', B', v, e1, e2, hR'⟩ := c_feed hR (xs (i + 1))
  refine l_aload_n C (pn := 280) rfl 2 rfl dW_279 ?_
  refine l_arg C (pn := 285) rfl rfl rfl rfl rfl (j := 1) (by decide) (by omega) dW_280 dW_281 dW_282 dW_283 dW_284 ?_
  refine l_callX C (pn := 288) (As := [.int (xs (i + 1))]) (rest := []) rfl (by decide) mv_L_27 rfl (w_x_feed e1) rfl rfl (Nat.le_of_ble_eq_true rfl) dW_285 ?_
  refine l_aload_n C (pn := 289) rfl 1 rfl dW_288 ?_
  refine l_arg C (pn := 294) rfl rfl rfl rfl rfl (j := 1) (by decide) (by omega) dW_289 dW_290 dW_291 dW_292 dW_293 ?_
  refine l_callY C (pn := 297) (As := [.int (xs (i + 1))]) (rest := [.int v]) rfl (by decide) mv_L_31 rfl (w_m_feed e2) rfl rfl (Nat.le_of_ble_eq_true rfl) dW_294 ?_
  exact l_same C (tgt := 996) (by decide) dW_297 (k _ _ hR')
theorem arm_text (C : LC l D cy adX adY AX AY AL Γ b L xs) {A B : Mem} {i : Nat} (hi : i + 6 ≤ L) (hR : Rel A B) (k : ∀ A' B' : Mem, Rel A' B' → GW D l AL Γ 4 Q 996 (lvL b (adX 0) (adY 0) (nI i)) [] (wsO layX (XX l D cy adX AX) A') (wsO layM (XX l D cy adY AY) B')) : GW D l AL Γ 4 Q 302 (lvL b (adX 0) (adY 0) (nI i)) [] (wsO layX (XX l D cy adX AX) A) (wsO layM (XX l D cy adY AY) B) := by
  obtain ⟨A', B', v, e1, e2, hR'⟩ := c_text hR
  refine l_aload_n C (pn := 303) rfl 2 rfl dW_302 ?_
  refine l_callX C (pn := 306) (As := []) (rest := []) rfl (by decide) mv_L_32 rfl (w_x_text e1) rfl rfl (Nat.le_of_ble_eq_true rfl) dW_303 ?_
  refine l_aload_n C (pn := 307) rfl 1 rfl dW_306 ?_
  refine l_callY C (pn := 310) (As := []) (rest := [.int v]) rfl (by decide) mv_L_36 rfl (w_m_text e2) rfl rfl (Nat.le_of_ble_eq_true rfl) dW_307 ?_
  exact l_same C (tgt := 996) (by decide) dW_310 (k _ _ hR')
theorem arm_force (C : LC l D cy adX adY AX AY AL Γ b L xs) {A B : Mem} {i : Nat} (hi : i + 6 ≤ L) (hR : Rel A B) (k : ∀ A' B' : Mem, Rel A' B' → GW D l AL Γ 4 Q 996 (lvL b (adX 0) (adY 0) (nI i)) [] (wsO layX (XX l D cy adX AX) A') (wsO layM (XX l D cy adY AY) B')) : GW D l AL Γ 4 Q 315 (lvL b (adX 0) (adY 0) (nI i)) [] (wsO layX (XX l D cy adX AX) A) (wsO layM (XX l D cy adY AY) B) := by
  obtain ⟨A', B', v, e1, e2, hR'⟩ := c_force hR (xs (i + 1))
  refine l_aload_n C (pn := 316) rfl 2 rfl dW_315 ?_
  refine l_arg C (pn := 321) rfl rfl rfl rfl rfl (j := 1) (by decide) (by omega) dW_316 dW_317 dW_318 dW_319 dW_320 ?_
  refine l_callX C (pn := 324) (As := [.int (xs (i + 1))]) (rest := []) rfl (by decide) mv_L_37 rfl (w_x_force e1) rfl rfl (Nat.le_of_ble_eq_true rfl) dW_321 ?_
  refine l_aload_n C (pn := 325) rfl 1 rfl dW_324 ?_
  refine l_arg C (pn := 330) rfl rfl rfl rfl rfl (j := 1) (by decide) (by omega) dW_325 dW_326 dW_327 dW_328 dW_329 ?_
  refine l_callY C (pn := 333) (As := [.int (xs (i + 1))]) (rest := [.int v]) rfl (by decide) mv_L_40 rfl (w_m_force e2) rfl rfl (Nat.le_of_ble_eq_true rfl) dW_330 ?_
  exact l_same C (tgt := 996) (by decide) dW_333 (k _ _ hR')
theorem arm_day (C : LC l D cy adX adY AX AY AL Γ b L xs) {A B : Mem} {i : Nat} (hi : i + 6 ≤ L) (hR : Rel A B) (k : ∀ A' B' : Mem, Rel A' B' → GW D l AL Γ 4 Q 996 (lvL b (adX 0) (adY 0) (nI i)) [] (wsO layX (XX l D cy adX AX) A') (wsO layM (XX l D cy adY AY) B')) : GW D l AL Γ 4 Q 338 (lvL b (adX 0) (adY 0) (nI i)) [] (wsO layX (XX l D cy adX AX) A) (wsO layM (XX l D cy adY AY) B) := by
  obtain ⟨A', B', v, e1, e2, hR'⟩ := c_day hR (xs (i + 1))
  refine l_aload_n C (pn := 339) rfl 2 rfl dW_338 ?_
  refine l_arg C (pn := 344) rfl rfl rfl rfl rfl (j := 1) (by decide) (by omega) dW_339 dW_340 dW_341 dW_342 dW_343 ?_
  refine l_callX C (pn := 347) (As := [.int (xs (i + 1))]) (rest := []) rfl (by decide) mv_L_41 rfl (w_x_day e1) rfl rfl (Nat.le_of_ble_eq_true rfl) dW_344 ?_
  refine l_aload_n C (pn := 348) rfl 1 rfl dW_347 ?_
  refine l_arg C (pn := 353) rfl rfl rfl rfl rfl (j := 1) (by decide) (by omega) dW_348 dW_349 dW_350 dW_351 dW_352 ?_
  refine l_callY C (pn := 356) (As := [.int (xs (i + 1))]) (rest := [.int v]) rfl (by decide) mv_L_44 rfl (w_m_day e2) rfl rfl (Nat.le_of_ble_eq_true rfl) dW_353 ?_
  exact l_same C (tgt := 996) (by decide) dW_356 (k _ _ hR')
theorem arm_order (C : LC l D cy adX adY AX AY AL Γ b L xs) {A B : Mem} {i : Nat} (hi : i + 6 ≤ L) (hR : Rel A B) (k : ∀ A' B' : Mem, Rel A' B' → GW D l AL Γ 4 Q 996 (lvL b (adX 0) (adY 0) (nI i)) [] (wsO layX (XX l D cy adX AX) A') (wsO layM (XX l D cy adY AY) B')) : GW D l AL Γ 4 Q 361 (lvL b (adX 0) (adY 0) (nI i)) [] (wsO layX (XX l D cy adX AX) A) (wsO layM (XX l D cy adY AY) B) := by
  obtain ⟨A', B', v, e1, e2, hR'⟩ := c_order hR (xs (i + 1)) (xs (i + 2))
  refine l_aload_n C (pn := 362) rfl 2 rfl dW_361 ?_
  refine l_arg C (pn := 367) rfl rfl rfl rfl rfl (j := 1) (by decide) (by omega) dW_362 dW_363 dW_364 dW_365 dW_366 ?_
  refine l_arg C (pn := 372) rfl rfl rfl rfl rfl (j := 2) (by decide) (by omega) dW_367 dW_368 dW_369 dW_370 dW_371 ?_
  refine l_callX C (pn := 375) (As := [.int (xs (i + 1)), .int (xs (i + 2))]) (rest := []) rfl (by decide) mv_L_45 rfl (w_x_order e1) rfl rfl (Nat.le_of_ble_eq_true rfl) dW_372 ?_
  refine l_aload_n C (pn := 376) rfl 1 rfl dW_375 ?_
  refine l_arg C (pn := 381) rfl rfl rfl rfl rfl (j := 1) (by decide) (by omega) dW_376 dW_377 dW_378 dW_379 dW_380 ?_
  refine l_arg C (pn := 386) rfl rfl rfl rfl rfl (j := 2) (by decide) (by omega) dW_381 dW_382 dW_383 dW_384 dW_385 ?_
  refine l_callY C (pn := 389) (As := [.int (xs (i + 1)), .int (xs (i + 2))]) (rest := [.int v]) rfl (by decide) mv_L_48 rfl (w_m_order e2) rfl rfl (Nat.le_of_ble_eq_true rfl) dW_386 ?_
  exact l_same C (tgt := 996) (by decide) dW_389 (k _ _ hR')
theorem arm_best (C : LC l D cy adX adY AX AY AL Γ b L xs) {A B : Mem} {i : Nat} (hi : i + 6 ≤ L) (hR : Rel A B) (k : ∀ A' B' : Mem, Rel A' B' → GW D l AL Γ 4 Q 996 (lvL b (adX 0) (adY 0) (nI i)) [] (wsO layX (XX l D cy adX AX) A') (wsO layM (XX l D cy adY AY) B')) : GW D l AL Γ 4 Q 394 (lvL b (adX 0) (adY 0) (nI i)) [] (wsO layX (XX l D cy adX AX) A) (wsO layM (XX l D cy adY AY) B) := by
  obtain ⟨A', B', v, e1, e2, hR'⟩ := c_best hR (xs (i + 1))
  refine l_aload_n C (pn := 395) rfl 2 rfl dW_394 ?_
  refine l_arg C (pn := 400) rfl rfl rfl rfl rfl (j := 1) (by decide) (by omega) dW_395 dW_396 dW_397 dW_398 dW_399 ?_
  refine l_callX C (pn := 403) (As := [.int (xs (i + 1))]) (rest := []) rfl (by decide) mv_L_49 rfl (w_x_best e1) rfl rfl (Nat.le_of_ble_eq_true rfl) dW_400 ?_
  refine l_aload_n C (pn := 404) rfl 1 rfl dW_403 ?_
  refine l_arg C (pn := 409) rfl rfl rfl rfl rfl (j := 1) (by decide) (by omega) dW_404 dW_405 dW_406 dW_407 dW_408 ?_
  refine l_callY C (pn := 412) (As := [.int (xs (i + 1))]) (rest := [.int v]) rfl (by decide) mv_L_52 rfl (w_m_best e2) rfl rfl (Nat.le_of_ble_eq_true rfl) dW_409 ?_
  exact l_same C (tgt := 996) (by decide) dW_412 (k _ _ hR')
theorem arm_good (C : LC l D cy adX adY AX AY AL Γ b L xs) {A B : Mem} {i : Nat} (hi : i + 6 ≤ L) (hR : Rel A B) (k : ∀ A' B' : Mem, Rel A' B' → GW D l AL Γ 4 Q 996 (lvL b (adX 0) (adY 0) (nI i)) [] (wsO layX (XX l D cy adX AX) A') (wsO layM (XX l D cy adY AY) B')) : GW D l AL Γ 4 Q 417 (lvL b (adX 0) (adY 0) (nI i)) [] (wsO layX (XX l D cy adX AX) A) (wsO layM (XX l D cy adY AY) B) := by
  obtain ⟨A', B', v, e1, e2, hR'⟩ := c_good hR (xs (i + 1)) (xs (i + 2))
  refine l_aload_n C (pn := 418) rfl 2 rfl dW_417 ?_
  refine l_arg C (pn := 423) rfl rfl rfl rfl rfl (j := 1) (by decide) (by omega) dW_418 dW_419 dW_420 dW_421 dW_422 ?_
  refine l_arg C (pn := 428) rfl rfl rfl rfl rfl (j := 2) (by decide) (by omega) dW_423 dW_424 dW_425 dW_426 dW_427 ?_
  refine l_callX C (pn := 431) (As := [.int (xs (i + 1)), .int (xs (i + 2))]) (rest := []) rfl (by decide) mv_L_53 rfl (w_x_good e1) rfl rfl (Nat.le_of_ble_eq_true rfl) dW_428 ?_
  refine l_aload_n C (pn := 432) rfl 1 rfl dW_431 ?_
  refine l_arg C (pn := 437) rfl rfl rfl rfl rfl (j := 1) (by decide) (by omega) dW_432 dW_433 dW_434 dW_435 dW_436 ?_
  refine l_arg C (pn := 442) rfl rfl rfl rfl rfl (j := 2) (by decide) (by omega) dW_437 dW_438 dW_439 dW_440 dW_441 ?_
  refine l_callY C (pn := 445) (As := [.int (xs (i + 1)), .int (xs (i + 2))]) (rest := [.int v]) rfl (by decide) mv_L_56 rfl (w_m_good e2) rfl rfl (Nat.le_of_ble_eq_true rfl) dW_442 ?_
  exact l_same C (tgt := 996) (by decide) dW_445 (k _ _ hR')
theorem arm_wetting (C : LC l D cy adX adY AX AY AL Γ b L xs) {A B : Mem} {i : Nat} (hi : i + 6 ≤ L) (hR : Rel A B) (k : ∀ A' B' : Mem, Rel A' B' → GW D l AL Γ 4 Q 996 (lvL b (adX 0) (adY 0) (nI i)) [] (wsO layX (XX l D cy adX AX) A') (wsO layM (XX l D cy adY AY) B')) : GW D l AL Γ 4 Q 450 (lvL b (adX 0) (adY 0) (nI i)) [] (wsO layX (XX l D cy adX AX) A) (wsO layM (XX l D cy adY AY) B) := by
  obtain ⟨A', B', v, e1, e2, hR'⟩ := c_wetting hR (xs (i + 1)) (xs (i + 2))
  refine l_aload_n C (pn := 451) rfl 2 rfl dW_450 ?_
  refine l_arg C (pn := 456) rfl rfl rfl rfl rfl (j := 1) (by decide) (by omega) dW_451 dW_452 dW_453 dW_454 dW_455 ?_
  refine l_arg C (pn := 461) rfl rfl rfl rfl rfl (j := 2) (by decide) (by omega) dW_456 dW_457 dW_458 dW_459 dW_460 ?_
  refine l_callX C (pn := 464) (As := [.int (xs (i + 1)), .int (xs (i + 2))]) (rest := []) rfl (by decide) mv_L_57 rfl (w_x_wetting e1) rfl rfl (Nat.le_of_ble_eq_true rfl) dW_461 ?_
  refine l_aload_n C (pn := 465) rfl 1 rfl dW_464 ?_
  refine l_arg C (pn := 470) rfl rfl rfl rfl rfl (j := 1) (by decide) (by omega) dW_465 dW_466 dW_467 dW_468 dW_469 ?_
  refine l_arg C (pn := 475) rfl rfl rfl rfl rfl (j := 2) (by decide) (by omega) dW_470 dW_471 dW_472 dW_473 dW_474 ?_
  refine l_callY C (pn := 478) (As := [.int (xs (i + 1)), .int (xs (i + 2))]) (rest := [.int v]) rfl (by decide) mv_L_60 rfl (w_m_wetting e2) rfl rfl (Nat.le_of_ble_eq_true rfl) dW_475 ?_
  exact l_same C (tgt := 996) (by decide) dW_478 (k _ _ hR')
theorem arm_alone (C : LC l D cy adX adY AX AY AL Γ b L xs) {A B : Mem} {i : Nat} (hi : i + 6 ≤ L) (hR : Rel A B) (k : ∀ A' B' : Mem, Rel A' B' → GW D l AL Γ 4 Q 996 (lvL b (adX 0) (adY 0) (nI i)) [] (wsO layX (XX l D cy adX AX) A') (wsO layM (XX l D cy adY AY) B')) : GW D l AL Γ 4 Q 483 (lvL b (adX 0) (adY 0) (nI i)) [] (wsO layX (XX l D cy adX AX) A) (wsO layM (XX l D cy adY AY) B) := by
  obtain ⟨A', B', v, e1, e2, hR'⟩ := c_alone hR
  refine l_aload_n C (pn := 484) rfl 2 rfl dW_483 ?_
  refine l_callX C (pn := 487) (As := []) (rest := []) rfl (by decide) mv_L_61 rfl (w_x_alone e1) rfl rfl (Nat.le_of_ble_eq_true rfl) dW_484 ?_
  refine l_aload_n C (pn := 488) rfl 1 rfl dW_487 ?_
  refine l_callY C (pn := 491) (As := []) (rest := [.int v]) rfl (by decide) mv_L_64 rfl (w_m_alone e2) rfl rfl (Nat.le_of_ble_eq_true rfl) dW_488 ?_
  exact l_same C (tgt := 996) (by decide) dW_491 (k _ _ hR')
theorem arm_tooWarm (C : LC l D cy adX adY AX AY AL Γ b L xs) {A B : Mem} {i : Nat} (hi : i + 6 ≤ L) (hR : Rel A B) (k : ∀ A' B' : Mem, Rel A' B' → GW D l AL Γ 4 Q 996 (lvL b (adX 0) (adY 0) (nI i)) [] (wsO layX (XX l D cy adX AX) A') (wsO layM (XX l D cy adY AY) B')) : GW D l AL Γ 4 Q 496 (lvL b (adX 0) (adY 0) (nI i)) [] (wsO layX (XX l D cy adX AX) A) (wsO layM (XX l D cy adY AY) B) := by
  obtain ⟨A', B', v, e1, e2, hR'⟩ := c_tooWarm hR
  refine l_aload_n C (pn := 497) rfl 2 rfl dW_496 ?_
  refine l_callX C (pn := 500) (As := []) (rest := []) rfl (by decide) mv_L_65 rfl (w_x_tooWarm e1) rfl rfl (Nat.le_of_ble_eq_true rfl) dW_497 ?_
  refine l_aload_n C (pn := 501) rfl 1 rfl dW_500 ?_
  refine l_callY C (pn := 504) (As := []) (rest := [.int v]) rfl (by decide) mv_L_68 rfl (w_m_tooWarm e2) rfl rfl (Nat.le_of_ble_eq_true rfl) dW_501 ?_
  exact l_same C (tgt := 996) (by decide) dW_504 (k _ _ hR')
theorem arm_gains (C : LC l D cy adX adY AX AY AL Γ b L xs) {A B : Mem} {i : Nat} (hi : i + 6 ≤ L) (hR : Rel A B) (k : ∀ A' B' : Mem, Rel A' B' → GW D l AL Γ 4 Q 996 (lvL b (adX 0) (adY 0) (nI i)) [] (wsO layX (XX l D cy adX AX) A') (wsO layM (XX l D cy adY AY) B')) : GW D l AL Γ 4 Q 509 (lvL b (adX 0) (adY 0) (nI i)) [] (wsO layX (XX l D cy adX AX) A) (wsO layM (XX l D cy adY AY) B) := by
  obtain ⟨A', B', v, e1, e2, hR'⟩ := c_gains hR (xs (i + 1))
  refine l_aload_n C (pn := 510) rfl 2 rfl dW_509 ?_
  refine l_arg C (pn := 515) rfl rfl rfl rfl rfl (j := 1) (by decide) (by omega) dW_510 dW_511 dW_512 dW_513 dW_514 ?_
  refine l_callX C (pn := 518) (As := [.int (xs (i + 1))]) (rest := []) rfl (by decide) mv_L_69 rfl (w_x_gains e1) rfl rfl (Nat.le_of_ble_eq_true rfl) dW_515 ?_
  refine l_aload_n C (pn := 519) rfl 1 rfl dW_518 ?_
  refine l_arg C (pn := 524) rfl rfl rfl rfl rfl (j := 1) (by decide) (by omega) dW_519 dW_520 dW_521 dW_522 dW_523 ?_
  refine l_callY C (pn := 527) (As := [.int (xs (i + 1))]) (rest := [.int v]) rfl (by decide) mv_L_72 rfl (w_m_gains e2) rfl rfl (Nat.le_of_ble_eq_true rfl) dW_524 ?_
  exact l_same C (tgt := 996) (by decide) dW_527 (k _ _ hR')
theorem arm_buckets (C : LC l D cy adX adY AX AY AL Γ b L xs) {A B : Mem} {i : Nat} (hi : i + 6 ≤ L) (hR : Rel A B) (k : ∀ A' B' : Mem, Rel A' B' → GW D l AL Γ 4 Q 996 (lvL b (adX 0) (adY 0) (nI i)) [] (wsO layX (XX l D cy adX AX) A') (wsO layM (XX l D cy adY AY) B')) : GW D l AL Γ 4 Q 532 (lvL b (adX 0) (adY 0) (nI i)) [] (wsO layX (XX l D cy adX AX) A) (wsO layM (XX l D cy adY AY) B) := by
  obtain ⟨A', B', v, e1, e2, hR'⟩ := c_buckets hR (xs (i + 1)) (xs (i + 2))
  refine l_aload_n C (pn := 533) rfl 2 rfl dW_532 ?_
  refine l_arg C (pn := 538) rfl rfl rfl rfl rfl (j := 1) (by decide) (by omega) dW_533 dW_534 dW_535 dW_536 dW_537 ?_
  refine l_arg C (pn := 543) rfl rfl rfl rfl rfl (j := 2) (by decide) (by omega) dW_538 dW_539 dW_540 dW_541 dW_542 ?_
  refine l_callX C (pn := 546) (As := [.int (xs (i + 1)), .int (xs (i + 2))]) (rest := []) rfl (by decide) mv_L_73 rfl (w_x_buckets e1) rfl rfl (Nat.le_of_ble_eq_true rfl) dW_543 ?_
  refine l_aload_n C (pn := 547) rfl 1 rfl dW_546 ?_
  refine l_arg C (pn := 552) rfl rfl rfl rfl rfl (j := 1) (by decide) (by omega) dW_547 dW_548 dW_549 dW_550 dW_551 ?_
  refine l_arg C (pn := 557) rfl rfl rfl rfl rfl (j := 2) (by decide) (by omega) dW_552 dW_553 dW_554 dW_555 dW_556 ?_
  refine l_callY C (pn := 560) (As := [.int (xs (i + 1)), .int (xs (i + 2))]) (rest := [.int v]) rfl (by decide) mv_L_76 rfl (w_m_buckets e2) rfl rfl (Nat.le_of_ble_eq_true rfl) dW_557 ?_
  exact l_same C (tgt := 996) (by decide) dW_560 (k _ _ hR')
theorem arm_books (C : LC l D cy adX adY AX AY AL Γ b L xs) {A B : Mem} {i : Nat} (hi : i + 6 ≤ L) (hR : Rel A B) (k : ∀ A' B' : Mem, Rel A' B' → GW D l AL Γ 4 Q 996 (lvL b (adX 0) (adY 0) (nI i)) [] (wsO layX (XX l D cy adX AX) A') (wsO layM (XX l D cy adY AY) B')) : GW D l AL Γ 4 Q 565 (lvL b (adX 0) (adY 0) (nI i)) [] (wsO layX (XX l D cy adX AX) A) (wsO layM (XX l D cy adY AY) B) := by
  obtain ⟨A', B', v, e1, e2, hR'⟩ := c_books hR (xs (i + 1)) (xs (i + 2))
  refine l_aload_n C (pn := 566) rfl 2 rfl dW_565 ?_
  refine l_arg C (pn := 571) rfl rfl rfl rfl rfl (j := 1) (by decide) (by omega) dW_566 dW_567 dW_568 dW_569 dW_570 ?_
  refine l_arg C (pn := 576) rfl rfl rfl rfl rfl (j := 2) (by decide) (by omega) dW_571 dW_572 dW_573 dW_574 dW_575 ?_
  refine l_callX C (pn := 579) (As := [.int (xs (i + 1)), .int (xs (i + 2))]) (rest := []) rfl (by decide) mv_L_77 rfl (w_x_books e1) rfl rfl (Nat.le_of_ble_eq_true rfl) dW_576 ?_
  refine l_aload_n C (pn := 580) rfl 1 rfl dW_579 ?_
  refine l_arg C (pn := 585) rfl rfl rfl rfl rfl (j := 1) (by decide) (by omega) dW_580 dW_581 dW_582 dW_583 dW_584 ?_
  refine l_arg C (pn := 590) rfl rfl rfl rfl rfl (j := 2) (by decide) (by omega) dW_585 dW_586 dW_587 dW_588 dW_589 ?_
  refine l_callY C (pn := 593) (As := [.int (xs (i + 1)), .int (xs (i + 2))]) (rest := [.int v]) rfl (by decide) mv_L_80 rfl (w_m_books e2) rfl rfl (Nat.le_of_ble_eq_true rfl) dW_590 ?_
  exact l_same C (tgt := 996) (by decide) dW_593 (k _ _ hR')
theorem arm_warms (C : LC l D cy adX adY AX AY AL Γ b L xs) {A B : Mem} {i : Nat} (hi : i + 6 ≤ L) (hR : Rel A B) (k : ∀ A' B' : Mem, Rel A' B' → GW D l AL Γ 4 Q 996 (lvL b (adX 0) (adY 0) (nI i)) [] (wsO layX (XX l D cy adX AX) A') (wsO layM (XX l D cy adY AY) B')) : GW D l AL Γ 4 Q 598 (lvL b (adX 0) (adY 0) (nI i)) [] (wsO layX (XX l D cy adX AX) A) (wsO layM (XX l D cy adY AY) B) := by
  obtain ⟨A', B', v, e1, e2, hR'⟩ := c_warms hR (xs (i + 1))
  refine l_aload_n C (pn := 599) rfl 2 rfl dW_598 ?_
  refine l_arg C (pn := 604) rfl rfl rfl rfl rfl (j := 1) (by decide) (by omega) dW_599 dW_600 dW_601 dW_602 dW_603 ?_
  refine l_callX C (pn := 607) (As := [.int (xs (i + 1))]) (rest := []) rfl (by decide) mv_L_81 rfl (w_x_warms e1) rfl rfl (Nat.le_of_ble_eq_true rfl) dW_604 ?_
  refine l_aload_n C (pn := 608) rfl 1 rfl dW_607 ?_
  refine l_arg C (pn := 613) rfl rfl rfl rfl rfl (j := 1) (by decide) (by omega) dW_608 dW_609 dW_610 dW_611 dW_612 ?_
  refine l_callY C (pn := 616) (As := [.int (xs (i + 1))]) (rest := [.long v]) rfl (by decide) mv_L_85 rfl (w_m_warms e2) rfl rfl (Nat.le_of_ble_eq_true rfl) dW_613 ?_
  exact l_sameL C (pn := 617) rfl dW_616 (tgt := 996) (by decide) dW_617 (k _ _ hR')
theorem arm_film (C : LC l D cy adX adY AX AY AL Γ b L xs) {A B : Mem} {i : Nat} (hi : i + 6 ≤ L) (hR : Rel A B) (k : ∀ A' B' : Mem, Rel A' B' → GW D l AL Γ 4 Q 996 (lvL b (adX 0) (adY 0) (nI i)) [] (wsO layX (XX l D cy adX AX) A') (wsO layM (XX l D cy adY AY) B')) : GW D l AL Γ 4 Q 622 (lvL b (adX 0) (adY 0) (nI i)) [] (wsO layX (XX l D cy adX AX) A) (wsO layM (XX l D cy adY AY) B) := by
  obtain ⟨A', B', v, e1, e2, hR'⟩ := c_film hR (xs (i + 1))
  refine l_aload_n C (pn := 623) rfl 2 rfl dW_622 ?_
  refine l_arg C (pn := 628) rfl rfl rfl rfl rfl (j := 1) (by decide) (by omega) dW_623 dW_624 dW_625 dW_626 dW_627 ?_
  refine l_callX C (pn := 631) (As := [.int (xs (i + 1))]) (rest := []) rfl (by decide) mv_L_86 rfl (w_x_film e1) rfl rfl (Nat.le_of_ble_eq_true rfl) dW_628 ?_
  refine l_aload_n C (pn := 632) rfl 1 rfl dW_631 ?_
  refine l_arg C (pn := 637) rfl rfl rfl rfl rfl (j := 1) (by decide) (by omega) dW_632 dW_633 dW_634 dW_635 dW_636 ?_
  refine l_callY C (pn := 640) (As := [.int (xs (i + 1))]) (rest := [.int v]) rfl (by decide) mv_L_89 rfl (w_m_film e2) rfl rfl (Nat.le_of_ble_eq_true rfl) dW_637 ?_
  exact l_same C (tgt := 996) (by decide) dW_640 (k _ _ hR')
theorem arm_drawn (C : LC l D cy adX adY AX AY AL Γ b L xs) {A B : Mem} {i : Nat} (hi : i + 6 ≤ L) (hR : Rel A B) (k : ∀ A' B' : Mem, Rel A' B' → GW D l AL Γ 4 Q 996 (lvL b (adX 0) (adY 0) (nI i)) [] (wsO layX (XX l D cy adX AX) A') (wsO layM (XX l D cy adY AY) B')) : GW D l AL Γ 4 Q 645 (lvL b (adX 0) (adY 0) (nI i)) [] (wsO layX (XX l D cy adX AX) A) (wsO layM (XX l D cy adY AY) B) := by
  obtain ⟨A', B', v, e1, e2, hR'⟩ := c_drawn hR (xs (i + 1))
  refine l_aload_n C (pn := 646) rfl 2 rfl dW_645 ?_
  refine l_arg C (pn := 651) rfl rfl rfl rfl rfl (j := 1) (by decide) (by omega) dW_646 dW_647 dW_648 dW_649 dW_650 ?_
  refine l_callX C (pn := 654) (As := [.int (xs (i + 1))]) (rest := []) rfl (by decide) mv_L_90 rfl (w_x_drawn e1) rfl rfl (Nat.le_of_ble_eq_true rfl) dW_651 ?_
  refine l_aload_n C (pn := 655) rfl 1 rfl dW_654 ?_
  refine l_arg C (pn := 660) rfl rfl rfl rfl rfl (j := 1) (by decide) (by omega) dW_655 dW_656 dW_657 dW_658 dW_659 ?_
  refine l_callY C (pn := 663) (As := [.int (xs (i + 1))]) (rest := [.int v]) rfl (by decide) mv_L_93 rfl (w_m_drawn e2) rfl rfl (Nat.le_of_ble_eq_true rfl) dW_660 ?_
  exact l_same C (tgt := 996) (by decide) dW_663 (k _ _ hR')
theorem arm_chance (C : LC l D cy adX adY AX AY AL Γ b L xs) {A B : Mem} {i : Nat} (hi : i + 6 ≤ L) (hR : Rel A B) (k : ∀ A' B' : Mem, Rel A' B' → GW D l AL Γ 4 Q 996 (lvL b (adX 0) (adY 0) (nI i)) [] (wsO layX (XX l D cy adX AX) A') (wsO layM (XX l D cy adY AY) B')) : GW D l AL Γ 4 Q 668 (lvL b (adX 0) (adY 0) (nI i)) [] (wsO layX (XX l D cy adX AX) A) (wsO layM (XX l D cy adY AY) B) := by
  obtain ⟨A', B', v, e1, e2, hR'⟩ := c_chance hR (xs (i + 1)) (xs (i + 2)) (xs (i + 3))
  refine l_aload_n C (pn := 669) rfl 2 rfl dW_668 ?_
  refine l_arg C (pn := 674) rfl rfl rfl rfl rfl (j := 1) (by decide) (by omega) dW_669 dW_670 dW_671 dW_672 dW_673 ?_
  refine l_arg C (pn := 679) rfl rfl rfl rfl rfl (j := 2) (by decide) (by omega) dW_674 dW_675 dW_676 dW_677 dW_678 ?_
  refine l_arg C (pn := 684) rfl rfl rfl rfl rfl (j := 3) (by decide) (by omega) dW_679 dW_680 dW_681 dW_682 dW_683 ?_
  refine l_callX C (pn := 687) (As := [.int (xs (i + 1)), .int (xs (i + 2)), .int (xs (i + 3))]) (rest := []) rfl (by decide) mv_L_94 rfl (w_x_chance e1) rfl rfl (Nat.le_of_ble_eq_true rfl) dW_684 ?_
  refine l_aload_n C (pn := 688) rfl 1 rfl dW_687 ?_
  refine l_arg C (pn := 693) rfl rfl rfl rfl rfl (j := 1) (by decide) (by omega) dW_688 dW_689 dW_690 dW_691 dW_692 ?_
  refine l_arg C (pn := 698) rfl rfl rfl rfl rfl (j := 2) (by decide) (by omega) dW_693 dW_694 dW_695 dW_696 dW_697 ?_
  refine l_arg C (pn := 703) rfl rfl rfl rfl rfl (j := 3) (by decide) (by omega) dW_698 dW_699 dW_700 dW_701 dW_702 ?_
  refine l_callY C (pn := 706) (As := [.int (xs (i + 1)), .int (xs (i + 2)), .int (xs (i + 3))]) (rest := [.long v]) rfl (by decide) mv_L_98 rfl (w_m_chance e2) rfl rfl (Nat.le_of_ble_eq_true rfl) dW_703 ?_
  exact l_sameL C (pn := 707) rfl dW_706 (tgt := 996) (by decide) dW_707 (k _ _ hR')
theorem arm_image (C : LC l D cy adX adY AX AY AL Γ b L xs) {A B : Mem} {i : Nat} (hi : i + 6 ≤ L) (hR : Rel A B) (k : ∀ A' B' : Mem, Rel A' B' → GW D l AL Γ 4 Q 996 (lvL b (adX 0) (adY 0) (nI i)) [] (wsO layX (XX l D cy adX AX) A') (wsO layM (XX l D cy adY AY) B')) : GW D l AL Γ 4 Q 712 (lvL b (adX 0) (adY 0) (nI i)) [] (wsO layX (XX l D cy adX AX) A) (wsO layM (XX l D cy adY AY) B) := by
  obtain ⟨A', B', v, e1, e2, hR'⟩ := c_image hR
  refine l_aload_n C (pn := 713) rfl 2 rfl dW_712 ?_
  refine l_callX C (pn := 716) (As := []) (rest := []) rfl (by decide) mv_L_99 rfl (w_x_image e1) rfl rfl (Nat.le_of_ble_eq_true rfl) dW_713 ?_
  refine l_aload_n C (pn := 717) rfl 1 rfl dW_716 ?_
  refine l_callY C (pn := 720) (As := []) (rest := [.int v]) rfl (by decide) mv_L_102 rfl (w_m_image e2) rfl rfl (Nat.le_of_ble_eq_true rfl) dW_717 ?_
  exact l_same C (tgt := 996) (by decide) dW_720 (k _ _ hR')
theorem arm_back (C : LC l D cy adX adY AX AY AL Γ b L xs) {A B : Mem} {i : Nat} (hi : i + 6 ≤ L) (hR : Rel A B) (k : ∀ A' B' : Mem, Rel A' B' → GW D l AL Γ 4 Q 996 (lvL b (adX 0) (adY 0) (nI i)) [] (wsO layX (XX l D cy adX AX) A') (wsO layM (XX l D cy adY AY) B')) : GW D l AL Γ 4 Q 725 (lvL b (adX 0) (adY 0) (nI i)) [] (wsO layX (XX l D cy adX AX) A) (wsO layM (XX l D cy adY AY) B) := by
  obtain ⟨A', B', v, e1, e2, hR'⟩ := c_back hR
  refine l_aload_n C (pn := 726) rfl 2 rfl dW_725 ?_
  refine l_callX C (pn := 729) (As := []) (rest := []) rfl (by decide) mv_L_103 rfl (w_x_back e1) rfl rfl (Nat.le_of_ble_eq_true rfl) dW_726 ?_
  refine l_aload_n C (pn := 730) rfl 1 rfl dW_729 ?_
  refine l_callY C (pn := 733) (As := []) (rest := [.int v]) rfl (by decide) mv_L_106 rfl (w_m_back e2) rfl rfl (Nat.le_of_ble_eq_true rfl) dW_730 ?_
  exact l_same C (tgt := 996) (by decide) dW_733 (k _ _ hR')
theorem arm_count (C : LC l D cy adX adY AX AY AL Γ b L xs) {A B : Mem} {i : Nat} (hi : i + 6 ≤ L) (hR : Rel A B) (k : ∀ A' B' : Mem, Rel A' B' → GW D l AL Γ 4 Q 996 (lvL b (adX 0) (adY 0) (nI i)) [] (wsO layX (XX l D cy adX AX) A') (wsO layM (XX l D cy adY AY) B')) : GW D l AL Γ 4 Q 738 (lvL b (adX 0) (adY 0) (nI i)) [] (wsO layX (XX l D cy adX AX) A) (wsO layM (XX l D cy adY AY) B) := by
  obtain ⟨v, e1, e2⟩ := c_count hR (xs (i + 1))
  refine l_aload_n C (pn := 739) rfl 2 rfl dW_738 ?_
  refine l_arg C (pn := 744) rfl rfl rfl rfl rfl (j := 1) (by decide) (by omega) dW_739 dW_740 dW_741 dW_742 dW_743 ?_
  refine l_callX C (pn := 747) (As := [.int (xs (i + 1))]) (rest := []) rfl (by decide) mv_L_107 rfl (w_x_count e1) rfl rfl (Nat.le_of_ble_eq_true rfl) dW_744 ?_
  refine l_aload_n C (pn := 748) rfl 1 rfl dW_747 ?_
  refine l_arg C (pn := 753) rfl rfl rfl rfl rfl (j := 1) (by decide) (by omega) dW_748 dW_749 dW_750 dW_751 dW_752 ?_
  refine l_callY C (pn := 756) (As := [.int (xs (i + 1))]) (rest := [.int v]) rfl (by decide) mv_L_110 rfl (w_m_count e2) rfl rfl (Nat.le_of_ble_eq_true rfl) dW_753 ?_
  exact l_same C (tgt := 996) (by decide) dW_756 (k _ _ hR)
theorem arm_sheet (C : LC l D cy adX adY AX AY AL Γ b L xs) {A B : Mem} {i : Nat} (hi : i + 6 ≤ L) (hR : Rel A B) (k : ∀ A' B' : Mem, Rel A' B' → GW D l AL Γ 4 Q 996 (lvL b (adX 0) (adY 0) (nI i)) [] (wsO layX (XX l D cy adX AX) A') (wsO layM (XX l D cy adY AY) B')) : GW D l AL Γ 4 Q 761 (lvL b (adX 0) (adY 0) (nI i)) [] (wsO layX (XX l D cy adX AX) A) (wsO layM (XX l D cy adY AY) B) := by
  obtain ⟨A', B', v, e1, e2, hR'⟩ := c_sheet hR (xs (i + 1)) (xs (i + 2)) (xs (i + 3))
  refine l_aload_n C (pn := 762) rfl 2 rfl dW_761 ?_
  refine l_arg C (pn := 767) rfl rfl rfl rfl rfl (j := 1) (by decide) (by omega) dW_762 dW_763 dW_764 dW_765 dW_766 ?_
  refine l_arg C (pn := 772) rfl rfl rfl rfl rfl (j := 2) (by decide) (by omega) dW_767 dW_768 dW_769 dW_770 dW_771 ?_
  refine l_arg C (pn := 777) rfl rfl rfl rfl rfl (j := 3) (by decide) (by omega) dW_772 dW_773 dW_774 dW_775 dW_776 ?_
  refine l_callX C (pn := 780) (As := [.int (xs (i + 1)), .int (xs (i + 2)), .int (xs (i + 3))]) (rest := []) rfl (by decide) mv_L_111 rfl (w_x_sheet e1) rfl rfl (Nat.le_of_ble_eq_true rfl) dW_777 ?_
  refine l_aload_n C (pn := 781) rfl 1 rfl dW_780 ?_
  refine l_arg C (pn := 786) rfl rfl rfl rfl rfl (j := 1) (by decide) (by omega) dW_781 dW_782 dW_783 dW_784 dW_785 ?_
  refine l_arg C (pn := 791) rfl rfl rfl rfl rfl (j := 2) (by decide) (by omega) dW_786 dW_787 dW_788 dW_789 dW_790 ?_
  refine l_arg C (pn := 796) rfl rfl rfl rfl rfl (j := 3) (by decide) (by omega) dW_791 dW_792 dW_793 dW_794 dW_795 ?_
  refine l_callY C (pn := 799) (As := [.int (xs (i + 1)), .int (xs (i + 2)), .int (xs (i + 3))]) (rest := [.int v]) rfl (by decide) mv_L_114 rfl (w_m_sheet e2) rfl rfl (Nat.le_of_ble_eq_true rfl) dW_796 ?_
  exact l_same C (tgt := 996) (by decide) dW_799 (k _ _ hR')
theorem arm_cell (C : LC l D cy adX adY AX AY AL Γ b L xs) {A B : Mem} {i : Nat} (hi : i + 6 ≤ L) (hR : Rel A B) (k : ∀ A' B' : Mem, Rel A' B' → GW D l AL Γ 4 Q 996 (lvL b (adX 0) (adY 0) (nI i)) [] (wsO layX (XX l D cy adX AX) A') (wsO layM (XX l D cy adY AY) B')) : GW D l AL Γ 4 Q 804 (lvL b (adX 0) (adY 0) (nI i)) [] (wsO layX (XX l D cy adX AX) A) (wsO layM (XX l D cy adY AY) B) := by
  obtain ⟨A', B', v, e1, e2, hR'⟩ := c_cell hR (xs (i + 1)) (xs (i + 2)) (xs (i + 3))
  refine l_aload_n C (pn := 805) rfl 2 rfl dW_804 ?_
  refine l_arg C (pn := 810) rfl rfl rfl rfl rfl (j := 1) (by decide) (by omega) dW_805 dW_806 dW_807 dW_808 dW_809 ?_
  refine l_arg C (pn := 815) rfl rfl rfl rfl rfl (j := 2) (by decide) (by omega) dW_810 dW_811 dW_812 dW_813 dW_814 ?_
  refine l_arg C (pn := 820) rfl rfl rfl rfl rfl (j := 3) (by decide) (by omega) dW_815 dW_816 dW_817 dW_818 dW_819 ?_
  refine l_callX C (pn := 823) (As := [.int (xs (i + 1)), .int (xs (i + 2)), .int (xs (i + 3))]) (rest := []) rfl (by decide) mv_L_115 rfl (w_x_cell e1) rfl rfl (Nat.le_of_ble_eq_true rfl) dW_820 ?_
  refine l_aload_n C (pn := 824) rfl 1 rfl dW_823 ?_
  refine l_arg C (pn := 829) rfl rfl rfl rfl rfl (j := 1) (by decide) (by omega) dW_824 dW_825 dW_826 dW_827 dW_828 ?_
  refine l_arg C (pn := 834) rfl rfl rfl rfl rfl (j := 2) (by decide) (by omega) dW_829 dW_830 dW_831 dW_832 dW_833 ?_
  refine l_arg C (pn := 839) rfl rfl rfl rfl rfl (j := 3) (by decide) (by omega) dW_834 dW_835 dW_836 dW_837 dW_838 ?_
  refine l_callY C (pn := 842) (As := [.int (xs (i + 1)), .int (xs (i + 2)), .int (xs (i + 3))]) (rest := [.int v]) rfl (by decide) mv_L_118 rfl (w_m_cell e2) rfl rfl (Nat.le_of_ble_eq_true rfl) dW_839 ?_
  exact l_same C (tgt := 996) (by decide) dW_842 (k _ _ hR')
theorem arm_copy (C : LC l D cy adX adY AX AY AL Γ b L xs) {A B : Mem} {i : Nat} (hi : i + 6 ≤ L) (hR : Rel A B) (k : ∀ A' B' : Mem, Rel A' B' → GW D l AL Γ 4 Q 996 (lvL b (adX 0) (adY 0) (nI i)) [] (wsO layX (XX l D cy adX AX) A') (wsO layM (XX l D cy adY AY) B')) : GW D l AL Γ 4 Q 847 (lvL b (adX 0) (adY 0) (nI i)) [] (wsO layX (XX l D cy adX AX) A) (wsO layM (XX l D cy adY AY) B) := by
  obtain ⟨A', B', v, e1, e2, hR'⟩ := c_copy hR (xs (i + 1)) (xs (i + 2)) (xs (i + 3)) (xs (i + 4)) (xs (i + 5))
  refine l_aload_n C (pn := 848) rfl 2 rfl dW_847 ?_
  refine l_arg C (pn := 853) rfl rfl rfl rfl rfl (j := 1) (by decide) (by omega) dW_848 dW_849 dW_850 dW_851 dW_852 ?_
  refine l_arg C (pn := 858) rfl rfl rfl rfl rfl (j := 2) (by decide) (by omega) dW_853 dW_854 dW_855 dW_856 dW_857 ?_
  refine l_arg C (pn := 863) rfl rfl rfl rfl rfl (j := 3) (by decide) (by omega) dW_858 dW_859 dW_860 dW_861 dW_862 ?_
  refine l_arg C (pn := 868) rfl rfl rfl rfl rfl (j := 4) (by decide) (by omega) dW_863 dW_864 dW_865 dW_866 dW_867 ?_
  refine l_arg C (pn := 873) rfl rfl rfl rfl rfl (j := 5) (by decide) (by omega) dW_868 dW_869 dW_870 dW_871 dW_872 ?_
  refine l_callX C (pn := 876) (As := [.int (xs (i + 1)), .int (xs (i + 2)), .int (xs (i + 3)), .int (xs (i + 4)), .int (xs (i + 5))]) (rest := []) rfl (by decide) mv_L_119 rfl (w_x_copy e1) rfl rfl (Nat.le_of_ble_eq_true rfl) dW_873 ?_
  refine l_aload_n C (pn := 877) rfl 1 rfl dW_876 ?_
  refine l_arg C (pn := 882) rfl rfl rfl rfl rfl (j := 1) (by decide) (by omega) dW_877 dW_878 dW_879 dW_880 dW_881 ?_
  refine l_arg C (pn := 887) rfl rfl rfl rfl rfl (j := 2) (by decide) (by omega) dW_882 dW_883 dW_884 dW_885 dW_886 ?_
  refine l_arg C (pn := 892) rfl rfl rfl rfl rfl (j := 3) (by decide) (by omega) dW_887 dW_888 dW_889 dW_890 dW_891 ?_
  refine l_arg C (pn := 897) rfl rfl rfl rfl rfl (j := 4) (by decide) (by omega) dW_892 dW_893 dW_894 dW_895 dW_896 ?_
  refine l_arg C (pn := 902) rfl rfl rfl rfl rfl (j := 5) (by decide) (by omega) dW_897 dW_898 dW_899 dW_900 dW_901 ?_
  refine l_callY C (pn := 905) (As := [.int (xs (i + 1)), .int (xs (i + 2)), .int (xs (i + 3)), .int (xs (i + 4)), .int (xs (i + 5))]) (rest := [.int v]) rfl (by decide) mv_L_123 rfl (w_m_copy e2) rfl rfl (Nat.le_of_ble_eq_true rfl) dW_902 ?_
  exact l_same C (tgt := 996) (by decide) dW_905 (k _ _ hR')
theorem arm_walls (C : LC l D cy adX adY AX AY AL Γ b L xs) {A B : Mem} {i : Nat} (hi : i + 6 ≤ L) (hR : Rel A B) (k : ∀ A' B' : Mem, Rel A' B' → GW D l AL Γ 4 Q 996 (lvL b (adX 0) (adY 0) (nI i)) [] (wsO layX (XX l D cy adX AX) A') (wsO layM (XX l D cy adY AY) B')) : GW D l AL Γ 4 Q 910 (lvL b (adX 0) (adY 0) (nI i)) [] (wsO layX (XX l D cy adX AX) A) (wsO layM (XX l D cy adY AY) B) := by
  obtain ⟨A', B', v, e1, e2, hR'⟩ := c_walls hR (xs (i + 1)) (xs (i + 2)) (xs (i + 3)) (xs (i + 4))
  refine l_aload_n C (pn := 911) rfl 2 rfl dW_910 ?_
  refine l_arg C (pn := 916) rfl rfl rfl rfl rfl (j := 1) (by decide) (by omega) dW_911 dW_912 dW_913 dW_914 dW_915 ?_
  refine l_arg C (pn := 921) rfl rfl rfl rfl rfl (j := 2) (by decide) (by omega) dW_916 dW_917 dW_918 dW_919 dW_920 ?_
  refine l_arg C (pn := 926) rfl rfl rfl rfl rfl (j := 3) (by decide) (by omega) dW_921 dW_922 dW_923 dW_924 dW_925 ?_
  refine l_arg C (pn := 931) rfl rfl rfl rfl rfl (j := 4) (by decide) (by omega) dW_926 dW_927 dW_928 dW_929 dW_930 ?_
  refine l_callX C (pn := 934) (As := [.int (xs (i + 1)), .int (xs (i + 2)), .int (xs (i + 3)), .int (xs (i + 4))]) (rest := []) rfl (by decide) mv_L_124 rfl (w_x_walls e1) rfl rfl (Nat.le_of_ble_eq_true rfl) dW_931 ?_
  refine l_aload_n C (pn := 935) rfl 1 rfl dW_934 ?_
  refine l_arg C (pn := 940) rfl rfl rfl rfl rfl (j := 1) (by decide) (by omega) dW_935 dW_936 dW_937 dW_938 dW_939 ?_
  refine l_arg C (pn := 945) rfl rfl rfl rfl rfl (j := 2) (by decide) (by omega) dW_940 dW_941 dW_942 dW_943 dW_944 ?_
  refine l_arg C (pn := 950) rfl rfl rfl rfl rfl (j := 3) (by decide) (by omega) dW_945 dW_946 dW_947 dW_948 dW_949 ?_
  refine l_arg C (pn := 955) rfl rfl rfl rfl rfl (j := 4) (by decide) (by omega) dW_950 dW_951 dW_952 dW_953 dW_954 ?_
  refine l_callY C (pn := 958) (As := [.int (xs (i + 1)), .int (xs (i + 2)), .int (xs (i + 3)), .int (xs (i + 4))]) (rest := [.int v]) rfl (by decide) mv_L_128 rfl (w_m_walls e2) rfl rfl (Nat.le_of_ble_eq_true rfl) dW_955 ?_
  exact l_same C (tgt := 996) (by decide) dW_958 (k _ _ hR')
theorem arm_taken (C : LC l D cy adX adY AX AY AL Γ b L xs) {A B : Mem} {i : Nat} (hi : i + 6 ≤ L) (hR : Rel A B) (k : ∀ A' B' : Mem, Rel A' B' → GW D l AL Γ 4 Q 996 (lvL b (adX 0) (adY 0) (nI i)) [] (wsO layX (XX l D cy adX AX) A') (wsO layM (XX l D cy adY AY) B')) : GW D l AL Γ 4 Q 963 (lvL b (adX 0) (adY 0) (nI i)) [] (wsO layX (XX l D cy adX AX) A) (wsO layM (XX l D cy adY AY) B) := by
  obtain ⟨v, e1, e2⟩ := c_taken hR (xs (i + 1)) (xs (i + 2))
  refine l_aload_n C (pn := 964) rfl 2 rfl dW_963 ?_
  refine l_arg C (pn := 969) rfl rfl rfl rfl rfl (j := 1) (by decide) (by omega) dW_964 dW_965 dW_966 dW_967 dW_968 ?_
  refine l_arg C (pn := 974) rfl rfl rfl rfl rfl (j := 2) (by decide) (by omega) dW_969 dW_970 dW_971 dW_972 dW_973 ?_
  refine l_callX C (pn := 977) (As := [.int (xs (i + 1)), .int (xs (i + 2))]) (rest := []) rfl (by decide) mv_L_129 rfl (w_x_taken e1) rfl rfl (Nat.le_of_ble_eq_true rfl) dW_974 ?_
  refine l_aload_n C (pn := 978) rfl 1 rfl dW_977 ?_
  refine l_arg C (pn := 983) rfl rfl rfl rfl rfl (j := 1) (by decide) (by omega) dW_978 dW_979 dW_980 dW_981 dW_982 ?_
  refine l_arg C (pn := 988) rfl rfl rfl rfl rfl (j := 2) (by decide) (by omega) dW_983 dW_984 dW_985 dW_986 dW_987 ?_
  refine l_callY C (pn := 991) (As := [.int (xs (i + 1)), .int (xs (i + 2))]) (rest := [.int v]) rfl (by decide) mv_L_132 rfl (w_m_taken e2) rfl rfl (Nat.le_of_ble_eq_true rfl) dW_988 ?_
  exact l_same C (tgt := 996) (by decide) dW_991 (k _ _ hR)
end ARMS
