theorem dX9_init_185 : decode cX9_init 185 = .ok (.aload_n 0, 1) := by decide +kernel
theorem dX9_init_186 : decode cX9_init 186 = .ok (.getfield 23, 3) := by decide +kernel
theorem dX9_init_189 : decode cX9_init 189 = .ok (.iconst 0, 1) := by decide +kernel
theorem dX9_init_190 : decode cX9_init 190 = .ok (.bipush 18, 2) := by decide +kernel
theorem dX9_init_192 : decode cX9_init 192 = .ok (.iastore, 1) := by decide +kernel
theorem dX9_init_193 : decode cX9_init 193 = .ok (.aload_n 0, 1) := by decide +kernel
theorem dX9_init_194 : decode cX9_init 194 = .ok (.getfield 23, 3) := by decide +kernel
theorem dX9_init_197 : decode cX9_init 197 = .ok (.iconst 3, 1) := by decide +kernel
theorem dX9_init_198 : decode cX9_init 198 = .ok (.iconst 1, 1) := by decide +kernel
theorem dX9_init_199 : decode cX9_init 199 = .ok (.iastore, 1) := by decide +kernel
theorem dX9_init_200 : decode cX9_init 200 = .ok (.aload_n 0, 1) := by decide +kernel
theorem dX9_init_201 : decode cX9_init 201 = .ok (.iconst 0, 1) := by decide +kernel
theorem dX9_init_202 : decode cX9_init 202 = .ok (.bipush 114, 2) := by decide +kernel
theorem dX9_init_204 : decode cX9_init 204 = .ok (.bipush 105, 2) := by decide +kernel
theorem dX9_init_206 : decode cX9_init 206 = .ok (.bipush 112, 2) := by decide +kernel
theorem dX9_init_208 : decode cX9_init 208 = .ok (.bipush 101, 2) := by decide +kernel
theorem dX9_init_210 : decode cX9_init 210 = .ok (.bipush 110, 2) := by decide +kernel
theorem dX9_init_212 : decode cX9_init 212 = .ok (.bipush 115, 2) := by decide +kernel
theorem dX9_init_214 : decode cX9_init 214 = .ok (.bipush 32, 2) := by decide +kernel
theorem dX9_init_216 : decode cX9_init 216 = .ok (.bipush 54, 2) := by decide +kernel
theorem dX9_init_218 : decode cX9_init 218 = .ok (.invokevirtual 84, 3) := by decide +kernel
theorem dX9_init_221 : decode cX9_init 221 = .ok (.aload_n 0, 1) := by decide +kernel
theorem dX9_init_222 : decode cX9_init 222 = .ok (.bipush 8, 2) := by decide +kernel
theorem dX9_init_224 : decode cX9_init 224 = .ok (.bipush 48, 2) := by decide +kernel
theorem dX9_init_226 : decode cX9_init 226 = .ok (.bipush 32, 2) := by decide +kernel
theorem dX9_init_228 : decode cX9_init 228 = .ok (.bipush 45, 2) := by decide +kernel
theorem dX9_init_230 : decode cX9_init 230 = .ok (.bipush 32, 2) := by decide +kernel
theorem dX9_init_232 : decode cX9_init 232 = .ok (.bipush 119, 2) := by decide +kernel
theorem dX9_init_234 : decode cX9_init 234 = .ok (.bipush 97, 2) := by decide +kernel
theorem dX9_init_236 : decode cX9_init 236 = .ok (.bipush 114, 2) := by decide +kernel
theorem dX9_init_238 : decode cX9_init 238 = .ok (.bipush 109, 2) := by decide +kernel
theorem dX9_init_240 : decode cX9_init 240 = .ok (.invokevirtual 84, 3) := by decide +kernel
theorem dX9_init_243 : decode cX9_init 243 = .ok (.aload_n 0, 1) := by decide +kernel
theorem dX9_init_244 : decode cX9_init 244 = .ok (.bipush 16, 2) := by decide +kernel
theorem dX9_init_246 : decode cX9_init 246 = .ok (.bipush 32, 2) := by decide +kernel
theorem dX9_init_248 : decode cX9_init 248 = .ok (.bipush 45, 2) := by decide +kernel
theorem dX9_init_250 : decode cX9_init 250 = .ok (.bipush 32, 2) := by decide +kernel
theorem dX9_init_252 : decode cX9_init 252 = .ok (.bipush 100, 2) := by decide +kernel
theorem dX9_init_254 : decode cX9_init 254 = .ok (.bipush 105, 2) := by decide +kernel
theorem dX9_init_256 : decode cX9_init 256 = .ok (.bipush 114, 2) := by decide +kernel
theorem dX9_init_258 : decode cX9_init 258 = .ok (.bipush 116, 2) := by decide +kernel
theorem dX9_init_260 : decode cX9_init 260 = .ok (.bipush 32, 2) := by decide +kernel
theorem dX9_init_262 : decode cX9_init 262 = .ok (.invokevirtual 84, 3) := by decide +kernel
theorem dX9_init_265 : decode cX9_init 265 = .ok (.aload_n 0, 1) := by decide +kernel
theorem dX9_init_266 : decode cX9_init 266 = .ok (.bipush 24, 2) := by decide +kernel
theorem dX9_init_268 : decode cX9_init 268 = .ok (.bipush 42, 2) := by decide +kernel
theorem dX9_init_270 : decode cX9_init 270 = .ok (.bipush 32, 2) := by decide +kernel
theorem dX9_init_272 : decode cX9_init 272 = .ok (.bipush 52, 2) := by decide +kernel
theorem dX9_init_274 : decode cX9_init 274 = .ok (.bipush 32, 2) := by decide +kernel
theorem dX9_init_276 : decode cX9_init 276 = .ok (.bipush 45, 2) := by decide +kernel
theorem dX9_init_278 : decode cX9_init 278 = .ok (.bipush 32, 2) := by decide +kernel
theorem dX9_init_280 : decode cX9_init 280 = .ok (.bipush 97, 2) := by decide +kernel
theorem dX9_init_282 : decode cX9_init 282 = .ok (.bipush 103, 2) := by decide +kernel
theorem dX9_init_284 : decode cX9_init 284 = .ok (.invokevirtual 84, 3) := by decide +kernel
theorem dX9_init_287 : decode cX9_init 287 = .ok (.aload_n 0, 1) := by decide +kernel
theorem dX9_init_288 : decode cX9_init 288 = .ok (.bipush 32, 2) := by decide +kernel
theorem dX9_init_290 : decode cX9_init 290 = .ok (.bipush 101, 2) := by decide +kernel
theorem dX9_init_292 : decode cX9_init 292 = .ok (.bipush 32, 2) := by decide +kernel
theorem dX9_init_294 : decode cX9_init 294 = .ok (.bipush 42, 2) := by decide +kernel
theorem dX9_init_296 : decode cX9_init 296 = .ok (.bipush 32, 2) := by decide +kernel
theorem dX9_init_298 : decode cX9_init 298 = .ok (.bipush 50, 2) := by decide +kernel
theorem dX9_init_300 : decode cX9_init 300 = .ok (.bipush 32, 2) := by decide +kernel
theorem dX9_init_302 : decode cX9_init 302 = .ok (.bipush 59, 2) := by decide +kernel
theorem dX9_init_304 : decode cX9_init 304 = .ok (.bipush 32, 2) := by decide +kernel
theorem dX9_init_306 : decode cX9_init 306 = .ok (.invokevirtual 84, 3) := by decide +kernel
theorem dX9_init_309 : decode cX9_init 309 = .ok (.aload_n 0, 1) := by decide +kernel
theorem dX9_init_310 : decode cX9_init 310 = .ok (.bipush 40, 2) := by decide +kernel
theorem dX9_init_312 : decode cX9_init 312 = .ok (.bipush 116, 2) := by decide +kernel
theorem dX9_init_314 : decode cX9_init 314 = .ok (.bipush 97, 2) := by decide +kernel
theorem dX9_init_316 : decode cX9_init 316 = .ok (.bipush 107, 2) := by decide +kernel
theorem dX9_init_318 : decode cX9_init 318 = .ok (.bipush 101, 2) := by decide +kernel
theorem dX9_init_320 : decode cX9_init 320 = .ok (.bipush 115, 2) := by decide +kernel
theorem dX9_init_322 : decode cX9_init 322 = .ok (.bipush 32, 2) := by decide +kernel
theorem dX9_init_324 : decode cX9_init 324 = .ok (.bipush 50, 2) := by decide +kernel
theorem dX9_init_326 : decode cX9_init 326 = .ok (.bipush 32, 2) := by decide +kernel
theorem dX9_init_328 : decode cX9_init 328 = .ok (.invokevirtual 84, 3) := by decide +kernel
theorem dX9_init_331 : decode cX9_init 331 = .ok (.aload_n 0, 1) := by decide +kernel
theorem dX9_init_332 : decode cX9_init 332 = .ok (.bipush 48, 2) := by decide +kernel
theorem dX9_init_334 : decode cX9_init 334 = .ok (.bipush 59, 2) := by decide +kernel
theorem dX9_init_336 : decode cX9_init 336 = .ok (.bipush 32, 2) := by decide +kernel
theorem dX9_init_338 : decode cX9_init 338 = .ok (.bipush 115, 2) := by decide +kernel
theorem dX9_init_340 : decode cX9_init 340 = .ok (.bipush 112, 2) := by decide +kernel
theorem dX9_init_342 : decode cX9_init 342 = .ok (.bipush 111, 2) := by decide +kernel
theorem dX9_init_344 : decode cX9_init 344 = .ok (.bipush 105, 2) := by decide +kernel
theorem dX9_init_346 : decode cX9_init 346 = .ok (.bipush 108, 2) := by decide +kernel
theorem dX9_init_348 : decode cX9_init 348 = .ok (.bipush 115, 2) := by decide +kernel
theorem dX9_init_350 : decode cX9_init 350 = .ok (.invokevirtual 84, 3) := by decide +kernel
theorem dX9_init_353 : decode cX9_init 353 = .ok (.aload_n 0, 1) := by decide +kernel
theorem dX9_init_354 : decode cX9_init 354 = .ok (.bipush 56, 2) := by decide +kernel
theorem dX9_init_356 : decode cX9_init 356 = .ok (.bipush 32, 2) := by decide +kernel
theorem dX9_init_358 : decode cX9_init 358 = .ok (.bipush 111, 2) := by decide +kernel
theorem dX9_init_360 : decode cX9_init 360 = .ok (.bipush 102, 2) := by decide +kernel
theorem dX9_init_362 : decode cX9_init 362 = .ok (.bipush 102, 2) := by decide +kernel
theorem dX9_init_364 : decode cX9_init 364 = .ok (.bipush 32, 2) := by decide +kernel
theorem dX9_init_366 : decode cX9_init 366 = .ok (.bipush 42, 2) := by decide +kernel
theorem dX9_init_368 : decode cX9_init 368 = .ok (.bipush 32, 2) := by decide +kernel
theorem dX9_init_370 : decode cX9_init 370 = .ok (.bipush 111, 2) := by decide +kernel
theorem dX9_init_372 : decode cX9_init 372 = .ok (.invokevirtual 84, 3) := by decide +kernel
theorem dX9_init_375 : decode cX9_init 375 = .ok (.aload_n 0, 1) := by decide +kernel
theorem dX9_init_376 : decode cX9_init 376 = .ok (.bipush 64, 2) := by decide +kernel
theorem dX9_init_378 : decode cX9_init 378 = .ok (.bipush 102, 2) := by decide +kernel
theorem dX9_init_380 : decode cX9_init 380 = .ok (.bipush 102, 2) := by decide +kernel
theorem dX9_init_382 : decode cX9_init 382 = .ok (.bipush 32, 2) := by decide +kernel
theorem dX9_init_384 : decode cX9_init 384 = .ok (.bipush 42, 2) := by decide +kernel
theorem dX9_init_386 : decode cX9_init 386 = .ok (.bipush 32, 2) := by decide +kernel
theorem dX9_init_388 : decode cX9_init 388 = .ok (.bipush 121, 2) := by decide +kernel
theorem dX9_init_390 : decode cX9_init 390 = .ok (.bipush 97, 2) := by decide +kernel
theorem dX9_init_392 : decode cX9_init 392 = .ok (.bipush 114, 2) := by decide +kernel
theorem dX9_init_394 : decode cX9_init 394 = .ok (.invokevirtual 84, 3) := by decide +kernel
theorem dX9_init_397 : decode cX9_init 397 = .ok (.aload_n 0, 1) := by decide +kernel
theorem dX9_init_398 : decode cX9_init 398 = .ok (.bipush 72, 2) := by decide +kernel
theorem dX9_init_400 : decode cX9_init 400 = .ok (.bipush 100, 2) := by decide +kernel
theorem dX9_init_402 : decode cX9_init 402 = .ok (.bipush 115, 2) := by decide +kernel
theorem dX9_init_404 : decode cX9_init 404 = .ok (.bipush 32, 2) := by decide +kernel
theorem dX9_init_406 : decode cX9_init 406 = .ok (.bipush 59, 2) := by decide +kernel
theorem dX9_init_408 : decode cX9_init 408 = .ok (.bipush 32, 2) := by decide +kernel
theorem dX9_init_410 : decode cX9_init 410 = .ok (.bipush 32, 2) := by decide +kernel
theorem dX9_init_412 : decode cX9_init 412 = .ok (.bipush 32, 2) := by decide +kernel
theorem dX9_init_414 : decode cX9_init 414 = .ok (.bipush 32, 2) := by decide +kernel
theorem dX9_init_416 : decode cX9_init 416 = .ok (.invokevirtual 84, 3) := by decide +kernel
theorem dX9_init_419 : decode cX9_init 419 = .ok (.aload_n 0, 1) := by decide +kernel
theorem dX9_init_420 : decode cX9_init 420 = .ok (.getfield 17, 3) := by decide +kernel
theorem dX9_init_423 : decode cX9_init 423 = .ok (.iconst 0, 1) := by decide +kernel
theorem dX9_init_424 : decode cX9_init 424 = .ok (.bipush 80, 2) := by decide +kernel
theorem dX9_init_426 : decode cX9_init 426 = .ok (.iastore, 1) := by decide +kernel
theorem dX9_init_427 : decode cX9_init 427 = .ok (.aload_n 0, 1) := by decide +kernel
theorem dX9_init_428 : decode cX9_init 428 = .ok (.iconst 1, 1) := by decide +kernel
theorem dX9_init_429 : decode cX9_init 429 = .ok (.putfield 88, 3) := by decide +kernel
theorem dX9_init_432 : decode cX9_init 432 = .ok (.return_, 1) := by decide +kernel
theorem dX9_init_0 : decode cX9_init 0 = .ok (.aload_n 0, 1) := by decide +kernel
theorem dX9_init_1 : decode cX9_init 1 = .ok (.invokespecial 7, 3) := by decide +kernel
theorem dX9_init_4 : decode cX9_init 4 = .ok (.aload_n 0, 1) := by decide +kernel
theorem dX9_init_5 : decode cX9_init 5 = .ok (.sipush 960, 3) := by decide +kernel
theorem dX9_init_8 : decode cX9_init 8 = .ok (.newarray .int, 2) := by decide +kernel
theorem dX9_init_10 : decode cX9_init 10 = .ok (.putfield 13, 3) := by decide +kernel
theorem dX9_init_13 : decode cX9_init 13 = .ok (.aload_n 0, 1) := by decide +kernel
theorem dX9_init_14 : decode cX9_init 14 = .ok (.bipush 6, 2) := by decide +kernel
theorem dX9_init_16 : decode cX9_init 16 = .ok (.newarray .int, 2) := by decide +kernel
theorem dX9_init_18 : decode cX9_init 18 = .ok (.putfield 17, 3) := by decide +kernel
theorem dX9_init_21 : decode cX9_init 21 = .ok (.aload_n 0, 1) := by decide +kernel
theorem dX9_init_22 : decode cX9_init 22 = .ok (.sipush 160, 3) := by decide +kernel
theorem dX9_init_25 : decode cX9_init 25 = .ok (.newarray .int, 2) := by decide +kernel
theorem dX9_init_27 : decode cX9_init 27 = .ok (.putfield 20, 3) := by decide +kernel
theorem dX9_init_30 : decode cX9_init 30 = .ok (.aload_n 0, 1) := by decide +kernel
theorem dX9_init_31 : decode cX9_init 31 = .ok (.bipush 6, 2) := by decide +kernel
theorem dX9_init_33 : decode cX9_init 33 = .ok (.newarray .int, 2) := by decide +kernel
theorem dX9_init_35 : decode cX9_init 35 = .ok (.putfield 23, 3) := by decide +kernel
theorem dX9_init_38 : decode cX9_init 38 = .ok (.aload_n 0, 1) := by decide +kernel
theorem dX9_init_39 : decode cX9_init 39 = .ok (.bipush 6, 2) := by decide +kernel
theorem dX9_init_41 : decode cX9_init 41 = .ok (.newarray .int, 2) := by decide +kernel
theorem dX9_init_43 : decode cX9_init 43 = .ok (.putfield 26, 3) := by decide +kernel
theorem dX9_init_46 : decode cX9_init 46 = .ok (.aload_n 0, 1) := by decide +kernel
theorem dX9_init_47 : decode cX9_init 47 = .ok (.bipush 6, 2) := by decide +kernel
theorem dX9_init_49 : decode cX9_init 49 = .ok (.newarray .int, 2) := by decide +kernel
theorem dX9_init_51 : decode cX9_init 51 = .ok (.putfield 29, 3) := by decide +kernel
theorem dX9_init_54 : decode cX9_init 54 = .ok (.aload_n 0, 1) := by decide +kernel
theorem dX9_init_55 : decode cX9_init 55 = .ok (.bipush 6, 2) := by decide +kernel
theorem dX9_init_57 : decode cX9_init 57 = .ok (.newarray .int, 2) := by decide +kernel
theorem dX9_init_59 : decode cX9_init 59 = .ok (.putfield 32, 3) := by decide +kernel
theorem dX9_init_62 : decode cX9_init 62 = .ok (.aload_n 0, 1) := by decide +kernel
theorem dX9_init_63 : decode cX9_init 63 = .ok (.bipush 6, 2) := by decide +kernel
theorem dX9_init_65 : decode cX9_init 65 = .ok (.newarray .int, 2) := by decide +kernel
theorem dX9_init_67 : decode cX9_init 67 = .ok (.putfield 35, 3) := by decide +kernel
theorem dX9_init_70 : decode cX9_init 70 = .ok (.aload_n 0, 1) := by decide +kernel
theorem dX9_init_71 : decode cX9_init 71 = .ok (.bipush 6, 2) := by decide +kernel
theorem dX9_init_73 : decode cX9_init 73 = .ok (.newarray .int, 2) := by decide +kernel
theorem dX9_init_75 : decode cX9_init 75 = .ok (.putfield 38, 3) := by decide +kernel
theorem dX9_init_78 : decode cX9_init 78 = .ok (.aload_n 0, 1) := by decide +kernel
theorem dX9_init_79 : decode cX9_init 79 = .ok (.bipush 6, 2) := by decide +kernel
theorem dX9_init_81 : decode cX9_init 81 = .ok (.newarray .int, 2) := by decide +kernel
theorem dX9_init_83 : decode cX9_init 83 = .ok (.putfield 41, 3) := by decide +kernel
theorem dX9_init_86 : decode cX9_init 86 = .ok (.aload_n 0, 1) := by decide +kernel
theorem dX9_init_87 : decode cX9_init 87 = .ok (.bipush 6, 2) := by decide +kernel
theorem dX9_init_89 : decode cX9_init 89 = .ok (.newarray .int, 2) := by decide +kernel
theorem dX9_init_91 : decode cX9_init 91 = .ok (.putfield 44, 3) := by decide +kernel
theorem dX9_init_94 : decode cX9_init 94 = .ok (.aload_n 0, 1) := by decide +kernel
theorem dX9_init_95 : decode cX9_init 95 = .ok (.bipush 6, 2) := by decide +kernel
theorem dX9_init_97 : decode cX9_init 97 = .ok (.newarray .int, 2) := by decide +kernel
theorem dX9_init_99 : decode cX9_init 99 = .ok (.putfield 47, 3) := by decide +kernel
theorem dX9_init_102 : decode cX9_init 102 = .ok (.aload_n 0, 1) := by decide +kernel
theorem dX9_init_103 : decode cX9_init 103 = .ok (.bipush 6, 2) := by decide +kernel
theorem dX9_init_105 : decode cX9_init 105 = .ok (.newarray .int, 2) := by decide +kernel
theorem dX9_init_107 : decode cX9_init 107 = .ok (.putfield 50, 3) := by decide +kernel
theorem dX9_init_110 : decode cX9_init 110 = .ok (.aload_n 0, 1) := by decide +kernel
theorem dX9_init_111 : decode cX9_init 111 = .ok (.bipush 6, 2) := by decide +kernel
theorem dX9_init_113 : decode cX9_init 113 = .ok (.newarray .int, 2) := by decide +kernel
theorem dX9_init_115 : decode cX9_init 115 = .ok (.putfield 53, 3) := by decide +kernel
theorem dX9_init_118 : decode cX9_init 118 = .ok (.aload_n 0, 1) := by decide +kernel
theorem dX9_init_119 : decode cX9_init 119 = .ok (.bipush 6, 2) := by decide +kernel
theorem dX9_init_121 : decode cX9_init 121 = .ok (.newarray .int, 2) := by decide +kernel
theorem dX9_init_123 : decode cX9_init 123 = .ok (.putfield 56, 3) := by decide +kernel
theorem dX9_init_126 : decode cX9_init 126 = .ok (.aload_n 0, 1) := by decide +kernel
theorem dX9_init_127 : decode cX9_init 127 = .ok (.bipush 6, 2) := by decide +kernel
theorem dX9_init_129 : decode cX9_init 129 = .ok (.newarray .int, 2) := by decide +kernel
theorem dX9_init_131 : decode cX9_init 131 = .ok (.putfield 59, 3) := by decide +kernel
theorem dX9_init_134 : decode cX9_init 134 = .ok (.aload_n 0, 1) := by decide +kernel
theorem dX9_init_135 : decode cX9_init 135 = .ok (.bipush 6, 2) := by decide +kernel
theorem dX9_init_137 : decode cX9_init 137 = .ok (.newarray .int, 2) := by decide +kernel
theorem dX9_init_139 : decode cX9_init 139 = .ok (.putfield 62, 3) := by decide +kernel
theorem dX9_init_142 : decode cX9_init 142 = .ok (.aload_n 0, 1) := by decide +kernel
theorem dX9_init_143 : decode cX9_init 143 = .ok (.bipush 18, 2) := by decide +kernel
theorem dX9_init_145 : decode cX9_init 145 = .ok (.newarray .int, 2) := by decide +kernel
theorem dX9_init_147 : decode cX9_init 147 = .ok (.putfield 65, 3) := by decide +kernel
theorem dX9_init_150 : decode cX9_init 150 = .ok (.aload_n 0, 1) := by decide +kernel
theorem dX9_init_151 : decode cX9_init 151 = .ok (.iconst (-1), 1) := by decide +kernel
theorem dX9_init_152 : decode cX9_init 152 = .ok (.putfield 68, 3) := by decide +kernel
theorem dX9_init_155 : decode cX9_init 155 = .ok (.aload_n 0, 1) := by decide +kernel
theorem dX9_init_156 : decode cX9_init 156 = .ok (.iconst 4, 1) := by decide +kernel
theorem dX9_init_157 : decode cX9_init 157 = .ok (.newarray .boolean, 2) := by decide +kernel
theorem dX9_init_159 : decode cX9_init 159 = .ok (.putfield 71, 3) := by decide +kernel
theorem dX9_init_162 : decode cX9_init 162 = .ok (.aload_n 0, 1) := by decide +kernel
theorem dX9_init_163 : decode cX9_init 163 = .ok (.iconst 4, 1) := by decide +kernel
theorem dX9_init_164 : decode cX9_init 164 = .ok (.newarray .int, 2) := by decide +kernel
theorem dX9_init_166 : decode cX9_init 166 = .ok (.putfield 75, 3) := by decide +kernel
theorem dX9_init_169 : decode cX9_init 169 = .ok (.aload_n 0, 1) := by decide +kernel
theorem dX9_init_170 : decode cX9_init 170 = .ok (.iconst 4, 1) := by decide +kernel
theorem dX9_init_171 : decode cX9_init 171 = .ok (.newarray .int, 2) := by decide +kernel
theorem dX9_init_173 : decode cX9_init 173 = .ok (.putfield 78, 3) := by decide +kernel
theorem dX9_init_176 : decode cX9_init 176 = .ok (.aload_n 0, 1) := by decide +kernel
theorem dX9_init_177 : decode cX9_init 177 = .ok (.sipush 160, 3) := by decide +kernel
theorem dX9_init_180 : decode cX9_init 180 = .ok (.newarray .int, 2) := by decide +kernel
theorem dX9_init_182 : decode cX9_init 182 = .ok (.putfield 81, 3) := by decide +kernel
def m_initTail (M : Mem) : Option Mem :=
ck 0 6 <|
bnd (wr M 4 (0 : Int32).toNatClampNeg 18) fun (M1 : Mem) =>
ck 3 6 <|
bnd (wr M1 4 (3 : Int32).toNatClampNeg 1) fun (M2 : Mem) =>
ob (m_spell M2 0 114 105 112 101 110 115 32 54) fun (M4 : Mem) =>
ob (m_spell M4 8 48 32 45 32 119 97 114 109) fun (M6 : Mem) =>
ob (m_spell M6 16 32 45 32 100 105 114 116 32) fun (M8 : Mem) =>
ob (m_spell M8 24 42 32 52 32 45 32 97 103) fun (M10 : Mem) =>
ob (m_spell M10 32 101 32 42 32 50 32 59 32) fun (M12 : Mem) =>
ob (m_spell M12 40 116 97 107 101 115 32 50 32) fun (M14 : Mem) =>
ob (m_spell M14 48 59 32 115 112 111 105 108 115) fun (M16 : Mem) =>
ob (m_spell M16 56 32 111 102 102 32 42 32 111) fun (M18 : Mem) =>
ob (m_spell M18 64 102 102 32 42 32 121 97 114) fun (M20 : Mem) =>
ob (m_spell M20 72 100 115 32 59 32 32 32 32) fun (M22 : Mem) =>
ck 0 6 <|
bnd (wr M22 2 (0 : Int32).toNatClampNeg 80) fun (M23 : Mem) =>
bnd (wr M23 0 3 1) fun (M24 : Mem) =>
some M24
set_option maxHeartbeats 4000000 in
set_option maxRecDepth 20000 in
theorem w_m_initTail {X : XT} {Γ : MT} {M M' : Mem} {Q : State → Prop} (K : Kx layM X Γ RX9 cX9_init 1 1 none) (hQ : ∀ M1 : Mem, M1 = M' → G layM X Γ 1 Q 432 [] [] M1) (h : m_initTail M = some M') : G layM X Γ 1 Q 185 [(0, .ref (X.2.2.2.1 0))] [] M := by
  unfold m_initTail at h
  refine g_aload_n (pn := 186) K rfl 0 rfl dX9_init_185 ?_
  refine g_getr (pn := 189) (j := 4) K rfl fl_X9_23 lm_0 rfl dX9_init_186 ?_
  refine g_iconst (pn := 190) (v := 0) K rfl ic_0 dX9_init_189 ?_
  refine g_bipush (pn := 192) (v := 18) K rfl bp_18 dX9_init_190 ?_
  refine g_iast (pn := 193) K rfl lm_4 dX9_init_192 h (fun M1 h => ?_)
  refine g_aload_n (pn := 194) K rfl 0 rfl dX9_init_193 ?_
  refine g_getr (pn := 197) (j := 4) K rfl fl_X9_23 lm_0 rfl dX9_init_194 ?_
  refine g_iconst (pn := 198) (v := 3) K rfl ic_3 dX9_init_197 ?_
  refine g_iconst (pn := 199) (v := 1) K rfl ic_1 dX9_init_198 ?_
  refine g_iast (pn := 200) K rfl lm_4 dX9_init_199 h (fun M2 h => ?_)
  refine g_aload_n (pn := 201) K rfl 0 rfl dX9_init_200 ?_
  refine g_iconst (pn := 202) (v := 0) K rfl ic_0 dX9_init_201 ?_
  refine g_bipush (pn := 204) (v := 114) K rfl bp_114 dX9_init_202 ?_
  refine g_bipush (pn := 206) (v := 105) K rfl bp_105 dX9_init_204 ?_
  refine g_bipush (pn := 208) (v := 112) K rfl bp_112 dX9_init_206 ?_
  refine g_bipush (pn := 210) (v := 101) K rfl bp_101 dX9_init_208 ?_
  refine g_bipush (pn := 212) (v := 110) K rfl bp_110 dX9_init_210 ?_
  refine g_bipush (pn := 214) (v := 115) K rfl bp_115 dX9_init_212 ?_
  refine g_bipush (pn := 216) (v := 32) K rfl bp_32 dX9_init_214 ?_
  refine g_bipush (pn := 218) (v := 54) K rfl bp_54 dX9_init_216 ?_
  obtain ⟨M4, hc3, h⟩ := ob_e h
  refine g_callV0 (pn := 221) (As := [.int 0, .int 114, .int 105, .int 112, .int 101, .int 110, .int 115, .int 32, .int 54]) (rest := []) (a := 0) K rfl (d' := 0) (Nat.le_of_ble_eq_true rfl) mv_X9_84 (recvO K lm_0 rfl) (w_m_spell hc3) rfl rfl (Nat.le_of_ble_eq_true rfl) dX9_init_218 ?_
  refine g_aload_n (pn := 222) K rfl 0 rfl dX9_init_221 ?_
  refine g_bipush (pn := 224) (v := 8) K rfl bp_8 dX9_init_222 ?_
  refine g_bipush (pn := 226) (v := 48) K rfl bp_48 dX9_init_224 ?_
  refine g_bipush (pn := 228) (v := 32) K rfl bp_32 dX9_init_226 ?_
  refine g_bipush (pn := 230) (v := 45) K rfl bp_45 dX9_init_228 ?_
  refine g_bipush (pn := 232) (v := 32) K rfl bp_32 dX9_init_230 ?_
  refine g_bipush (pn := 234) (v := 119) K rfl bp_119 dX9_init_232 ?_
  refine g_bipush (pn := 236) (v := 97) K rfl bp_97 dX9_init_234 ?_
  refine g_bipush (pn := 238) (v := 114) K rfl bp_114 dX9_init_236 ?_
  refine g_bipush (pn := 240) (v := 109) K rfl bp_109 dX9_init_238 ?_
  obtain ⟨M6, hc5, h⟩ := ob_e h
  refine g_callV0 (pn := 243) (As := [.int 8, .int 48, .int 32, .int 45, .int 32, .int 119, .int 97, .int 114, .int 109]) (rest := []) (a := 0) K rfl (d' := 0) (Nat.le_of_ble_eq_true rfl) mv_X9_84 (recvO K lm_0 rfl) (w_m_spell hc5) rfl rfl (Nat.le_of_ble_eq_true rfl) dX9_init_240 ?_
  refine g_aload_n (pn := 244) K rfl 0 rfl dX9_init_243 ?_
  refine g_bipush (pn := 246) (v := 16) K rfl bp_16 dX9_init_244 ?_
  refine g_bipush (pn := 248) (v := 32) K rfl bp_32 dX9_init_246 ?_
  refine g_bipush (pn := 250) (v := 45) K rfl bp_45 dX9_init_248 ?_
  refine g_bipush (pn := 252) (v := 32) K rfl bp_32 dX9_init_250 ?_
  refine g_bipush (pn := 254) (v := 100) K rfl bp_100 dX9_init_252 ?_
  refine g_bipush (pn := 256) (v := 105) K rfl bp_105 dX9_init_254 ?_
  refine g_bipush (pn := 258) (v := 114) K rfl bp_114 dX9_init_256 ?_
  refine g_bipush (pn := 260) (v := 116) K rfl bp_116 dX9_init_258 ?_
  refine g_bipush (pn := 262) (v := 32) K rfl bp_32 dX9_init_260 ?_
  obtain ⟨M8, hc7, h⟩ := ob_e h
  refine g_callV0 (pn := 265) (As := [.int 16, .int 32, .int 45, .int 32, .int 100, .int 105, .int 114, .int 116, .int 32]) (rest := []) (a := 0) K rfl (d' := 0) (Nat.le_of_ble_eq_true rfl) mv_X9_84 (recvO K lm_0 rfl) (w_m_spell hc7) rfl rfl (Nat.le_of_ble_eq_true rfl) dX9_init_262 ?_
  refine g_aload_n (pn := 266) K rfl 0 rfl dX9_init_265 ?_
  refine g_bipush (pn := 268) (v := 24) K rfl bp_24 dX9_init_266 ?_
  refine g_bipush (pn := 270) (v := 42) K rfl bp_42 dX9_init_268 ?_
  refine g_bipush (pn := 272) (v := 32) K rfl bp_32 dX9_init_270 ?_
  refine g_bipush (pn := 274) (v := 52) K rfl bp_52 dX9_init_272 ?_
  refine g_bipush (pn := 276) (v := 32) K rfl bp_32 dX9_init_274 ?_
  refine g_bipush (pn := 278) (v := 45) K rfl bp_45 dX9_init_276 ?_
  refine g_bipush (pn := 280) (v := 32) K rfl bp_32 dX9_init_278 ?_
  refine g_bipush (pn := 282) (v := 97) K rfl bp_97 dX9_init_280 ?_
  refine g_bipush (pn := 284) (v := 103) K rfl bp_103 dX9_init_282 ?_
  obtain ⟨M10, hc9, h⟩ := ob_e h
  refine g_callV0 (pn := 287) (As := [.int 24, .int 42, .int 32, .int 52, .int 32, .int 45, .int 32, .int 97, .int 103]) (rest := []) (a := 0) K rfl (d' := 0) (Nat.le_of_ble_eq_true rfl) mv_X9_84 (recvO K lm_0 rfl) (w_m_spell hc9) rfl rfl (Nat.le_of_ble_eq_true rfl) dX9_init_284 ?_
  refine g_aload_n (pn := 288) K rfl 0 rfl dX9_init_287 ?_
  refine g_bipush (pn := 290) (v := 32) K rfl bp_32 dX9_init_288 ?_
  refine g_bipush (pn := 292) (v := 101) K rfl bp_101 dX9_init_290 ?_
  refine g_bipush (pn := 294) (v := 32) K rfl bp_32 dX9_init_292 ?_
  refine g_bipush (pn := 296) (v := 42) K rfl bp_42 dX9_init_294 ?_
  refine g_bipush (pn := 298) (v := 32) K rfl bp_32 dX9_init_296 ?_
  refine g_bipush (pn := 300) (v := 50) K rfl bp_50 dX9_init_298 ?_
  refine g_bipush (pn := 302) (v := 32) K rfl bp_32 dX9_init_300 ?_
  refine g_bipush (pn := 304) (v := 59) K rfl bp_59 dX9_init_302 ?_
  refine g_bipush (pn := 306) (v := 32) K rfl bp_32 dX9_init_304 ?_
  obtain ⟨M12, hc11, h⟩ := ob_e h
  refine g_callV0 (pn := 309) (As := [.int 32, .int 101, .int 32, .int 42, .int 32, .int 50, .int 32, .int 59, .int 32]) (rest := []) (a := 0) K rfl (d' := 0) (Nat.le_of_ble_eq_true rfl) mv_X9_84 (recvO K lm_0 rfl) (w_m_spell hc11) rfl rfl (Nat.le_of_ble_eq_true rfl) dX9_init_306 ?_
  refine g_aload_n (pn := 310) K rfl 0 rfl dX9_init_309 ?_
  refine g_bipush (pn := 312) (v := 40) K rfl bp_40 dX9_init_310 ?_
  refine g_bipush (pn := 314) (v := 116) K rfl bp_116 dX9_init_312 ?_
  refine g_bipush (pn := 316) (v := 97) K rfl bp_97 dX9_init_314 ?_
  refine g_bipush (pn := 318) (v := 107) K rfl bp_107 dX9_init_316 ?_
  refine g_bipush (pn := 320) (v := 101) K rfl bp_101 dX9_init_318 ?_
  refine g_bipush (pn := 322) (v := 115) K rfl bp_115 dX9_init_320 ?_
  refine g_bipush (pn := 324) (v := 32) K rfl bp_32 dX9_init_322 ?_
  refine g_bipush (pn := 326) (v := 50) K rfl bp_50 dX9_init_324 ?_
  refine g_bipush (pn := 328) (v := 32) K rfl bp_32 dX9_init_326 ?_
  obtain ⟨M14, hc13, h⟩ := ob_e h
  refine g_callV0 (pn := 331) (As := [.int 40, .int 116, .int 97, .int 107, .int 101, .int 115, .int 32, .int 50, .int 32]) (rest := []) (a := 0) K rfl (d' := 0) (Nat.le_of_ble_eq_true rfl) mv_X9_84 (recvO K lm_0 rfl) (w_m_spell hc13) rfl rfl (Nat.le_of_ble_eq_true rfl) dX9_init_328 ?_
  refine g_aload_n (pn := 332) K rfl 0 rfl dX9_init_331 ?_
  refine g_bipush (pn := 334) (v := 48) K rfl bp_48 dX9_init_332 ?_
  refine g_bipush (pn := 336) (v := 59) K rfl bp_59 dX9_init_334 ?_
  refine g_bipush (pn := 338) (v := 32) K rfl bp_32 dX9_init_336 ?_
  refine g_bipush (pn := 340) (v := 115) K rfl bp_115 dX9_init_338 ?_
  refine g_bipush (pn := 342) (v := 112) K rfl bp_112 dX9_init_340 ?_
  refine g_bipush (pn := 344) (v := 111) K rfl bp_111 dX9_init_342 ?_
  refine g_bipush (pn := 346) (v := 105) K rfl bp_105 dX9_init_344 ?_
  refine g_bipush (pn := 348) (v := 108) K rfl bp_108 dX9_init_346 ?_
  refine g_bipush (pn := 350) (v := 115) K rfl bp_115 dX9_init_348 ?_
  obtain ⟨M16, hc15, h⟩ := ob_e h
  refine g_callV0 (pn := 353) (As := [.int 48, .int 59, .int 32, .int 115, .int 112, .int 111, .int 105, .int 108, .int 115]) (rest := []) (a := 0) K rfl (d' := 0) (Nat.le_of_ble_eq_true rfl) mv_X9_84 (recvO K lm_0 rfl) (w_m_spell hc15) rfl rfl (Nat.le_of_ble_eq_true rfl) dX9_init_350 ?_
  refine g_aload_n (pn := 354) K rfl 0 rfl dX9_init_353 ?_
  refine g_bipush (pn := 356) (v := 56) K rfl bp_56 dX9_init_354 ?_
  refine g_bipush (pn := 358) (v := 32) K rfl bp_32 dX9_init_356 ?_
  refine g_bipush (pn := 360) (v := 111) K rfl bp_111 dX9_init_358 ?_
  refine g_bipush (pn := 362) (v := 102) K rfl bp_102 dX9_init_360 ?_
  refine g_bipush (pn := 364) (v := 102) K rfl bp_102 dX9_init_362 ?_
  refine g_bipush (pn := 366) (v := 32) K rfl bp_32 dX9_init_364 ?_
  refine g_bipush (pn := 368) (v := 42) K rfl bp_42 dX9_init_366 ?_
  refine g_bipush (pn := 370) (v := 32) K rfl bp_32 dX9_init_368 ?_
  refine g_bipush (pn := 372) (v := 111) K rfl bp_111 dX9_init_370 ?_
  obtain ⟨M18, hc17, h⟩ := ob_e h
  refine g_callV0 (pn := 375) (As := [.int 56, .int 32, .int 111, .int 102, .int 102, .int 32, .int 42, .int 32, .int 111]) (rest := []) (a := 0) K rfl (d' := 0) (Nat.le_of_ble_eq_true rfl) mv_X9_84 (recvO K lm_0 rfl) (w_m_spell hc17) rfl rfl (Nat.le_of_ble_eq_true rfl) dX9_init_372 ?_
  refine g_aload_n (pn := 376) K rfl 0 rfl dX9_init_375 ?_
  refine g_bipush (pn := 378) (v := 64) K rfl bp_64 dX9_init_376 ?_
  refine g_bipush (pn := 380) (v := 102) K rfl bp_102 dX9_init_378 ?_
  refine g_bipush (pn := 382) (v := 102) K rfl bp_102 dX9_init_380 ?_
  refine g_bipush (pn := 384) (v := 32) K rfl bp_32 dX9_init_382 ?_
  refine g_bipush (pn := 386) (v := 42) K rfl bp_42 dX9_init_384 ?_
  refine g_bipush (pn := 388) (v := 32) K rfl bp_32 dX9_init_386 ?_
  refine g_bipush (pn := 390) (v := 121) K rfl bp_121 dX9_init_388 ?_
  refine g_bipush (pn := 392) (v := 97) K rfl bp_97 dX9_init_390 ?_
  refine g_bipush (pn := 394) (v := 114) K rfl bp_114 dX9_init_392 ?_
  obtain ⟨M20, hc19, h⟩ := ob_e h
  refine g_callV0 (pn := 397) (As := [.int 64, .int 102, .int 102, .int 32, .int 42, .int 32, .int 121, .int 97, .int 114]) (rest := []) (a := 0) K rfl (d' := 0) (Nat.le_of_ble_eq_true rfl) mv_X9_84 (recvO K lm_0 rfl) (w_m_spell hc19) rfl rfl (Nat.le_of_ble_eq_true rfl) dX9_init_394 ?_
  refine g_aload_n (pn := 398) K rfl 0 rfl dX9_init_397 ?_
  refine g_bipush (pn := 400) (v := 72) K rfl bp_72 dX9_init_398 ?_
  refine g_bipush (pn := 402) (v := 100) K rfl bp_100 dX9_init_400 ?_
  refine g_bipush (pn := 404) (v := 115) K rfl bp_115 dX9_init_402 ?_
  refine g_bipush (pn := 406) (v := 32) K rfl bp_32 dX9_init_404 ?_
  refine g_bipush (pn := 408) (v := 59) K rfl bp_59 dX9_init_406 ?_
  refine g_bipush (pn := 410) (v := 32) K rfl bp_32 dX9_init_408 ?_
  refine g_bipush (pn := 412) (v := 32) K rfl bp_32 dX9_init_410 ?_
  refine g_bipush (pn := 414) (v := 32) K rfl bp_32 dX9_init_412 ?_
  refine g_bipush (pn := 416) (v := 32) K rfl bp_32 dX9_init_414 ?_
  obtain ⟨M22, hc21, h⟩ := ob_e h
  refine g_callV0 (pn := 419) (As := [.int 72, .int 100, .int 115, .int 32, .int 59, .int 32, .int 32, .int 32, .int 32]) (rest := []) (a := 0) K rfl (d' := 0) (Nat.le_of_ble_eq_true rfl) mv_X9_84 (recvO K lm_0 rfl) (w_m_spell hc21) rfl rfl (Nat.le_of_ble_eq_true rfl) dX9_init_416 ?_
  refine g_aload_n (pn := 420) K rfl 0 rfl dX9_init_419 ?_
  refine g_getr (pn := 423) (j := 2) K rfl fl_X9_17 lm_0 rfl dX9_init_420 ?_
  refine g_iconst (pn := 424) (v := 0) K rfl ic_0 dX9_init_423 ?_
  refine g_bipush (pn := 426) (v := 80) K rfl bp_80 dX9_init_424 ?_
  refine g_iast (pn := 427) K rfl lm_2 dX9_init_426 h (fun M23 h => ?_)
  refine g_aload_n (pn := 428) K rfl 0 rfl dX9_init_427 ?_
  refine g_iconst (pn := 429) (v := 1) K rfl ic_1 dX9_init_428 ?_
  refine g_puti (pn := 432) K rfl fp_X9_88 lm_0 rfl dX9_init_429 h (fun M24 h => ?_)
  refine g_sub [] rfl ?_
  exact hQ _ (oi h)
def MM0 : Mem := fun c => match c with
  | 0 => fun k => if k = 47 then -1 else 0
  | _ => fun _ => 0
set_option maxHeartbeats 8000000 in
set_option maxRecDepth 20000 in
theorem p_X9_init_0 {p : Program} {l : Launch} {e : Env} {s : State} {m : MethodId} {args : Array Value} {below : List Frame} {meth : Method} {c : Code} {Q : State → Prop} {A : Nat → Prop} {dC : Nat → ClassId} {dI : Nat → Nat → Nat} {cy : Nat → ClassId} (hx : p.tables.exec = Jvm.exec) (hb : c.code = cX9_init) (hml : c.maxLocals = 1) (hts : ∀ w ∈ gt, w.before args s = true) (hown : s.vm.findClass RX9 = some m.cls) (hin : meth.name = "<init>") (hK : va_K (dC, dI) vwCl (tysO cy) s) (hNw : ∀ w ∈ nw, va_Nw w s) (hA : ∀ q : Nat, s.heap.size ≤ q → A q) {h0 : Nat} {wB : va_W} {fs : List Value} (hf : fs.length = 53) {H : Heap} {locs : List Loc} {ls : Array Slot} (hP : va_P (dC, dI) vwCl ([(h0, .inr (8, fs))] ++ wB) H) (hD : va_D A ([(h0, .inr (8, fs))] ++ wB)) (hS : va_S A s.heap H locs) (hl : lv_has ls 1 [(0, .ref h0)]) (kk : ∀ (q1 : Nat) (H : Heap) (locs : List Loc) (ls : Array Slot), (fs.set 1 (.ref q1)).length = 53 → va_P (dC, dI) vwCl ([(h0, .inr (8, (fs.set 1 (.ref q1))))] ++ ([(q1, .inl (cy 0, 960, .inl (fun _ => 0)))] ++ wB)) H → va_D A ([(h0, .inr (8, (fs.set 1 (.ref q1))))] ++ ([(q1, .inl (cy 0, 960, .inl (fun _ => 0)))] ++ wB)) → va_S A s.heap H locs → lv_has ls 1 [(0, .ref h0)] → W p l e ({ frames := 1, cells := 22, slots := 1400, locals := 40 } : Room) s m args below meth c H locs 1 960 Q (F0 m 13 ls [])) : W p l e ({ frames := 1, cells := 22, slots := 1400, locals := 40 } : Room) s m args below meth c H locs 0 0 Q (F0 m 0 ls []) := by
  refine lv_aload_n hx hb dX9_init_0 rfl (lv_at hl 0 rfl) ?_
  refine W.objInit hx hb hown (hts (.methodLink RX9 7 objectInit) (gt_of 957 (by decide +kernel) rfl)) (hts (.instanceMethod objectInit) (gt_of 106 (by decide +kernel) rfl)) (hts _ (gt_of 107 (by decide +kernel) rfl)) rfl (by rw [hml]; exact hl.1) rfl dX9_init_1 (Nat.le_of_ble_eq_true rfl) (Nat.le_of_ble_eq_true rfl) ?_
  refine W.eq (g2 := F0 m 4 ls []) rfl ?_
  refine lv_aload_n hx hb dX9_init_4 rfl (lv_at hl 0 rfl) ?_
  refine lv_sipush (v := 960) hx hb dX9_init_5 sp_960 ?_
  refine n_newi hx hb (hts _ (gt_of 150 (by decide +kernel) rfl)) hK hP hD hS hA (N' := 960) (by decide) (by decide) (Nat.le_of_ble_eq_true rfl) (Nat.le_of_ble_eq_true rfl) (Nat.le_of_ble_eq_true rfl) dX9_init_8 (fun q1 H hP hD hS => ?_)
  have hP := hP.rot
  have hD := hD.rot
  have hP : va_P (dC, dI) vwCl ([(h0, .inr (8, fs)), (q1, .inl (cy 0, 960, .inl (fun _ => 0)))] ++ wB) H := hP
  have hD : va_D A ([(h0, .inr (8, fs)), (q1, .inl (cy 0, 960, .inl (fun _ => 0)))] ++ wB) := hD
  refine W.widen (k := 1) (n := 960) (Nat.le_of_ble_eq_true rfl) (Nat.le_of_ble_eq_true rfl) ?_
  refine va_putF (D := (dC, dI)) (ci := 8) (v := .ref q1) (ty := (.array .int)) (C := RX9) (T := TX9) (N := 53) hx hb hts gc_X9 tyX9 tyX9_ok nmX9 hown hK hP hD hS 0 rfl rfl 1 (by decide) (hts (.fieldLink RX9 13 "BeforeItGoesModel" "texts" "[I") (gt_of 962 (by decide +kernel) rfl)) (fun _ h9 => h9) rfl hin rfl (by decide +kernel) rfl rfl (by omega) dX9_init_10 (fun H locs hP hD hS => ?_)
  have hf : (fs.set 1 (.ref q1)).length = 53 := (List.length_set ..).trans hf
  have hP : va_P (dC, dI) vwCl ([(h0, .inr (8, (fs.set 1 (.ref q1)))), (q1, .inl (cy 0, 960, .inl (fun _ => 0)))] ++ wB) H := hP
  have hD : va_D A ([(h0, .inr (8, (fs.set 1 (.ref q1)))), (q1, .inl (cy 0, 960, .inl (fun _ => 0)))] ++ wB) := hD
  exact kk q1 _ _ _ hf hP hD hS hl
set_option maxHeartbeats 8000000 in
set_option maxRecDepth 20000 in
theorem p_X9_init_1 {p : Program} {l : Launch} {e : Env} {s : State} {m : MethodId} {args : Array Value} {below : List Frame} {meth : Method} {c : Code} {Q : State → Prop} {A : Nat → Prop} {dC : Nat → ClassId} {dI : Nat → Nat → Nat} {cy : Nat → ClassId} (hx : p.tables.exec = Jvm.exec) (hb : c.code = cX9_init) (hml : c.maxLocals = 1) (hts : ∀ w ∈ gt, w.before args s = true) (hown : s.vm.findClass RX9 = some m.cls) (hin : meth.name = "<init>") (hK : va_K (dC, dI) vwCl (tysO cy) s) (hNw : ∀ w ∈ nw, va_Nw w s) (hA : ∀ q : Nat, s.heap.size ≤ q → A q) {h0 : Nat} {wB : va_W} {fs : List Value} (hf : fs.length = 53) {H : Heap} {locs : List Loc} {ls : Array Slot} (hP : va_P (dC, dI) vwCl ([(h0, .inr (8, fs))] ++ wB) H) (hD : va_D A ([(h0, .inr (8, fs))] ++ wB)) (hS : va_S A s.heap H locs) (hl : lv_has ls 1 [(0, .ref h0)]) (kk : ∀ (q2 : Nat) (H : Heap) (locs : List Loc) (ls : Array Slot), (fs.set 2 (.ref q2)).length = 53 → va_P (dC, dI) vwCl ([(h0, .inr (8, (fs.set 2 (.ref q2))))] ++ ([(q2, .inl (cy 0, 6, .inl (fun _ => 0)))] ++ wB)) H → va_D A ([(h0, .inr (8, (fs.set 2 (.ref q2))))] ++ ([(q2, .inl (cy 0, 6, .inl (fun _ => 0)))] ++ wB)) → va_S A s.heap H locs → lv_has ls 1 [(0, .ref h0)] → W p l e ({ frames := 1, cells := 22, slots := 1400, locals := 40 } : Room) s m args below meth c H locs 2 966 Q (F0 m 21 ls [])) : W p l e ({ frames := 1, cells := 22, slots := 1400, locals := 40 } : Room) s m args below meth c H locs 1 960 Q (F0 m 13 ls []) := by
  refine lv_aload_n hx hb dX9_init_13 rfl (lv_at hl 0 rfl) ?_
  refine lv_bipush (v := 6) hx hb dX9_init_14 bp_6 ?_
  refine n_newi hx hb (hts _ (gt_of 150 (by decide +kernel) rfl)) hK hP hD hS hA (N' := 6) (by decide) (by decide) (Nat.le_of_ble_eq_true rfl) (Nat.le_of_ble_eq_true rfl) (Nat.le_of_ble_eq_true rfl) dX9_init_16 (fun q2 H hP hD hS => ?_)
  have hP := hP.rot
  have hD := hD.rot
  have hP : va_P (dC, dI) vwCl ([(h0, .inr (8, fs)), (q2, .inl (cy 0, 6, .inl (fun _ => 0)))] ++ wB) H := hP
  have hD : va_D A ([(h0, .inr (8, fs)), (q2, .inl (cy 0, 6, .inl (fun _ => 0)))] ++ wB) := hD
  refine W.widen (k := 2) (n := 966) (Nat.le_of_ble_eq_true rfl) (Nat.le_of_ble_eq_true rfl) ?_
  refine va_putF (D := (dC, dI)) (ci := 8) (v := .ref q2) (ty := (.array .int)) (C := RX9) (T := TX9) (N := 53) hx hb hts gc_X9 tyX9 tyX9_ok nmX9 hown hK hP hD hS 0 rfl rfl 2 (by decide) (hts (.fieldLink RX9 17 "BeforeItGoesModel" "textSize" "[I") (gt_of 963 (by decide +kernel) rfl)) (fun _ h9 => h9) rfl hin rfl (by decide +kernel) rfl rfl (by omega) dX9_init_18 (fun H locs hP hD hS => ?_)
  have hf : (fs.set 2 (.ref q2)).length = 53 := (List.length_set ..).trans hf
  have hP : va_P (dC, dI) vwCl ([(h0, .inr (8, (fs.set 2 (.ref q2)))), (q2, .inl (cy 0, 6, .inl (fun _ => 0)))] ++ wB) H := hP
  have hD : va_D A ([(h0, .inr (8, (fs.set 2 (.ref q2)))), (q2, .inl (cy 0, 6, .inl (fun _ => 0)))] ++ wB) := hD
  exact kk q2 _ _ _ hf hP hD hS hl
set_option maxHeartbeats 8000000 in
set_option maxRecDepth 20000 in
theorem p_X9_init_2 {p : Program} {l : Launch} {e : Env} {s : State} {m : MethodId} {args : Array Value} {below : List Frame} {meth : Method} {c : Code} {Q : State → Prop} {A : Nat → Prop} {dC : Nat → ClassId} {dI : Nat → Nat → Nat} {cy : Nat → ClassId} (hx : p.tables.exec = Jvm.exec) (hb : c.code = cX9_init) (hml : c.maxLocals = 1) (hts : ∀ w ∈ gt, w.before args s = true) (hown : s.vm.findClass RX9 = some m.cls) (hin : meth.name = "<init>") (hK : va_K (dC, dI) vwCl (tysO cy) s) (hNw : ∀ w ∈ nw, va_Nw w s) (hA : ∀ q : Nat, s.heap.size ≤ q → A q) {h0 : Nat} {wB : va_W} {fs : List Value} (hf : fs.length = 53) {H : Heap} {locs : List Loc} {ls : Array Slot} (hP : va_P (dC, dI) vwCl ([(h0, .inr (8, fs))] ++ wB) H) (hD : va_D A ([(h0, .inr (8, fs))] ++ wB)) (hS : va_S A s.heap H locs) (hl : lv_has ls 1 [(0, .ref h0)]) (kk : ∀ (q3 : Nat) (H : Heap) (locs : List Loc) (ls : Array Slot), (fs.set 5 (.ref q3)).length = 53 → va_P (dC, dI) vwCl ([(h0, .inr (8, (fs.set 5 (.ref q3))))] ++ ([(q3, .inl (cy 0, 160, .inl (fun _ => 0)))] ++ wB)) H → va_D A ([(h0, .inr (8, (fs.set 5 (.ref q3))))] ++ ([(q3, .inl (cy 0, 160, .inl (fun _ => 0)))] ++ wB)) → va_S A s.heap H locs → lv_has ls 1 [(0, .ref h0)] → W p l e ({ frames := 1, cells := 22, slots := 1400, locals := 40 } : Room) s m args below meth c H locs 3 1126 Q (F0 m 30 ls [])) : W p l e ({ frames := 1, cells := 22, slots := 1400, locals := 40 } : Room) s m args below meth c H locs 2 966 Q (F0 m 21 ls []) := by
  refine lv_aload_n hx hb dX9_init_21 rfl (lv_at hl 0 rfl) ?_
  refine lv_sipush (v := 160) hx hb dX9_init_22 sp_160 ?_
  refine n_newi hx hb (hts _ (gt_of 150 (by decide +kernel) rfl)) hK hP hD hS hA (N' := 160) (by decide) (by decide) (Nat.le_of_ble_eq_true rfl) (Nat.le_of_ble_eq_true rfl) (Nat.le_of_ble_eq_true rfl) dX9_init_25 (fun q3 H hP hD hS => ?_)
  have hP := hP.rot
  have hD := hD.rot
  have hP : va_P (dC, dI) vwCl ([(h0, .inr (8, fs)), (q3, .inl (cy 0, 160, .inl (fun _ => 0)))] ++ wB) H := hP
  have hD : va_D A ([(h0, .inr (8, fs)), (q3, .inl (cy 0, 160, .inl (fun _ => 0)))] ++ wB) := hD
  refine W.widen (k := 3) (n := 1126) (Nat.le_of_ble_eq_true rfl) (Nat.le_of_ble_eq_true rfl) ?_
  refine va_putF (D := (dC, dI)) (ci := 8) (v := .ref q3) (ty := (.array .int)) (C := RX9) (T := TX9) (N := 53) hx hb hts gc_X9 tyX9 tyX9_ok nmX9 hown hK hP hD hS 0 rfl rfl 5 (by decide) (hts (.fieldLink RX9 20 "BeforeItGoesModel" "tape" "[I") (gt_of 966 (by decide +kernel) rfl)) (fun _ h9 => h9) rfl hin rfl (by decide +kernel) rfl rfl (by omega) dX9_init_27 (fun H locs hP hD hS => ?_)
  have hf : (fs.set 5 (.ref q3)).length = 53 := (List.length_set ..).trans hf
  have hP : va_P (dC, dI) vwCl ([(h0, .inr (8, (fs.set 5 (.ref q3)))), (q3, .inl (cy 0, 160, .inl (fun _ => 0)))] ++ wB) H := hP
  have hD : va_D A ([(h0, .inr (8, (fs.set 5 (.ref q3)))), (q3, .inl (cy 0, 160, .inl (fun _ => 0)))] ++ wB) := hD
  exact kk q3 _ _ _ hf hP hD hS hl
set_option maxHeartbeats 8000000 in
set_option maxRecDepth 20000 in
theorem p_X9_init_3 {p : Program} {l : Launch} {e : Env} {s : State} {m : MethodId} {args : Array Value} {below : List Frame} {meth : Method} {c : Code} {Q : State → Prop} {A : Nat → Prop} {dC : Nat → ClassId} {dI : Nat → Nat → Nat} {cy : Nat → ClassId} (hx : p.tables.exec = Jvm.exec) (hb : c.code = cX9_init) (hml : c.maxLocals = 1) (hts : ∀ w ∈ gt, w.before args s = true) (hown : s.vm.findClass RX9 = some m.cls) (hin : meth.name = "<init>") (hK : va_K (dC, dI) vwCl (tysO cy) s) (hNw : ∀ w ∈ nw, va_Nw w s) (hA : ∀ q : Nat, s.heap.size ≤ q → A q) {h0 : Nat} {wB : va_W} {fs : List Value} (hf : fs.length = 53) {H : Heap} {locs : List Loc} {ls : Array Slot} (hP : va_P (dC, dI) vwCl ([(h0, .inr (8, fs))] ++ wB) H) (hD : va_D A ([(h0, .inr (8, fs))] ++ wB)) (hS : va_S A s.heap H locs) (hl : lv_has ls 1 [(0, .ref h0)]) (kk : ∀ (q4 : Nat) (H : Heap) (locs : List Loc) (ls : Array Slot), (fs.set 7 (.ref q4)).length = 53 → va_P (dC, dI) vwCl ([(h0, .inr (8, (fs.set 7 (.ref q4))))] ++ ([(q4, .inl (cy 0, 6, .inl (fun _ => 0)))] ++ wB)) H → va_D A ([(h0, .inr (8, (fs.set 7 (.ref q4))))] ++ ([(q4, .inl (cy 0, 6, .inl (fun _ => 0)))] ++ wB)) → va_S A s.heap H locs → lv_has ls 1 [(0, .ref h0)] → W p l e ({ frames := 1, cells := 22, slots := 1400, locals := 40 } : Room) s m args below meth c H locs 4 1132 Q (F0 m 38 ls [])) : W p l e ({ frames := 1, cells := 22, slots := 1400, locals := 40 } : Room) s m args below meth c H locs 3 1126 Q (F0 m 30 ls []) := by
  refine lv_aload_n hx hb dX9_init_30 rfl (lv_at hl 0 rfl) ?_
  refine lv_bipush (v := 6) hx hb dX9_init_31 bp_6 ?_
  refine n_newi hx hb (hts _ (gt_of 150 (by decide +kernel) rfl)) hK hP hD hS hA (N' := 6) (by decide) (by decide) (Nat.le_of_ble_eq_true rfl) (Nat.le_of_ble_eq_true rfl) (Nat.le_of_ble_eq_true rfl) dX9_init_33 (fun q4 H hP hD hS => ?_)
  have hP := hP.rot
  have hD := hD.rot
  have hP : va_P (dC, dI) vwCl ([(h0, .inr (8, fs)), (q4, .inl (cy 0, 6, .inl (fun _ => 0)))] ++ wB) H := hP
  have hD : va_D A ([(h0, .inr (8, fs)), (q4, .inl (cy 0, 6, .inl (fun _ => 0)))] ++ wB) := hD
  refine W.widen (k := 4) (n := 1132) (Nat.le_of_ble_eq_true rfl) (Nat.le_of_ble_eq_true rfl) ?_
  refine va_putF (D := (dC, dI)) (ci := 8) (v := .ref q4) (ty := (.array .int)) (C := RX9) (T := TX9) (N := 53) hx hb hts gc_X9 tyX9 tyX9_ok nmX9 hown hK hP hD hS 0 rfl rfl 7 (by decide) (hts (.fieldLink RX9 23 "BeforeItGoesModel" "plaster" "[I") (gt_of 968 (by decide +kernel) rfl)) (fun _ h9 => h9) rfl hin rfl (by decide +kernel) rfl rfl (by omega) dX9_init_35 (fun H locs hP hD hS => ?_)
  have hf : (fs.set 7 (.ref q4)).length = 53 := (List.length_set ..).trans hf
  have hP : va_P (dC, dI) vwCl ([(h0, .inr (8, (fs.set 7 (.ref q4)))), (q4, .inl (cy 0, 6, .inl (fun _ => 0)))] ++ wB) H := hP
  have hD : va_D A ([(h0, .inr (8, (fs.set 7 (.ref q4)))), (q4, .inl (cy 0, 6, .inl (fun _ => 0)))] ++ wB) := hD
  exact kk q4 _ _ _ hf hP hD hS hl
set_option maxHeartbeats 8000000 in
set_option maxRecDepth 20000 in
theorem p_X9_init_4 {p : Program} {l : Launch} {e : Env} {s : State} {m : MethodId} {args : Array Value} {below : List Frame} {meth : Method} {c : Code} {Q : State → Prop} {A : Nat → Prop} {dC : Nat → ClassId} {dI : Nat → Nat → Nat} {cy : Nat → ClassId} (hx : p.tables.exec = Jvm.exec) (hb : c.code = cX9_init) (hml : c.maxLocals = 1) (hts : ∀ w ∈ gt, w.before args s = true) (hown : s.vm.findClass RX9 = some m.cls) (hin : meth.name = "<init>") (hK : va_K (dC, dI) vwCl (tysO cy) s) (hNw : ∀ w ∈ nw, va_Nw w s) (hA : ∀ q : Nat, s.heap.size ≤ q → A q) {h0 : Nat} {wB : va_W} {fs : List Value} (hf : fs.length = 53) {H : Heap} {locs : List Loc} {ls : Array Slot} (hP : va_P (dC, dI) vwCl ([(h0, .inr (8, fs))] ++ wB) H) (hD : va_D A ([(h0, .inr (8, fs))] ++ wB)) (hS : va_S A s.heap H locs) (hl : lv_has ls 1 [(0, .ref h0)]) (kk : ∀ (q5 : Nat) (H : Heap) (locs : List Loc) (ls : Array Slot), (fs.set 8 (.ref q5)).length = 53 → va_P (dC, dI) vwCl ([(h0, .inr (8, (fs.set 8 (.ref q5))))] ++ ([(q5, .inl (cy 0, 6, .inl (fun _ => 0)))] ++ wB)) H → va_D A ([(h0, .inr (8, (fs.set 8 (.ref q5))))] ++ ([(q5, .inl (cy 0, 6, .inl (fun _ => 0)))] ++ wB)) → va_S A s.heap H locs → lv_has ls 1 [(0, .ref h0)] → W p l e ({ frames := 1, cells := 22, slots := 1400, locals := 40 } : Room) s m args below meth c H locs 5 1138 Q (F0 m 46 ls [])) : W p l e ({ frames := 1, cells := 22, slots := 1400, locals := 40 } : Room) s m args below meth c H locs 4 1132 Q (F0 m 38 ls []) := by
  refine lv_aload_n hx hb dX9_init_38 rfl (lv_at hl 0 rfl) ?_
  refine lv_bipush (v := 6) hx hb dX9_init_39 bp_6 ?_
  refine n_newi hx hb (hts _ (gt_of 150 (by decide +kernel) rfl)) hK hP hD hS hA (N' := 6) (by decide) (by decide) (Nat.le_of_ble_eq_true rfl) (Nat.le_of_ble_eq_true rfl) (Nat.le_of_ble_eq_true rfl) dX9_init_41 (fun q5 H hP hD hS => ?_)
  have hP := hP.rot
  have hD := hD.rot
  have hP : va_P (dC, dI) vwCl ([(h0, .inr (8, fs)), (q5, .inl (cy 0, 6, .inl (fun _ => 0)))] ++ wB) H := hP
  have hD : va_D A ([(h0, .inr (8, fs)), (q5, .inl (cy 0, 6, .inl (fun _ => 0)))] ++ wB) := hD
  refine W.widen (k := 5) (n := 1138) (Nat.le_of_ble_eq_true rfl) (Nat.le_of_ble_eq_true rfl) ?_
  refine va_putF (D := (dC, dI)) (ci := 8) (v := .ref q5) (ty := (.array .int)) (C := RX9) (T := TX9) (N := 53) hx hb hts gc_X9 tyX9 tyX9_ok nmX9 hown hK hP hD hS 0 rfl rfl 8 (by decide) (hts (.fieldLink RX9 26 "BeforeItGoesModel" "kinds" "[I") (gt_of 969 (by decide +kernel) rfl)) (fun _ h9 => h9) rfl hin rfl (by decide +kernel) rfl rfl (by omega) dX9_init_43 (fun H locs hP hD hS => ?_)
  have hf : (fs.set 8 (.ref q5)).length = 53 := (List.length_set ..).trans hf
  have hP : va_P (dC, dI) vwCl ([(h0, .inr (8, (fs.set 8 (.ref q5)))), (q5, .inl (cy 0, 6, .inl (fun _ => 0)))] ++ wB) H := hP
  have hD : va_D A ([(h0, .inr (8, (fs.set 8 (.ref q5)))), (q5, .inl (cy 0, 6, .inl (fun _ => 0)))] ++ wB) := hD
  exact kk q5 _ _ _ hf hP hD hS hl
set_option maxHeartbeats 8000000 in
set_option maxRecDepth 20000 in
theorem p_X9_init_5 {p : Program} {l : Launch} {e : Env} {s : State} {m : MethodId} {args : Array Value} {below : List Frame} {meth : Method} {c : Code} {Q : State → Prop} {A : Nat → Prop} {dC : Nat → ClassId} {dI : Nat → Nat → Nat} {cy : Nat → ClassId} (hx : p.tables.exec = Jvm.exec) (hb : c.code = cX9_init) (hml : c.maxLocals = 1) (hts : ∀ w ∈ gt, w.before args s = true) (hown : s.vm.findClass RX9 = some m.cls) (hin : meth.name = "<init>") (hK : va_K (dC, dI) vwCl (tysO cy) s) (hNw : ∀ w ∈ nw, va_Nw w s) (hA : ∀ q : Nat, s.heap.size ≤ q → A q) {h0 : Nat} {wB : va_W} {fs : List Value} (hf : fs.length = 53) {H : Heap} {locs : List Loc} {ls : Array Slot} (hP : va_P (dC, dI) vwCl ([(h0, .inr (8, fs))] ++ wB) H) (hD : va_D A ([(h0, .inr (8, fs))] ++ wB)) (hS : va_S A s.heap H locs) (hl : lv_has ls 1 [(0, .ref h0)]) (kk : ∀ (q6 : Nat) (H : Heap) (locs : List Loc) (ls : Array Slot), (fs.set 9 (.ref q6)).length = 53 → va_P (dC, dI) vwCl ([(h0, .inr (8, (fs.set 9 (.ref q6))))] ++ ([(q6, .inl (cy 0, 6, .inl (fun _ => 0)))] ++ wB)) H → va_D A ([(h0, .inr (8, (fs.set 9 (.ref q6))))] ++ ([(q6, .inl (cy 0, 6, .inl (fun _ => 0)))] ++ wB)) → va_S A s.heap H locs → lv_has ls 1 [(0, .ref h0)] → W p l e ({ frames := 1, cells := 22, slots := 1400, locals := 40 } : Room) s m args below meth c H locs 6 1144 Q (F0 m 54 ls [])) : W p l e ({ frames := 1, cells := 22, slots := 1400, locals := 40 } : Room) s m args below meth c H locs 5 1138 Q (F0 m 46 ls []) := by
  refine lv_aload_n hx hb dX9_init_46 rfl (lv_at hl 0 rfl) ?_
  refine lv_bipush (v := 6) hx hb dX9_init_47 bp_6 ?_
  refine n_newi hx hb (hts _ (gt_of 150 (by decide +kernel) rfl)) hK hP hD hS hA (N' := 6) (by decide) (by decide) (Nat.le_of_ble_eq_true rfl) (Nat.le_of_ble_eq_true rfl) (Nat.le_of_ble_eq_true rfl) dX9_init_49 (fun q6 H hP hD hS => ?_)
  have hP := hP.rot
  have hD := hD.rot
  have hP : va_P (dC, dI) vwCl ([(h0, .inr (8, fs)), (q6, .inl (cy 0, 6, .inl (fun _ => 0)))] ++ wB) H := hP
  have hD : va_D A ([(h0, .inr (8, fs)), (q6, .inl (cy 0, 6, .inl (fun _ => 0)))] ++ wB) := hD
  refine W.widen (k := 6) (n := 1144) (Nat.le_of_ble_eq_true rfl) (Nat.le_of_ble_eq_true rfl) ?_
  refine va_putF (D := (dC, dI)) (ci := 8) (v := .ref q6) (ty := (.array .int)) (C := RX9) (T := TX9) (N := 53) hx hb hts gc_X9 tyX9 tyX9_ok nmX9 hown hK hP hD hS 0 rfl rfl 9 (by decide) (hts (.fieldLink RX9 29 "BeforeItGoesModel" "numbers" "[I") (gt_of 970 (by decide +kernel) rfl)) (fun _ h9 => h9) rfl hin rfl (by decide +kernel) rfl rfl (by omega) dX9_init_51 (fun H locs hP hD hS => ?_)
  have hf : (fs.set 9 (.ref q6)).length = 53 := (List.length_set ..).trans hf
  have hP : va_P (dC, dI) vwCl ([(h0, .inr (8, (fs.set 9 (.ref q6)))), (q6, .inl (cy 0, 6, .inl (fun _ => 0)))] ++ wB) H := hP
  have hD : va_D A ([(h0, .inr (8, (fs.set 9 (.ref q6)))), (q6, .inl (cy 0, 6, .inl (fun _ => 0)))] ++ wB) := hD
  exact kk q6 _ _ _ hf hP hD hS hl
set_option maxHeartbeats 8000000 in
set_option maxRecDepth 20000 in
theorem p_X9_init_6 {p : Program} {l : Launch} {e : Env} {s : State} {m : MethodId} {args : Array Value} {below : List Frame} {meth : Method} {c : Code} {Q : State → Prop} {A : Nat → Prop} {dC : Nat → ClassId} {dI : Nat → Nat → Nat} {cy : Nat → ClassId} (hx : p.tables.exec = Jvm.exec) (hb : c.code = cX9_init) (hml : c.maxLocals = 1) (hts : ∀ w ∈ gt, w.before args s = true) (hown : s.vm.findClass RX9 = some m.cls) (hin : meth.name = "<init>") (hK : va_K (dC, dI) vwCl (tysO cy) s) (hNw : ∀ w ∈ nw, va_Nw w s) (hA : ∀ q : Nat, s.heap.size ≤ q → A q) {h0 : Nat} {wB : va_W} {fs : List Value} (hf : fs.length = 53) {H : Heap} {locs : List Loc} {ls : Array Slot} (hP : va_P (dC, dI) vwCl ([(h0, .inr (8, fs))] ++ wB) H) (hD : va_D A ([(h0, .inr (8, fs))] ++ wB)) (hS : va_S A s.heap H locs) (hl : lv_has ls 1 [(0, .ref h0)]) (kk : ∀ (q7 : Nat) (H : Heap) (locs : List Loc) (ls : Array Slot), (fs.set 10 (.ref q7)).length = 53 → va_P (dC, dI) vwCl ([(h0, .inr (8, (fs.set 10 (.ref q7))))] ++ ([(q7, .inl (cy 0, 6, .inl (fun _ => 0)))] ++ wB)) H → va_D A ([(h0, .inr (8, (fs.set 10 (.ref q7))))] ++ ([(q7, .inl (cy 0, 6, .inl (fun _ => 0)))] ++ wB)) → va_S A s.heap H locs → lv_has ls 1 [(0, .ref h0)] → W p l e ({ frames := 1, cells := 22, slots := 1400, locals := 40 } : Room) s m args below meth c H locs 7 1150 Q (F0 m 62 ls [])) : W p l e ({ frames := 1, cells := 22, slots := 1400, locals := 40 } : Room) s m args below meth c H locs 6 1144 Q (F0 m 54 ls []) := by
  refine lv_aload_n hx hb dX9_init_54 rfl (lv_at hl 0 rfl) ?_
  refine lv_bipush (v := 6) hx hb dX9_init_55 bp_6 ?_
  refine n_newi hx hb (hts _ (gt_of 150 (by decide +kernel) rfl)) hK hP hD hS hA (N' := 6) (by decide) (by decide) (Nat.le_of_ble_eq_true rfl) (Nat.le_of_ble_eq_true rfl) (Nat.le_of_ble_eq_true rfl) dX9_init_57 (fun q7 H hP hD hS => ?_)
  have hP := hP.rot
  have hD := hD.rot
  have hP : va_P (dC, dI) vwCl ([(h0, .inr (8, fs)), (q7, .inl (cy 0, 6, .inl (fun _ => 0)))] ++ wB) H := hP
  have hD : va_D A ([(h0, .inr (8, fs)), (q7, .inl (cy 0, 6, .inl (fun _ => 0)))] ++ wB) := hD
  refine W.widen (k := 7) (n := 1150) (Nat.le_of_ble_eq_true rfl) (Nat.le_of_ble_eq_true rfl) ?_
  refine va_putF (D := (dC, dI)) (ci := 8) (v := .ref q7) (ty := (.array .int)) (C := RX9) (T := TX9) (N := 53) hx hb hts gc_X9 tyX9 tyX9_ok nmX9 hown hK hP hD hS 0 rfl rfl 10 (by decide) (hts (.fieldLink RX9 32 "BeforeItGoesModel" "yardRow" "[I") (gt_of 971 (by decide +kernel) rfl)) (fun _ h9 => h9) rfl hin rfl (by decide +kernel) rfl rfl (by omega) dX9_init_59 (fun H locs hP hD hS => ?_)
  have hf : (fs.set 10 (.ref q7)).length = 53 := (List.length_set ..).trans hf
  have hP : va_P (dC, dI) vwCl ([(h0, .inr (8, (fs.set 10 (.ref q7)))), (q7, .inl (cy 0, 6, .inl (fun _ => 0)))] ++ wB) H := hP
  have hD : va_D A ([(h0, .inr (8, (fs.set 10 (.ref q7)))), (q7, .inl (cy 0, 6, .inl (fun _ => 0)))] ++ wB) := hD
  exact kk q7 _ _ _ hf hP hD hS hl
set_option maxHeartbeats 8000000 in
set_option maxRecDepth 20000 in
theorem p_X9_init_7 {p : Program} {l : Launch} {e : Env} {s : State} {m : MethodId} {args : Array Value} {below : List Frame} {meth : Method} {c : Code} {Q : State → Prop} {A : Nat → Prop} {dC : Nat → ClassId} {dI : Nat → Nat → Nat} {cy : Nat → ClassId} (hx : p.tables.exec = Jvm.exec) (hb : c.code = cX9_init) (hml : c.maxLocals = 1) (hts : ∀ w ∈ gt, w.before args s = true) (hown : s.vm.findClass RX9 = some m.cls) (hin : meth.name = "<init>") (hK : va_K (dC, dI) vwCl (tysO cy) s) (hNw : ∀ w ∈ nw, va_Nw w s) (hA : ∀ q : Nat, s.heap.size ≤ q → A q) {h0 : Nat} {wB : va_W} {fs : List Value} (hf : fs.length = 53) {H : Heap} {locs : List Loc} {ls : Array Slot} (hP : va_P (dC, dI) vwCl ([(h0, .inr (8, fs))] ++ wB) H) (hD : va_D A ([(h0, .inr (8, fs))] ++ wB)) (hS : va_S A s.heap H locs) (hl : lv_has ls 1 [(0, .ref h0)]) (kk : ∀ (q8 : Nat) (H : Heap) (locs : List Loc) (ls : Array Slot), (fs.set 11 (.ref q8)).length = 53 → va_P (dC, dI) vwCl ([(h0, .inr (8, (fs.set 11 (.ref q8))))] ++ ([(q8, .inl (cy 0, 6, .inl (fun _ => 0)))] ++ wB)) H → va_D A ([(h0, .inr (8, (fs.set 11 (.ref q8))))] ++ ([(q8, .inl (cy 0, 6, .inl (fun _ => 0)))] ++ wB)) → va_S A s.heap H locs → lv_has ls 1 [(0, .ref h0)] → W p l e ({ frames := 1, cells := 22, slots := 1400, locals := 40 } : Room) s m args below meth c H locs 8 1156 Q (F0 m 70 ls [])) : W p l e ({ frames := 1, cells := 22, slots := 1400, locals := 40 } : Room) s m args below meth c H locs 7 1150 Q (F0 m 62 ls []) := by
  refine lv_aload_n hx hb dX9_init_62 rfl (lv_at hl 0 rfl) ?_
  refine lv_bipush (v := 6) hx hb dX9_init_63 bp_6 ?_
  refine n_newi hx hb (hts _ (gt_of 150 (by decide +kernel) rfl)) hK hP hD hS hA (N' := 6) (by decide) (by decide) (Nat.le_of_ble_eq_true rfl) (Nat.le_of_ble_eq_true rfl) (Nat.le_of_ble_eq_true rfl) dX9_init_65 (fun q8 H hP hD hS => ?_)
  have hP := hP.rot
  have hD := hD.rot
  have hP : va_P (dC, dI) vwCl ([(h0, .inr (8, fs)), (q8, .inl (cy 0, 6, .inl (fun _ => 0)))] ++ wB) H := hP
  have hD : va_D A ([(h0, .inr (8, fs)), (q8, .inl (cy 0, 6, .inl (fun _ => 0)))] ++ wB) := hD
  refine W.widen (k := 8) (n := 1156) (Nat.le_of_ble_eq_true rfl) (Nat.le_of_ble_eq_true rfl) ?_
  refine va_putF (D := (dC, dI)) (ci := 8) (v := .ref q8) (ty := (.array .int)) (C := RX9) (T := TX9) (N := 53) hx hb hts gc_X9 tyX9 tyX9_ok nmX9 hown hK hP hD hS 0 rfl rfl 11 (by decide) (hts (.fieldLink RX9 35 "BeforeItGoesModel" "wets" "[I") (gt_of 972 (by decide +kernel) rfl)) (fun _ h9 => h9) rfl hin rfl (by decide +kernel) rfl rfl (by omega) dX9_init_67 (fun H locs hP hD hS => ?_)
  have hf : (fs.set 11 (.ref q8)).length = 53 := (List.length_set ..).trans hf
  have hP : va_P (dC, dI) vwCl ([(h0, .inr (8, (fs.set 11 (.ref q8)))), (q8, .inl (cy 0, 6, .inl (fun _ => 0)))] ++ wB) H := hP
  have hD : va_D A ([(h0, .inr (8, (fs.set 11 (.ref q8)))), (q8, .inl (cy 0, 6, .inl (fun _ => 0)))] ++ wB) := hD
  exact kk q8 _ _ _ hf hP hD hS hl
set_option maxHeartbeats 8000000 in
set_option maxRecDepth 20000 in
theorem p_X9_init_8 {p : Program} {l : Launch} {e : Env} {s : State} {m : MethodId} {args : Array Value} {below : List Frame} {meth : Method} {c : Code} {Q : State → Prop} {A : Nat → Prop} {dC : Nat → ClassId} {dI : Nat → Nat → Nat} {cy : Nat → ClassId} (hx : p.tables.exec = Jvm.exec) (hb : c.code = cX9_init) (hml : c.maxLocals = 1) (hts : ∀ w ∈ gt, w.before args s = true) (hown : s.vm.findClass RX9 = some m.cls) (hin : meth.name = "<init>") (hK : va_K (dC, dI) vwCl (tysO cy) s) (hNw : ∀ w ∈ nw, va_Nw w s) (hA : ∀ q : Nat, s.heap.size ≤ q → A q) {h0 : Nat} {wB : va_W} {fs : List Value} (hf : fs.length = 53) {H : Heap} {locs : List Loc} {ls : Array Slot} (hP : va_P (dC, dI) vwCl ([(h0, .inr (8, fs))] ++ wB) H) (hD : va_D A ([(h0, .inr (8, fs))] ++ wB)) (hS : va_S A s.heap H locs) (hl : lv_has ls 1 [(0, .ref h0)]) (kk : ∀ (q9 : Nat) (H : Heap) (locs : List Loc) (ls : Array Slot), (fs.set 28 (.ref q9)).length = 53 → va_P (dC, dI) vwCl ([(h0, .inr (8, (fs.set 28 (.ref q9))))] ++ ([(q9, .inl (cy 0, 6, .inl (fun _ => 0)))] ++ wB)) H → va_D A ([(h0, .inr (8, (fs.set 28 (.ref q9))))] ++ ([(q9, .inl (cy 0, 6, .inl (fun _ => 0)))] ++ wB)) → va_S A s.heap H locs → lv_has ls 1 [(0, .ref h0)] → W p l e ({ frames := 1, cells := 22, slots := 1400, locals := 40 } : Room) s m args below meth c H locs 9 1162 Q (F0 m 78 ls [])) : W p l e ({ frames := 1, cells := 22, slots := 1400, locals := 40 } : Room) s m args below meth c H locs 8 1156 Q (F0 m 70 ls []) := by
  refine lv_aload_n hx hb dX9_init_70 rfl (lv_at hl 0 rfl) ?_
  refine lv_bipush (v := 6) hx hb dX9_init_71 bp_6 ?_
  refine n_newi hx hb (hts _ (gt_of 150 (by decide +kernel) rfl)) hK hP hD hS hA (N' := 6) (by decide) (by decide) (Nat.le_of_ble_eq_true rfl) (Nat.le_of_ble_eq_true rfl) (Nat.le_of_ble_eq_true rfl) dX9_init_73 (fun q9 H hP hD hS => ?_)
  have hP := hP.rot
  have hD := hD.rot
  have hP : va_P (dC, dI) vwCl ([(h0, .inr (8, fs)), (q9, .inl (cy 0, 6, .inl (fun _ => 0)))] ++ wB) H := hP
  have hD : va_D A ([(h0, .inr (8, fs)), (q9, .inl (cy 0, 6, .inl (fun _ => 0)))] ++ wB) := hD
  refine W.widen (k := 9) (n := 1162) (Nat.le_of_ble_eq_true rfl) (Nat.le_of_ble_eq_true rfl) ?_
  refine va_putF (D := (dC, dI)) (ci := 8) (v := .ref q9) (ty := (.array .int)) (C := RX9) (T := TX9) (N := 53) hx hb hts gc_X9 tyX9 tyX9_ok nmX9 hown hK hP hD hS 0 rfl rfl 28 (by decide) (hts (.fieldLink RX9 38 "BeforeItGoesModel" "orderRow" "[I") (gt_of 989 (by decide +kernel) rfl)) (fun _ h9 => h9) rfl hin rfl (by decide +kernel) rfl rfl (by omega) dX9_init_75 (fun H locs hP hD hS => ?_)
  have hf : (fs.set 28 (.ref q9)).length = 53 := (List.length_set ..).trans hf
  have hP : va_P (dC, dI) vwCl ([(h0, .inr (8, (fs.set 28 (.ref q9)))), (q9, .inl (cy 0, 6, .inl (fun _ => 0)))] ++ wB) H := hP
  have hD : va_D A ([(h0, .inr (8, (fs.set 28 (.ref q9)))), (q9, .inl (cy 0, 6, .inl (fun _ => 0)))] ++ wB) := hD
  exact kk q9 _ _ _ hf hP hD hS hl
set_option maxHeartbeats 8000000 in
set_option maxRecDepth 20000 in
theorem p_X9_init_9 {p : Program} {l : Launch} {e : Env} {s : State} {m : MethodId} {args : Array Value} {below : List Frame} {meth : Method} {c : Code} {Q : State → Prop} {A : Nat → Prop} {dC : Nat → ClassId} {dI : Nat → Nat → Nat} {cy : Nat → ClassId} (hx : p.tables.exec = Jvm.exec) (hb : c.code = cX9_init) (hml : c.maxLocals = 1) (hts : ∀ w ∈ gt, w.before args s = true) (hown : s.vm.findClass RX9 = some m.cls) (hin : meth.name = "<init>") (hK : va_K (dC, dI) vwCl (tysO cy) s) (hNw : ∀ w ∈ nw, va_Nw w s) (hA : ∀ q : Nat, s.heap.size ≤ q → A q) {h0 : Nat} {wB : va_W} {fs : List Value} (hf : fs.length = 53) {H : Heap} {locs : List Loc} {ls : Array Slot} (hP : va_P (dC, dI) vwCl ([(h0, .inr (8, fs))] ++ wB) H) (hD : va_D A ([(h0, .inr (8, fs))] ++ wB)) (hS : va_S A s.heap H locs) (hl : lv_has ls 1 [(0, .ref h0)]) (kk : ∀ (q10 : Nat) (H : Heap) (locs : List Loc) (ls : Array Slot), (fs.set 30 (.ref q10)).length = 53 → va_P (dC, dI) vwCl ([(h0, .inr (8, (fs.set 30 (.ref q10))))] ++ ([(q10, .inl (cy 0, 6, .inl (fun _ => 0)))] ++ wB)) H → va_D A ([(h0, .inr (8, (fs.set 30 (.ref q10))))] ++ ([(q10, .inl (cy 0, 6, .inl (fun _ => 0)))] ++ wB)) → va_S A s.heap H locs → lv_has ls 1 [(0, .ref h0)] → W p l e ({ frames := 1, cells := 22, slots := 1400, locals := 40 } : Room) s m args below meth c H locs 10 1168 Q (F0 m 86 ls [])) : W p l e ({ frames := 1, cells := 22, slots := 1400, locals := 40 } : Room) s m args below meth c H locs 9 1162 Q (F0 m 78 ls []) := by
  refine lv_aload_n hx hb dX9_init_78 rfl (lv_at hl 0 rfl) ?_
  refine lv_bipush (v := 6) hx hb dX9_init_79 bp_6 ?_
  refine n_newi hx hb (hts _ (gt_of 150 (by decide +kernel) rfl)) hK hP hD hS hA (N' := 6) (by decide) (by decide) (Nat.le_of_ble_eq_true rfl) (Nat.le_of_ble_eq_true rfl) (Nat.le_of_ble_eq_true rfl) dX9_init_81 (fun q10 H hP hD hS => ?_)
  have hP := hP.rot
  have hD := hD.rot
  have hP : va_P (dC, dI) vwCl ([(h0, .inr (8, fs)), (q10, .inl (cy 0, 6, .inl (fun _ => 0)))] ++ wB) H := hP
  have hD : va_D A ([(h0, .inr (8, fs)), (q10, .inl (cy 0, 6, .inl (fun _ => 0)))] ++ wB) := hD
  refine W.widen (k := 10) (n := 1168) (Nat.le_of_ble_eq_true rfl) (Nat.le_of_ble_eq_true rfl) ?_
  refine va_putF (D := (dC, dI)) (ci := 8) (v := .ref q10) (ty := (.array .int)) (C := RX9) (T := TX9) (N := 53) hx hb hts gc_X9 tyX9 tyX9_ok nmX9 hown hK hP hD hS 0 rfl rfl 30 (by decide) (hts (.fieldLink RX9 41 "BeforeItGoesModel" "ripenRow" "[I") (gt_of 991 (by decide +kernel) rfl)) (fun _ h9 => h9) rfl hin rfl (by decide +kernel) rfl rfl (by omega) dX9_init_83 (fun H locs hP hD hS => ?_)
  have hf : (fs.set 30 (.ref q10)).length = 53 := (List.length_set ..).trans hf
  have hP : va_P (dC, dI) vwCl ([(h0, .inr (8, (fs.set 30 (.ref q10)))), (q10, .inl (cy 0, 6, .inl (fun _ => 0)))] ++ wB) H := hP
  have hD : va_D A ([(h0, .inr (8, (fs.set 30 (.ref q10)))), (q10, .inl (cy 0, 6, .inl (fun _ => 0)))] ++ wB) := hD
  exact kk q10 _ _ _ hf hP hD hS hl
set_option maxHeartbeats 8000000 in
set_option maxRecDepth 20000 in
theorem p_X9_init_10 {p : Program} {l : Launch} {e : Env} {s : State} {m : MethodId} {args : Array Value} {below : List Frame} {meth : Method} {c : Code} {Q : State → Prop} {A : Nat → Prop} {dC : Nat → ClassId} {dI : Nat → Nat → Nat} {cy : Nat → ClassId} (hx : p.tables.exec = Jvm.exec) (hb : c.code = cX9_init) (hml : c.maxLocals = 1) (hts : ∀ w ∈ gt, w.before args s = true) (hown : s.vm.findClass RX9 = some m.cls) (hin : meth.name = "<init>") (hK : va_K (dC, dI) vwCl (tysO cy) s) (hNw : ∀ w ∈ nw, va_Nw w s) (hA : ∀ q : Nat, s.heap.size ≤ q → A q) {h0 : Nat} {wB : va_W} {fs : List Value} (hf : fs.length = 53) {H : Heap} {locs : List Loc} {ls : Array Slot} (hP : va_P (dC, dI) vwCl ([(h0, .inr (8, fs))] ++ wB) H) (hD : va_D A ([(h0, .inr (8, fs))] ++ wB)) (hS : va_S A s.heap H locs) (hl : lv_has ls 1 [(0, .ref h0)]) (kk : ∀ (q11 : Nat) (H : Heap) (locs : List Loc) (ls : Array Slot), (fs.set 31 (.ref q11)).length = 53 → va_P (dC, dI) vwCl ([(h0, .inr (8, (fs.set 31 (.ref q11))))] ++ ([(q11, .inl (cy 0, 6, .inl (fun _ => 0)))] ++ wB)) H → va_D A ([(h0, .inr (8, (fs.set 31 (.ref q11))))] ++ ([(q11, .inl (cy 0, 6, .inl (fun _ => 0)))] ++ wB)) → va_S A s.heap H locs → lv_has ls 1 [(0, .ref h0)] → W p l e ({ frames := 1, cells := 22, slots := 1400, locals := 40 } : Room) s m args below meth c H locs 11 1174 Q (F0 m 94 ls [])) : W p l e ({ frames := 1, cells := 22, slots := 1400, locals := 40 } : Room) s m args below meth c H locs 10 1168 Q (F0 m 86 ls []) := by
  refine lv_aload_n hx hb dX9_init_86 rfl (lv_at hl 0 rfl) ?_
  refine lv_bipush (v := 6) hx hb dX9_init_87 bp_6 ?_
  refine n_newi hx hb (hts _ (gt_of 150 (by decide +kernel) rfl)) hK hP hD hS hA (N' := 6) (by decide) (by decide) (Nat.le_of_ble_eq_true rfl) (Nat.le_of_ble_eq_true rfl) (Nat.le_of_ble_eq_true rfl) dX9_init_89 (fun q11 H hP hD hS => ?_)
  have hP := hP.rot
  have hD := hD.rot
  have hP : va_P (dC, dI) vwCl ([(h0, .inr (8, fs)), (q11, .inl (cy 0, 6, .inl (fun _ => 0)))] ++ wB) H := hP
  have hD : va_D A ([(h0, .inr (8, fs)), (q11, .inl (cy 0, 6, .inl (fun _ => 0)))] ++ wB) := hD
  refine W.widen (k := 11) (n := 1174) (Nat.le_of_ble_eq_true rfl) (Nat.le_of_ble_eq_true rfl) ?_
  refine va_putF (D := (dC, dI)) (ci := 8) (v := .ref q11) (ty := (.array .int)) (C := RX9) (T := TX9) (N := 53) hx hb hts gc_X9 tyX9 tyX9_ok nmX9 hown hK hP hD hS 0 rfl rfl 31 (by decide) (hts (.fieldLink RX9 44 "BeforeItGoesModel" "lastRow" "[I") (gt_of 992 (by decide +kernel) rfl)) (fun _ h9 => h9) rfl hin rfl (by decide +kernel) rfl rfl (by omega) dX9_init_91 (fun H locs hP hD hS => ?_)
  have hf : (fs.set 31 (.ref q11)).length = 53 := (List.length_set ..).trans hf
  have hP : va_P (dC, dI) vwCl ([(h0, .inr (8, (fs.set 31 (.ref q11)))), (q11, .inl (cy 0, 6, .inl (fun _ => 0)))] ++ wB) H := hP
  have hD : va_D A ([(h0, .inr (8, (fs.set 31 (.ref q11)))), (q11, .inl (cy 0, 6, .inl (fun _ => 0)))] ++ wB) := hD
  exact kk q11 _ _ _ hf hP hD hS hl
set_option maxHeartbeats 8000000 in
set_option maxRecDepth 20000 in
theorem p_X9_init_11 {p : Program} {l : Launch} {e : Env} {s : State} {m : MethodId} {args : Array Value} {below : List Frame} {meth : Method} {c : Code} {Q : State → Prop} {A : Nat → Prop} {dC : Nat → ClassId} {dI : Nat → Nat → Nat} {cy : Nat → ClassId} (hx : p.tables.exec = Jvm.exec) (hb : c.code = cX9_init) (hml : c.maxLocals = 1) (hts : ∀ w ∈ gt, w.before args s = true) (hown : s.vm.findClass RX9 = some m.cls) (hin : meth.name = "<init>") (hK : va_K (dC, dI) vwCl (tysO cy) s) (hNw : ∀ w ∈ nw, va_Nw w s) (hA : ∀ q : Nat, s.heap.size ≤ q → A q) {h0 : Nat} {wB : va_W} {fs : List Value} (hf : fs.length = 53) {H : Heap} {locs : List Loc} {ls : Array Slot} (hP : va_P (dC, dI) vwCl ([(h0, .inr (8, fs))] ++ wB) H) (hD : va_D A ([(h0, .inr (8, fs))] ++ wB)) (hS : va_S A s.heap H locs) (hl : lv_has ls 1 [(0, .ref h0)]) (kk : ∀ (q12 : Nat) (H : Heap) (locs : List Loc) (ls : Array Slot), (fs.set 32 (.ref q12)).length = 53 → va_P (dC, dI) vwCl ([(h0, .inr (8, (fs.set 32 (.ref q12))))] ++ ([(q12, .inl (cy 0, 6, .inl (fun _ => 0)))] ++ wB)) H → va_D A ([(h0, .inr (8, (fs.set 32 (.ref q12))))] ++ ([(q12, .inl (cy 0, 6, .inl (fun _ => 0)))] ++ wB)) → va_S A s.heap H locs → lv_has ls 1 [(0, .ref h0)] → W p l e ({ frames := 1, cells := 22, slots := 1400, locals := 40 } : Room) s m args below meth c H locs 12 1180 Q (F0 m 102 ls [])) : W p l e ({ frames := 1, cells := 22, slots := 1400, locals := 40 } : Room) s m args below meth c H locs 11 1174 Q (F0 m 94 ls []) := by
  refine lv_aload_n hx hb dX9_init_94 rfl (lv_at hl 0 rfl) ?_
  refine lv_bipush (v := 6) hx hb dX9_init_95 bp_6 ?_
  refine n_newi hx hb (hts _ (gt_of 150 (by decide +kernel) rfl)) hK hP hD hS hA (N' := 6) (by decide) (by decide) (Nat.le_of_ble_eq_true rfl) (Nat.le_of_ble_eq_true rfl) (Nat.le_of_ble_eq_true rfl) dX9_init_97 (fun q12 H hP hD hS => ?_)
  have hP := hP.rot
  have hD := hD.rot
  have hP : va_P (dC, dI) vwCl ([(h0, .inr (8, fs)), (q12, .inl (cy 0, 6, .inl (fun _ => 0)))] ++ wB) H := hP
  have hD : va_D A ([(h0, .inr (8, fs)), (q12, .inl (cy 0, 6, .inl (fun _ => 0)))] ++ wB) := hD
  refine W.widen (k := 12) (n := 1180) (Nat.le_of_ble_eq_true rfl) (Nat.le_of_ble_eq_true rfl) ?_
  refine va_putF (D := (dC, dI)) (ci := 8) (v := .ref q12) (ty := (.array .int)) (C := RX9) (T := TX9) (N := 53) hx hb hts gc_X9 tyX9 tyX9_ok nmX9 hown hK hP hD hS 0 rfl rfl 32 (by decide) (hts (.fieldLink RX9 47 "BeforeItGoesModel" "takeRow" "[I") (gt_of 993 (by decide +kernel) rfl)) (fun _ h9 => h9) rfl hin rfl (by decide +kernel) rfl rfl (by omega) dX9_init_99 (fun H locs hP hD hS => ?_)
  have hf : (fs.set 32 (.ref q12)).length = 53 := (List.length_set ..).trans hf
  have hP : va_P (dC, dI) vwCl ([(h0, .inr (8, (fs.set 32 (.ref q12)))), (q12, .inl (cy 0, 6, .inl (fun _ => 0)))] ++ wB) H := hP
  have hD : va_D A ([(h0, .inr (8, (fs.set 32 (.ref q12)))), (q12, .inl (cy 0, 6, .inl (fun _ => 0)))] ++ wB) := hD
  exact kk q12 _ _ _ hf hP hD hS hl
set_option maxHeartbeats 8000000 in
set_option maxRecDepth 20000 in
theorem p_X9_init_12 {p : Program} {l : Launch} {e : Env} {s : State} {m : MethodId} {args : Array Value} {below : List Frame} {meth : Method} {c : Code} {Q : State → Prop} {A : Nat → Prop} {dC : Nat → ClassId} {dI : Nat → Nat → Nat} {cy : Nat → ClassId} (hx : p.tables.exec = Jvm.exec) (hb : c.code = cX9_init) (hml : c.maxLocals = 1) (hts : ∀ w ∈ gt, w.before args s = true) (hown : s.vm.findClass RX9 = some m.cls) (hin : meth.name = "<init>") (hK : va_K (dC, dI) vwCl (tysO cy) s) (hNw : ∀ w ∈ nw, va_Nw w s) (hA : ∀ q : Nat, s.heap.size ≤ q → A q) {h0 : Nat} {wB : va_W} {fs : List Value} (hf : fs.length = 53) {H : Heap} {locs : List Loc} {ls : Array Slot} (hP : va_P (dC, dI) vwCl ([(h0, .inr (8, fs))] ++ wB) H) (hD : va_D A ([(h0, .inr (8, fs))] ++ wB)) (hS : va_S A s.heap H locs) (hl : lv_has ls 1 [(0, .ref h0)]) (kk : ∀ (q13 : Nat) (H : Heap) (locs : List Loc) (ls : Array Slot), (fs.set 33 (.ref q13)).length = 53 → va_P (dC, dI) vwCl ([(h0, .inr (8, (fs.set 33 (.ref q13))))] ++ ([(q13, .inl (cy 0, 6, .inl (fun _ => 0)))] ++ wB)) H → va_D A ([(h0, .inr (8, (fs.set 33 (.ref q13))))] ++ ([(q13, .inl (cy 0, 6, .inl (fun _ => 0)))] ++ wB)) → va_S A s.heap H locs → lv_has ls 1 [(0, .ref h0)] → W p l e ({ frames := 1, cells := 22, slots := 1400, locals := 40 } : Room) s m args below meth c H locs 13 1186 Q (F0 m 110 ls [])) : W p l e ({ frames := 1, cells := 22, slots := 1400, locals := 40 } : Room) s m args below meth c H locs 12 1180 Q (F0 m 102 ls []) := by
  refine lv_aload_n hx hb dX9_init_102 rfl (lv_at hl 0 rfl) ?_
  refine lv_bipush (v := 6) hx hb dX9_init_103 bp_6 ?_
  refine n_newi hx hb (hts _ (gt_of 150 (by decide +kernel) rfl)) hK hP hD hS hA (N' := 6) (by decide) (by decide) (Nat.le_of_ble_eq_true rfl) (Nat.le_of_ble_eq_true rfl) (Nat.le_of_ble_eq_true rfl) dX9_init_105 (fun q13 H hP hD hS => ?_)
  have hP := hP.rot
  have hD := hD.rot
  have hP : va_P (dC, dI) vwCl ([(h0, .inr (8, fs)), (q13, .inl (cy 0, 6, .inl (fun _ => 0)))] ++ wB) H := hP
  have hD : va_D A ([(h0, .inr (8, fs)), (q13, .inl (cy 0, 6, .inl (fun _ => 0)))] ++ wB) := hD
  refine W.widen (k := 13) (n := 1186) (Nat.le_of_ble_eq_true rfl) (Nat.le_of_ble_eq_true rfl) ?_
  refine va_putF (D := (dC, dI)) (ci := 8) (v := .ref q13) (ty := (.array .int)) (C := RX9) (T := TX9) (N := 53) hx hb hts gc_X9 tyX9 tyX9_ok nmX9 hown hK hP hD hS 0 rfl rfl 33 (by decide) (hts (.fieldLink RX9 50 "BeforeItGoesModel" "begunAt" "[I") (gt_of 994 (by decide +kernel) rfl)) (fun _ h9 => h9) rfl hin rfl (by decide +kernel) rfl rfl (by omega) dX9_init_107 (fun H locs hP hD hS => ?_)
  have hf : (fs.set 33 (.ref q13)).length = 53 := (List.length_set ..).trans hf
  have hP : va_P (dC, dI) vwCl ([(h0, .inr (8, (fs.set 33 (.ref q13)))), (q13, .inl (cy 0, 6, .inl (fun _ => 0)))] ++ wB) H := hP
  have hD : va_D A ([(h0, .inr (8, (fs.set 33 (.ref q13)))), (q13, .inl (cy 0, 6, .inl (fun _ => 0)))] ++ wB) := hD
  exact kk q13 _ _ _ hf hP hD hS hl
set_option maxHeartbeats 8000000 in
set_option maxRecDepth 20000 in
theorem p_X9_init_13 {p : Program} {l : Launch} {e : Env} {s : State} {m : MethodId} {args : Array Value} {below : List Frame} {meth : Method} {c : Code} {Q : State → Prop} {A : Nat → Prop} {dC : Nat → ClassId} {dI : Nat → Nat → Nat} {cy : Nat → ClassId} (hx : p.tables.exec = Jvm.exec) (hb : c.code = cX9_init) (hml : c.maxLocals = 1) (hts : ∀ w ∈ gt, w.before args s = true) (hown : s.vm.findClass RX9 = some m.cls) (hin : meth.name = "<init>") (hK : va_K (dC, dI) vwCl (tysO cy) s) (hNw : ∀ w ∈ nw, va_Nw w s) (hA : ∀ q : Nat, s.heap.size ≤ q → A q) {h0 : Nat} {wB : va_W} {fs : List Value} (hf : fs.length = 53) {H : Heap} {locs : List Loc} {ls : Array Slot} (hP : va_P (dC, dI) vwCl ([(h0, .inr (8, fs))] ++ wB) H) (hD : va_D A ([(h0, .inr (8, fs))] ++ wB)) (hS : va_S A s.heap H locs) (hl : lv_has ls 1 [(0, .ref h0)]) (kk : ∀ (q14 : Nat) (H : Heap) (locs : List Loc) (ls : Array Slot), (fs.set 34 (.ref q14)).length = 53 → va_P (dC, dI) vwCl ([(h0, .inr (8, (fs.set 34 (.ref q14))))] ++ ([(q14, .inl (cy 0, 6, .inl (fun _ => 0)))] ++ wB)) H → va_D A ([(h0, .inr (8, (fs.set 34 (.ref q14))))] ++ ([(q14, .inl (cy 0, 6, .inl (fun _ => 0)))] ++ wB)) → va_S A s.heap H locs → lv_has ls 1 [(0, .ref h0)] → W p l e ({ frames := 1, cells := 22, slots := 1400, locals := 40 } : Room) s m args below meth c H locs 14 1192 Q (F0 m 118 ls [])) : W p l e ({ frames := 1, cells := 22, slots := 1400, locals := 40 } : Room) s m args below meth c H locs 13 1186 Q (F0 m 110 ls []) := by
  refine lv_aload_n hx hb dX9_init_110 rfl (lv_at hl 0 rfl) ?_
  refine lv_bipush (v := 6) hx hb dX9_init_111 bp_6 ?_
  refine n_newi hx hb (hts _ (gt_of 150 (by decide +kernel) rfl)) hK hP hD hS hA (N' := 6) (by decide) (by decide) (Nat.le_of_ble_eq_true rfl) (Nat.le_of_ble_eq_true rfl) (Nat.le_of_ble_eq_true rfl) dX9_init_113 (fun q14 H hP hD hS => ?_)
  have hP := hP.rot
  have hD := hD.rot
  have hP : va_P (dC, dI) vwCl ([(h0, .inr (8, fs)), (q14, .inl (cy 0, 6, .inl (fun _ => 0)))] ++ wB) H := hP
  have hD : va_D A ([(h0, .inr (8, fs)), (q14, .inl (cy 0, 6, .inl (fun _ => 0)))] ++ wB) := hD
  refine W.widen (k := 14) (n := 1192) (Nat.le_of_ble_eq_true rfl) (Nat.le_of_ble_eq_true rfl) ?_
  refine va_putF (D := (dC, dI)) (ci := 8) (v := .ref q14) (ty := (.array .int)) (C := RX9) (T := TX9) (N := 53) hx hb hts gc_X9 tyX9 tyX9_ok nmX9 hown hK hP hD hS 0 rfl rfl 34 (by decide) (hts (.fieldLink RX9 53 "BeforeItGoesModel" "ripeAt" "[I") (gt_of 995 (by decide +kernel) rfl)) (fun _ h9 => h9) rfl hin rfl (by decide +kernel) rfl rfl (by omega) dX9_init_115 (fun H locs hP hD hS => ?_)
  have hf : (fs.set 34 (.ref q14)).length = 53 := (List.length_set ..).trans hf
  have hP : va_P (dC, dI) vwCl ([(h0, .inr (8, (fs.set 34 (.ref q14)))), (q14, .inl (cy 0, 6, .inl (fun _ => 0)))] ++ wB) H := hP
  have hD : va_D A ([(h0, .inr (8, (fs.set 34 (.ref q14)))), (q14, .inl (cy 0, 6, .inl (fun _ => 0)))] ++ wB) := hD
  exact kk q14 _ _ _ hf hP hD hS hl
set_option maxHeartbeats 8000000 in
set_option maxRecDepth 20000 in
theorem p_X9_init_14 {p : Program} {l : Launch} {e : Env} {s : State} {m : MethodId} {args : Array Value} {below : List Frame} {meth : Method} {c : Code} {Q : State → Prop} {A : Nat → Prop} {dC : Nat → ClassId} {dI : Nat → Nat → Nat} {cy : Nat → ClassId} (hx : p.tables.exec = Jvm.exec) (hb : c.code = cX9_init) (hml : c.maxLocals = 1) (hts : ∀ w ∈ gt, w.before args s = true) (hown : s.vm.findClass RX9 = some m.cls) (hin : meth.name = "<init>") (hK : va_K (dC, dI) vwCl (tysO cy) s) (hNw : ∀ w ∈ nw, va_Nw w s) (hA : ∀ q : Nat, s.heap.size ≤ q → A q) {h0 : Nat} {wB : va_W} {fs : List Value} (hf : fs.length = 53) {H : Heap} {locs : List Loc} {ls : Array Slot} (hP : va_P (dC, dI) vwCl ([(h0, .inr (8, fs))] ++ wB) H) (hD : va_D A ([(h0, .inr (8, fs))] ++ wB)) (hS : va_S A s.heap H locs) (hl : lv_has ls 1 [(0, .ref h0)]) (kk : ∀ (q15 : Nat) (H : Heap) (locs : List Loc) (ls : Array Slot), (fs.set 35 (.ref q15)).length = 53 → va_P (dC, dI) vwCl ([(h0, .inr (8, (fs.set 35 (.ref q15))))] ++ ([(q15, .inl (cy 0, 6, .inl (fun _ => 0)))] ++ wB)) H → va_D A ([(h0, .inr (8, (fs.set 35 (.ref q15))))] ++ ([(q15, .inl (cy 0, 6, .inl (fun _ => 0)))] ++ wB)) → va_S A s.heap H locs → lv_has ls 1 [(0, .ref h0)] → W p l e ({ frames := 1, cells := 22, slots := 1400, locals := 40 } : Room) s m args below meth c H locs 15 1198 Q (F0 m 126 ls [])) : W p l e ({ frames := 1, cells := 22, slots := 1400, locals := 40 } : Room) s m args below meth c H locs 14 1192 Q (F0 m 118 ls []) := by
  refine lv_aload_n hx hb dX9_init_118 rfl (lv_at hl 0 rfl) ?_
  refine lv_bipush (v := 6) hx hb dX9_init_119 bp_6 ?_
  refine n_newi hx hb (hts _ (gt_of 150 (by decide +kernel) rfl)) hK hP hD hS hA (N' := 6) (by decide) (by decide) (Nat.le_of_ble_eq_true rfl) (Nat.le_of_ble_eq_true rfl) (Nat.le_of_ble_eq_true rfl) dX9_init_121 (fun q15 H hP hD hS => ?_)
  have hP := hP.rot
  have hD := hD.rot
  have hP : va_P (dC, dI) vwCl ([(h0, .inr (8, fs)), (q15, .inl (cy 0, 6, .inl (fun _ => 0)))] ++ wB) H := hP
  have hD : va_D A ([(h0, .inr (8, fs)), (q15, .inl (cy 0, 6, .inl (fun _ => 0)))] ++ wB) := hD
  refine W.widen (k := 15) (n := 1198) (Nat.le_of_ble_eq_true rfl) (Nat.le_of_ble_eq_true rfl) ?_
  refine va_putF (D := (dC, dI)) (ci := 8) (v := .ref q15) (ty := (.array .int)) (C := RX9) (T := TX9) (N := 53) hx hb hts gc_X9 tyX9 tyX9_ok nmX9 hown hK hP hD hS 0 rfl rfl 35 (by decide) (hts (.fieldLink RX9 56 "BeforeItGoesModel" "doneAt" "[I") (gt_of 996 (by decide +kernel) rfl)) (fun _ h9 => h9) rfl hin rfl (by decide +kernel) rfl rfl (by omega) dX9_init_123 (fun H locs hP hD hS => ?_)
  have hf : (fs.set 35 (.ref q15)).length = 53 := (List.length_set ..).trans hf
  have hP : va_P (dC, dI) vwCl ([(h0, .inr (8, (fs.set 35 (.ref q15)))), (q15, .inl (cy 0, 6, .inl (fun _ => 0)))] ++ wB) H := hP
  have hD : va_D A ([(h0, .inr (8, (fs.set 35 (.ref q15)))), (q15, .inl (cy 0, 6, .inl (fun _ => 0)))] ++ wB) := hD
  exact kk q15 _ _ _ hf hP hD hS hl
set_option maxHeartbeats 8000000 in
set_option maxRecDepth 20000 in
theorem p_X9_init_15 {p : Program} {l : Launch} {e : Env} {s : State} {m : MethodId} {args : Array Value} {below : List Frame} {meth : Method} {c : Code} {Q : State → Prop} {A : Nat → Prop} {dC : Nat → ClassId} {dI : Nat → Nat → Nat} {cy : Nat → ClassId} (hx : p.tables.exec = Jvm.exec) (hb : c.code = cX9_init) (hml : c.maxLocals = 1) (hts : ∀ w ∈ gt, w.before args s = true) (hown : s.vm.findClass RX9 = some m.cls) (hin : meth.name = "<init>") (hK : va_K (dC, dI) vwCl (tysO cy) s) (hNw : ∀ w ∈ nw, va_Nw w s) (hA : ∀ q : Nat, s.heap.size ≤ q → A q) {h0 : Nat} {wB : va_W} {fs : List Value} (hf : fs.length = 53) {H : Heap} {locs : List Loc} {ls : Array Slot} (hP : va_P (dC, dI) vwCl ([(h0, .inr (8, fs))] ++ wB) H) (hD : va_D A ([(h0, .inr (8, fs))] ++ wB)) (hS : va_S A s.heap H locs) (hl : lv_has ls 1 [(0, .ref h0)]) (kk : ∀ (q16 : Nat) (H : Heap) (locs : List Loc) (ls : Array Slot), (fs.set 36 (.ref q16)).length = 53 → va_P (dC, dI) vwCl ([(h0, .inr (8, (fs.set 36 (.ref q16))))] ++ ([(q16, .inl (cy 0, 6, .inl (fun _ => 0)))] ++ wB)) H → va_D A ([(h0, .inr (8, (fs.set 36 (.ref q16))))] ++ ([(q16, .inl (cy 0, 6, .inl (fun _ => 0)))] ++ wB)) → va_S A s.heap H locs → lv_has ls 1 [(0, .ref h0)] → W p l e ({ frames := 1, cells := 22, slots := 1400, locals := 40 } : Room) s m args below meth c H locs 16 1204 Q (F0 m 134 ls [])) : W p l e ({ frames := 1, cells := 22, slots := 1400, locals := 40 } : Room) s m args below meth c H locs 15 1198 Q (F0 m 126 ls []) := by
  refine lv_aload_n hx hb dX9_init_126 rfl (lv_at hl 0 rfl) ?_
  refine lv_bipush (v := 6) hx hb dX9_init_127 bp_6 ?_
  refine n_newi hx hb (hts _ (gt_of 150 (by decide +kernel) rfl)) hK hP hD hS hA (N' := 6) (by decide) (by decide) (Nat.le_of_ble_eq_true rfl) (Nat.le_of_ble_eq_true rfl) (Nat.le_of_ble_eq_true rfl) dX9_init_129 (fun q16 H hP hD hS => ?_)
  have hP := hP.rot
  have hD := hD.rot
  have hP : va_P (dC, dI) vwCl ([(h0, .inr (8, fs)), (q16, .inl (cy 0, 6, .inl (fun _ => 0)))] ++ wB) H := hP
  have hD : va_D A ([(h0, .inr (8, fs)), (q16, .inl (cy 0, 6, .inl (fun _ => 0)))] ++ wB) := hD
  refine W.widen (k := 16) (n := 1204) (Nat.le_of_ble_eq_true rfl) (Nat.le_of_ble_eq_true rfl) ?_
  refine va_putF (D := (dC, dI)) (ci := 8) (v := .ref q16) (ty := (.array .int)) (C := RX9) (T := TX9) (N := 53) hx hb hts gc_X9 tyX9 tyX9_ok nmX9 hown hK hP hD hS 0 rfl rfl 36 (by decide) (hts (.fieldLink RX9 59 "BeforeItGoesModel" "offBy" "[I") (gt_of 997 (by decide +kernel) rfl)) (fun _ h9 => h9) rfl hin rfl (by decide +kernel) rfl rfl (by omega) dX9_init_131 (fun H locs hP hD hS => ?_)
  have hf : (fs.set 36 (.ref q16)).length = 53 := (List.length_set ..).trans hf
  have hP : va_P (dC, dI) vwCl ([(h0, .inr (8, (fs.set 36 (.ref q16)))), (q16, .inl (cy 0, 6, .inl (fun _ => 0)))] ++ wB) H := hP
  have hD : va_D A ([(h0, .inr (8, (fs.set 36 (.ref q16)))), (q16, .inl (cy 0, 6, .inl (fun _ => 0)))] ++ wB) := hD
  exact kk q16 _ _ _ hf hP hD hS hl
set_option maxHeartbeats 8000000 in
set_option maxRecDepth 20000 in
theorem p_X9_init_16 {p : Program} {l : Launch} {e : Env} {s : State} {m : MethodId} {args : Array Value} {below : List Frame} {meth : Method} {c : Code} {Q : State → Prop} {A : Nat → Prop} {dC : Nat → ClassId} {dI : Nat → Nat → Nat} {cy : Nat → ClassId} (hx : p.tables.exec = Jvm.exec) (hb : c.code = cX9_init) (hml : c.maxLocals = 1) (hts : ∀ w ∈ gt, w.before args s = true) (hown : s.vm.findClass RX9 = some m.cls) (hin : meth.name = "<init>") (hK : va_K (dC, dI) vwCl (tysO cy) s) (hNw : ∀ w ∈ nw, va_Nw w s) (hA : ∀ q : Nat, s.heap.size ≤ q → A q) {h0 : Nat} {wB : va_W} {fs : List Value} (hf : fs.length = 53) {H : Heap} {locs : List Loc} {ls : Array Slot} (hP : va_P (dC, dI) vwCl ([(h0, .inr (8, fs))] ++ wB) H) (hD : va_D A ([(h0, .inr (8, fs))] ++ wB)) (hS : va_S A s.heap H locs) (hl : lv_has ls 1 [(0, .ref h0)]) (kk : ∀ (q17 : Nat) (H : Heap) (locs : List Loc) (ls : Array Slot), (fs.set 45 (.ref q17)).length = 53 → va_P (dC, dI) vwCl ([(h0, .inr (8, (fs.set 45 (.ref q17))))] ++ ([(q17, .inl (cy 0, 6, .inl (fun _ => 0)))] ++ wB)) H → va_D A ([(h0, .inr (8, (fs.set 45 (.ref q17))))] ++ ([(q17, .inl (cy 0, 6, .inl (fun _ => 0)))] ++ wB)) → va_S A s.heap H locs → lv_has ls 1 [(0, .ref h0)] → W p l e ({ frames := 1, cells := 22, slots := 1400, locals := 40 } : Room) s m args below meth c H locs 17 1210 Q (F0 m 142 ls [])) : W p l e ({ frames := 1, cells := 22, slots := 1400, locals := 40 } : Room) s m args below meth c H locs 16 1204 Q (F0 m 134 ls []) := by
  refine lv_aload_n hx hb dX9_init_134 rfl (lv_at hl 0 rfl) ?_
  refine lv_bipush (v := 6) hx hb dX9_init_135 bp_6 ?_
  refine n_newi hx hb (hts _ (gt_of 150 (by decide +kernel) rfl)) hK hP hD hS hA (N' := 6) (by decide) (by decide) (Nat.le_of_ble_eq_true rfl) (Nat.le_of_ble_eq_true rfl) (Nat.le_of_ble_eq_true rfl) dX9_init_137 (fun q17 H hP hD hS => ?_)
  have hP := hP.rot
  have hD := hD.rot
  have hP : va_P (dC, dI) vwCl ([(h0, .inr (8, fs)), (q17, .inl (cy 0, 6, .inl (fun _ => 0)))] ++ wB) H := hP
  have hD : va_D A ([(h0, .inr (8, fs)), (q17, .inl (cy 0, 6, .inl (fun _ => 0)))] ++ wB) := hD
  refine W.widen (k := 17) (n := 1210) (Nat.le_of_ble_eq_true rfl) (Nat.le_of_ble_eq_true rfl) ?_
  refine va_putF (D := (dC, dI)) (ci := 8) (v := .ref q17) (ty := (.array .int)) (C := RX9) (T := TX9) (N := 53) hx hb hts gc_X9 tyX9 tyX9_ok nmX9 hown hK hP hD hS 0 rfl rfl 45 (by decide) (hts (.fieldLink RX9 62 "BeforeItGoesModel" "plasterKept" "[I") (gt_of 1006 (by decide +kernel) rfl)) (fun _ h9 => h9) rfl hin rfl (by decide +kernel) rfl rfl (by omega) dX9_init_139 (fun H locs hP hD hS => ?_)
  have hf : (fs.set 45 (.ref q17)).length = 53 := (List.length_set ..).trans hf
  have hP : va_P (dC, dI) vwCl ([(h0, .inr (8, (fs.set 45 (.ref q17)))), (q17, .inl (cy 0, 6, .inl (fun _ => 0)))] ++ wB) H := hP
  have hD : va_D A ([(h0, .inr (8, (fs.set 45 (.ref q17)))), (q17, .inl (cy 0, 6, .inl (fun _ => 0)))] ++ wB) := hD
  exact kk q17 _ _ _ hf hP hD hS hl
set_option maxHeartbeats 8000000 in
set_option maxRecDepth 20000 in
theorem p_X9_init_17 {p : Program} {l : Launch} {e : Env} {s : State} {m : MethodId} {args : Array Value} {below : List Frame} {meth : Method} {c : Code} {Q : State → Prop} {A : Nat → Prop} {dC : Nat → ClassId} {dI : Nat → Nat → Nat} {cy : Nat → ClassId} (hx : p.tables.exec = Jvm.exec) (hb : c.code = cX9_init) (hml : c.maxLocals = 1) (hts : ∀ w ∈ gt, w.before args s = true) (hown : s.vm.findClass RX9 = some m.cls) (hin : meth.name = "<init>") (hK : va_K (dC, dI) vwCl (tysO cy) s) (hNw : ∀ w ∈ nw, va_Nw w s) (hA : ∀ q : Nat, s.heap.size ≤ q → A q) {h0 : Nat} {wB : va_W} {fs : List Value} (hf : fs.length = 53) {H : Heap} {locs : List Loc} {ls : Array Slot} (hP : va_P (dC, dI) vwCl ([(h0, .inr (8, fs))] ++ wB) H) (hD : va_D A ([(h0, .inr (8, fs))] ++ wB)) (hS : va_S A s.heap H locs) (hl : lv_has ls 1 [(0, .ref h0)]) (kk : ∀ (q18 : Nat) (H : Heap) (locs : List Loc) (ls : Array Slot), (fs.set 46 (.ref q18)).length = 53 → va_P (dC, dI) vwCl ([(h0, .inr (8, (fs.set 46 (.ref q18))))] ++ ([(q18, .inl (cy 0, 18, .inl (fun _ => 0)))] ++ wB)) H → va_D A ([(h0, .inr (8, (fs.set 46 (.ref q18))))] ++ ([(q18, .inl (cy 0, 18, .inl (fun _ => 0)))] ++ wB)) → va_S A s.heap H locs → lv_has ls 1 [(0, .ref h0)] → W p l e ({ frames := 1, cells := 22, slots := 1400, locals := 40 } : Room) s m args below meth c H locs 18 1228 Q (F0 m 150 ls [])) : W p l e ({ frames := 1, cells := 22, slots := 1400, locals := 40 } : Room) s m args below meth c H locs 17 1210 Q (F0 m 142 ls []) := by
  refine lv_aload_n hx hb dX9_init_142 rfl (lv_at hl 0 rfl) ?_
  refine lv_bipush (v := 18) hx hb dX9_init_143 bp_18 ?_
  refine n_newi hx hb (hts _ (gt_of 150 (by decide +kernel) rfl)) hK hP hD hS hA (N' := 18) (by decide) (by decide) (Nat.le_of_ble_eq_true rfl) (Nat.le_of_ble_eq_true rfl) (Nat.le_of_ble_eq_true rfl) dX9_init_145 (fun q18 H hP hD hS => ?_)
  have hP := hP.rot
  have hD := hD.rot
  have hP : va_P (dC, dI) vwCl ([(h0, .inr (8, fs)), (q18, .inl (cy 0, 18, .inl (fun _ => 0)))] ++ wB) H := hP
  have hD : va_D A ([(h0, .inr (8, fs)), (q18, .inl (cy 0, 18, .inl (fun _ => 0)))] ++ wB) := hD
  refine W.widen (k := 18) (n := 1228) (Nat.le_of_ble_eq_true rfl) (Nat.le_of_ble_eq_true rfl) ?_
  refine va_putF (D := (dC, dI)) (ci := 8) (v := .ref q18) (ty := (.array .int)) (C := RX9) (T := TX9) (N := 53) hx hb hts gc_X9 tyX9 tyX9_ok nmX9 hown hK hP hD hS 0 rfl rfl 46 (by decide) (hts (.fieldLink RX9 65 "BeforeItGoesModel" "wallsKept" "[I") (gt_of 1007 (by decide +kernel) rfl)) (fun _ h9 => h9) rfl hin rfl (by decide +kernel) rfl rfl (by omega) dX9_init_147 (fun H locs hP hD hS => ?_)
  have hf : (fs.set 46 (.ref q18)).length = 53 := (List.length_set ..).trans hf
  have hP : va_P (dC, dI) vwCl ([(h0, .inr (8, (fs.set 46 (.ref q18)))), (q18, .inl (cy 0, 18, .inl (fun _ => 0)))] ++ wB) H := hP
  have hD : va_D A ([(h0, .inr (8, (fs.set 46 (.ref q18)))), (q18, .inl (cy 0, 18, .inl (fun _ => 0)))] ++ wB) := hD
  exact kk q18 _ _ _ hf hP hD hS hl
set_option maxHeartbeats 8000000 in
set_option maxRecDepth 20000 in
theorem p_X9_init_18 {p : Program} {l : Launch} {e : Env} {s : State} {m : MethodId} {args : Array Value} {below : List Frame} {meth : Method} {c : Code} {Q : State → Prop} {A : Nat → Prop} {dC : Nat → ClassId} {dI : Nat → Nat → Nat} {cy : Nat → ClassId} (hx : p.tables.exec = Jvm.exec) (hb : c.code = cX9_init) (hml : c.maxLocals = 1) (hts : ∀ w ∈ gt, w.before args s = true) (hown : s.vm.findClass RX9 = some m.cls) (hin : meth.name = "<init>") (hK : va_K (dC, dI) vwCl (tysO cy) s) (hNw : ∀ w ∈ nw, va_Nw w s) (hA : ∀ q : Nat, s.heap.size ≤ q → A q) {h0 : Nat} {wB : va_W} {fs : List Value} (hf : fs.length = 53) {H : Heap} {locs : List Loc} {ls : Array Slot} (hP : va_P (dC, dI) vwCl ([(h0, .inr (8, fs))] ++ wB) H) (hD : va_D A ([(h0, .inr (8, fs))] ++ wB)) (hS : va_S A s.heap H locs) (hl : lv_has ls 1 [(0, .ref h0)]) (kk : ∀ (H : Heap) (locs : List Loc) (ls : Array Slot), (fs.set 47 (.int (-1))).length = 53 → va_P (dC, dI) vwCl ([(h0, .inr (8, (fs.set 47 (.int (-1)))))] ++ ([] ++ wB)) H → va_D A ([(h0, .inr (8, (fs.set 47 (.int (-1)))))] ++ ([] ++ wB)) → va_S A s.heap H locs → lv_has ls 1 [(0, .ref h0)] → W p l e ({ frames := 1, cells := 22, slots := 1400, locals := 40 } : Room) s m args below meth c H locs 18 1228 Q (F0 m 155 ls [])) : W p l e ({ frames := 1, cells := 22, slots := 1400, locals := 40 } : Room) s m args below meth c H locs 18 1228 Q (F0 m 150 ls []) := by
  refine lv_aload_n hx hb dX9_init_150 rfl (lv_at hl 0 rfl) ?_
  refine lv_iconst (v := (-1)) hx hb dX9_init_151 ic_m1 ?_
  refine va_put (D := (dC, dI)) (ci := 8) (v := .int (-1)) (ty := .int) (C := RX9) (T := TX9) (N := 53) hx hb hts gc_X9 tyX9 tyX9_ok nmX9 hown hK hP hD hS 0 rfl rfl 47 (by decide) (hts (.fieldLink RX9 68 "BeforeItGoesModel" "manyKept" "I") (gt_of 1008 (by decide +kernel) rfl)) (fun _ h9 => h9) rfl (by decide +kernel) rfl rfl (by omega) dX9_init_152 (fun H locs hP hD hS => ?_)
  have hf : (fs.set 47 (.int (-1))).length = 53 := (List.length_set ..).trans hf
  have hP : va_P (dC, dI) vwCl ([(h0, .inr (8, (fs.set 47 (.int (-1)))))] ++ wB) H := hP
  have hD : va_D A ([(h0, .inr (8, (fs.set 47 (.int (-1)))))] ++ wB) := hD
  exact kk  _ _ _ hf hP hD hS hl
set_option maxHeartbeats 8000000 in
set_option maxRecDepth 20000 in
theorem p_X9_init_19 {p : Program} {l : Launch} {e : Env} {s : State} {m : MethodId} {args : Array Value} {below : List Frame} {meth : Method} {c : Code} {Q : State → Prop} {A : Nat → Prop} {dC : Nat → ClassId} {dI : Nat → Nat → Nat} {cy : Nat → ClassId} (hx : p.tables.exec = Jvm.exec) (hb : c.code = cX9_init) (hml : c.maxLocals = 1) (hts : ∀ w ∈ gt, w.before args s = true) (hown : s.vm.findClass RX9 = some m.cls) (hin : meth.name = "<init>") (hK : va_K (dC, dI) vwCl (tysO cy) s) (hNw : ∀ w ∈ nw, va_Nw w s) (hA : ∀ q : Nat, s.heap.size ≤ q → A q) {h0 : Nat} {wB : va_W} {fs : List Value} (hf : fs.length = 53) {H : Heap} {locs : List Loc} {ls : Array Slot} (hP : va_P (dC, dI) vwCl ([(h0, .inr (8, fs))] ++ wB) H) (hD : va_D A ([(h0, .inr (8, fs))] ++ wB)) (hS : va_S A s.heap H locs) (hl : lv_has ls 1 [(0, .ref h0)]) (kk : ∀ (q19 : Nat) (H : Heap) (locs : List Loc) (ls : Array Slot), (fs.set 49 (.ref q19)).length = 53 → va_P (dC, dI) vwCl ([(h0, .inr (8, (fs.set 49 (.ref q19))))] ++ ([(q19, .inl (cy 1, 4, .inl (fun _ => 0)))] ++ wB)) H → va_D A ([(h0, .inr (8, (fs.set 49 (.ref q19))))] ++ ([(q19, .inl (cy 1, 4, .inl (fun _ => 0)))] ++ wB)) → va_S A s.heap H locs → lv_has ls 1 [(0, .ref h0)] → W p l e ({ frames := 1, cells := 22, slots := 1400, locals := 40 } : Room) s m args below meth c H locs 19 1232 Q (F0 m 162 ls [])) : W p l e ({ frames := 1, cells := 22, slots := 1400, locals := 40 } : Room) s m args below meth c H locs 18 1228 Q (F0 m 155 ls []) := by
  refine lv_aload_n hx hb dX9_init_155 rfl (lv_at hl 0 rfl) ?_
  refine lv_iconst (v := 4) hx hb dX9_init_156 ic_4 ?_
  refine n_newz hx hb (hts _ (gt_of 1121 (by decide +kernel) rfl)) hK hP hD hS hA (N' := 4) (by decide) (by decide) (Nat.le_of_ble_eq_true rfl) (Nat.le_of_ble_eq_true rfl) (Nat.le_of_ble_eq_true rfl) dX9_init_157 (fun q19 H hP hD hS => ?_)
  have hP := hP.rot
  have hD := hD.rot
  have hP : va_P (dC, dI) vwCl ([(h0, .inr (8, fs)), (q19, .inl (cy 1, 4, .inl (fun _ => 0)))] ++ wB) H := hP
  have hD : va_D A ([(h0, .inr (8, fs)), (q19, .inl (cy 1, 4, .inl (fun _ => 0)))] ++ wB) := hD
  refine W.widen (k := 19) (n := 1232) (Nat.le_of_ble_eq_true rfl) (Nat.le_of_ble_eq_true rfl) ?_
  refine va_putF (D := (dC, dI)) (ci := 8) (v := .ref q19) (ty := (.array .boolean)) (C := RX9) (T := TX9) (N := 53) hx hb hts gc_X9 tyX9 tyX9_ok nmX9 hown hK hP hD hS 0 rfl rfl 49 (by decide) (hts (.fieldLink RX9 71 "BeforeItGoesModel" "isThere" "[Z") (gt_of 1010 (by decide +kernel) rfl)) (fun _ h9 => h9) rfl hin rfl (by decide +kernel) rfl rfl (by omega) dX9_init_159 (fun H locs hP hD hS => ?_)
  have hf : (fs.set 49 (.ref q19)).length = 53 := (List.length_set ..).trans hf
  have hP : va_P (dC, dI) vwCl ([(h0, .inr (8, (fs.set 49 (.ref q19)))), (q19, .inl (cy 1, 4, .inl (fun _ => 0)))] ++ wB) H := hP
  have hD : va_D A ([(h0, .inr (8, (fs.set 49 (.ref q19)))), (q19, .inl (cy 1, 4, .inl (fun _ => 0)))] ++ wB) := hD
  exact kk q19 _ _ _ hf hP hD hS hl
set_option maxHeartbeats 8000000 in
set_option maxRecDepth 20000 in
theorem p_X9_init_20 {p : Program} {l : Launch} {e : Env} {s : State} {m : MethodId} {args : Array Value} {below : List Frame} {meth : Method} {c : Code} {Q : State → Prop} {A : Nat → Prop} {dC : Nat → ClassId} {dI : Nat → Nat → Nat} {cy : Nat → ClassId} (hx : p.tables.exec = Jvm.exec) (hb : c.code = cX9_init) (hml : c.maxLocals = 1) (hts : ∀ w ∈ gt, w.before args s = true) (hown : s.vm.findClass RX9 = some m.cls) (hin : meth.name = "<init>") (hK : va_K (dC, dI) vwCl (tysO cy) s) (hNw : ∀ w ∈ nw, va_Nw w s) (hA : ∀ q : Nat, s.heap.size ≤ q → A q) {h0 : Nat} {wB : va_W} {fs : List Value} (hf : fs.length = 53) {H : Heap} {locs : List Loc} {ls : Array Slot} (hP : va_P (dC, dI) vwCl ([(h0, .inr (8, fs))] ++ wB) H) (hD : va_D A ([(h0, .inr (8, fs))] ++ wB)) (hS : va_S A s.heap H locs) (hl : lv_has ls 1 [(0, .ref h0)]) (kk : ∀ (q20 : Nat) (H : Heap) (locs : List Loc) (ls : Array Slot), (fs.set 50 (.ref q20)).length = 53 → va_P (dC, dI) vwCl ([(h0, .inr (8, (fs.set 50 (.ref q20))))] ++ ([(q20, .inl (cy 0, 4, .inl (fun _ => 0)))] ++ wB)) H → va_D A ([(h0, .inr (8, (fs.set 50 (.ref q20))))] ++ ([(q20, .inl (cy 0, 4, .inl (fun _ => 0)))] ++ wB)) → va_S A s.heap H locs → lv_has ls 1 [(0, .ref h0)] → W p l e ({ frames := 1, cells := 22, slots := 1400, locals := 40 } : Room) s m args below meth c H locs 20 1236 Q (F0 m 169 ls [])) : W p l e ({ frames := 1, cells := 22, slots := 1400, locals := 40 } : Room) s m args below meth c H locs 19 1232 Q (F0 m 162 ls []) := by
  refine lv_aload_n hx hb dX9_init_162 rfl (lv_at hl 0 rfl) ?_
  refine lv_iconst (v := 4) hx hb dX9_init_163 ic_4 ?_
  refine n_newi hx hb (hts _ (gt_of 150 (by decide +kernel) rfl)) hK hP hD hS hA (N' := 4) (by decide) (by decide) (Nat.le_of_ble_eq_true rfl) (Nat.le_of_ble_eq_true rfl) (Nat.le_of_ble_eq_true rfl) dX9_init_164 (fun q20 H hP hD hS => ?_)
  have hP := hP.rot
  have hD := hD.rot
  have hP : va_P (dC, dI) vwCl ([(h0, .inr (8, fs)), (q20, .inl (cy 0, 4, .inl (fun _ => 0)))] ++ wB) H := hP
  have hD : va_D A ([(h0, .inr (8, fs)), (q20, .inl (cy 0, 4, .inl (fun _ => 0)))] ++ wB) := hD
  refine W.widen (k := 20) (n := 1236) (Nat.le_of_ble_eq_true rfl) (Nat.le_of_ble_eq_true rfl) ?_
  refine va_putF (D := (dC, dI)) (ci := 8) (v := .ref q20) (ty := (.array .int)) (C := RX9) (T := TX9) (N := 53) hx hb hts gc_X9 tyX9 tyX9_ok nmX9 hown hK hP hD hS 0 rfl rfl 50 (by decide) (hts (.fieldLink RX9 75 "BeforeItGoesModel" "sorts" "[I") (gt_of 1011 (by decide +kernel) rfl)) (fun _ h9 => h9) rfl hin rfl (by decide +kernel) rfl rfl (by omega) dX9_init_166 (fun H locs hP hD hS => ?_)
  have hf : (fs.set 50 (.ref q20)).length = 53 := (List.length_set ..).trans hf
  have hP : va_P (dC, dI) vwCl ([(h0, .inr (8, (fs.set 50 (.ref q20)))), (q20, .inl (cy 0, 4, .inl (fun _ => 0)))] ++ wB) H := hP
  have hD : va_D A ([(h0, .inr (8, (fs.set 50 (.ref q20)))), (q20, .inl (cy 0, 4, .inl (fun _ => 0)))] ++ wB) := hD
  exact kk q20 _ _ _ hf hP hD hS hl
set_option maxHeartbeats 8000000 in
set_option maxRecDepth 20000 in
theorem p_X9_init_21 {p : Program} {l : Launch} {e : Env} {s : State} {m : MethodId} {args : Array Value} {below : List Frame} {meth : Method} {c : Code} {Q : State → Prop} {A : Nat → Prop} {dC : Nat → ClassId} {dI : Nat → Nat → Nat} {cy : Nat → ClassId} (hx : p.tables.exec = Jvm.exec) (hb : c.code = cX9_init) (hml : c.maxLocals = 1) (hts : ∀ w ∈ gt, w.before args s = true) (hown : s.vm.findClass RX9 = some m.cls) (hin : meth.name = "<init>") (hK : va_K (dC, dI) vwCl (tysO cy) s) (hNw : ∀ w ∈ nw, va_Nw w s) (hA : ∀ q : Nat, s.heap.size ≤ q → A q) {h0 : Nat} {wB : va_W} {fs : List Value} (hf : fs.length = 53) {H : Heap} {locs : List Loc} {ls : Array Slot} (hP : va_P (dC, dI) vwCl ([(h0, .inr (8, fs))] ++ wB) H) (hD : va_D A ([(h0, .inr (8, fs))] ++ wB)) (hS : va_S A s.heap H locs) (hl : lv_has ls 1 [(0, .ref h0)]) (kk : ∀ (q21 : Nat) (H : Heap) (locs : List Loc) (ls : Array Slot), (fs.set 51 (.ref q21)).length = 53 → va_P (dC, dI) vwCl ([(h0, .inr (8, (fs.set 51 (.ref q21))))] ++ ([(q21, .inl (cy 0, 4, .inl (fun _ => 0)))] ++ wB)) H → va_D A ([(h0, .inr (8, (fs.set 51 (.ref q21))))] ++ ([(q21, .inl (cy 0, 4, .inl (fun _ => 0)))] ++ wB)) → va_S A s.heap H locs → lv_has ls 1 [(0, .ref h0)] → W p l e ({ frames := 1, cells := 22, slots := 1400, locals := 40 } : Room) s m args below meth c H locs 21 1240 Q (F0 m 176 ls [])) : W p l e ({ frames := 1, cells := 22, slots := 1400, locals := 40 } : Room) s m args below meth c H locs 20 1236 Q (F0 m 169 ls []) := by
  refine lv_aload_n hx hb dX9_init_169 rfl (lv_at hl 0 rfl) ?_
  refine lv_iconst (v := 4) hx hb dX9_init_170 ic_4 ?_
  refine n_newi hx hb (hts _ (gt_of 150 (by decide +kernel) rfl)) hK hP hD hS hA (N' := 4) (by decide) (by decide) (Nat.le_of_ble_eq_true rfl) (Nat.le_of_ble_eq_true rfl) (Nat.le_of_ble_eq_true rfl) dX9_init_171 (fun q21 H hP hD hS => ?_)
  have hP := hP.rot
  have hD := hD.rot
  have hP : va_P (dC, dI) vwCl ([(h0, .inr (8, fs)), (q21, .inl (cy 0, 4, .inl (fun _ => 0)))] ++ wB) H := hP
  have hD : va_D A ([(h0, .inr (8, fs)), (q21, .inl (cy 0, 4, .inl (fun _ => 0)))] ++ wB) := hD
  refine W.widen (k := 21) (n := 1240) (Nat.le_of_ble_eq_true rfl) (Nat.le_of_ble_eq_true rfl) ?_
  refine va_putF (D := (dC, dI)) (ci := 8) (v := .ref q21) (ty := (.array .int)) (C := RX9) (T := TX9) (N := 53) hx hb hts gc_X9 tyX9 tyX9_ok nmX9 hown hK hP hD hS 0 rfl rfl 51 (by decide) (hts (.fieldLink RX9 78 "BeforeItGoesModel" "sheetSize" "[I") (gt_of 1012 (by decide +kernel) rfl)) (fun _ h9 => h9) rfl hin rfl (by decide +kernel) rfl rfl (by omega) dX9_init_173 (fun H locs hP hD hS => ?_)
  have hf : (fs.set 51 (.ref q21)).length = 53 := (List.length_set ..).trans hf
  have hP : va_P (dC, dI) vwCl ([(h0, .inr (8, (fs.set 51 (.ref q21)))), (q21, .inl (cy 0, 4, .inl (fun _ => 0)))] ++ wB) H := hP
  have hD : va_D A ([(h0, .inr (8, (fs.set 51 (.ref q21)))), (q21, .inl (cy 0, 4, .inl (fun _ => 0)))] ++ wB) := hD
  exact kk q21 _ _ _ hf hP hD hS hl
set_option maxHeartbeats 8000000 in
set_option maxRecDepth 20000 in
theorem p_X9_init_22 {p : Program} {l : Launch} {e : Env} {s : State} {m : MethodId} {args : Array Value} {below : List Frame} {meth : Method} {c : Code} {Q : State → Prop} {A : Nat → Prop} {dC : Nat → ClassId} {dI : Nat → Nat → Nat} {cy : Nat → ClassId} (hx : p.tables.exec = Jvm.exec) (hb : c.code = cX9_init) (hml : c.maxLocals = 1) (hts : ∀ w ∈ gt, w.before args s = true) (hown : s.vm.findClass RX9 = some m.cls) (hin : meth.name = "<init>") (hK : va_K (dC, dI) vwCl (tysO cy) s) (hNw : ∀ w ∈ nw, va_Nw w s) (hA : ∀ q : Nat, s.heap.size ≤ q → A q) {h0 : Nat} {wB : va_W} {fs : List Value} (hf : fs.length = 53) {H : Heap} {locs : List Loc} {ls : Array Slot} (hP : va_P (dC, dI) vwCl ([(h0, .inr (8, fs))] ++ wB) H) (hD : va_D A ([(h0, .inr (8, fs))] ++ wB)) (hS : va_S A s.heap H locs) (hl : lv_has ls 1 [(0, .ref h0)]) (kk : ∀ (q22 : Nat) (H : Heap) (locs : List Loc) (ls : Array Slot), (fs.set 52 (.ref q22)).length = 53 → va_P (dC, dI) vwCl ([(h0, .inr (8, (fs.set 52 (.ref q22))))] ++ ([(q22, .inl (cy 0, 160, .inl (fun _ => 0)))] ++ wB)) H → va_D A ([(h0, .inr (8, (fs.set 52 (.ref q22))))] ++ ([(q22, .inl (cy 0, 160, .inl (fun _ => 0)))] ++ wB)) → va_S A s.heap H locs → lv_has ls 1 [(0, .ref h0)] → W p l e ({ frames := 1, cells := 22, slots := 1400, locals := 40 } : Room) s m args below meth c H locs 22 1400 Q (F0 m 185 ls [])) : W p l e ({ frames := 1, cells := 22, slots := 1400, locals := 40 } : Room) s m args below meth c H locs 21 1240 Q (F0 m 176 ls []) := by
  refine lv_aload_n hx hb dX9_init_176 rfl (lv_at hl 0 rfl) ?_
  refine lv_sipush (v := 160) hx hb dX9_init_177 sp_160 ?_
  refine n_newi hx hb (hts _ (gt_of 150 (by decide +kernel) rfl)) hK hP hD hS hA (N' := 160) (by decide) (by decide) (Nat.le_of_ble_eq_true rfl) (Nat.le_of_ble_eq_true rfl) (Nat.le_of_ble_eq_true rfl) dX9_init_180 (fun q22 H hP hD hS => ?_)
  have hP := hP.rot
  have hD := hD.rot
  have hP : va_P (dC, dI) vwCl ([(h0, .inr (8, fs)), (q22, .inl (cy 0, 160, .inl (fun _ => 0)))] ++ wB) H := hP
  have hD : va_D A ([(h0, .inr (8, fs)), (q22, .inl (cy 0, 160, .inl (fun _ => 0)))] ++ wB) := hD
  refine W.widen (k := 22) (n := 1400) (Nat.le_of_ble_eq_true rfl) (Nat.le_of_ble_eq_true rfl) ?_
  refine va_putF (D := (dC, dI)) (ci := 8) (v := .ref q22) (ty := (.array .int)) (C := RX9) (T := TX9) (N := 53) hx hb hts gc_X9 tyX9 tyX9_ok nmX9 hown hK hP hD hS 0 rfl rfl 52 (by decide) (hts (.fieldLink RX9 81 "BeforeItGoesModel" "items" "[I") (gt_of 1013 (by decide +kernel) rfl)) (fun _ h9 => h9) rfl hin rfl (by decide +kernel) rfl rfl (by omega) dX9_init_182 (fun H locs hP hD hS => ?_)
  have hf : (fs.set 52 (.ref q22)).length = 53 := (List.length_set ..).trans hf
  have hP : va_P (dC, dI) vwCl ([(h0, .inr (8, (fs.set 52 (.ref q22)))), (q22, .inl (cy 0, 160, .inl (fun _ => 0)))] ++ wB) H := hP
  have hD : va_D A ([(h0, .inr (8, (fs.set 52 (.ref q22)))), (q22, .inl (cy 0, 160, .inl (fun _ => 0)))] ++ wB) := hD
  exact kk q22 _ _ _ hf hP hD hS hl
