theorem dX12_init_0 : decode cX12_init 0 = .ok (.aload_n 0, 1) := by decide +kernel
theorem dX12_init_1 : decode cX12_init 1 = .ok (.invokespecial 1, 3) := by decide +kernel
theorem dX12_init_4 : decode cX12_init 4 = .ok (.aload_n 0, 1) := by decide +kernel
theorem dX12_init_5 : decode cX12_init 5 = .ok (.sipush 500, 3) := by decide +kernel
theorem dX12_init_8 : decode cX12_init 8 = .ok (.newarray .int, 2) := by decide +kernel
theorem dX12_init_10 : decode cX12_init 10 = .ok (.putfield 7, 3) := by decide +kernel
theorem dX12_init_13 : decode cX12_init 13 = .ok (.aload_n 0, 1) := by decide +kernel
theorem dX12_init_14 : decode cX12_init 14 = .ok (.sipush 500, 3) := by decide +kernel
theorem dX12_init_17 : decode cX12_init 17 = .ok (.newarray .int, 2) := by decide +kernel
theorem dX12_init_19 : decode cX12_init 19 = .ok (.putfield 13, 3) := by decide +kernel
theorem dX12_init_22 : decode cX12_init 22 = .ok (.aload_n 0, 1) := by decide +kernel
theorem dX12_init_23 : decode cX12_init 23 = .ok (.sipush 500, 3) := by decide +kernel
theorem dX12_init_26 : decode cX12_init 26 = .ok (.newarray .int, 2) := by decide +kernel
theorem dX12_init_28 : decode cX12_init 28 = .ok (.putfield 16, 3) := by decide +kernel
theorem dX12_init_31 : decode cX12_init 31 = .ok (.aload_n 0, 1) := by decide +kernel
theorem dX12_init_32 : decode cX12_init 32 = .ok (.sipush 500, 3) := by decide +kernel
theorem dX12_init_35 : decode cX12_init 35 = .ok (.newarray .int, 2) := by decide +kernel
theorem dX12_init_37 : decode cX12_init 37 = .ok (.putfield 19, 3) := by decide +kernel
theorem dX12_init_40 : decode cX12_init 40 = .ok (.aload_n 0, 1) := by decide +kernel
theorem dX12_init_41 : decode cX12_init 41 = .ok (.sipush 500, 3) := by decide +kernel
theorem dX12_init_44 : decode cX12_init 44 = .ok (.newarray .int, 2) := by decide +kernel
theorem dX12_init_46 : decode cX12_init 46 = .ok (.putfield 22, 3) := by decide +kernel
theorem dX12_init_49 : decode cX12_init 49 = .ok (.aload_n 0, 1) := by decide +kernel
theorem dX12_init_50 : decode cX12_init 50 = .ok (.sipush 500, 3) := by decide +kernel
theorem dX12_init_53 : decode cX12_init 53 = .ok (.newarray .int, 2) := by decide +kernel
theorem dX12_init_55 : decode cX12_init 55 = .ok (.putfield 25, 3) := by decide +kernel
theorem dX12_init_58 : decode cX12_init 58 = .ok (.aload_n 0, 1) := by decide +kernel
theorem dX12_init_59 : decode cX12_init 59 = .ok (.sipush 500, 3) := by decide +kernel
theorem dX12_init_62 : decode cX12_init 62 = .ok (.newarray .int, 2) := by decide +kernel
theorem dX12_init_64 : decode cX12_init 64 = .ok (.putfield 28, 3) := by decide +kernel
theorem dX12_init_67 : decode cX12_init 67 = .ok (.aload_n 0, 1) := by decide +kernel
theorem dX12_init_68 : decode cX12_init 68 = .ok (.sipush 500, 3) := by decide +kernel
theorem dX12_init_71 : decode cX12_init 71 = .ok (.newarray .int, 2) := by decide +kernel
theorem dX12_init_73 : decode cX12_init 73 = .ok (.putfield 31, 3) := by decide +kernel
theorem dX12_init_76 : decode cX12_init 76 = .ok (.aload_n 0, 1) := by decide +kernel
theorem dX12_init_77 : decode cX12_init 77 = .ok (.sipush 500, 3) := by decide +kernel
theorem dX12_init_80 : decode cX12_init 80 = .ok (.newarray .boolean, 2) := by decide +kernel
theorem dX12_init_82 : decode cX12_init 82 = .ok (.putfield 34, 3) := by decide +kernel
theorem dX12_init_85 : decode cX12_init 85 = .ok (.aload_n 0, 1) := by decide +kernel
theorem dX12_init_86 : decode cX12_init 86 = .ok (.sipush 500, 3) := by decide +kernel
theorem dX12_init_89 : decode cX12_init 89 = .ok (.newarray .int, 2) := by decide +kernel
theorem dX12_init_91 : decode cX12_init 91 = .ok (.putfield 38, 3) := by decide +kernel
theorem dX12_init_94 : decode cX12_init 94 = .ok (.aload_n 0, 1) := by decide +kernel
theorem dX12_init_95 : decode cX12_init 95 = .ok (.sipush 5000, 3) := by decide +kernel
theorem dX12_init_98 : decode cX12_init 98 = .ok (.newarray .int, 2) := by decide +kernel
theorem dX12_init_100 : decode cX12_init 100 = .ok (.putfield 41, 3) := by decide +kernel
theorem dX12_init_103 : decode cX12_init 103 = .ok (.aload_n 0, 1) := by decide +kernel
theorem dX12_init_104 : decode cX12_init 104 = .ok (.sipush 5000, 3) := by decide +kernel
theorem dX12_init_107 : decode cX12_init 107 = .ok (.newarray .int, 2) := by decide +kernel
theorem dX12_init_109 : decode cX12_init 109 = .ok (.putfield 44, 3) := by decide +kernel
theorem dX12_init_112 : decode cX12_init 112 = .ok (.aload_n 0, 1) := by decide +kernel
theorem dX12_init_113 : decode cX12_init 113 = .ok (.sipush 30000, 3) := by decide +kernel
theorem dX12_init_116 : decode cX12_init 116 = .ok (.newarray .int, 2) := by decide +kernel
theorem dX12_init_118 : decode cX12_init 118 = .ok (.putfield 47, 3) := by decide +kernel
theorem dX12_init_121 : decode cX12_init 121 = .ok (.aload_n 0, 1) := by decide +kernel
theorem dX12_init_122 : decode cX12_init 122 = .ok (.sipush 500, 3) := by decide +kernel
theorem dX12_init_125 : decode cX12_init 125 = .ok (.newarray .int, 2) := by decide +kernel
theorem dX12_init_127 : decode cX12_init 127 = .ok (.putfield 50, 3) := by decide +kernel
theorem dX12_init_130 : decode cX12_init 130 = .ok (.aload_n 0, 1) := by decide +kernel
theorem dX12_init_131 : decode cX12_init 131 = .ok (.bipush 60, 2) := by decide +kernel
theorem dX12_init_133 : decode cX12_init 133 = .ok (.newarray .int, 2) := by decide +kernel
theorem dX12_init_135 : decode cX12_init 135 = .ok (.putfield 53, 3) := by decide +kernel
theorem dX12_init_138 : decode cX12_init 138 = .ok (.aload_n 0, 1) := by decide +kernel
theorem dX12_init_139 : decode cX12_init 139 = .ok (.sipush 2000, 3) := by decide +kernel
theorem dX12_init_142 : decode cX12_init 142 = .ok (.newarray .int, 2) := by decide +kernel
theorem dX12_init_144 : decode cX12_init 144 = .ok (.putfield 56, 3) := by decide +kernel
theorem dX12_init_147 : decode cX12_init 147 = .ok (.aload_n 0, 1) := by decide +kernel
theorem dX12_init_148 : decode cX12_init 148 = .ok (.sipush 2000, 3) := by decide +kernel
theorem dX12_init_151 : decode cX12_init 151 = .ok (.newarray .int, 2) := by decide +kernel
theorem dX12_init_153 : decode cX12_init 153 = .ok (.putfield 59, 3) := by decide +kernel
theorem dX12_init_156 : decode cX12_init 156 = .ok (.aload_n 0, 1) := by decide +kernel
theorem dX12_init_157 : decode cX12_init 157 = .ok (.sipush 500, 3) := by decide +kernel
theorem dX12_init_160 : decode cX12_init 160 = .ok (.newarray .int, 2) := by decide +kernel
theorem dX12_init_162 : decode cX12_init 162 = .ok (.putfield 62, 3) := by decide +kernel
theorem dX12_init_165 : decode cX12_init 165 = .ok (.aload_n 0, 1) := by decide +kernel
theorem dX12_init_166 : decode cX12_init 166 = .ok (.sipush 500, 3) := by decide +kernel
theorem dX12_init_169 : decode cX12_init 169 = .ok (.newarray .int, 2) := by decide +kernel
theorem dX12_init_171 : decode cX12_init 171 = .ok (.putfield 65, 3) := by decide +kernel
theorem dX12_init_174 : decode cX12_init 174 = .ok (.aload_n 0, 1) := by decide +kernel
theorem dX12_init_175 : decode cX12_init 175 = .ok (.sipush 500, 3) := by decide +kernel
theorem dX12_init_178 : decode cX12_init 178 = .ok (.newarray .int, 2) := by decide +kernel
theorem dX12_init_180 : decode cX12_init 180 = .ok (.putfield 68, 3) := by decide +kernel
theorem dX12_init_183 : decode cX12_init 183 = .ok (.aload_n 0, 1) := by decide +kernel
theorem dX12_init_184 : decode cX12_init 184 = .ok (.sipush 500, 3) := by decide +kernel
theorem dX12_init_187 : decode cX12_init 187 = .ok (.newarray .int, 2) := by decide +kernel
theorem dX12_init_189 : decode cX12_init 189 = .ok (.putfield 71, 3) := by decide +kernel
theorem dX12_init_192 : decode cX12_init 192 = .ok (.aload_n 0, 1) := by decide +kernel
theorem dX12_init_193 : decode cX12_init 193 = .ok (.sipush 12000, 3) := by decide +kernel
theorem dX12_init_196 : decode cX12_init 196 = .ok (.newarray .int, 2) := by decide +kernel
theorem dX12_init_198 : decode cX12_init 198 = .ok (.putfield 74, 3) := by decide +kernel
theorem dX12_init_201 : decode cX12_init 201 = .ok (.aload_n 0, 1) := by decide +kernel
theorem dX12_init_202 : decode cX12_init 202 = .ok (.bipush 6, 2) := by decide +kernel
theorem dX12_init_204 : decode cX12_init 204 = .ok (.newarray .boolean, 2) := by decide +kernel
theorem dX12_init_206 : decode cX12_init 206 = .ok (.putfield 77, 3) := by decide +kernel
theorem dX12_init_209 : decode cX12_init 209 = .ok (.aload_n 0, 1) := by decide +kernel
theorem dX12_init_210 : decode cX12_init 210 = .ok (.bipush 6, 2) := by decide +kernel
theorem dX12_init_212 : decode cX12_init 212 = .ok (.newarray .int, 2) := by decide +kernel
theorem dX12_init_214 : decode cX12_init 214 = .ok (.putfield 80, 3) := by decide +kernel
theorem dX12_init_217 : decode cX12_init 217 = .ok (.aload_n 0, 1) := by decide +kernel
theorem dX12_init_218 : decode cX12_init 218 = .ok (.bipush 6, 2) := by decide +kernel
theorem dX12_init_220 : decode cX12_init 220 = .ok (.newarray .int, 2) := by decide +kernel
theorem dX12_init_222 : decode cX12_init 222 = .ok (.putfield 83, 3) := by decide +kernel
theorem dX12_init_225 : decode cX12_init 225 = .ok (.aload_n 0, 1) := by decide +kernel
theorem dX12_init_226 : decode cX12_init 226 = .ok (.ldc 86, 2) := by decide +kernel
theorem dX12_init_228 : decode cX12_init 228 = .ok (.newarray .byte, 2) := by decide +kernel
theorem dX12_init_230 : decode cX12_init 230 = .ok (.putfield 87, 3) := by decide +kernel
theorem dX12_init_233 : decode cX12_init 233 = .ok (.aload_n 0, 1) := by decide +kernel
theorem dX12_init_234 : decode cX12_init 234 = .ok (.bipush 21, 2) := by decide +kernel
theorem dX12_init_236 : decode cX12_init 236 = .ok (.newarray .int, 2) := by decide +kernel
theorem dX12_init_238 : decode cX12_init 238 = .ok (.putfield 91, 3) := by decide +kernel
theorem dX12_init_241 : decode cX12_init 241 = .ok (.aload_n 0, 1) := by decide +kernel
theorem dX12_init_242 : decode cX12_init 242 = .ok (.bipush 21, 2) := by decide +kernel
theorem dX12_init_244 : decode cX12_init 244 = .ok (.newarray .int, 2) := by decide +kernel
theorem dX12_init_246 : decode cX12_init 246 = .ok (.putfield 94, 3) := by decide +kernel
theorem dX12_init_249 : decode cX12_init 249 = .ok (.aload_n 0, 1) := by decide +kernel
theorem dX12_init_250 : decode cX12_init 250 = .ok (.bipush 42, 2) := by decide +kernel
theorem dX12_init_252 : decode cX12_init 252 = .ok (.newarray .int, 2) := by decide +kernel
theorem dX12_init_254 : decode cX12_init 254 = .ok (.putfield 97, 3) := by decide +kernel
theorem dX12_init_257 : decode cX12_init 257 = .ok (.aload_n 0, 1) := by decide +kernel
theorem dX12_init_258 : decode cX12_init 258 = .ok (.bipush 64, 2) := by decide +kernel
theorem dX12_init_260 : decode cX12_init 260 = .ok (.newarray .byte, 2) := by decide +kernel
theorem dX12_init_262 : decode cX12_init 262 = .ok (.putfield 100, 3) := by decide +kernel
theorem dX12_init_265 : decode cX12_init 265 = .ok (.aload_n 0, 1) := by decide +kernel
theorem dX12_init_266 : decode cX12_init 266 = .ok (.sipush 6400, 3) := by decide +kernel
theorem dX12_init_269 : decode cX12_init 269 = .ok (.newarray .byte, 2) := by decide +kernel
theorem dX12_init_271 : decode cX12_init 271 = .ok (.putfield 103, 3) := by decide +kernel
theorem dX12_init_274 : decode cX12_init 274 = .ok (.aload_n 0, 1) := by decide +kernel
theorem dX12_init_275 : decode cX12_init 275 = .ok (.sipush 300, 3) := by decide +kernel
theorem dX12_init_278 : decode cX12_init 278 = .ok (.newarray .byte, 2) := by decide +kernel
theorem dX12_init_280 : decode cX12_init 280 = .ok (.putfield 106, 3) := by decide +kernel
theorem dX12_init_283 : decode cX12_init 283 = .ok (.aload_n 0, 1) := by decide +kernel
theorem dX12_init_284 : decode cX12_init 284 = .ok (.ldc 109, 2) := by decide +kernel
theorem dX12_init_286 : decode cX12_init 286 = .ok (.newarray .int, 2) := by decide +kernel
theorem dX12_init_288 : decode cX12_init 288 = .ok (.putfield 110, 3) := by decide +kernel
theorem dX12_init_291 : decode cX12_init 291 = .ok (.aload_n 0, 1) := by decide +kernel
theorem dX12_init_292 : decode cX12_init 292 = .ok (.ldc 109, 2) := by decide +kernel
theorem dX12_init_294 : decode cX12_init 294 = .ok (.newarray .int, 2) := by decide +kernel
theorem dX12_init_296 : decode cX12_init 296 = .ok (.putfield 113, 3) := by decide +kernel
theorem dX12_init_299 : decode cX12_init 299 = .ok (.aload_n 0, 1) := by decide +kernel
theorem dX12_init_300 : decode cX12_init 300 = .ok (.ldc 109, 2) := by decide +kernel
theorem dX12_init_302 : decode cX12_init 302 = .ok (.newarray .int, 2) := by decide +kernel
theorem dX12_init_304 : decode cX12_init 304 = .ok (.putfield 116, 3) := by decide +kernel
theorem dX12_init_307 : decode cX12_init 307 = .ok (.aload_n 0, 1) := by decide +kernel
theorem dX12_init_308 : decode cX12_init 308 = .ok (.ldc 109, 2) := by decide +kernel
theorem dX12_init_310 : decode cX12_init 310 = .ok (.newarray .int, 2) := by decide +kernel
theorem dX12_init_312 : decode cX12_init 312 = .ok (.putfield 119, 3) := by decide +kernel
theorem dX12_init_315 : decode cX12_init 315 = .ok (.aload_n 0, 1) := by decide +kernel
theorem dX12_init_316 : decode cX12_init 316 = .ok (.ldc 109, 2) := by decide +kernel
theorem dX12_init_318 : decode cX12_init 318 = .ok (.newarray .int, 2) := by decide +kernel
theorem dX12_init_320 : decode cX12_init 320 = .ok (.putfield 122, 3) := by decide +kernel
theorem dX12_init_323 : decode cX12_init 323 = .ok (.aload_n 0, 1) := by decide +kernel
theorem dX12_init_324 : decode cX12_init 324 = .ok (.bipush 20, 2) := by decide +kernel
theorem dX12_init_326 : decode cX12_init 326 = .ok (.newarray .int, 2) := by decide +kernel
theorem dX12_init_328 : decode cX12_init 328 = .ok (.putfield 125, 3) := by decide +kernel
theorem dX12_init_331 : decode cX12_init 331 = .ok (.aload_n 0, 1) := by decide +kernel
theorem dX12_init_332 : decode cX12_init 332 = .ok (.bipush 20, 2) := by decide +kernel
theorem dX12_init_334 : decode cX12_init 334 = .ok (.newarray .int, 2) := by decide +kernel
theorem dX12_init_336 : decode cX12_init 336 = .ok (.putfield 128, 3) := by decide +kernel
theorem dX12_init_339 : decode cX12_init 339 = .ok (.aload_n 0, 1) := by decide +kernel
theorem dX12_init_340 : decode cX12_init 340 = .ok (.bipush 20, 2) := by decide +kernel
theorem dX12_init_342 : decode cX12_init 342 = .ok (.newarray .int, 2) := by decide +kernel
theorem dX12_init_344 : decode cX12_init 344 = .ok (.putfield 131, 3) := by decide +kernel
theorem dX12_init_347 : decode cX12_init 347 = .ok (.aload_n 0, 1) := by decide +kernel
theorem dX12_init_348 : decode cX12_init 348 = .ok (.bipush 20, 2) := by decide +kernel
theorem dX12_init_350 : decode cX12_init 350 = .ok (.newarray .int, 2) := by decide +kernel
theorem dX12_init_352 : decode cX12_init 352 = .ok (.putfield 134, 3) := by decide +kernel
theorem dX12_init_355 : decode cX12_init 355 = .ok (.aload_n 0, 1) := by decide +kernel
theorem dX12_init_356 : decode cX12_init 356 = .ok (.bipush 20, 2) := by decide +kernel
theorem dX12_init_358 : decode cX12_init 358 = .ok (.newarray .int, 2) := by decide +kernel
theorem dX12_init_360 : decode cX12_init 360 = .ok (.putfield 137, 3) := by decide +kernel
theorem dX12_init_363 : decode cX12_init 363 = .ok (.aload_n 0, 1) := by decide +kernel
theorem dX12_init_364 : decode cX12_init 364 = .ok (.bipush 20, 2) := by decide +kernel
theorem dX12_init_366 : decode cX12_init 366 = .ok (.newarray .int, 2) := by decide +kernel
theorem dX12_init_368 : decode cX12_init 368 = .ok (.putfield 140, 3) := by decide +kernel
theorem dX12_init_371 : decode cX12_init 371 = .ok (.aload_n 0, 1) := by decide +kernel
theorem dX12_init_372 : decode cX12_init 372 = .ok (.bipush 20, 2) := by decide +kernel
theorem dX12_init_374 : decode cX12_init 374 = .ok (.newarray .int, 2) := by decide +kernel
theorem dX12_init_376 : decode cX12_init 376 = .ok (.putfield 143, 3) := by decide +kernel
theorem dX12_init_379 : decode cX12_init 379 = .ok (.aload_n 0, 1) := by decide +kernel
theorem dX12_init_380 : decode cX12_init 380 = .ok (.sipush 14000, 3) := by decide +kernel
theorem dX12_init_383 : decode cX12_init 383 = .ok (.newarray .int, 2) := by decide +kernel
theorem dX12_init_385 : decode cX12_init 385 = .ok (.putfield 146, 3) := by decide +kernel
theorem dX12_init_388 : decode cX12_init 388 = .ok (.aload_n 0, 1) := by decide +kernel
theorem dX12_init_389 : decode cX12_init 389 = .ok (.bipush 20, 2) := by decide +kernel
theorem dX12_init_391 : decode cX12_init 391 = .ok (.newarray .int, 2) := by decide +kernel
theorem dX12_init_393 : decode cX12_init 393 = .ok (.putfield 149, 3) := by decide +kernel
theorem dX12_init_396 : decode cX12_init 396 = .ok (.aload_n 0, 1) := by decide +kernel
theorem dX12_init_397 : decode cX12_init 397 = .ok (.sipush 400, 3) := by decide +kernel
theorem dX12_init_400 : decode cX12_init 400 = .ok (.newarray .int, 2) := by decide +kernel
theorem dX12_init_402 : decode cX12_init 402 = .ok (.putfield 152, 3) := by decide +kernel
theorem dX12_init_405 : decode cX12_init 405 = .ok (.aload_n 0, 1) := by decide +kernel
theorem dX12_init_406 : decode cX12_init 406 = .ok (.sipush 400, 3) := by decide +kernel
theorem dX12_init_409 : decode cX12_init 409 = .ok (.newarray .int, 2) := by decide +kernel
theorem dX12_init_411 : decode cX12_init 411 = .ok (.putfield 155, 3) := by decide +kernel
theorem dX12_init_414 : decode cX12_init 414 = .ok (.aload_n 0, 1) := by decide +kernel
theorem dX12_init_415 : decode cX12_init 415 = .ok (.bipush 100, 2) := by decide +kernel
theorem dX12_init_417 : decode cX12_init 417 = .ok (.newarray .int, 2) := by decide +kernel
theorem dX12_init_419 : decode cX12_init 419 = .ok (.putfield 158, 3) := by decide +kernel
theorem dX12_init_422 : decode cX12_init 422 = .ok (.aload_n 0, 1) := by decide +kernel
theorem dX12_init_423 : decode cX12_init 423 = .ok (.bipush 100, 2) := by decide +kernel
theorem dX12_init_425 : decode cX12_init 425 = .ok (.newarray .int, 2) := by decide +kernel
theorem dX12_init_427 : decode cX12_init 427 = .ok (.putfield 161, 3) := by decide +kernel
theorem dX12_init_430 : decode cX12_init 430 = .ok (.aload_n 0, 1) := by decide +kernel
theorem dX12_init_431 : decode cX12_init 431 = .ok (.bipush 100, 2) := by decide +kernel
theorem dX12_init_433 : decode cX12_init 433 = .ok (.newarray .int, 2) := by decide +kernel
theorem dX12_init_435 : decode cX12_init 435 = .ok (.putfield 164, 3) := by decide +kernel
theorem dX12_init_438 : decode cX12_init 438 = .ok (.aload_n 0, 1) := by decide +kernel
theorem dX12_init_439 : decode cX12_init 439 = .ok (.bipush 100, 2) := by decide +kernel
theorem dX12_init_441 : decode cX12_init 441 = .ok (.newarray .int, 2) := by decide +kernel
theorem dX12_init_443 : decode cX12_init 443 = .ok (.putfield 167, 3) := by decide +kernel
theorem dX12_init_446 : decode cX12_init 446 = .ok (.aload_n 0, 1) := by decide +kernel
theorem dX12_init_447 : decode cX12_init 447 = .ok (.bipush 100, 2) := by decide +kernel
theorem dX12_init_449 : decode cX12_init 449 = .ok (.newarray .int, 2) := by decide +kernel
theorem dX12_init_451 : decode cX12_init 451 = .ok (.putfield 170, 3) := by decide +kernel
theorem dX12_init_454 : decode cX12_init 454 = .ok (.aload_n 0, 1) := by decide +kernel
theorem dX12_init_455 : decode cX12_init 455 = .ok (.bipush 100, 2) := by decide +kernel
theorem dX12_init_457 : decode cX12_init 457 = .ok (.newarray .int, 2) := by decide +kernel
theorem dX12_init_459 : decode cX12_init 459 = .ok (.putfield 173, 3) := by decide +kernel
theorem dX12_init_462 : decode cX12_init 462 = .ok (.aload_n 0, 1) := by decide +kernel
theorem dX12_init_463 : decode cX12_init 463 = .ok (.bipush 24, 2) := by decide +kernel
theorem dX12_init_465 : decode cX12_init 465 = .ok (.newarray .int, 2) := by decide +kernel
theorem dX12_init_467 : decode cX12_init 467 = .ok (.putfield 176, 3) := by decide +kernel
theorem dX12_init_470 : decode cX12_init 470 = .ok (.aload_n 0, 1) := by decide +kernel
theorem dX12_init_471 : decode cX12_init 471 = .ok (.bipush 24, 2) := by decide +kernel
theorem dX12_init_473 : decode cX12_init 473 = .ok (.newarray .int, 2) := by decide +kernel
theorem dX12_init_475 : decode cX12_init 475 = .ok (.putfield 179, 3) := by decide +kernel
theorem dX12_init_478 : decode cX12_init 478 = .ok (.aload_n 0, 1) := by decide +kernel
theorem dX12_init_479 : decode cX12_init 479 = .ok (.bipush 24, 2) := by decide +kernel
theorem dX12_init_481 : decode cX12_init 481 = .ok (.newarray .int, 2) := by decide +kernel
theorem dX12_init_483 : decode cX12_init 483 = .ok (.putfield 182, 3) := by decide +kernel
theorem dX12_init_486 : decode cX12_init 486 = .ok (.aload_n 0, 1) := by decide +kernel
theorem dX12_init_487 : decode cX12_init 487 = .ok (.bipush 24, 2) := by decide +kernel
theorem dX12_init_489 : decode cX12_init 489 = .ok (.newarray .int, 2) := by decide +kernel
theorem dX12_init_491 : decode cX12_init 491 = .ok (.putfield 185, 3) := by decide +kernel
theorem dX12_init_494 : decode cX12_init 494 = .ok (.aload_n 0, 1) := by decide +kernel
theorem dX12_init_495 : decode cX12_init 495 = .ok (.iconst 5, 1) := by decide +kernel
theorem dX12_init_496 : decode cX12_init 496 = .ok (.newarray .boolean, 2) := by decide +kernel
theorem dX12_init_498 : decode cX12_init 498 = .ok (.putfield 188, 3) := by decide +kernel
theorem dX12_init_501 : decode cX12_init 501 = .ok (.aload_n 0, 1) := by decide +kernel
theorem dX12_init_502 : decode cX12_init 502 = .ok (.iconst 5, 1) := by decide +kernel
theorem dX12_init_503 : decode cX12_init 503 = .ok (.newarray .int, 2) := by decide +kernel
theorem dX12_init_505 : decode cX12_init 505 = .ok (.putfield 191, 3) := by decide +kernel
theorem dX12_init_508 : decode cX12_init 508 = .ok (.aload_n 0, 1) := by decide +kernel
theorem dX12_init_509 : decode cX12_init 509 = .ok (.bipush 20, 2) := by decide +kernel
theorem dX12_init_511 : decode cX12_init 511 = .ok (.newarray .int, 2) := by decide +kernel
theorem dX12_init_513 : decode cX12_init 513 = .ok (.putfield 194, 3) := by decide +kernel
theorem dX12_init_516 : decode cX12_init 516 = .ok (.aload_n 0, 1) := by decide +kernel
theorem dX12_init_517 : decode cX12_init 517 = .ok (.bipush 100, 2) := by decide +kernel
theorem dX12_init_519 : decode cX12_init 519 = .ok (.newarray .int, 2) := by decide +kernel
theorem dX12_init_521 : decode cX12_init 521 = .ok (.putfield 197, 3) := by decide +kernel
theorem dX12_init_524 : decode cX12_init 524 = .ok (.aload_n 0, 1) := by decide +kernel
theorem dX12_init_525 : decode cX12_init 525 = .ok (.sipush 10000, 3) := by decide +kernel
theorem dX12_init_528 : decode cX12_init 528 = .ok (.newarray .int, 2) := by decide +kernel
theorem dX12_init_530 : decode cX12_init 530 = .ok (.putfield 200, 3) := by decide +kernel
theorem dX12_init_533 : decode cX12_init 533 = .ok (.aload_n 0, 1) := by decide +kernel
theorem dX12_init_534 : decode cX12_init 534 = .ok (.sipush 10000, 3) := by decide +kernel
theorem dX12_init_537 : decode cX12_init 537 = .ok (.newarray .int, 2) := by decide +kernel
theorem dX12_init_539 : decode cX12_init 539 = .ok (.putfield 203, 3) := by decide +kernel
theorem dX12_init_542 : decode cX12_init 542 = .ok (.aload_n 0, 1) := by decide +kernel
theorem dX12_init_543 : decode cX12_init 543 = .ok (.sipush 10000, 3) := by decide +kernel
theorem dX12_init_546 : decode cX12_init 546 = .ok (.newarray .boolean, 2) := by decide +kernel
theorem dX12_init_548 : decode cX12_init 548 = .ok (.putfield 206, 3) := by decide +kernel
theorem dX12_init_551 : decode cX12_init 551 = .ok (.aload_n 0, 1) := by decide +kernel
theorem dX12_init_552 : decode cX12_init 552 = .ok (.bipush 36, 2) := by decide +kernel
theorem dX12_init_554 : decode cX12_init 554 = .ok (.newarray .int, 2) := by decide +kernel
theorem dX12_init_556 : decode cX12_init 556 = .ok (.putfield 209, 3) := by decide +kernel
theorem dX12_init_559 : decode cX12_init 559 = .ok (.aload_n 0, 1) := by decide +kernel
theorem dX12_init_560 : decode cX12_init 560 = .ok (.bipush 36, 2) := by decide +kernel
theorem dX12_init_562 : decode cX12_init 562 = .ok (.newarray .int, 2) := by decide +kernel
theorem dX12_init_564 : decode cX12_init 564 = .ok (.putfield 212, 3) := by decide +kernel
theorem dX12_init_567 : decode cX12_init 567 = .ok (.aload_n 0, 1) := by decide +kernel
theorem dX12_init_568 : decode cX12_init 568 = .ok (.ldc 215, 2) := by decide +kernel
theorem dX12_init_570 : decode cX12_init 570 = .ok (.newarray .int, 2) := by decide +kernel
theorem dX12_init_572 : decode cX12_init 572 = .ok (.putfield 216, 3) := by decide +kernel
theorem dX12_init_575 : decode cX12_init 575 = .ok (.aload_n 0, 1) := by decide +kernel
theorem dX12_init_576 : decode cX12_init 576 = .ok (.bipush 34, 2) := by decide +kernel
theorem dX12_init_578 : decode cX12_init 578 = .ok (.newarray .int, 2) := by decide +kernel
theorem dX12_init_580 : decode cX12_init 580 = .ok (.putfield 219, 3) := by decide +kernel
theorem dX12_init_583 : decode cX12_init 583 = .ok (.aload_n 0, 1) := by decide +kernel
theorem dX12_init_584 : decode cX12_init 584 = .ok (.bipush 34, 2) := by decide +kernel
theorem dX12_init_586 : decode cX12_init 586 = .ok (.newarray .int, 2) := by decide +kernel
theorem dX12_init_588 : decode cX12_init 588 = .ok (.putfield 222, 3) := by decide +kernel
theorem dX12_init_591 : decode cX12_init 591 = .ok (.aload_n 0, 1) := by decide +kernel
theorem dX12_init_592 : decode cX12_init 592 = .ok (.bipush 40, 2) := by decide +kernel
theorem dX12_init_594 : decode cX12_init 594 = .ok (.newarray .boolean, 2) := by decide +kernel
theorem dX12_init_596 : decode cX12_init 596 = .ok (.putfield 225, 3) := by decide +kernel
theorem dX12_init_599 : decode cX12_init 599 = .ok (.aload_n 0, 1) := by decide +kernel
theorem dX12_init_600 : decode cX12_init 600 = .ok (.bipush 40, 2) := by decide +kernel
theorem dX12_init_602 : decode cX12_init 602 = .ok (.newarray .int, 2) := by decide +kernel
theorem dX12_init_604 : decode cX12_init 604 = .ok (.putfield 228, 3) := by decide +kernel
theorem dX12_init_607 : decode cX12_init 607 = .ok (.aload_n 0, 1) := by decide +kernel
theorem dX12_init_608 : decode cX12_init 608 = .ok (.bipush 40, 2) := by decide +kernel
theorem dX12_init_610 : decode cX12_init 610 = .ok (.newarray .int, 2) := by decide +kernel
theorem dX12_init_612 : decode cX12_init 612 = .ok (.putfield 231, 3) := by decide +kernel
theorem dX12_init_615 : decode cX12_init 615 = .ok (.aload_n 0, 1) := by decide +kernel
theorem dX12_init_616 : decode cX12_init 616 = .ok (.bipush 40, 2) := by decide +kernel
theorem dX12_init_618 : decode cX12_init 618 = .ok (.newarray .int, 2) := by decide +kernel
theorem dX12_init_620 : decode cX12_init 620 = .ok (.putfield 234, 3) := by decide +kernel
theorem dX12_init_623 : decode cX12_init 623 = .ok (.aload_n 0, 1) := by decide +kernel
theorem dX12_init_624 : decode cX12_init 624 = .ok (.bipush 40, 2) := by decide +kernel
theorem dX12_init_626 : decode cX12_init 626 = .ok (.newarray .int, 2) := by decide +kernel
theorem dX12_init_628 : decode cX12_init 628 = .ok (.putfield 237, 3) := by decide +kernel
theorem dX12_init_631 : decode cX12_init 631 = .ok (.aload_n 0, 1) := by decide +kernel
theorem dX12_init_632 : decode cX12_init 632 = .ok (.sipush 4000, 3) := by decide +kernel
theorem dX12_init_635 : decode cX12_init 635 = .ok (.newarray .int, 2) := by decide +kernel
theorem dX12_init_637 : decode cX12_init 637 = .ok (.putfield 240, 3) := by decide +kernel
theorem dX12_init_640 : decode cX12_init 640 = .ok (.aload_n 0, 1) := by decide +kernel
theorem dX12_init_641 : decode cX12_init 641 = .ok (.bipush 100, 2) := by decide +kernel
theorem dX12_init_643 : decode cX12_init 643 = .ok (.newarray .int, 2) := by decide +kernel
theorem dX12_init_645 : decode cX12_init 645 = .ok (.putfield 243, 3) := by decide +kernel
theorem dX12_init_648 : decode cX12_init 648 = .ok (.aload_n 0, 1) := by decide +kernel
theorem dX12_init_649 : decode cX12_init 649 = .ok (.bipush 100, 2) := by decide +kernel
theorem dX12_init_651 : decode cX12_init 651 = .ok (.newarray .int, 2) := by decide +kernel
theorem dX12_init_653 : decode cX12_init 653 = .ok (.putfield 246, 3) := by decide +kernel
theorem dX12_init_656 : decode cX12_init 656 = .ok (.aload_n 0, 1) := by decide +kernel
theorem dX12_init_657 : decode cX12_init 657 = .ok (.bipush 12, 2) := by decide +kernel
theorem dX12_init_659 : decode cX12_init 659 = .ok (.newarray .int, 2) := by decide +kernel
theorem dX12_init_661 : decode cX12_init 661 = .ok (.putfield 249, 3) := by decide +kernel
theorem dX12_init_664 : decode cX12_init 664 = .ok (.aload_n 0, 1) := by decide +kernel
theorem dX12_init_665 : decode cX12_init 665 = .ok (.bipush 40, 2) := by decide +kernel
theorem dX12_init_667 : decode cX12_init 667 = .ok (.newarray .long, 2) := by decide +kernel
theorem dX12_init_669 : decode cX12_init 669 = .ok (.putfield 252, 3) := by decide +kernel
theorem dX12_init_672 : decode cX12_init 672 = .ok (.aload_n 0, 1) := by decide +kernel
theorem dX12_init_673 : decode cX12_init 673 = .ok (.bipush 40, 2) := by decide +kernel
theorem dX12_init_675 : decode cX12_init 675 = .ok (.newarray .long, 2) := by decide +kernel
theorem dX12_init_677 : decode cX12_init 677 = .ok (.putfield 256, 3) := by decide +kernel
theorem dX12_init_680 : decode cX12_init 680 = .ok (.aload_n 0, 1) := by decide +kernel
theorem dX12_init_681 : decode cX12_init 681 = .ok (.bipush 40, 2) := by decide +kernel
theorem dX12_init_683 : decode cX12_init 683 = .ok (.newarray .int, 2) := by decide +kernel
theorem dX12_init_685 : decode cX12_init 685 = .ok (.putfield 259, 3) := by decide +kernel
theorem dX12_init_688 : decode cX12_init 688 = .ok (.aload_n 0, 1) := by decide +kernel
theorem dX12_init_689 : decode cX12_init 689 = .ok (.bipush 6, 2) := by decide +kernel
theorem dX12_init_691 : decode cX12_init 691 = .ok (.newarray .int, 2) := by decide +kernel
theorem dX12_init_693 : decode cX12_init 693 = .ok (.putfield 262, 3) := by decide +kernel
theorem dX12_init_696 : decode cX12_init 696 = .ok (.aload_n 0, 1) := by decide +kernel
theorem dX12_init_697 : decode cX12_init 697 = .ok (.bipush 6, 2) := by decide +kernel
theorem dX12_init_699 : decode cX12_init 699 = .ok (.newarray .boolean, 2) := by decide +kernel
theorem dX12_init_701 : decode cX12_init 701 = .ok (.putfield 265, 3) := by decide +kernel
theorem dX12_init_704 : decode cX12_init 704 = .ok (.aload_n 0, 1) := by decide +kernel
theorem dX12_init_705 : decode cX12_init 705 = .ok (.bipush 6, 2) := by decide +kernel
theorem dX12_init_707 : decode cX12_init 707 = .ok (.newarray .int, 2) := by decide +kernel
theorem dX12_init_709 : decode cX12_init 709 = .ok (.putfield 268, 3) := by decide +kernel
theorem dX12_init_712 : decode cX12_init 712 = .ok (.aload_n 0, 1) := by decide +kernel
theorem dX12_init_713 : decode cX12_init 713 = .ok (.bipush 24, 2) := by decide +kernel
theorem dX12_init_715 : decode cX12_init 715 = .ok (.newarray .boolean, 2) := by decide +kernel
theorem dX12_init_717 : decode cX12_init 717 = .ok (.putfield 271, 3) := by decide +kernel
theorem dX12_init_720 : decode cX12_init 720 = .ok (.aload_n 0, 1) := by decide +kernel
theorem dX12_init_721 : decode cX12_init 721 = .ok (.bipush 24, 2) := by decide +kernel
theorem dX12_init_723 : decode cX12_init 723 = .ok (.newarray .long, 2) := by decide +kernel
theorem dX12_init_725 : decode cX12_init 725 = .ok (.putfield 274, 3) := by decide +kernel
theorem dX12_init_728 : decode cX12_init 728 = .ok (.aload_n 0, 1) := by decide +kernel
theorem dX12_init_729 : decode cX12_init 729 = .ok (.bipush 24, 2) := by decide +kernel
theorem dX12_init_731 : decode cX12_init 731 = .ok (.newarray .long, 2) := by decide +kernel
theorem dX12_init_733 : decode cX12_init 733 = .ok (.putfield 277, 3) := by decide +kernel
theorem dX12_init_736 : decode cX12_init 736 = .ok (.aload_n 0, 1) := by decide +kernel
theorem dX12_init_737 : decode cX12_init 737 = .ok (.bipush 24, 2) := by decide +kernel
theorem dX12_init_739 : decode cX12_init 739 = .ok (.newarray .int, 2) := by decide +kernel
theorem dX12_init_741 : decode cX12_init 741 = .ok (.putfield 280, 3) := by decide +kernel
theorem dX12_init_744 : decode cX12_init 744 = .ok (.aload_n 0, 1) := by decide +kernel
theorem dX12_init_745 : decode cX12_init 745 = .ok (.bipush 6, 2) := by decide +kernel
theorem dX12_init_747 : decode cX12_init 747 = .ok (.newarray .boolean, 2) := by decide +kernel
theorem dX12_init_749 : decode cX12_init 749 = .ok (.putfield 283, 3) := by decide +kernel
theorem dX12_init_752 : decode cX12_init 752 = .ok (.aload_n 0, 1) := by decide +kernel
theorem dX12_init_753 : decode cX12_init 753 = .ok (.bipush 24, 2) := by decide +kernel
theorem dX12_init_755 : decode cX12_init 755 = .ok (.newarray .int, 2) := by decide +kernel
theorem dX12_init_757 : decode cX12_init 757 = .ok (.putfield 286, 3) := by decide +kernel
theorem dX12_init_760 : decode cX12_init 760 = .ok (.aload_n 0, 1) := by decide +kernel
theorem dX12_init_761 : decode cX12_init 761 = .ok (.bipush 11, 2) := by decide +kernel
theorem dX12_init_763 : decode cX12_init 763 = .ok (.newarray .int, 2) := by decide +kernel
theorem dX12_init_765 : decode cX12_init 765 = .ok (.putfield 289, 3) := by decide +kernel
theorem dX12_init_768 : decode cX12_init 768 = .ok (.aload_n 0, 1) := by decide +kernel
theorem dX12_init_769 : decode cX12_init 769 = .ok (.bipush 11, 2) := by decide +kernel
theorem dX12_init_771 : decode cX12_init 771 = .ok (.newarray .int, 2) := by decide +kernel
theorem dX12_init_773 : decode cX12_init 773 = .ok (.putfield 292, 3) := by decide +kernel
theorem dX12_init_776 : decode cX12_init 776 = .ok (.aload_n 0, 1) := by decide +kernel
theorem dX12_init_777 : decode cX12_init 777 = .ok (.sipush 30000, 3) := by decide +kernel
theorem dX12_init_780 : decode cX12_init 780 = .ok (.newarray .byte, 2) := by decide +kernel
theorem dX12_init_782 : decode cX12_init 782 = .ok (.putfield 295, 3) := by decide +kernel
theorem dX12_init_785 : decode cX12_init 785 = .ok (.aload_n 0, 1) := by decide +kernel
theorem dX12_init_786 : decode cX12_init 786 = .ok (.sipush 2100, 3) := by decide +kernel
theorem dX12_init_789 : decode cX12_init 789 = .ok (.newarray .long, 2) := by decide +kernel
theorem dX12_init_791 : decode cX12_init 791 = .ok (.putfield 298, 3) := by decide +kernel
theorem dX12_init_794 : decode cX12_init 794 = .ok (.aload_n 0, 1) := by decide +kernel
theorem dX12_init_795 : decode cX12_init 795 = .ok (.sipush 2100, 3) := by decide +kernel
theorem dX12_init_798 : decode cX12_init 798 = .ok (.newarray .long, 2) := by decide +kernel
theorem dX12_init_800 : decode cX12_init 800 = .ok (.putfield 301, 3) := by decide +kernel
theorem dX12_init_803 : decode cX12_init 803 = .ok (.aload_n 0, 1) := by decide +kernel
theorem dX12_init_804 : decode cX12_init 804 = .ok (.sipush 2100, 3) := by decide +kernel
theorem dX12_init_807 : decode cX12_init 807 = .ok (.newarray .int, 2) := by decide +kernel
theorem dX12_init_809 : decode cX12_init 809 = .ok (.putfield 304, 3) := by decide +kernel
theorem dX12_init_812 : decode cX12_init 812 = .ok (.aload_n 0, 1) := by decide +kernel
theorem dX12_init_813 : decode cX12_init 813 = .ok (.sipush 2100, 3) := by decide +kernel
theorem dX12_init_816 : decode cX12_init 816 = .ok (.newarray .int, 2) := by decide +kernel
theorem dX12_init_818 : decode cX12_init 818 = .ok (.putfield 307, 3) := by decide +kernel
theorem dX12_init_821 : decode cX12_init 821 = .ok (.aload_n 0, 1) := by decide +kernel
theorem dX12_init_822 : decode cX12_init 822 = .ok (.sipush 2100, 3) := by decide +kernel
theorem dX12_init_825 : decode cX12_init 825 = .ok (.newarray .int, 2) := by decide +kernel
theorem dX12_init_827 : decode cX12_init 827 = .ok (.putfield 310, 3) := by decide +kernel
theorem dX12_init_830 : decode cX12_init 830 = .ok (.aload_n 0, 1) := by decide +kernel
theorem dX12_init_831 : decode cX12_init 831 = .ok (.iconst 3, 1) := by decide +kernel
theorem dX12_init_832 : decode cX12_init 832 = .ok (.iconst 2, 1) := by decide +kernel
theorem dX12_init_833 : decode cX12_init 833 = .ok (.iconst 2, 1) := by decide +kernel
theorem dX12_init_834 : decode cX12_init 834 = .ok (.invokevirtual 313, 3) := by decide +kernel
theorem dX12_init_837 : decode cX12_init 837 = .ok (.return_, 1) := by decide +kernel
theorem dX12_thrown_0 : decode cX12_thrown 0 = .ok (.aload_n 0, 1) := by decide +kernel
theorem dX12_thrown_1 : decode cX12_thrown 1 = .ok (.getfield 317, 3) := by decide +kernel
theorem dX12_thrown_4 : decode cX12_thrown 4 = .ok (.ireturn, 1) := by decide +kernel
theorem dX12_least_0 : decode cX12_least 0 = .ok (.iload_n 0, 1) := by decide +kernel
theorem dX12_least_1 : decode cX12_least 1 = .ok (.iload_n 1, 1) := by decide +kernel
theorem dX12_least_2 : decode cX12_least 2 = .ok (.if_icmp .ge 7, 3) := by decide +kernel
theorem dX12_least_5 : decode cX12_least 5 = .ok (.iload_n 0, 1) := by decide +kernel
theorem dX12_least_6 : decode cX12_least 6 = .ok (.goto 4, 3) := by decide +kernel
theorem dX12_least_9 : decode cX12_least 9 = .ok (.iload_n 1, 1) := by decide +kernel
theorem dX12_least_10 : decode cX12_least 10 = .ok (.ireturn, 1) := by decide +kernel
theorem dX12_greatest_0 : decode cX12_greatest 0 = .ok (.iload_n 0, 1) := by decide +kernel
theorem dX12_greatest_1 : decode cX12_greatest 1 = .ok (.iload_n 1, 1) := by decide +kernel
theorem dX12_greatest_2 : decode cX12_greatest 2 = .ok (.if_icmp .le 7, 3) := by decide +kernel
theorem dX12_greatest_5 : decode cX12_greatest 5 = .ok (.iload_n 0, 1) := by decide +kernel
theorem dX12_greatest_6 : decode cX12_greatest 6 = .ok (.goto 4, 3) := by decide +kernel
theorem dX12_greatest_9 : decode cX12_greatest 9 = .ok (.iload_n 1, 1) := by decide +kernel
theorem dX12_greatest_10 : decode cX12_greatest 10 = .ok (.ireturn, 1) := by decide +kernel
theorem dX12_hasCopy_0 : decode cX12_hasCopy 0 = .ok (.iload_n 1, 1) := by decide +kernel
theorem dX12_hasCopy_1 : decode cX12_hasCopy 1 = .ok (.aload_n 0, 1) := by decide +kernel
theorem dX12_hasCopy_2 : decode cX12_hasCopy 2 = .ok (.getfield 321, 3) := by decide +kernel
theorem dX12_hasCopy_5 : decode cX12_hasCopy 5 = .ok (.if_icmp .ge 32, 3) := by decide +kernel
theorem dX12_hasCopy_8 : decode cX12_hasCopy 8 = .ok (.iload_n 1, 1) := by decide +kernel
theorem dX12_hasCopy_9 : decode cX12_hasCopy 9 = .ok (.iload_n 2, 1) := by decide +kernel
theorem dX12_hasCopy_10 : decode cX12_hasCopy 10 = .ok (.aload_n 0, 1) := by decide +kernel
theorem dX12_hasCopy_11 : decode cX12_hasCopy 11 = .ok (.getfield 321, 3) := by decide +kernel
theorem dX12_hasCopy_14 : decode cX12_hasCopy 14 = .ok (.irem, 1) := by decide +kernel
theorem dX12_hasCopy_15 : decode cX12_hasCopy 15 = .ok (.isub, 1) := by decide +kernel
theorem dX12_hasCopy_16 : decode cX12_hasCopy 16 = .ok (.aload_n 0, 1) := by decide +kernel
theorem dX12_hasCopy_17 : decode cX12_hasCopy 17 = .ok (.getfield 321, 3) := by decide +kernel
theorem dX12_hasCopy_20 : decode cX12_hasCopy 20 = .ok (.iadd, 1) := by decide +kernel
theorem dX12_hasCopy_21 : decode cX12_hasCopy 21 = .ok (.aload_n 0, 1) := by decide +kernel
theorem dX12_hasCopy_22 : decode cX12_hasCopy 22 = .ok (.getfield 321, 3) := by decide +kernel
theorem dX12_hasCopy_25 : decode cX12_hasCopy 25 = .ok (.irem, 1) := by decide +kernel
theorem dX12_hasCopy_26 : decode cX12_hasCopy 26 = .ok (.aload_n 0, 1) := by decide +kernel
theorem dX12_hasCopy_27 : decode cX12_hasCopy 27 = .ok (.getfield 324, 3) := by decide +kernel
theorem dX12_hasCopy_30 : decode cX12_hasCopy 30 = .ok (.if_icmp .ge 7, 3) := by decide +kernel
theorem dX12_hasCopy_33 : decode cX12_hasCopy 33 = .ok (.iconst 1, 1) := by decide +kernel
theorem dX12_hasCopy_34 : decode cX12_hasCopy 34 = .ok (.goto 4, 3) := by decide +kernel
theorem dX12_hasCopy_37 : decode cX12_hasCopy 37 = .ok (.iconst 0, 1) := by decide +kernel
theorem dX12_hasCopy_38 : decode cX12_hasCopy 38 = .ok (.ireturn, 1) := by decide +kernel
theorem dX12_copyOf_0 : decode cX12_copyOf 0 = .ok (.iconst 4, 1) := by decide +kernel
theorem dX12_copyOf_1 : decode cX12_copyOf 1 = .ok (.iload_n 1, 1) := by decide +kernel
theorem dX12_copyOf_2 : decode cX12_copyOf 2 = .ok (.imul, 1) := by decide +kernel
theorem dX12_copyOf_3 : decode cX12_copyOf 3 = .ok (.iload_n 2, 1) := by decide +kernel
theorem dX12_copyOf_4 : decode cX12_copyOf 4 = .ok (.iadd, 1) := by decide +kernel
theorem dX12_copyOf_5 : decode cX12_copyOf 5 = .ok (.ireturn, 1) := by decide +kernel
theorem dX12_diskNode_0 : decode cX12_diskNode 0 = .ok (.iload_n 1, 1) := by decide +kernel
theorem dX12_diskNode_1 : decode cX12_diskNode 1 = .ok (.bipush 20, 2) := by decide +kernel
theorem dX12_diskNode_3 : decode cX12_diskNode 3 = .ok (.if_icmp .ne 10, 3) := by decide +kernel
theorem dX12_diskNode_6 : decode cX12_diskNode 6 = .ok (.aload_n 0, 1) := by decide +kernel
theorem dX12_diskNode_7 : decode cX12_diskNode 7 = .ok (.getfield 321, 3) := by decide +kernel
theorem dX12_diskNode_10 : decode cX12_diskNode 10 = .ok (.goto 6, 3) := by decide +kernel
theorem dX12_diskNode_13 : decode cX12_diskNode 13 = .ok (.iload_n 1, 1) := by decide +kernel
theorem dX12_diskNode_14 : decode cX12_diskNode 14 = .ok (.iconst 4, 1) := by decide +kernel
theorem dX12_diskNode_15 : decode cX12_diskNode 15 = .ok (.idiv, 1) := by decide +kernel
theorem dX12_diskNode_16 : decode cX12_diskNode 16 = .ok (.ireturn, 1) := by decide +kernel
theorem dX12_begin_0 : decode cX12_begin 0 = .ok (.aload_n 0, 1) := by decide +kernel
theorem dX12_begin_1 : decode cX12_begin 1 = .ok (.iload_n 1, 1) := by decide +kernel
theorem dX12_begin_2 : decode cX12_begin 2 = .ok (.putfield 321, 3) := by decide +kernel
theorem dX12_begin_5 : decode cX12_begin 5 = .ok (.aload_n 0, 1) := by decide +kernel
theorem dX12_begin_6 : decode cX12_begin 6 = .ok (.iload_n 2, 1) := by decide +kernel
theorem dX12_begin_7 : decode cX12_begin 7 = .ok (.putfield 327, 3) := by decide +kernel
theorem dX12_begin_10 : decode cX12_begin 10 = .ok (.aload_n 0, 1) := by decide +kernel
theorem dX12_begin_11 : decode cX12_begin 11 = .ok (.iload_n 3, 1) := by decide +kernel
theorem dX12_begin_12 : decode cX12_begin 12 = .ok (.putfield 324, 3) := by decide +kernel
theorem dX12_begin_15 : decode cX12_begin 15 = .ok (.aload_n 0, 1) := by decide +kernel
theorem dX12_begin_16 : decode cX12_begin 16 = .ok (.iconst 0, 1) := by decide +kernel
theorem dX12_begin_17 : decode cX12_begin 17 = .ok (.putfield 330, 3) := by decide +kernel
theorem dX12_begin_20 : decode cX12_begin 20 = .ok (.aload_n 0, 1) := by decide +kernel
theorem dX12_begin_21 : decode cX12_begin 21 = .ok (.iconst 0, 1) := by decide +kernel
theorem dX12_begin_22 : decode cX12_begin 22 = .ok (.putfield 333, 3) := by decide +kernel
theorem dX12_begin_25 : decode cX12_begin 25 = .ok (.aload_n 0, 1) := by decide +kernel
theorem dX12_begin_26 : decode cX12_begin 26 = .ok (.iconst 1, 1) := by decide +kernel
theorem dX12_begin_27 : decode cX12_begin 27 = .ok (.putfield 336, 3) := by decide +kernel
theorem dX12_begin_30 : decode cX12_begin 30 = .ok (.aload_n 0, 1) := by decide +kernel
theorem dX12_begin_31 : decode cX12_begin 31 = .ok (.getfield 119, 3) := by decide +kernel
theorem dX12_begin_34 : decode cX12_begin 34 = .ok (.iconst 0, 1) := by decide +kernel
theorem dX12_begin_35 : decode cX12_begin 35 = .ok (.iconst (-1), 1) := by decide +kernel
theorem dX12_begin_36 : decode cX12_begin 36 = .ok (.iastore, 1) := by decide +kernel
theorem dX12_begin_37 : decode cX12_begin 37 = .ok (.aload_n 0, 1) := by decide +kernel
theorem dX12_begin_38 : decode cX12_begin 38 = .ok (.iconst 0, 1) := by decide +kernel
theorem dX12_begin_39 : decode cX12_begin 39 = .ok (.putfield 339, 3) := by decide +kernel
theorem dX12_begin_42 : decode cX12_begin 42 = .ok (.aload_n 0, 1) := by decide +kernel
theorem dX12_begin_43 : decode cX12_begin 43 = .ok (.iconst 0, 1) := by decide +kernel
theorem dX12_begin_44 : decode cX12_begin 44 = .ok (.putfield 342, 3) := by decide +kernel
theorem dX12_begin_47 : decode cX12_begin 47 = .ok (.aload_n 0, 1) := by decide +kernel
theorem dX12_begin_48 : decode cX12_begin 48 = .ok (.iconst 0, 1) := by decide +kernel
theorem dX12_begin_49 : decode cX12_begin 49 = .ok (.putfield 345, 3) := by decide +kernel
theorem dX12_begin_52 : decode cX12_begin 52 = .ok (.iconst 0, 1) := by decide +kernel
theorem dX12_begin_53 : decode cX12_begin 53 = .ok (.istore 4, 2) := by decide +kernel
theorem dX12_begin_55 : decode cX12_begin 55 = .ok (.iload 4, 2) := by decide +kernel
theorem dX12_begin_57 : decode cX12_begin 57 = .ok (.ldc 86, 2) := by decide +kernel
theorem dX12_begin_59 : decode cX12_begin 59 = .ok (.if_icmp .ge 17, 3) := by decide +kernel
theorem dX12_begin_62 : decode cX12_begin 62 = .ok (.aload_n 0, 1) := by decide +kernel
theorem dX12_begin_63 : decode cX12_begin 63 = .ok (.getfield 87, 3) := by decide +kernel
theorem dX12_begin_66 : decode cX12_begin 66 = .ok (.iload 4, 2) := by decide +kernel
theorem dX12_begin_68 : decode cX12_begin 68 = .ok (.iconst 0, 1) := by decide +kernel
theorem dX12_begin_69 : decode cX12_begin 69 = .ok (.bastore, 1) := by decide +kernel
theorem dX12_begin_70 : decode cX12_begin 70 = .ok (.iinc 4 1, 3) := by decide +kernel
theorem dX12_begin_73 : decode cX12_begin 73 = .ok (.goto (-18), 3) := by decide +kernel
theorem dX12_begin_76 : decode cX12_begin 76 = .ok (.iconst 0, 1) := by decide +kernel
theorem dX12_begin_77 : decode cX12_begin 77 = .ok (.istore 4, 2) := by decide +kernel
theorem dX12_begin_79 : decode cX12_begin 79 = .ok (.iload 4, 2) := by decide +kernel
theorem dX12_begin_81 : decode cX12_begin 81 = .ok (.bipush 36, 2) := by decide +kernel
theorem dX12_begin_83 : decode cX12_begin 83 = .ok (.if_icmp .ge 25, 3) := by decide +kernel
theorem dX12_begin_86 : decode cX12_begin 86 = .ok (.aload_n 0, 1) := by decide +kernel
theorem dX12_begin_87 : decode cX12_begin 87 = .ok (.getfield 209, 3) := by decide +kernel
theorem dX12_begin_90 : decode cX12_begin 90 = .ok (.iload 4, 2) := by decide +kernel
theorem dX12_begin_92 : decode cX12_begin 92 = .ok (.iconst 0, 1) := by decide +kernel
theorem dX12_begin_93 : decode cX12_begin 93 = .ok (.iastore, 1) := by decide +kernel
theorem dX12_begin_94 : decode cX12_begin 94 = .ok (.aload_n 0, 1) := by decide +kernel
theorem dX12_begin_95 : decode cX12_begin 95 = .ok (.getfield 212, 3) := by decide +kernel
theorem dX12_begin_98 : decode cX12_begin 98 = .ok (.iload 4, 2) := by decide +kernel
theorem dX12_begin_100 : decode cX12_begin 100 = .ok (.iconst 0, 1) := by decide +kernel
theorem dX12_begin_101 : decode cX12_begin 101 = .ok (.iastore, 1) := by decide +kernel
theorem dX12_begin_102 : decode cX12_begin 102 = .ok (.iinc 4 1, 3) := by decide +kernel
theorem dX12_begin_105 : decode cX12_begin 105 = .ok (.goto (-26), 3) := by decide +kernel
theorem dX12_begin_108 : decode cX12_begin 108 = .ok (.iconst 0, 1) := by decide +kernel
theorem dX12_begin_109 : decode cX12_begin 109 = .ok (.istore 4, 2) := by decide +kernel
theorem dX12_begin_111 : decode cX12_begin 111 = .ok (.iload 4, 2) := by decide +kernel
theorem dX12_begin_113 : decode cX12_begin 113 = .ok (.bipush 40, 2) := by decide +kernel
theorem dX12_begin_115 : decode cX12_begin 115 = .ok (.if_icmp .ge 17, 3) := by decide +kernel
theorem dX12_begin_118 : decode cX12_begin 118 = .ok (.aload_n 0, 1) := by decide +kernel
theorem dX12_begin_119 : decode cX12_begin 119 = .ok (.getfield 225, 3) := by decide +kernel
theorem dX12_begin_122 : decode cX12_begin 122 = .ok (.iload 4, 2) := by decide +kernel
theorem dX12_begin_124 : decode cX12_begin 124 = .ok (.iconst 0, 1) := by decide +kernel
theorem dX12_begin_125 : decode cX12_begin 125 = .ok (.bastore, 1) := by decide +kernel
theorem dX12_begin_126 : decode cX12_begin 126 = .ok (.iinc 4 1, 3) := by decide +kernel
theorem dX12_begin_129 : decode cX12_begin 129 = .ok (.goto (-18), 3) := by decide +kernel
theorem dX12_begin_132 : decode cX12_begin 132 = .ok (.iconst 0, 1) := by decide +kernel
theorem dX12_begin_133 : decode cX12_begin 133 = .ok (.istore 4, 2) := by decide +kernel
theorem dX12_begin_135 : decode cX12_begin 135 = .ok (.iload 4, 2) := by decide +kernel
theorem dX12_begin_137 : decode cX12_begin 137 = .ok (.bipush 6, 2) := by decide +kernel
theorem dX12_begin_139 : decode cX12_begin 139 = .ok (.if_icmp .ge 35, 3) := by decide +kernel
theorem dX12_begin_142 : decode cX12_begin 142 = .ok (.aload_n 0, 1) := by decide +kernel
theorem dX12_begin_143 : decode cX12_begin 143 = .ok (.getfield 77, 3) := by decide +kernel
theorem dX12_begin_146 : decode cX12_begin 146 = .ok (.iload 4, 2) := by decide +kernel
theorem dX12_begin_148 : decode cX12_begin 148 = .ok (.iload 4, 2) := by decide +kernel
theorem dX12_begin_150 : decode cX12_begin 150 = .ok (.iload_n 1, 1) := by decide +kernel
theorem dX12_begin_151 : decode cX12_begin 151 = .ok (.if_icmp .gt 7, 3) := by decide +kernel
theorem dX12_begin_154 : decode cX12_begin 154 = .ok (.iconst 1, 1) := by decide +kernel
theorem dX12_begin_155 : decode cX12_begin 155 = .ok (.goto 4, 3) := by decide +kernel
theorem dX12_begin_158 : decode cX12_begin 158 = .ok (.iconst 0, 1) := by decide +kernel
theorem dX12_begin_159 : decode cX12_begin 159 = .ok (.bastore, 1) := by decide +kernel
theorem dX12_begin_160 : decode cX12_begin 160 = .ok (.aload_n 0, 1) := by decide +kernel
theorem dX12_begin_161 : decode cX12_begin 161 = .ok (.getfield 80, 3) := by decide +kernel
theorem dX12_begin_164 : decode cX12_begin 164 = .ok (.iload 4, 2) := by decide +kernel
theorem dX12_begin_166 : decode cX12_begin 166 = .ok (.iconst 0, 1) := by decide +kernel
theorem dX12_begin_167 : decode cX12_begin 167 = .ok (.iastore, 1) := by decide +kernel
theorem dX12_begin_168 : decode cX12_begin 168 = .ok (.iinc 4 1, 3) := by decide +kernel
theorem dX12_begin_171 : decode cX12_begin 171 = .ok (.goto (-36), 3) := by decide +kernel
theorem dX12_begin_174 : decode cX12_begin 174 = .ok (.iconst 0, 1) := by decide +kernel
theorem dX12_begin_175 : decode cX12_begin 175 = .ok (.istore 4, 2) := by decide +kernel
theorem dX12_begin_177 : decode cX12_begin 177 = .ok (.iload 4, 2) := by decide +kernel
theorem dX12_begin_179 : decode cX12_begin 179 = .ok (.iconst 5, 1) := by decide +kernel
theorem dX12_begin_180 : decode cX12_begin 180 = .ok (.if_icmp .ge 25, 3) := by decide +kernel
theorem dX12_begin_183 : decode cX12_begin 183 = .ok (.aload_n 0, 1) := by decide +kernel
theorem dX12_begin_184 : decode cX12_begin 184 = .ok (.getfield 188, 3) := by decide +kernel
theorem dX12_begin_187 : decode cX12_begin 187 = .ok (.iload 4, 2) := by decide +kernel
theorem dX12_begin_189 : decode cX12_begin 189 = .ok (.iconst 1, 1) := by decide +kernel
theorem dX12_begin_190 : decode cX12_begin 190 = .ok (.bastore, 1) := by decide +kernel
theorem dX12_begin_191 : decode cX12_begin 191 = .ok (.aload_n 0, 1) := by decide +kernel
theorem dX12_begin_192 : decode cX12_begin 192 = .ok (.getfield 191, 3) := by decide +kernel
theorem dX12_begin_195 : decode cX12_begin 195 = .ok (.iload 4, 2) := by decide +kernel
theorem dX12_begin_197 : decode cX12_begin 197 = .ok (.iconst 0, 1) := by decide +kernel
theorem dX12_begin_198 : decode cX12_begin 198 = .ok (.iastore, 1) := by decide +kernel
theorem dX12_begin_199 : decode cX12_begin 199 = .ok (.iinc 4 1, 3) := by decide +kernel
theorem dX12_begin_202 : decode cX12_begin 202 = .ok (.goto (-25), 3) := by decide +kernel
theorem dX12_begin_205 : decode cX12_begin 205 = .ok (.iconst 0, 1) := by decide +kernel
theorem dX12_begin_206 : decode cX12_begin 206 = .ok (.istore 4, 2) := by decide +kernel
theorem dX12_begin_208 : decode cX12_begin 208 = .ok (.iload 4, 2) := by decide +kernel
theorem dX12_begin_210 : decode cX12_begin 210 = .ok (.iload_n 2, 1) := by decide +kernel
theorem dX12_begin_211 : decode cX12_begin 211 = .ok (.if_icmp .ge 58, 3) := by decide +kernel
theorem dX12_begin_214 : decode cX12_begin 214 = .ok (.iconst 0, 1) := by decide +kernel
theorem dX12_begin_215 : decode cX12_begin 215 = .ok (.istore 5, 2) := by decide +kernel
theorem dX12_begin_217 : decode cX12_begin 217 = .ok (.iconst 0, 1) := by decide +kernel
theorem dX12_begin_218 : decode cX12_begin 218 = .ok (.istore 6, 2) := by decide +kernel
theorem dX12_begin_220 : decode cX12_begin 220 = .ok (.iload 6, 2) := by decide +kernel
theorem dX12_begin_222 : decode cX12_begin 222 = .ok (.iload_n 3, 1) := by decide +kernel
theorem dX12_begin_223 : decode cX12_begin 223 = .ok (.if_icmp .ge 23, 3) := by decide +kernel
theorem dX12_begin_226 : decode cX12_begin 226 = .ok (.iload 5, 2) := by decide +kernel
theorem dX12_begin_228 : decode cX12_begin 228 = .ok (.iconst 1, 1) := by decide +kernel
theorem dX12_begin_229 : decode cX12_begin 229 = .ok (.iload 4, 2) := by decide +kernel
theorem dX12_begin_231 : decode cX12_begin 231 = .ok (.iload 6, 2) := by decide +kernel
theorem dX12_begin_233 : decode cX12_begin 233 = .ok (.iadd, 1) := by decide +kernel
theorem dX12_begin_234 : decode cX12_begin 234 = .ok (.iload_n 1, 1) := by decide +kernel
theorem dX12_begin_235 : decode cX12_begin 235 = .ok (.irem, 1) := by decide +kernel
theorem dX12_begin_236 : decode cX12_begin 236 = .ok (.ishl, 1) := by decide +kernel
theorem dX12_begin_237 : decode cX12_begin 237 = .ok (.ior, 1) := by decide +kernel
theorem dX12_begin_238 : decode cX12_begin 238 = .ok (.istore 5, 2) := by decide +kernel
theorem dX12_begin_240 : decode cX12_begin 240 = .ok (.iinc 6 1, 3) := by decide +kernel
theorem dX12_begin_243 : decode cX12_begin 243 = .ok (.goto (-23), 3) := by decide +kernel
theorem dX12_begin_246 : decode cX12_begin 246 = .ok (.aload_n 0, 1) := by decide +kernel
theorem dX12_begin_247 : decode cX12_begin 247 = .ok (.bipush 20, 2) := by decide +kernel
theorem dX12_begin_249 : decode cX12_begin 249 = .ok (.iload 4, 2) := by decide +kernel
theorem dX12_begin_251 : decode cX12_begin 251 = .ok (.iadd, 1) := by decide +kernel
theorem dX12_begin_252 : decode cX12_begin 252 = .ok (.iconst 1, 1) := by decide +kernel
theorem dX12_begin_253 : decode cX12_begin 253 = .ok (.iload 4, 2) := by decide +kernel
theorem dX12_begin_255 : decode cX12_begin 255 = .ok (.iload_n 1, 1) := by decide +kernel
theorem dX12_begin_256 : decode cX12_begin 256 = .ok (.irem, 1) := by decide +kernel
theorem dX12_begin_257 : decode cX12_begin 257 = .ok (.iload 5, 2) := by decide +kernel
theorem dX12_begin_259 : decode cX12_begin 259 = .ok (.iconst 1, 1) := by decide +kernel
theorem dX12_begin_260 : decode cX12_begin 260 = .ok (.invokevirtual 348, 3) := by decide +kernel
theorem dX12_begin_263 : decode cX12_begin 263 = .ok (.iinc 4 1, 3) := by decide +kernel
theorem dX12_begin_266 : decode cX12_begin 266 = .ok (.goto (-58), 3) := by decide +kernel
theorem dX12_begin_269 : decode cX12_begin 269 = .ok (.iconst 0, 1) := by decide +kernel
theorem dX12_begin_270 : decode cX12_begin 270 = .ok (.istore 4, 2) := by decide +kernel
theorem dX12_begin_272 : decode cX12_begin 272 = .ok (.iload 4, 2) := by decide +kernel
theorem dX12_begin_274 : decode cX12_begin 274 = .ok (.iload_n 1, 1) := by decide +kernel
theorem dX12_begin_275 : decode cX12_begin 275 = .ok (.if_icmp .ge 43, 3) := by decide +kernel
theorem dX12_begin_278 : decode cX12_begin 278 = .ok (.iconst 0, 1) := by decide +kernel
theorem dX12_begin_279 : decode cX12_begin 279 = .ok (.istore 5, 2) := by decide +kernel
theorem dX12_begin_281 : decode cX12_begin 281 = .ok (.iload 5, 2) := by decide +kernel
theorem dX12_begin_283 : decode cX12_begin 283 = .ok (.iload_n 2, 1) := by decide +kernel
theorem dX12_begin_284 : decode cX12_begin 284 = .ok (.if_icmp .ge 28, 3) := by decide +kernel
theorem dX12_begin_287 : decode cX12_begin 287 = .ok (.aload_n 0, 1) := by decide +kernel
theorem dX12_begin_288 : decode cX12_begin 288 = .ok (.iload 4, 2) := by decide +kernel
theorem dX12_begin_290 : decode cX12_begin 290 = .ok (.iload 5, 2) := by decide +kernel
theorem dX12_begin_292 : decode cX12_begin 292 = .ok (.invokevirtual 352, 3) := by decide +kernel
theorem dX12_begin_295 : decode cX12_begin 295 = .ok (.ifCond .eq 11, 3) := by decide +kernel
theorem dX12_begin_298 : decode cX12_begin 298 = .ok (.aload_n 0, 1) := by decide +kernel
theorem dX12_begin_299 : decode cX12_begin 299 = .ok (.iload 4, 2) := by decide +kernel
theorem dX12_begin_301 : decode cX12_begin 301 = .ok (.iload 5, 2) := by decide +kernel
theorem dX12_begin_303 : decode cX12_begin 303 = .ok (.invokevirtual 356, 3) := by decide +kernel
theorem dX12_begin_306 : decode cX12_begin 306 = .ok (.iinc 5 1, 3) := by decide +kernel
theorem dX12_begin_309 : decode cX12_begin 309 = .ok (.goto (-28), 3) := by decide +kernel
theorem dX12_begin_312 : decode cX12_begin 312 = .ok (.iinc 4 1, 3) := by decide +kernel
theorem dX12_begin_315 : decode cX12_begin 315 = .ok (.goto (-43), 3) := by decide +kernel
theorem dX12_begin_318 : decode cX12_begin 318 = .ok (.aload_n 0, 1) := by decide +kernel
theorem dX12_begin_319 : decode cX12_begin 319 = .ok (.bipush 20, 2) := by decide +kernel
theorem dX12_begin_321 : decode cX12_begin 321 = .ok (.invokevirtual 360, 3) := by decide +kernel
theorem dX12_begin_324 : decode cX12_begin 324 = .ok (.return_, 1) := by decide +kernel
theorem dX12_setView_0 : decode cX12_setView 0 = .ok (.aload_n 0, 1) := by decide +kernel
theorem dX12_setView_1 : decode cX12_setView 1 = .ok (.getfield 176, 3) := by decide +kernel
theorem dX12_setView_4 : decode cX12_setView 4 = .ok (.iload_n 1, 1) := by decide +kernel
theorem dX12_setView_5 : decode cX12_setView 5 = .ok (.iload_n 2, 1) := by decide +kernel
theorem dX12_setView_6 : decode cX12_setView 6 = .ok (.iastore, 1) := by decide +kernel
theorem dX12_setView_7 : decode cX12_setView 7 = .ok (.aload_n 0, 1) := by decide +kernel
theorem dX12_setView_8 : decode cX12_setView 8 = .ok (.getfield 179, 3) := by decide +kernel
theorem dX12_setView_11 : decode cX12_setView 11 = .ok (.iload_n 1, 1) := by decide +kernel
theorem dX12_setView_12 : decode cX12_setView 12 = .ok (.iload_n 3, 1) := by decide +kernel
theorem dX12_setView_13 : decode cX12_setView 13 = .ok (.iastore, 1) := by decide +kernel
theorem dX12_setView_14 : decode cX12_setView 14 = .ok (.aload_n 0, 1) := by decide +kernel
theorem dX12_setView_15 : decode cX12_setView 15 = .ok (.getfield 182, 3) := by decide +kernel
theorem dX12_setView_18 : decode cX12_setView 18 = .ok (.iload_n 1, 1) := by decide +kernel
theorem dX12_setView_19 : decode cX12_setView 19 = .ok (.iload 4, 2) := by decide +kernel
theorem dX12_setView_21 : decode cX12_setView 21 = .ok (.iastore, 1) := by decide +kernel
theorem dX12_setView_22 : decode cX12_setView 22 = .ok (.aload_n 0, 1) := by decide +kernel
theorem dX12_setView_23 : decode cX12_setView 23 = .ok (.getfield 185, 3) := by decide +kernel
theorem dX12_setView_26 : decode cX12_setView 26 = .ok (.iload_n 1, 1) := by decide +kernel
theorem dX12_setView_27 : decode cX12_setView 27 = .ok (.iload 5, 2) := by decide +kernel
theorem dX12_setView_29 : decode cX12_setView 29 = .ok (.iastore, 1) := by decide +kernel
theorem dX12_setView_30 : decode cX12_setView 30 = .ok (.return_, 1) := by decide +kernel
theorem dX12_beginCopy_0 : decode cX12_beginCopy 0 = .ok (.aload_n 0, 1) := by decide +kernel
theorem dX12_beginCopy_1 : decode cX12_beginCopy 1 = .ok (.iload_n 1, 1) := by decide +kernel
theorem dX12_beginCopy_2 : decode cX12_beginCopy 2 = .ok (.iload_n 2, 1) := by decide +kernel
theorem dX12_beginCopy_3 : decode cX12_beginCopy 3 = .ok (.invokevirtual 364, 3) := by decide +kernel
theorem dX12_beginCopy_6 : decode cX12_beginCopy 6 = .ok (.istore_n 3, 1) := by decide +kernel
theorem dX12_beginCopy_7 : decode cX12_beginCopy 7 = .ok (.aload_n 0, 1) := by decide +kernel
theorem dX12_beginCopy_8 : decode cX12_beginCopy 8 = .ok (.getfield 125, 3) := by decide +kernel
theorem dX12_beginCopy_11 : decode cX12_beginCopy 11 = .ok (.iload_n 3, 1) := by decide +kernel
theorem dX12_beginCopy_12 : decode cX12_beginCopy 12 = .ok (.iconst 1, 1) := by decide +kernel
theorem dX12_beginCopy_13 : decode cX12_beginCopy 13 = .ok (.iastore, 1) := by decide +kernel
theorem dX12_beginCopy_14 : decode cX12_beginCopy 14 = .ok (.aload_n 0, 1) := by decide +kernel
theorem dX12_beginCopy_15 : decode cX12_beginCopy 15 = .ok (.getfield 128, 3) := by decide +kernel
theorem dX12_beginCopy_18 : decode cX12_beginCopy 18 = .ok (.iload_n 3, 1) := by decide +kernel
theorem dX12_beginCopy_19 : decode cX12_beginCopy 19 = .ok (.iconst 0, 1) := by decide +kernel
theorem dX12_beginCopy_20 : decode cX12_beginCopy 20 = .ok (.iastore, 1) := by decide +kernel
theorem dX12_beginCopy_21 : decode cX12_beginCopy 21 = .ok (.aload_n 0, 1) := by decide +kernel
theorem dX12_beginCopy_22 : decode cX12_beginCopy 22 = .ok (.getfield 131, 3) := by decide +kernel
theorem dX12_beginCopy_25 : decode cX12_beginCopy 25 = .ok (.iload_n 3, 1) := by decide +kernel
theorem dX12_beginCopy_26 : decode cX12_beginCopy 26 = .ok (.iconst 0, 1) := by decide +kernel
theorem dX12_beginCopy_27 : decode cX12_beginCopy 27 = .ok (.iastore, 1) := by decide +kernel
theorem dX12_beginCopy_28 : decode cX12_beginCopy 28 = .ok (.aload_n 0, 1) := by decide +kernel
theorem dX12_beginCopy_29 : decode cX12_beginCopy 29 = .ok (.getfield 134, 3) := by decide +kernel
theorem dX12_beginCopy_32 : decode cX12_beginCopy 32 = .ok (.iload_n 3, 1) := by decide +kernel
theorem dX12_beginCopy_33 : decode cX12_beginCopy 33 = .ok (.iconst 0, 1) := by decide +kernel
theorem dX12_beginCopy_34 : decode cX12_beginCopy 34 = .ok (.iastore, 1) := by decide +kernel
theorem dX12_beginCopy_35 : decode cX12_beginCopy 35 = .ok (.aload_n 0, 1) := by decide +kernel
theorem dX12_beginCopy_36 : decode cX12_beginCopy 36 = .ok (.getfield 137, 3) := by decide +kernel
theorem dX12_beginCopy_39 : decode cX12_beginCopy 39 = .ok (.iload_n 3, 1) := by decide +kernel
theorem dX12_beginCopy_40 : decode cX12_beginCopy 40 = .ok (.iconst 0, 1) := by decide +kernel
theorem dX12_beginCopy_41 : decode cX12_beginCopy 41 = .ok (.iastore, 1) := by decide +kernel
theorem dX12_beginCopy_42 : decode cX12_beginCopy 42 = .ok (.aload_n 0, 1) := by decide +kernel
theorem dX12_beginCopy_43 : decode cX12_beginCopy 43 = .ok (.getfield 143, 3) := by decide +kernel
theorem dX12_beginCopy_46 : decode cX12_beginCopy 46 = .ok (.iload_n 3, 1) := by decide +kernel
theorem dX12_beginCopy_47 : decode cX12_beginCopy 47 = .ok (.iconst 0, 1) := by decide +kernel
theorem dX12_beginCopy_48 : decode cX12_beginCopy 48 = .ok (.iastore, 1) := by decide +kernel
theorem dX12_beginCopy_49 : decode cX12_beginCopy 49 = .ok (.aload_n 0, 1) := by decide +kernel
theorem dX12_beginCopy_50 : decode cX12_beginCopy 50 = .ok (.getfield 146, 3) := by decide +kernel
theorem dX12_beginCopy_53 : decode cX12_beginCopy 53 = .ok (.sipush 700, 3) := by decide +kernel
theorem dX12_beginCopy_56 : decode cX12_beginCopy 56 = .ok (.iload_n 3, 1) := by decide +kernel
theorem dX12_beginCopy_57 : decode cX12_beginCopy 57 = .ok (.imul, 1) := by decide +kernel
theorem dX12_beginCopy_58 : decode cX12_beginCopy 58 = .ok (.iconst 0, 1) := by decide +kernel
theorem dX12_beginCopy_59 : decode cX12_beginCopy 59 = .ok (.iastore, 1) := by decide +kernel
theorem dX12_beginCopy_60 : decode cX12_beginCopy 60 = .ok (.aload_n 0, 1) := by decide +kernel
theorem dX12_beginCopy_61 : decode cX12_beginCopy 61 = .ok (.getfield 149, 3) := by decide +kernel
theorem dX12_beginCopy_64 : decode cX12_beginCopy 64 = .ok (.iload_n 3, 1) := by decide +kernel
theorem dX12_beginCopy_65 : decode cX12_beginCopy 65 = .ok (.iconst 0, 1) := by decide +kernel
theorem dX12_beginCopy_66 : decode cX12_beginCopy 66 = .ok (.iastore, 1) := by decide +kernel
theorem dX12_beginCopy_67 : decode cX12_beginCopy 67 = .ok (.aload_n 0, 1) := by decide +kernel
theorem dX12_beginCopy_68 : decode cX12_beginCopy 68 = .ok (.getfield 194, 3) := by decide +kernel
theorem dX12_beginCopy_71 : decode cX12_beginCopy 71 = .ok (.iload_n 3, 1) := by decide +kernel
theorem dX12_beginCopy_72 : decode cX12_beginCopy 72 = .ok (.iconst 0, 1) := by decide +kernel
theorem dX12_beginCopy_73 : decode cX12_beginCopy 73 = .ok (.iastore, 1) := by decide +kernel
theorem dX12_beginCopy_74 : decode cX12_beginCopy 74 = .ok (.aload_n 0, 1) := by decide +kernel
theorem dX12_beginCopy_75 : decode cX12_beginCopy 75 = .ok (.iload_n 3, 1) := by decide +kernel
theorem dX12_beginCopy_76 : decode cX12_beginCopy 76 = .ok (.iconst 1, 1) := by decide +kernel
theorem dX12_beginCopy_77 : decode cX12_beginCopy 77 = .ok (.iload_n 2, 1) := by decide +kernel
theorem dX12_beginCopy_78 : decode cX12_beginCopy 78 = .ok (.aload_n 0, 1) := by decide +kernel
theorem dX12_beginCopy_79 : decode cX12_beginCopy 79 = .ok (.getfield 321, 3) := by decide +kernel
theorem dX12_beginCopy_82 : decode cX12_beginCopy 82 = .ok (.irem, 1) := by decide +kernel
theorem dX12_beginCopy_83 : decode cX12_beginCopy 83 = .ok (.aload_n 0, 1) := by decide +kernel
theorem dX12_beginCopy_84 : decode cX12_beginCopy 84 = .ok (.getfield 182, 3) := by decide +kernel
theorem dX12_beginCopy_87 : decode cX12_beginCopy 87 = .ok (.bipush 20, 2) := by decide +kernel
theorem dX12_beginCopy_89 : decode cX12_beginCopy 89 = .ok (.iload_n 2, 1) := by decide +kernel
theorem dX12_beginCopy_90 : decode cX12_beginCopy 90 = .ok (.iadd, 1) := by decide +kernel
theorem dX12_beginCopy_91 : decode cX12_beginCopy 91 = .ok (.iaload, 1) := by decide +kernel
theorem dX12_beginCopy_92 : decode cX12_beginCopy 92 = .ok (.iconst 1, 1) := by decide +kernel
theorem dX12_beginCopy_93 : decode cX12_beginCopy 93 = .ok (.invokevirtual 348, 3) := by decide +kernel
theorem dX12_beginCopy_96 : decode cX12_beginCopy 96 = .ok (.aload_n 0, 1) := by decide +kernel
theorem dX12_beginCopy_97 : decode cX12_beginCopy 97 = .ok (.getfield 140, 3) := by decide +kernel
theorem dX12_beginCopy_100 : decode cX12_beginCopy 100 = .ok (.iload_n 3, 1) := by decide +kernel
theorem dX12_beginCopy_101 : decode cX12_beginCopy 101 = .ok (.iload_n 2, 1) := by decide +kernel
theorem dX12_beginCopy_102 : decode cX12_beginCopy 102 = .ok (.aload_n 0, 1) := by decide +kernel
theorem dX12_beginCopy_103 : decode cX12_beginCopy 103 = .ok (.getfield 321, 3) := by decide +kernel
theorem dX12_beginCopy_106 : decode cX12_beginCopy 106 = .ok (.irem, 1) := by decide +kernel
theorem dX12_beginCopy_107 : decode cX12_beginCopy 107 = .ok (.iload_n 1, 1) := by decide +kernel
theorem dX12_beginCopy_108 : decode cX12_beginCopy 108 = .ok (.if_icmp .ne 7, 3) := by decide +kernel
theorem dX12_beginCopy_111 : decode cX12_beginCopy 111 = .ok (.iconst 2, 1) := by decide +kernel
theorem dX12_beginCopy_112 : decode cX12_beginCopy 112 = .ok (.goto 4, 3) := by decide +kernel
theorem dX12_beginCopy_115 : decode cX12_beginCopy 115 = .ok (.iconst 1, 1) := by decide +kernel
theorem dX12_beginCopy_116 : decode cX12_beginCopy 116 = .ok (.iastore, 1) := by decide +kernel
theorem dX12_beginCopy_117 : decode cX12_beginCopy 117 = .ok (.iconst 0, 1) := by decide +kernel
theorem dX12_beginCopy_118 : decode cX12_beginCopy 118 = .ok (.istore 4, 2) := by decide +kernel
theorem dX12_beginCopy_120 : decode cX12_beginCopy 120 = .ok (.iload 4, 2) := by decide +kernel
theorem dX12_beginCopy_122 : decode cX12_beginCopy 122 = .ok (.iconst 5, 1) := by decide +kernel
theorem dX12_beginCopy_123 : decode cX12_beginCopy 123 = .ok (.if_icmp .ge 85, 3) := by decide +kernel
theorem dX12_beginCopy_126 : decode cX12_beginCopy 126 = .ok (.iconst 5, 1) := by decide +kernel
theorem dX12_beginCopy_127 : decode cX12_beginCopy 127 = .ok (.iload_n 3, 1) := by decide +kernel
theorem dX12_beginCopy_128 : decode cX12_beginCopy 128 = .ok (.imul, 1) := by decide +kernel
theorem dX12_beginCopy_129 : decode cX12_beginCopy 129 = .ok (.iload 4, 2) := by decide +kernel
theorem dX12_beginCopy_131 : decode cX12_beginCopy 131 = .ok (.iadd, 1) := by decide +kernel
theorem dX12_beginCopy_132 : decode cX12_beginCopy 132 = .ok (.istore 5, 2) := by decide +kernel
theorem dX12_beginCopy_134 : decode cX12_beginCopy 134 = .ok (.aload_n 0, 1) := by decide +kernel
theorem dX12_beginCopy_135 : decode cX12_beginCopy 135 = .ok (.getfield 158, 3) := by decide +kernel
theorem dX12_beginCopy_138 : decode cX12_beginCopy 138 = .ok (.iload 5, 2) := by decide +kernel
theorem dX12_beginCopy_140 : decode cX12_beginCopy 140 = .ok (.iload 4, 2) := by decide +kernel
theorem dX12_beginCopy_142 : decode cX12_beginCopy 142 = .ok (.iload_n 1, 1) := by decide +kernel
theorem dX12_beginCopy_143 : decode cX12_beginCopy 143 = .ok (.if_icmp .eq 17, 3) := by decide +kernel
theorem dX12_beginCopy_146 : decode cX12_beginCopy 146 = .ok (.aload_n 0, 1) := by decide +kernel
theorem dX12_beginCopy_147 : decode cX12_beginCopy 147 = .ok (.iload 4, 2) := by decide +kernel
theorem dX12_beginCopy_149 : decode cX12_beginCopy 149 = .ok (.iload_n 2, 1) := by decide +kernel
theorem dX12_beginCopy_150 : decode cX12_beginCopy 150 = .ok (.invokevirtual 352, 3) := by decide +kernel
theorem dX12_beginCopy_153 : decode cX12_beginCopy 153 = .ok (.ifCond .eq 7, 3) := by decide +kernel
theorem dX12_beginCopy_156 : decode cX12_beginCopy 156 = .ok (.iconst 3, 1) := by decide +kernel
theorem dX12_beginCopy_157 : decode cX12_beginCopy 157 = .ok (.goto 4, 3) := by decide +kernel
theorem dX12_beginCopy_160 : decode cX12_beginCopy 160 = .ok (.iconst 0, 1) := by decide +kernel
theorem dX12_beginCopy_161 : decode cX12_beginCopy 161 = .ok (.iastore, 1) := by decide +kernel
theorem dX12_beginCopy_162 : decode cX12_beginCopy 162 = .ok (.aload_n 0, 1) := by decide +kernel
theorem dX12_beginCopy_163 : decode cX12_beginCopy 163 = .ok (.getfield 161, 3) := by decide +kernel
theorem dX12_beginCopy_166 : decode cX12_beginCopy 166 = .ok (.iload 5, 2) := by decide +kernel
theorem dX12_beginCopy_168 : decode cX12_beginCopy 168 = .ok (.iconst 0, 1) := by decide +kernel
theorem dX12_beginCopy_169 : decode cX12_beginCopy 169 = .ok (.iastore, 1) := by decide +kernel
theorem dX12_beginCopy_170 : decode cX12_beginCopy 170 = .ok (.aload_n 0, 1) := by decide +kernel
theorem dX12_beginCopy_171 : decode cX12_beginCopy 171 = .ok (.getfield 164, 3) := by decide +kernel
theorem dX12_beginCopy_174 : decode cX12_beginCopy 174 = .ok (.iload 5, 2) := by decide +kernel
theorem dX12_beginCopy_176 : decode cX12_beginCopy 176 = .ok (.iconst 0, 1) := by decide +kernel
theorem dX12_beginCopy_177 : decode cX12_beginCopy 177 = .ok (.iastore, 1) := by decide +kernel
theorem dX12_beginCopy_178 : decode cX12_beginCopy 178 = .ok (.aload_n 0, 1) := by decide +kernel
theorem dX12_beginCopy_179 : decode cX12_beginCopy 179 = .ok (.getfield 167, 3) := by decide +kernel
theorem dX12_beginCopy_182 : decode cX12_beginCopy 182 = .ok (.iload 5, 2) := by decide +kernel
theorem dX12_beginCopy_184 : decode cX12_beginCopy 184 = .ok (.iconst 0, 1) := by decide +kernel
theorem dX12_beginCopy_185 : decode cX12_beginCopy 185 = .ok (.iastore, 1) := by decide +kernel
theorem dX12_beginCopy_186 : decode cX12_beginCopy 186 = .ok (.aload_n 0, 1) := by decide +kernel
theorem dX12_beginCopy_187 : decode cX12_beginCopy 187 = .ok (.getfield 170, 3) := by decide +kernel
theorem dX12_beginCopy_190 : decode cX12_beginCopy 190 = .ok (.iload 5, 2) := by decide +kernel
theorem dX12_beginCopy_192 : decode cX12_beginCopy 192 = .ok (.iconst 0, 1) := by decide +kernel
theorem dX12_beginCopy_193 : decode cX12_beginCopy 193 = .ok (.iastore, 1) := by decide +kernel
theorem dX12_beginCopy_194 : decode cX12_beginCopy 194 = .ok (.aload_n 0, 1) := by decide +kernel
theorem dX12_beginCopy_195 : decode cX12_beginCopy 195 = .ok (.getfield 173, 3) := by decide +kernel
theorem dX12_beginCopy_198 : decode cX12_beginCopy 198 = .ok (.iload 5, 2) := by decide +kernel
theorem dX12_beginCopy_200 : decode cX12_beginCopy 200 = .ok (.iconst 0, 1) := by decide +kernel
theorem dX12_beginCopy_201 : decode cX12_beginCopy 201 = .ok (.iastore, 1) := by decide +kernel
theorem dX12_beginCopy_202 : decode cX12_beginCopy 202 = .ok (.iinc 4 1, 3) := by decide +kernel
theorem dX12_beginCopy_205 : decode cX12_beginCopy 205 = .ok (.goto (-85), 3) := by decide +kernel
theorem dX12_beginCopy_208 : decode cX12_beginCopy 208 = .ok (.aload_n 0, 1) := by decide +kernel
theorem dX12_beginCopy_209 : decode cX12_beginCopy 209 = .ok (.iload_n 3, 1) := by decide +kernel
theorem dX12_beginCopy_210 : decode cX12_beginCopy 210 = .ok (.invokevirtual 360, 3) := by decide +kernel
theorem dX12_beginCopy_213 : decode cX12_beginCopy 213 = .ok (.return_, 1) := by decide +kernel
theorem dX12_firstDisk_0 : decode cX12_firstDisk 0 = .ok (.aload_n 0, 1) := by decide +kernel
theorem dX12_firstDisk_1 : decode cX12_firstDisk 1 = .ok (.iload_n 1, 1) := by decide +kernel
theorem dX12_firstDisk_2 : decode cX12_firstDisk 2 = .ok (.invokevirtual 368, 3) := by decide +kernel
theorem dX12_firstDisk_5 : decode cX12_firstDisk 5 = .ok (.iconst 0, 1) := by decide +kernel
theorem dX12_firstDisk_6 : decode cX12_firstDisk 6 = .ok (.istore_n 2, 1) := by decide +kernel
theorem dX12_firstDisk_7 : decode cX12_firstDisk 7 = .ok (.iload_n 2, 1) := by decide +kernel
theorem dX12_firstDisk_8 : decode cX12_firstDisk 8 = .ok (.sipush 6400, 3) := by decide +kernel
theorem dX12_firstDisk_11 : decode cX12_firstDisk 11 = .ok (.if_icmp .ge 33, 3) := by decide +kernel
theorem dX12_firstDisk_14 : decode cX12_firstDisk 14 = .ok (.aload_n 0, 1) := by decide +kernel
theorem dX12_firstDisk_15 : decode cX12_firstDisk 15 = .ok (.getfield 87, 3) := by decide +kernel
theorem dX12_firstDisk_18 : decode cX12_firstDisk 18 = .ok (.iload_n 1, 1) := by decide +kernel
theorem dX12_firstDisk_19 : decode cX12_firstDisk 19 = .ok (.sipush 202, 3) := by decide +kernel
theorem dX12_firstDisk_22 : decode cX12_firstDisk 22 = .ok (.imul, 1) := by decide +kernel
theorem dX12_firstDisk_23 : decode cX12_firstDisk 23 = .ok (.bipush 102, 2) := by decide +kernel
theorem dX12_firstDisk_25 : decode cX12_firstDisk 25 = .ok (.iadd, 1) := by decide +kernel
theorem dX12_firstDisk_26 : decode cX12_firstDisk 26 = .ok (.bipush 64, 2) := by decide +kernel
theorem dX12_firstDisk_28 : decode cX12_firstDisk 28 = .ok (.imul, 1) := by decide +kernel
theorem dX12_firstDisk_29 : decode cX12_firstDisk 29 = .ok (.iload_n 2, 1) := by decide +kernel
theorem dX12_firstDisk_30 : decode cX12_firstDisk 30 = .ok (.iadd, 1) := by decide +kernel
theorem dX12_firstDisk_31 : decode cX12_firstDisk 31 = .ok (.aload_n 0, 1) := by decide +kernel
theorem dX12_firstDisk_32 : decode cX12_firstDisk 32 = .ok (.getfield 103, 3) := by decide +kernel
theorem dX12_firstDisk_35 : decode cX12_firstDisk 35 = .ok (.iload_n 2, 1) := by decide +kernel
theorem dX12_firstDisk_36 : decode cX12_firstDisk 36 = .ok (.baload, 1) := by decide +kernel
theorem dX12_firstDisk_37 : decode cX12_firstDisk 37 = .ok (.bastore, 1) := by decide +kernel
theorem dX12_firstDisk_38 : decode cX12_firstDisk 38 = .ok (.iinc 2 1, 3) := by decide +kernel
theorem dX12_firstDisk_41 : decode cX12_firstDisk 41 = .ok (.goto (-34), 3) := by decide +kernel
theorem dX12_firstDisk_44 : decode cX12_firstDisk 44 = .ok (.aload_n 0, 1) := by decide +kernel
theorem dX12_firstDisk_45 : decode cX12_firstDisk 45 = .ok (.getfield 87, 3) := by decide +kernel
theorem dX12_firstDisk_48 : decode cX12_firstDisk 48 = .ok (.iload_n 1, 1) := by decide +kernel
theorem dX12_firstDisk_49 : decode cX12_firstDisk 49 = .ok (.sipush 202, 3) := by decide +kernel
theorem dX12_firstDisk_52 : decode cX12_firstDisk 52 = .ok (.imul, 1) := by decide +kernel
theorem dX12_firstDisk_53 : decode cX12_firstDisk 53 = .ok (.iconst 1, 1) := by decide +kernel
theorem dX12_firstDisk_54 : decode cX12_firstDisk 54 = .ok (.iadd, 1) := by decide +kernel
theorem dX12_firstDisk_55 : decode cX12_firstDisk 55 = .ok (.bipush 64, 2) := by decide +kernel
theorem dX12_firstDisk_57 : decode cX12_firstDisk 57 = .ok (.imul, 1) := by decide +kernel
theorem dX12_firstDisk_58 : decode cX12_firstDisk 58 = .ok (.iconst 1, 1) := by decide +kernel
theorem dX12_firstDisk_59 : decode cX12_firstDisk 59 = .ok (.bastore, 1) := by decide +kernel
theorem dX12_firstDisk_60 : decode cX12_firstDisk 60 = .ok (.aload_n 0, 1) := by decide +kernel
theorem dX12_firstDisk_61 : decode cX12_firstDisk 61 = .ok (.getfield 94, 3) := by decide +kernel
theorem dX12_firstDisk_64 : decode cX12_firstDisk 64 = .ok (.iload_n 1, 1) := by decide +kernel
theorem dX12_firstDisk_65 : decode cX12_firstDisk 65 = .ok (.iconst 1, 1) := by decide +kernel
theorem dX12_firstDisk_66 : decode cX12_firstDisk 66 = .ok (.iastore, 1) := by decide +kernel
theorem dX12_firstDisk_67 : decode cX12_firstDisk 67 = .ok (.aload_n 0, 1) := by decide +kernel
theorem dX12_firstDisk_68 : decode cX12_firstDisk 68 = .ok (.getfield 91, 3) := by decide +kernel
theorem dX12_firstDisk_71 : decode cX12_firstDisk 71 = .ok (.iload_n 1, 1) := by decide +kernel
theorem dX12_firstDisk_72 : decode cX12_firstDisk 72 = .ok (.aload_n 0, 1) := by decide +kernel
theorem dX12_firstDisk_73 : decode cX12_firstDisk 73 = .ok (.getfield 371, 3) := by decide +kernel
theorem dX12_firstDisk_76 : decode cX12_firstDisk 76 = .ok (.iastore, 1) := by decide +kernel
theorem dX12_firstDisk_77 : decode cX12_firstDisk 77 = .ok (.aload_n 0, 1) := by decide +kernel
theorem dX12_firstDisk_78 : decode cX12_firstDisk 78 = .ok (.getfield 97, 3) := by decide +kernel
theorem dX12_firstDisk_81 : decode cX12_firstDisk 81 = .ok (.iconst 2, 1) := by decide +kernel
theorem dX12_firstDisk_82 : decode cX12_firstDisk 82 = .ok (.iload_n 1, 1) := by decide +kernel
theorem dX12_firstDisk_83 : decode cX12_firstDisk 83 = .ok (.imul, 1) := by decide +kernel
theorem dX12_firstDisk_84 : decode cX12_firstDisk 84 = .ok (.iconst 1, 1) := by decide +kernel
theorem dX12_firstDisk_85 : decode cX12_firstDisk 85 = .ok (.iadd, 1) := by decide +kernel
theorem dX12_firstDisk_86 : decode cX12_firstDisk 86 = .ok (.iconst 0, 1) := by decide +kernel
theorem dX12_firstDisk_87 : decode cX12_firstDisk 87 = .ok (.iastore, 1) := by decide +kernel
theorem dX12_firstDisk_88 : decode cX12_firstDisk 88 = .ok (.return_, 1) := by decide +kernel
theorem dX12_child_0 : decode cX12_child 0 = .ok (.aload_n 0, 1) := by decide +kernel
theorem dX12_child_1 : decode cX12_child 1 = .ok (.getfield 119, 3) := by decide +kernel
theorem dX12_child_4 : decode cX12_child 4 = .ok (.iload_n 1, 1) := by decide +kernel
theorem dX12_child_5 : decode cX12_child 5 = .ok (.iaload, 1) := by decide +kernel
theorem dX12_child_6 : decode cX12_child 6 = .ok (.istore 4, 2) := by decide +kernel
theorem dX12_child_8 : decode cX12_child 8 = .ok (.iload 4, 2) := by decide +kernel
theorem dX12_child_10 : decode cX12_child 10 = .ok (.iconst (-1), 1) := by decide +kernel
theorem dX12_child_11 : decode cX12_child 11 = .ok (.if_icmp .eq 40, 3) := by decide +kernel
theorem dX12_child_14 : decode cX12_child 14 = .ok (.aload_n 0, 1) := by decide +kernel
theorem dX12_child_15 : decode cX12_child 15 = .ok (.getfield 113, 3) := by decide +kernel
theorem dX12_child_18 : decode cX12_child 18 = .ok (.iload 4, 2) := by decide +kernel
theorem dX12_child_20 : decode cX12_child 20 = .ok (.iaload, 1) := by decide +kernel
theorem dX12_child_21 : decode cX12_child 21 = .ok (.iload_n 2, 1) := by decide +kernel
theorem dX12_child_22 : decode cX12_child 22 = .ok (.if_icmp .ne 17, 3) := by decide +kernel
theorem dX12_child_25 : decode cX12_child 25 = .ok (.aload_n 0, 1) := by decide +kernel
theorem dX12_child_26 : decode cX12_child 26 = .ok (.getfield 116, 3) := by decide +kernel
theorem dX12_child_29 : decode cX12_child 29 = .ok (.iload 4, 2) := by decide +kernel
theorem dX12_child_31 : decode cX12_child 31 = .ok (.iaload, 1) := by decide +kernel
theorem dX12_child_32 : decode cX12_child 32 = .ok (.iload_n 3, 1) := by decide +kernel
theorem dX12_child_33 : decode cX12_child 33 = .ok (.if_icmp .ne 6, 3) := by decide +kernel
theorem dX12_child_36 : decode cX12_child 36 = .ok (.iload 4, 2) := by decide +kernel
theorem dX12_child_38 : decode cX12_child 38 = .ok (.ireturn, 1) := by decide +kernel
theorem dX12_child_39 : decode cX12_child 39 = .ok (.aload_n 0, 1) := by decide +kernel
theorem dX12_child_40 : decode cX12_child 40 = .ok (.getfield 122, 3) := by decide +kernel
theorem dX12_child_43 : decode cX12_child 43 = .ok (.iload 4, 2) := by decide +kernel
theorem dX12_child_45 : decode cX12_child 45 = .ok (.iaload, 1) := by decide +kernel
theorem dX12_child_46 : decode cX12_child 46 = .ok (.istore 4, 2) := by decide +kernel
theorem dX12_child_48 : decode cX12_child 48 = .ok (.goto (-40), 3) := by decide +kernel
theorem dX12_child_51 : decode cX12_child 51 = .ok (.aload_n 0, 1) := by decide +kernel
theorem dX12_child_52 : decode cX12_child 52 = .ok (.getfield 336, 3) := by decide +kernel
theorem dX12_child_55 : decode cX12_child 55 = .ok (.istore 4, 2) := by decide +kernel
theorem dX12_child_57 : decode cX12_child 57 = .ok (.aload_n 0, 1) := by decide +kernel
theorem dX12_child_58 : decode cX12_child 58 = .ok (.dup, 1) := by decide +kernel
theorem dX12_child_59 : decode cX12_child 59 = .ok (.getfield 336, 3) := by decide +kernel
theorem dX12_child_62 : decode cX12_child 62 = .ok (.iconst 1, 1) := by decide +kernel
theorem dX12_child_63 : decode cX12_child 63 = .ok (.iadd, 1) := by decide +kernel
theorem dX12_child_64 : decode cX12_child 64 = .ok (.putfield 336, 3) := by decide +kernel
theorem dX12_child_67 : decode cX12_child 67 = .ok (.aload_n 0, 1) := by decide +kernel
theorem dX12_child_68 : decode cX12_child 68 = .ok (.getfield 110, 3) := by decide +kernel
theorem dX12_child_71 : decode cX12_child 71 = .ok (.iload 4, 2) := by decide +kernel
theorem dX12_child_73 : decode cX12_child 73 = .ok (.iload_n 1, 1) := by decide +kernel
theorem dX12_child_74 : decode cX12_child 74 = .ok (.iastore, 1) := by decide +kernel
theorem dX12_child_75 : decode cX12_child 75 = .ok (.aload_n 0, 1) := by decide +kernel
theorem dX12_child_76 : decode cX12_child 76 = .ok (.getfield 113, 3) := by decide +kernel
theorem dX12_child_79 : decode cX12_child 79 = .ok (.iload 4, 2) := by decide +kernel
theorem dX12_child_81 : decode cX12_child 81 = .ok (.iload_n 2, 1) := by decide +kernel
theorem dX12_child_82 : decode cX12_child 82 = .ok (.iastore, 1) := by decide +kernel
theorem dX12_child_83 : decode cX12_child 83 = .ok (.aload_n 0, 1) := by decide +kernel
theorem dX12_child_84 : decode cX12_child 84 = .ok (.getfield 116, 3) := by decide +kernel
theorem dX12_child_87 : decode cX12_child 87 = .ok (.iload 4, 2) := by decide +kernel
theorem dX12_child_89 : decode cX12_child 89 = .ok (.iload_n 3, 1) := by decide +kernel
theorem dX12_child_90 : decode cX12_child 90 = .ok (.iastore, 1) := by decide +kernel
theorem dX12_child_91 : decode cX12_child 91 = .ok (.aload_n 0, 1) := by decide +kernel
theorem dX12_child_92 : decode cX12_child 92 = .ok (.getfield 119, 3) := by decide +kernel
theorem dX12_child_95 : decode cX12_child 95 = .ok (.iload 4, 2) := by decide +kernel
theorem dX12_child_97 : decode cX12_child 97 = .ok (.iconst (-1), 1) := by decide +kernel
theorem dX12_child_98 : decode cX12_child 98 = .ok (.iastore, 1) := by decide +kernel
theorem dX12_child_99 : decode cX12_child 99 = .ok (.aload_n 0, 1) := by decide +kernel
theorem dX12_child_100 : decode cX12_child 100 = .ok (.getfield 122, 3) := by decide +kernel
theorem dX12_child_103 : decode cX12_child 103 = .ok (.iload 4, 2) := by decide +kernel
theorem dX12_child_105 : decode cX12_child 105 = .ok (.aload_n 0, 1) := by decide +kernel
theorem dX12_child_106 : decode cX12_child 106 = .ok (.getfield 119, 3) := by decide +kernel
theorem dX12_child_109 : decode cX12_child 109 = .ok (.iload_n 1, 1) := by decide +kernel
theorem dX12_child_110 : decode cX12_child 110 = .ok (.iaload, 1) := by decide +kernel
theorem dX12_child_111 : decode cX12_child 111 = .ok (.iastore, 1) := by decide +kernel
theorem dX12_child_112 : decode cX12_child 112 = .ok (.aload_n 0, 1) := by decide +kernel
theorem dX12_child_113 : decode cX12_child 113 = .ok (.getfield 119, 3) := by decide +kernel
theorem dX12_child_116 : decode cX12_child 116 = .ok (.iload_n 1, 1) := by decide +kernel
theorem dX12_child_117 : decode cX12_child 117 = .ok (.iload 4, 2) := by decide +kernel
theorem dX12_child_119 : decode cX12_child 119 = .ok (.iastore, 1) := by decide +kernel
theorem dX12_child_120 : decode cX12_child 120 = .ok (.iload 4, 2) := by decide +kernel
theorem dX12_child_122 : decode cX12_child 122 = .ok (.ireturn, 1) := by decide +kernel
theorem dX12_nodeAt_0 : decode cX12_nodeAt 0 = .ok (.aload_n 0, 1) := by decide +kernel
theorem dX12_nodeAt_1 : decode cX12_nodeAt 1 = .ok (.getfield 146, 3) := by decide +kernel
theorem dX12_nodeAt_4 : decode cX12_nodeAt 4 = .ok (.sipush 700, 3) := by decide +kernel
theorem dX12_nodeAt_7 : decode cX12_nodeAt 7 = .ok (.iload_n 1, 1) := by decide +kernel
theorem dX12_nodeAt_8 : decode cX12_nodeAt 8 = .ok (.imul, 1) := by decide +kernel
theorem dX12_nodeAt_9 : decode cX12_nodeAt 9 = .ok (.iload_n 2, 1) := by decide +kernel
theorem dX12_nodeAt_10 : decode cX12_nodeAt 10 = .ok (.iadd, 1) := by decide +kernel
theorem dX12_nodeAt_11 : decode cX12_nodeAt 11 = .ok (.iaload, 1) := by decide +kernel
theorem dX12_nodeAt_12 : decode cX12_nodeAt 12 = .ok (.ireturn, 1) := by decide +kernel
theorem dX12_isDoneAt_0 : decode cX12_isDoneAt 0 = .ok (.iload_n 1, 1) := by decide +kernel
theorem dX12_isDoneAt_1 : decode cX12_isDoneAt 1 = .ok (.istore_n 3, 1) := by decide +kernel
theorem dX12_isDoneAt_2 : decode cX12_isDoneAt 2 = .ok (.iload_n 3, 1) := by decide +kernel
theorem dX12_isDoneAt_3 : decode cX12_isDoneAt 3 = .ok (.ifCond .eq 25, 3) := by decide +kernel
theorem dX12_isDoneAt_6 : decode cX12_isDoneAt 6 = .ok (.aload_n 0, 1) := by decide +kernel
theorem dX12_isDoneAt_7 : decode cX12_isDoneAt 7 = .ok (.getfield 113, 3) := by decide +kernel
theorem dX12_isDoneAt_10 : decode cX12_isDoneAt 10 = .ok (.iload_n 3, 1) := by decide +kernel
theorem dX12_isDoneAt_11 : decode cX12_isDoneAt 11 = .ok (.iaload, 1) := by decide +kernel
theorem dX12_isDoneAt_12 : decode cX12_isDoneAt 12 = .ok (.iload_n 2, 1) := by decide +kernel
theorem dX12_isDoneAt_13 : decode cX12_isDoneAt 13 = .ok (.if_icmp .ne 5, 3) := by decide +kernel
theorem dX12_isDoneAt_16 : decode cX12_isDoneAt 16 = .ok (.iconst 1, 1) := by decide +kernel
theorem dX12_isDoneAt_17 : decode cX12_isDoneAt 17 = .ok (.ireturn, 1) := by decide +kernel
theorem dX12_isDoneAt_18 : decode cX12_isDoneAt 18 = .ok (.aload_n 0, 1) := by decide +kernel
theorem dX12_isDoneAt_19 : decode cX12_isDoneAt 19 = .ok (.getfield 110, 3) := by decide +kernel
theorem dX12_isDoneAt_22 : decode cX12_isDoneAt 22 = .ok (.iload_n 3, 1) := by decide +kernel
theorem dX12_isDoneAt_23 : decode cX12_isDoneAt 23 = .ok (.iaload, 1) := by decide +kernel
theorem dX12_isDoneAt_24 : decode cX12_isDoneAt 24 = .ok (.istore_n 3, 1) := by decide +kernel
theorem dX12_isDoneAt_25 : decode cX12_isDoneAt 25 = .ok (.goto (-23), 3) := by decide +kernel
theorem dX12_isDoneAt_28 : decode cX12_isDoneAt 28 = .ok (.iconst 0, 1) := by decide +kernel
theorem dX12_isDoneAt_29 : decode cX12_isDoneAt 29 = .ok (.ireturn, 1) := by decide +kernel
theorem dX12_documentAt_0 : decode cX12_documentAt 0 = .ok (.iload_n 1, 1) := by decide +kernel
theorem dX12_documentAt_1 : decode cX12_documentAt 1 = .ok (.istore_n 3, 1) := by decide +kernel
theorem dX12_documentAt_2 : decode cX12_documentAt 2 = .ok (.iload_n 3, 1) := by decide +kernel
theorem dX12_documentAt_3 : decode cX12_documentAt 3 = .ok (.ifCond .eq 49, 3) := by decide +kernel
theorem dX12_documentAt_6 : decode cX12_documentAt 6 = .ok (.aload_n 0, 1) := by decide +kernel
theorem dX12_documentAt_7 : decode cX12_documentAt 7 = .ok (.getfield 113, 3) := by decide +kernel
theorem dX12_documentAt_10 : decode cX12_documentAt 10 = .ok (.iload_n 3, 1) := by decide +kernel
theorem dX12_documentAt_11 : decode cX12_documentAt 11 = .ok (.iaload, 1) := by decide +kernel
theorem dX12_documentAt_12 : decode cX12_documentAt 12 = .ok (.istore 4, 2) := by decide +kernel
theorem dX12_documentAt_14 : decode cX12_documentAt 14 = .ok (.aload_n 0, 1) := by decide +kernel
theorem dX12_documentAt_15 : decode cX12_documentAt 15 = .ok (.getfield 13, 3) := by decide +kernel
theorem dX12_documentAt_18 : decode cX12_documentAt 18 = .ok (.iload 4, 2) := by decide +kernel
theorem dX12_documentAt_20 : decode cX12_documentAt 20 = .ok (.iaload, 1) := by decide +kernel
theorem dX12_documentAt_21 : decode cX12_documentAt 21 = .ok (.iload_n 2, 1) := by decide +kernel
theorem dX12_documentAt_22 : decode cX12_documentAt 22 = .ok (.if_icmp .ne 20, 3) := by decide +kernel
theorem dX12_documentAt_25 : decode cX12_documentAt 25 = .ok (.aload_n 0, 1) := by decide +kernel
theorem dX12_documentAt_26 : decode cX12_documentAt 26 = .ok (.getfield 7, 3) := by decide +kernel
theorem dX12_documentAt_29 : decode cX12_documentAt 29 = .ok (.iload 4, 2) := by decide +kernel
theorem dX12_documentAt_31 : decode cX12_documentAt 31 = .ok (.iaload, 1) := by decide +kernel
theorem dX12_documentAt_32 : decode cX12_documentAt 32 = .ok (.ifCond .ne 8, 3) := by decide +kernel
theorem dX12_documentAt_35 : decode cX12_documentAt 35 = .ok (.iload 4, 2) := by decide +kernel
theorem dX12_documentAt_37 : decode cX12_documentAt 37 = .ok (.goto 4, 3) := by decide +kernel
theorem dX12_documentAt_40 : decode cX12_documentAt 40 = .ok (.iconst (-1), 1) := by decide +kernel
theorem dX12_documentAt_41 : decode cX12_documentAt 41 = .ok (.ireturn, 1) := by decide +kernel
theorem dX12_documentAt_42 : decode cX12_documentAt 42 = .ok (.aload_n 0, 1) := by decide +kernel
theorem dX12_documentAt_43 : decode cX12_documentAt 43 = .ok (.getfield 110, 3) := by decide +kernel
theorem dX12_documentAt_46 : decode cX12_documentAt 46 = .ok (.iload_n 3, 1) := by decide +kernel
theorem dX12_documentAt_47 : decode cX12_documentAt 47 = .ok (.iaload, 1) := by decide +kernel
theorem dX12_documentAt_48 : decode cX12_documentAt 48 = .ok (.istore_n 3, 1) := by decide +kernel
theorem dX12_documentAt_49 : decode cX12_documentAt 49 = .ok (.goto (-47), 3) := by decide +kernel
theorem dX12_documentAt_52 : decode cX12_documentAt 52 = .ok (.iconst (-1), 1) := by decide +kernel
theorem dX12_documentAt_53 : decode cX12_documentAt 53 = .ok (.ireturn, 1) := by decide +kernel
theorem dX12_h1_0 : decode cX12_h1 0 = .ok (.aload_n 0, 1) := by decide +kernel
theorem dX12_h1_1 : decode cX12_h1 1 = .ok (.getfield 103, 3) := by decide +kernel
theorem dX12_h1_4 : decode cX12_h1 4 = .ok (.aload_n 0, 1) := by decide +kernel
theorem dX12_h1_5 : decode cX12_h1 5 = .ok (.getfield 371, 3) := by decide +kernel
theorem dX12_h1_8 : decode cX12_h1 8 = .ok (.iload_n 1, 1) := by decide +kernel
theorem dX12_h1_9 : decode cX12_h1 9 = .ok (.i2b, 1) := by decide +kernel
theorem dX12_h1_10 : decode cX12_h1 10 = .ok (.bastore, 1) := by decide +kernel
theorem dX12_h1_11 : decode cX12_h1 11 = .ok (.aload_n 0, 1) := by decide +kernel
theorem dX12_h1_12 : decode cX12_h1 12 = .ok (.dup, 1) := by decide +kernel
theorem dX12_h1_13 : decode cX12_h1 13 = .ok (.getfield 371, 3) := by decide +kernel
theorem dX12_h1_16 : decode cX12_h1 16 = .ok (.iconst 1, 1) := by decide +kernel
theorem dX12_h1_17 : decode cX12_h1 17 = .ok (.iadd, 1) := by decide +kernel
theorem dX12_h1_18 : decode cX12_h1 18 = .ok (.putfield 371, 3) := by decide +kernel
theorem dX12_h1_21 : decode cX12_h1 21 = .ok (.return_, 1) := by decide +kernel
theorem dX12_h2_0 : decode cX12_h2 0 = .ok (.aload_n 0, 1) := by decide +kernel
theorem dX12_h2_1 : decode cX12_h2 1 = .ok (.iload_n 1, 1) := by decide +kernel
theorem dX12_h2_2 : decode cX12_h2 2 = .ok (.bipush 8, 2) := by decide +kernel
theorem dX12_h2_4 : decode cX12_h2 4 = .ok (.ishr, 1) := by decide +kernel
theorem dX12_h2_5 : decode cX12_h2 5 = .ok (.invokevirtual 374, 3) := by decide +kernel
theorem dX12_h2_8 : decode cX12_h2 8 = .ok (.aload_n 0, 1) := by decide +kernel
theorem dX12_h2_9 : decode cX12_h2 9 = .ok (.iload_n 1, 1) := by decide +kernel
theorem dX12_h2_10 : decode cX12_h2 10 = .ok (.invokevirtual 374, 3) := by decide +kernel
theorem dX12_h2_13 : decode cX12_h2 13 = .ok (.return_, 1) := by decide +kernel
theorem dX12_r1_0 : decode cX12_r1 0 = .ok (.aload_n 0, 1) := by decide +kernel
theorem dX12_r1_1 : decode cX12_r1 1 = .ok (.getfield 106, 3) := by decide +kernel
theorem dX12_r1_4 : decode cX12_r1 4 = .ok (.aload_n 0, 1) := by decide +kernel
theorem dX12_r1_5 : decode cX12_r1 5 = .ok (.getfield 377, 3) := by decide +kernel
theorem dX12_r1_8 : decode cX12_r1 8 = .ok (.iload_n 1, 1) := by decide +kernel
theorem dX12_r1_9 : decode cX12_r1 9 = .ok (.i2b, 1) := by decide +kernel
theorem dX12_r1_10 : decode cX12_r1 10 = .ok (.bastore, 1) := by decide +kernel
theorem dX12_r1_11 : decode cX12_r1 11 = .ok (.aload_n 0, 1) := by decide +kernel
theorem dX12_r1_12 : decode cX12_r1 12 = .ok (.dup, 1) := by decide +kernel
theorem dX12_r1_13 : decode cX12_r1 13 = .ok (.getfield 377, 3) := by decide +kernel
theorem dX12_r1_16 : decode cX12_r1 16 = .ok (.iconst 1, 1) := by decide +kernel
theorem dX12_r1_17 : decode cX12_r1 17 = .ok (.iadd, 1) := by decide +kernel
theorem dX12_r1_18 : decode cX12_r1 18 = .ok (.putfield 377, 3) := by decide +kernel
theorem dX12_r1_21 : decode cX12_r1 21 = .ok (.return_, 1) := by decide +kernel
theorem dX12_r2_0 : decode cX12_r2 0 = .ok (.aload_n 0, 1) := by decide +kernel
theorem dX12_r2_1 : decode cX12_r2 1 = .ok (.iload_n 1, 1) := by decide +kernel
theorem dX12_r2_2 : decode cX12_r2 2 = .ok (.bipush 8, 2) := by decide +kernel
theorem dX12_r2_4 : decode cX12_r2 4 = .ok (.ishr, 1) := by decide +kernel
theorem dX12_r2_5 : decode cX12_r2 5 = .ok (.invokevirtual 380, 3) := by decide +kernel
theorem dX12_r2_8 : decode cX12_r2 8 = .ok (.aload_n 0, 1) := by decide +kernel
theorem dX12_r2_9 : decode cX12_r2 9 = .ok (.iload_n 1, 1) := by decide +kernel
theorem dX12_r2_10 : decode cX12_r2 10 = .ok (.invokevirtual 380, 3) := by decide +kernel
theorem dX12_r2_13 : decode cX12_r2 13 = .ok (.return_, 1) := by decide +kernel
theorem dX12_halfAct_0 : decode cX12_halfAct 0 = .ok (.aload_n 0, 1) := by decide +kernel
theorem dX12_halfAct_1 : decode cX12_halfAct 1 = .ok (.getfield 113, 3) := by decide +kernel
theorem dX12_halfAct_4 : decode cX12_halfAct 4 = .ok (.iload_n 2, 1) := by decide +kernel
theorem dX12_halfAct_5 : decode cX12_halfAct 5 = .ok (.iaload, 1) := by decide +kernel
theorem dX12_halfAct_6 : decode cX12_halfAct 6 = .ok (.istore 4, 2) := by decide +kernel
theorem dX12_halfAct_8 : decode cX12_halfAct 8 = .ok (.aload_n 0, 1) := by decide +kernel
theorem dX12_halfAct_9 : decode cX12_halfAct 9 = .ok (.getfield 7, 3) := by decide +kernel
theorem dX12_halfAct_12 : decode cX12_halfAct 12 = .ok (.iload 4, 2) := by decide +kernel
theorem dX12_halfAct_14 : decode cX12_halfAct 14 = .ok (.iaload, 1) := by decide +kernel
theorem dX12_halfAct_15 : decode cX12_halfAct 15 = .ok (.ifCond .ne 7, 3) := by decide +kernel
theorem dX12_halfAct_18 : decode cX12_halfAct 18 = .ok (.iconst 1, 1) := by decide +kernel
theorem dX12_halfAct_19 : decode cX12_halfAct 19 = .ok (.goto 4, 3) := by decide +kernel
theorem dX12_halfAct_22 : decode cX12_halfAct 22 = .ok (.iconst 0, 1) := by decide +kernel
theorem dX12_halfAct_23 : decode cX12_halfAct 23 = .ok (.istore 5, 2) := by decide +kernel
theorem dX12_halfAct_25 : decode cX12_halfAct 25 = .ok (.aload_n 0, 1) := by decide +kernel
theorem dX12_halfAct_26 : decode cX12_halfAct 26 = .ok (.iload 5, 2) := by decide +kernel
theorem dX12_halfAct_28 : decode cX12_halfAct 28 = .ok (.ifCond .eq 7, 3) := by decide +kernel
theorem dX12_halfAct_31 : decode cX12_halfAct 31 = .ok (.iconst 1, 1) := by decide +kernel
theorem dX12_halfAct_32 : decode cX12_halfAct 32 = .ok (.goto 4, 3) := by decide +kernel
theorem dX12_halfAct_35 : decode cX12_halfAct 35 = .ok (.iconst 2, 1) := by decide +kernel
theorem dX12_halfAct_36 : decode cX12_halfAct 36 = .ok (.invokevirtual 374, 3) := by decide +kernel
theorem dX12_halfAct_39 : decode cX12_halfAct 39 = .ok (.aload_n 0, 1) := by decide +kernel
theorem dX12_halfAct_40 : decode cX12_halfAct 40 = .ok (.iload 5, 2) := by decide +kernel
theorem dX12_halfAct_42 : decode cX12_halfAct 42 = .ok (.ifCond .eq 16, 3) := by decide +kernel
theorem dX12_halfAct_45 : decode cX12_halfAct 45 = .ok (.bipush 9, 2) := by decide +kernel
theorem dX12_halfAct_47 : decode cX12_halfAct 47 = .ok (.aload_n 0, 1) := by decide +kernel
theorem dX12_halfAct_48 : decode cX12_halfAct 48 = .ok (.getfield 50, 3) := by decide +kernel
theorem dX12_halfAct_51 : decode cX12_halfAct 51 = .ok (.iload 4, 2) := by decide +kernel
theorem dX12_halfAct_53 : decode cX12_halfAct 53 = .ok (.iaload, 1) := by decide +kernel
theorem dX12_halfAct_54 : decode cX12_halfAct 54 = .ok (.iadd, 1) := by decide +kernel
theorem dX12_halfAct_55 : decode cX12_halfAct 55 = .ok (.goto 5, 3) := by decide +kernel
theorem dX12_halfAct_58 : decode cX12_halfAct 58 = .ok (.bipush 9, 2) := by decide +kernel
theorem dX12_halfAct_60 : decode cX12_halfAct 60 = .ok (.invokevirtual 374, 3) := by decide +kernel
theorem dX12_halfAct_63 : decode cX12_halfAct 63 = .ok (.aload_n 0, 1) := by decide +kernel
theorem dX12_halfAct_64 : decode cX12_halfAct 64 = .ok (.iload_n 1, 1) := by decide +kernel
theorem dX12_halfAct_65 : decode cX12_halfAct 65 = .ok (.invokevirtual 383, 3) := by decide +kernel
theorem dX12_halfAct_68 : decode cX12_halfAct 68 = .ok (.aload_n 0, 1) := by decide +kernel
theorem dX12_halfAct_69 : decode cX12_halfAct 69 = .ok (.aload_n 0, 1) := by decide +kernel
theorem dX12_halfAct_70 : decode cX12_halfAct 70 = .ok (.getfield 116, 3) := by decide +kernel
theorem dX12_halfAct_73 : decode cX12_halfAct 73 = .ok (.iload_n 2, 1) := by decide +kernel
theorem dX12_halfAct_74 : decode cX12_halfAct 74 = .ok (.iaload, 1) := by decide +kernel
theorem dX12_halfAct_75 : decode cX12_halfAct 75 = .ok (.invokevirtual 383, 3) := by decide +kernel
theorem dX12_halfAct_78 : decode cX12_halfAct 78 = .ok (.aload_n 0, 1) := by decide +kernel
theorem dX12_halfAct_79 : decode cX12_halfAct 79 = .ok (.iload 4, 2) := by decide +kernel
theorem dX12_halfAct_81 : decode cX12_halfAct 81 = .ok (.invokevirtual 383, 3) := by decide +kernel
theorem dX12_halfAct_84 : decode cX12_halfAct 84 = .ok (.aload_n 0, 1) := by decide +kernel
theorem dX12_halfAct_85 : decode cX12_halfAct 85 = .ok (.iload_n 3, 1) := by decide +kernel
theorem dX12_halfAct_86 : decode cX12_halfAct 86 = .ok (.invokevirtual 383, 3) := by decide +kernel
theorem dX12_halfAct_89 : decode cX12_halfAct 89 = .ok (.aload_n 0, 1) := by decide +kernel
theorem dX12_halfAct_90 : decode cX12_halfAct 90 = .ok (.aload_n 0, 1) := by decide +kernel
theorem dX12_halfAct_91 : decode cX12_halfAct 91 = .ok (.getfield 13, 3) := by decide +kernel
theorem dX12_halfAct_94 : decode cX12_halfAct 94 = .ok (.iload 4, 2) := by decide +kernel
theorem dX12_halfAct_96 : decode cX12_halfAct 96 = .ok (.iaload, 1) := by decide +kernel
theorem dX12_halfAct_97 : decode cX12_halfAct 97 = .ok (.invokevirtual 374, 3) := by decide +kernel
theorem dX12_halfAct_100 : decode cX12_halfAct 100 = .ok (.iconst 0, 1) := by decide +kernel
theorem dX12_halfAct_101 : decode cX12_halfAct 101 = .ok (.istore 6, 2) := by decide +kernel
theorem dX12_halfAct_103 : decode cX12_halfAct 103 = .ok (.iload 6, 2) := by decide +kernel
theorem dX12_halfAct_105 : decode cX12_halfAct 105 = .ok (.aload_n 0, 1) := by decide +kernel
theorem dX12_halfAct_106 : decode cX12_halfAct 106 = .ok (.getfield 50, 3) := by decide +kernel
theorem dX12_halfAct_109 : decode cX12_halfAct 109 = .ok (.iload 4, 2) := by decide +kernel
theorem dX12_halfAct_111 : decode cX12_halfAct 111 = .ok (.iaload, 1) := by decide +kernel
theorem dX12_halfAct_112 : decode cX12_halfAct 112 = .ok (.if_icmp .ge 31, 3) := by decide +kernel
theorem dX12_halfAct_115 : decode cX12_halfAct 115 = .ok (.iload 5, 2) := by decide +kernel
theorem dX12_halfAct_117 : decode cX12_halfAct 117 = .ok (.ifCond .eq 26, 3) := by decide +kernel
theorem dX12_halfAct_120 : decode cX12_halfAct 120 = .ok (.aload_n 0, 1) := by decide +kernel
theorem dX12_halfAct_121 : decode cX12_halfAct 121 = .ok (.aload_n 0, 1) := by decide +kernel
theorem dX12_halfAct_122 : decode cX12_halfAct 122 = .ok (.getfield 47, 3) := by decide +kernel
theorem dX12_halfAct_125 : decode cX12_halfAct 125 = .ok (.bipush 60, 2) := by decide +kernel
theorem dX12_halfAct_127 : decode cX12_halfAct 127 = .ok (.iload 4, 2) := by decide +kernel
theorem dX12_halfAct_129 : decode cX12_halfAct 129 = .ok (.imul, 1) := by decide +kernel
theorem dX12_halfAct_130 : decode cX12_halfAct 130 = .ok (.iload 6, 2) := by decide +kernel
theorem dX12_halfAct_132 : decode cX12_halfAct 132 = .ok (.iadd, 1) := by decide +kernel
theorem dX12_halfAct_133 : decode cX12_halfAct 133 = .ok (.iaload, 1) := by decide +kernel
theorem dX12_halfAct_134 : decode cX12_halfAct 134 = .ok (.invokevirtual 374, 3) := by decide +kernel
theorem dX12_halfAct_137 : decode cX12_halfAct 137 = .ok (.iinc 6 1, 3) := by decide +kernel
theorem dX12_halfAct_140 : decode cX12_halfAct 140 = .ok (.goto (-37), 3) := by decide +kernel
theorem dX12_halfAct_143 : decode cX12_halfAct 143 = .ok (.aload_n 0, 1) := by decide +kernel
theorem dX12_halfAct_144 : decode cX12_halfAct 144 = .ok (.sipush 255, 3) := by decide +kernel
theorem dX12_halfAct_147 : decode cX12_halfAct 147 = .ok (.invokevirtual 374, 3) := by decide +kernel
theorem dX12_halfAct_150 : decode cX12_halfAct 150 = .ok (.return_, 1) := by decide +kernel
theorem dX12_fillHalf_0 : decode cX12_fillHalf 0 = .ok (.aload_n 0, 1) := by decide +kernel
theorem dX12_fillHalf_1 : decode cX12_fillHalf 1 = .ok (.iconst 0, 1) := by decide +kernel
theorem dX12_fillHalf_2 : decode cX12_fillHalf 2 = .ok (.putfield 371, 3) := by decide +kernel
theorem dX12_fillHalf_5 : decode cX12_fillHalf 5 = .ok (.iload_n 1, 1) := by decide +kernel
theorem dX12_fillHalf_6 : decode cX12_fillHalf 6 = .ok (.bipush 20, 2) := by decide +kernel
theorem dX12_fillHalf_8 : decode cX12_fillHalf 8 = .ok (.if_icmp .ne 98, 3) := by decide +kernel
theorem dX12_fillHalf_11 : decode cX12_fillHalf 11 = .ok (.iconst 0, 1) := by decide +kernel
theorem dX12_fillHalf_12 : decode cX12_fillHalf 12 = .ok (.istore_n 2, 1) := by decide +kernel
theorem dX12_fillHalf_13 : decode cX12_fillHalf 13 = .ok (.iload_n 2, 1) := by decide +kernel
theorem dX12_fillHalf_14 : decode cX12_fillHalf 14 = .ok (.aload_n 0, 1) := by decide +kernel
theorem dX12_fillHalf_15 : decode cX12_fillHalf 15 = .ok (.getfield 327, 3) := by decide +kernel
theorem dX12_fillHalf_18 : decode cX12_fillHalf 18 = .ok (.if_icmp .ge 85, 3) := by decide +kernel
theorem dX12_fillHalf_21 : decode cX12_fillHalf 21 = .ok (.aload_n 0, 1) := by decide +kernel
theorem dX12_fillHalf_22 : decode cX12_fillHalf 22 = .ok (.bipush 7, 2) := by decide +kernel
theorem dX12_fillHalf_24 : decode cX12_fillHalf 24 = .ok (.invokevirtual 374, 3) := by decide +kernel
theorem dX12_fillHalf_27 : decode cX12_fillHalf 27 = .ok (.aload_n 0, 1) := by decide +kernel
theorem dX12_fillHalf_28 : decode cX12_fillHalf 28 = .ok (.bipush 7, 2) := by decide +kernel
theorem dX12_fillHalf_30 : decode cX12_fillHalf 30 = .ok (.invokevirtual 374, 3) := by decide +kernel
theorem dX12_fillHalf_33 : decode cX12_fillHalf 33 = .ok (.aload_n 0, 1) := by decide +kernel
theorem dX12_fillHalf_34 : decode cX12_fillHalf 34 = .ok (.iload_n 2, 1) := by decide +kernel
theorem dX12_fillHalf_35 : decode cX12_fillHalf 35 = .ok (.invokevirtual 374, 3) := by decide +kernel
theorem dX12_fillHalf_38 : decode cX12_fillHalf 38 = .ok (.aload_n 0, 1) := by decide +kernel
theorem dX12_fillHalf_39 : decode cX12_fillHalf 39 = .ok (.aload_n 0, 1) := by decide +kernel
theorem dX12_fillHalf_40 : decode cX12_fillHalf 40 = .ok (.getfield 176, 3) := by decide +kernel
theorem dX12_fillHalf_43 : decode cX12_fillHalf 43 = .ok (.bipush 20, 2) := by decide +kernel
theorem dX12_fillHalf_45 : decode cX12_fillHalf 45 = .ok (.iload_n 2, 1) := by decide +kernel
theorem dX12_fillHalf_46 : decode cX12_fillHalf 46 = .ok (.iadd, 1) := by decide +kernel
theorem dX12_fillHalf_47 : decode cX12_fillHalf 47 = .ok (.iaload, 1) := by decide +kernel
theorem dX12_fillHalf_48 : decode cX12_fillHalf 48 = .ok (.invokevirtual 383, 3) := by decide +kernel
theorem dX12_fillHalf_51 : decode cX12_fillHalf 51 = .ok (.aload_n 0, 1) := by decide +kernel
theorem dX12_fillHalf_52 : decode cX12_fillHalf 52 = .ok (.aload_n 0, 1) := by decide +kernel
theorem dX12_fillHalf_53 : decode cX12_fillHalf 53 = .ok (.getfield 179, 3) := by decide +kernel
theorem dX12_fillHalf_56 : decode cX12_fillHalf 56 = .ok (.bipush 20, 2) := by decide +kernel
theorem dX12_fillHalf_58 : decode cX12_fillHalf 58 = .ok (.iload_n 2, 1) := by decide +kernel
theorem dX12_fillHalf_59 : decode cX12_fillHalf 59 = .ok (.iadd, 1) := by decide +kernel
theorem dX12_fillHalf_60 : decode cX12_fillHalf 60 = .ok (.iaload, 1) := by decide +kernel
theorem dX12_fillHalf_61 : decode cX12_fillHalf 61 = .ok (.invokevirtual 374, 3) := by decide +kernel
theorem dX12_fillHalf_64 : decode cX12_fillHalf 64 = .ok (.aload_n 0, 1) := by decide +kernel
theorem dX12_fillHalf_65 : decode cX12_fillHalf 65 = .ok (.aload_n 0, 1) := by decide +kernel
theorem dX12_fillHalf_66 : decode cX12_fillHalf 66 = .ok (.getfield 182, 3) := by decide +kernel
theorem dX12_fillHalf_69 : decode cX12_fillHalf 69 = .ok (.bipush 20, 2) := by decide +kernel
theorem dX12_fillHalf_71 : decode cX12_fillHalf 71 = .ok (.iload_n 2, 1) := by decide +kernel
theorem dX12_fillHalf_72 : decode cX12_fillHalf 72 = .ok (.iadd, 1) := by decide +kernel
theorem dX12_fillHalf_73 : decode cX12_fillHalf 73 = .ok (.iaload, 1) := by decide +kernel
theorem dX12_fillHalf_74 : decode cX12_fillHalf 74 = .ok (.invokevirtual 374, 3) := by decide +kernel
theorem dX12_fillHalf_77 : decode cX12_fillHalf 77 = .ok (.aload_n 0, 1) := by decide +kernel
theorem dX12_fillHalf_78 : decode cX12_fillHalf 78 = .ok (.aload_n 0, 1) := by decide +kernel
theorem dX12_fillHalf_79 : decode cX12_fillHalf 79 = .ok (.getfield 185, 3) := by decide +kernel
theorem dX12_fillHalf_82 : decode cX12_fillHalf 82 = .ok (.bipush 20, 2) := by decide +kernel
theorem dX12_fillHalf_84 : decode cX12_fillHalf 84 = .ok (.iload_n 2, 1) := by decide +kernel
theorem dX12_fillHalf_85 : decode cX12_fillHalf 85 = .ok (.iadd, 1) := by decide +kernel
theorem dX12_fillHalf_86 : decode cX12_fillHalf 86 = .ok (.iaload, 1) := by decide +kernel
theorem dX12_fillHalf_87 : decode cX12_fillHalf 87 = .ok (.invokevirtual 383, 3) := by decide +kernel
theorem dX12_fillHalf_90 : decode cX12_fillHalf 90 = .ok (.aload_n 0, 1) := by decide +kernel
theorem dX12_fillHalf_91 : decode cX12_fillHalf 91 = .ok (.sipush 255, 3) := by decide +kernel
theorem dX12_fillHalf_94 : decode cX12_fillHalf 94 = .ok (.invokevirtual 374, 3) := by decide +kernel
theorem dX12_fillHalf_97 : decode cX12_fillHalf 97 = .ok (.iinc 2 1, 3) := by decide +kernel
theorem dX12_fillHalf_100 : decode cX12_fillHalf 100 = .ok (.goto (-87), 3) := by decide +kernel
theorem dX12_fillHalf_103 : decode cX12_fillHalf 103 = .ok (.goto 8, 3) := by decide +kernel
theorem dX12_fillHalf_106 : decode cX12_fillHalf 106 = .ok (.aload_n 0, 1) := by decide +kernel
theorem dX12_fillHalf_107 : decode cX12_fillHalf 107 = .ok (.iload_n 1, 1) := by decide +kernel
theorem dX12_fillHalf_108 : decode cX12_fillHalf 108 = .ok (.invokevirtual 386, 3) := by decide +kernel
theorem dX12_fillHalf_111 : decode cX12_fillHalf 111 = .ok (.aload_n 0, 1) := by decide +kernel
theorem dX12_fillHalf_112 : decode cX12_fillHalf 112 = .ok (.getfield 371, 3) := by decide +kernel
theorem dX12_fillHalf_115 : decode cX12_fillHalf 115 = .ok (.istore_n 2, 1) := by decide +kernel
theorem dX12_fillHalf_116 : decode cX12_fillHalf 116 = .ok (.iload_n 2, 1) := by decide +kernel
theorem dX12_fillHalf_117 : decode cX12_fillHalf 117 = .ok (.sipush 6400, 3) := by decide +kernel
theorem dX12_fillHalf_120 : decode cX12_fillHalf 120 = .ok (.if_icmp .ge 16, 3) := by decide +kernel
theorem dX12_fillHalf_123 : decode cX12_fillHalf 123 = .ok (.aload_n 0, 1) := by decide +kernel
theorem dX12_fillHalf_124 : decode cX12_fillHalf 124 = .ok (.getfield 103, 3) := by decide +kernel
theorem dX12_fillHalf_127 : decode cX12_fillHalf 127 = .ok (.iload_n 2, 1) := by decide +kernel
theorem dX12_fillHalf_128 : decode cX12_fillHalf 128 = .ok (.iconst 0, 1) := by decide +kernel
theorem dX12_fillHalf_129 : decode cX12_fillHalf 129 = .ok (.bastore, 1) := by decide +kernel
theorem dX12_fillHalf_130 : decode cX12_fillHalf 130 = .ok (.iinc 2 1, 3) := by decide +kernel
theorem dX12_fillHalf_133 : decode cX12_fillHalf 133 = .ok (.goto (-17), 3) := by decide +kernel
theorem dX12_fillHalf_136 : decode cX12_fillHalf 136 = .ok (.return_, 1) := by decide +kernel
theorem dX12_halfCopy_0 : decode cX12_halfCopy 0 = .ok (.aload_n 0, 1) := by decide +kernel
theorem dX12_halfCopy_1 : decode cX12_halfCopy 1 = .ok (.iload_n 1, 1) := by decide +kernel
theorem dX12_halfCopy_2 : decode cX12_halfCopy 2 = .ok (.aload_n 0, 1) := by decide +kernel
theorem dX12_halfCopy_3 : decode cX12_halfCopy 3 = .ok (.getfield 134, 3) := by decide +kernel
theorem dX12_halfCopy_6 : decode cX12_halfCopy 6 = .ok (.iload_n 1, 1) := by decide +kernel
theorem dX12_halfCopy_7 : decode cX12_halfCopy 7 = .ok (.iaload, 1) := by decide +kernel
theorem dX12_halfCopy_8 : decode cX12_halfCopy 8 = .ok (.invokevirtual 389, 3) := by decide +kernel
theorem dX12_halfCopy_11 : decode cX12_halfCopy 11 = .ok (.istore_n 2, 1) := by decide +kernel
theorem dX12_halfCopy_12 : decode cX12_halfCopy 12 = .ok (.aload_n 0, 1) := by decide +kernel
theorem dX12_halfCopy_13 : decode cX12_halfCopy 13 = .ok (.iconst 5, 1) := by decide +kernel
theorem dX12_halfCopy_14 : decode cX12_halfCopy 14 = .ok (.invokevirtual 374, 3) := by decide +kernel
theorem dX12_halfCopy_17 : decode cX12_halfCopy 17 = .ok (.aload_n 0, 1) := by decide +kernel
theorem dX12_halfCopy_18 : decode cX12_halfCopy 18 = .ok (.bipush 67, 2) := by decide +kernel
theorem dX12_halfCopy_20 : decode cX12_halfCopy 20 = .ok (.invokevirtual 374, 3) := by decide +kernel
theorem dX12_halfCopy_23 : decode cX12_halfCopy 23 = .ok (.aload_n 0, 1) := by decide +kernel
theorem dX12_halfCopy_24 : decode cX12_halfCopy 24 = .ok (.aload_n 0, 1) := by decide +kernel
theorem dX12_halfCopy_25 : decode cX12_halfCopy 25 = .ok (.getfield 134, 3) := by decide +kernel
theorem dX12_halfCopy_28 : decode cX12_halfCopy 28 = .ok (.iload_n 1, 1) := by decide +kernel
theorem dX12_halfCopy_29 : decode cX12_halfCopy 29 = .ok (.iaload, 1) := by decide +kernel
theorem dX12_halfCopy_30 : decode cX12_halfCopy 30 = .ok (.invokevirtual 383, 3) := by decide +kernel
theorem dX12_halfCopy_33 : decode cX12_halfCopy 33 = .ok (.aload_n 0, 1) := by decide +kernel
theorem dX12_halfCopy_34 : decode cX12_halfCopy 34 = .ok (.aload_n 0, 1) := by decide +kernel
theorem dX12_halfCopy_35 : decode cX12_halfCopy 35 = .ok (.getfield 125, 3) := by decide +kernel
theorem dX12_halfCopy_38 : decode cX12_halfCopy 38 = .ok (.iload_n 1, 1) := by decide +kernel
theorem dX12_halfCopy_39 : decode cX12_halfCopy 39 = .ok (.iaload, 1) := by decide +kernel
theorem dX12_halfCopy_40 : decode cX12_halfCopy 40 = .ok (.invokevirtual 383, 3) := by decide +kernel
theorem dX12_halfCopy_43 : decode cX12_halfCopy 43 = .ok (.aload_n 0, 1) := by decide +kernel
theorem dX12_halfCopy_44 : decode cX12_halfCopy 44 = .ok (.getfield 371, 3) := by decide +kernel
theorem dX12_halfCopy_47 : decode cX12_halfCopy 47 = .ok (.istore_n 3, 1) := by decide +kernel
theorem dX12_halfCopy_48 : decode cX12_halfCopy 48 = .ok (.iconst 0, 1) := by decide +kernel
theorem dX12_halfCopy_49 : decode cX12_halfCopy 49 = .ok (.istore 4, 2) := by decide +kernel
theorem dX12_halfCopy_51 : decode cX12_halfCopy 51 = .ok (.iload 4, 2) := by decide +kernel
theorem dX12_halfCopy_53 : decode cX12_halfCopy 53 = .ok (.bipush 63, 2) := by decide +kernel
theorem dX12_halfCopy_55 : decode cX12_halfCopy 55 = .ok (.if_icmp .ge 14, 3) := by decide +kernel
theorem dX12_halfCopy_58 : decode cX12_halfCopy 58 = .ok (.aload_n 0, 1) := by decide +kernel
theorem dX12_halfCopy_59 : decode cX12_halfCopy 59 = .ok (.iconst 0, 1) := by decide +kernel
theorem dX12_halfCopy_60 : decode cX12_halfCopy 60 = .ok (.invokevirtual 374, 3) := by decide +kernel
theorem dX12_halfCopy_63 : decode cX12_halfCopy 63 = .ok (.iinc 4 1, 3) := by decide +kernel
theorem dX12_halfCopy_66 : decode cX12_halfCopy 66 = .ok (.goto (-15), 3) := by decide +kernel
theorem dX12_halfCopy_69 : decode cX12_halfCopy 69 = .ok (.iload_n 2, 1) := by decide +kernel
theorem dX12_halfCopy_70 : decode cX12_halfCopy 70 = .ok (.istore 4, 2) := by decide +kernel
theorem dX12_halfCopy_72 : decode cX12_halfCopy 72 = .ok (.iload 4, 2) := by decide +kernel
theorem dX12_halfCopy_74 : decode cX12_halfCopy 74 = .ok (.ifCond .eq 57, 3) := by decide +kernel
theorem dX12_halfCopy_77 : decode cX12_halfCopy 77 = .ok (.aload_n 0, 1) := by decide +kernel
theorem dX12_halfCopy_78 : decode cX12_halfCopy 78 = .ok (.getfield 113, 3) := by decide +kernel
theorem dX12_halfCopy_81 : decode cX12_halfCopy 81 = .ok (.iload 4, 2) := by decide +kernel
theorem dX12_halfCopy_83 : decode cX12_halfCopy 83 = .ok (.iaload, 1) := by decide +kernel
theorem dX12_halfCopy_84 : decode cX12_halfCopy 84 = .ok (.istore 5, 2) := by decide +kernel
theorem dX12_halfCopy_86 : decode cX12_halfCopy 86 = .ok (.aload_n 0, 1) := by decide +kernel
theorem dX12_halfCopy_87 : decode cX12_halfCopy 87 = .ok (.getfield 103, 3) := by decide +kernel
theorem dX12_halfCopy_90 : decode cX12_halfCopy 90 = .ok (.iload_n 3, 1) := by decide +kernel
theorem dX12_halfCopy_91 : decode cX12_halfCopy 91 = .ok (.iload 5, 2) := by decide +kernel
theorem dX12_halfCopy_93 : decode cX12_halfCopy 93 = .ok (.bipush 8, 2) := by decide +kernel
theorem dX12_halfCopy_95 : decode cX12_halfCopy 95 = .ok (.idiv, 1) := by decide +kernel
theorem dX12_halfCopy_96 : decode cX12_halfCopy 96 = .ok (.iadd, 1) := by decide +kernel
theorem dX12_halfCopy_97 : decode cX12_halfCopy 97 = .ok (.aload_n 0, 1) := by decide +kernel
theorem dX12_halfCopy_98 : decode cX12_halfCopy 98 = .ok (.getfield 103, 3) := by decide +kernel
theorem dX12_halfCopy_101 : decode cX12_halfCopy 101 = .ok (.iload_n 3, 1) := by decide +kernel
theorem dX12_halfCopy_102 : decode cX12_halfCopy 102 = .ok (.iload 5, 2) := by decide +kernel
theorem dX12_halfCopy_104 : decode cX12_halfCopy 104 = .ok (.bipush 8, 2) := by decide +kernel
theorem dX12_halfCopy_106 : decode cX12_halfCopy 106 = .ok (.idiv, 1) := by decide +kernel
theorem dX12_halfCopy_107 : decode cX12_halfCopy 107 = .ok (.iadd, 1) := by decide +kernel
theorem dX12_halfCopy_108 : decode cX12_halfCopy 108 = .ok (.baload, 1) := by decide +kernel
theorem dX12_halfCopy_109 : decode cX12_halfCopy 109 = .ok (.iconst 1, 1) := by decide +kernel
theorem dX12_halfCopy_110 : decode cX12_halfCopy 110 = .ok (.iload 5, 2) := by decide +kernel
theorem dX12_halfCopy_112 : decode cX12_halfCopy 112 = .ok (.bipush 8, 2) := by decide +kernel
theorem dX12_halfCopy_114 : decode cX12_halfCopy 114 = .ok (.irem, 1) := by decide +kernel
theorem dX12_halfCopy_115 : decode cX12_halfCopy 115 = .ok (.ishl, 1) := by decide +kernel
theorem dX12_halfCopy_116 : decode cX12_halfCopy 116 = .ok (.ior, 1) := by decide +kernel
theorem dX12_halfCopy_117 : decode cX12_halfCopy 117 = .ok (.i2b, 1) := by decide +kernel
theorem dX12_halfCopy_118 : decode cX12_halfCopy 118 = .ok (.bastore, 1) := by decide +kernel
theorem dX12_halfCopy_119 : decode cX12_halfCopy 119 = .ok (.aload_n 0, 1) := by decide +kernel
theorem dX12_halfCopy_120 : decode cX12_halfCopy 120 = .ok (.getfield 110, 3) := by decide +kernel
theorem dX12_halfCopy_123 : decode cX12_halfCopy 123 = .ok (.iload 4, 2) := by decide +kernel
theorem dX12_halfCopy_125 : decode cX12_halfCopy 125 = .ok (.iaload, 1) := by decide +kernel
theorem dX12_halfCopy_126 : decode cX12_halfCopy 126 = .ok (.istore 4, 2) := by decide +kernel
theorem dX12_halfCopy_128 : decode cX12_halfCopy 128 = .ok (.goto (-56), 3) := by decide +kernel
theorem dX12_halfCopy_131 : decode cX12_halfCopy 131 = .ok (.aload_n 0, 1) := by decide +kernel
theorem dX12_halfCopy_132 : decode cX12_halfCopy 132 = .ok (.sipush 255, 3) := by decide +kernel
theorem dX12_halfCopy_135 : decode cX12_halfCopy 135 = .ok (.invokevirtual 374, 3) := by decide +kernel
theorem dX12_halfCopy_138 : decode cX12_halfCopy 138 = .ok (.iload_n 1, 1) := by decide +kernel
theorem dX12_halfCopy_139 : decode cX12_halfCopy 139 = .ok (.iconst 4, 1) := by decide +kernel
theorem dX12_halfCopy_140 : decode cX12_halfCopy 140 = .ok (.irem, 1) := by decide +kernel
theorem dX12_halfCopy_141 : decode cX12_halfCopy 141 = .ok (.istore 4, 2) := by decide +kernel
theorem dX12_halfCopy_143 : decode cX12_halfCopy 143 = .ok (.iload 4, 2) := by decide +kernel
theorem dX12_halfCopy_145 : decode cX12_halfCopy 145 = .ok (.bipush 100, 2) := by decide +kernel
theorem dX12_halfCopy_147 : decode cX12_halfCopy 147 = .ok (.if_icmp .ge 123, 3) := by decide +kernel
theorem dX12_halfCopy_150 : decode cX12_halfCopy 150 = .ok (.iload 4, 2) := by decide +kernel
theorem dX12_halfCopy_152 : decode cX12_halfCopy 152 = .ok (.aload_n 0, 1) := by decide +kernel
theorem dX12_halfCopy_153 : decode cX12_halfCopy 153 = .ok (.getfield 327, 3) := by decide +kernel
theorem dX12_halfCopy_156 : decode cX12_halfCopy 156 = .ok (.irem, 1) := by decide +kernel
theorem dX12_halfCopy_157 : decode cX12_halfCopy 157 = .ok (.iload_n 1, 1) := by decide +kernel
theorem dX12_halfCopy_158 : decode cX12_halfCopy 158 = .ok (.iconst 4, 1) := by decide +kernel
theorem dX12_halfCopy_159 : decode cX12_halfCopy 159 = .ok (.irem, 1) := by decide +kernel
theorem dX12_halfCopy_160 : decode cX12_halfCopy 160 = .ok (.if_icmp .ne 13, 3) := by decide +kernel
theorem dX12_halfCopy_163 : decode cX12_halfCopy 163 = .ok (.aload_n 0, 1) := by decide +kernel
theorem dX12_halfCopy_164 : decode cX12_halfCopy 164 = .ok (.iload_n 2, 1) := by decide +kernel
theorem dX12_halfCopy_165 : decode cX12_halfCopy 165 = .ok (.iload 4, 2) := by decide +kernel
theorem dX12_halfCopy_167 : decode cX12_halfCopy 167 = .ok (.invokevirtual 392, 3) := by decide +kernel
theorem dX12_halfCopy_170 : decode cX12_halfCopy 170 = .ok (.goto 4, 3) := by decide +kernel
theorem dX12_halfCopy_173 : decode cX12_halfCopy 173 = .ok (.iconst (-1), 1) := by decide +kernel
theorem dX12_halfCopy_174 : decode cX12_halfCopy 174 = .ok (.istore 5, 2) := by decide +kernel
theorem dX12_halfCopy_176 : decode cX12_halfCopy 176 = .ok (.iload 5, 2) := by decide +kernel
theorem dX12_halfCopy_178 : decode cX12_halfCopy 178 = .ok (.iconst (-1), 1) := by decide +kernel
theorem dX12_halfCopy_179 : decode cX12_halfCopy 179 = .ok (.if_icmp .eq 79, 3) := by decide +kernel
theorem dX12_halfCopy_182 : decode cX12_halfCopy 182 = .ok (.aload_n 0, 1) := by decide +kernel
theorem dX12_halfCopy_183 : decode cX12_halfCopy 183 = .ok (.bipush 6, 2) := by decide +kernel
theorem dX12_halfCopy_185 : decode cX12_halfCopy 185 = .ok (.invokevirtual 374, 3) := by decide +kernel
theorem dX12_halfCopy_188 : decode cX12_halfCopy 188 = .ok (.aload_n 0, 1) := by decide +kernel
theorem dX12_halfCopy_189 : decode cX12_halfCopy 189 = .ok (.iconst 3, 1) := by decide +kernel
theorem dX12_halfCopy_190 : decode cX12_halfCopy 190 = .ok (.aload_n 0, 1) := by decide +kernel
theorem dX12_halfCopy_191 : decode cX12_halfCopy 191 = .ok (.getfield 50, 3) := by decide +kernel
theorem dX12_halfCopy_194 : decode cX12_halfCopy 194 = .ok (.iload 5, 2) := by decide +kernel
theorem dX12_halfCopy_196 : decode cX12_halfCopy 196 = .ok (.iaload, 1) := by decide +kernel
theorem dX12_halfCopy_197 : decode cX12_halfCopy 197 = .ok (.iadd, 1) := by decide +kernel
theorem dX12_halfCopy_198 : decode cX12_halfCopy 198 = .ok (.invokevirtual 374, 3) := by decide +kernel
theorem dX12_halfCopy_201 : decode cX12_halfCopy 201 = .ok (.aload_n 0, 1) := by decide +kernel
theorem dX12_halfCopy_202 : decode cX12_halfCopy 202 = .ok (.iload 4, 2) := by decide +kernel
theorem dX12_halfCopy_204 : decode cX12_halfCopy 204 = .ok (.invokevirtual 374, 3) := by decide +kernel
theorem dX12_halfCopy_207 : decode cX12_halfCopy 207 = .ok (.aload_n 0, 1) := by decide +kernel
theorem dX12_halfCopy_208 : decode cX12_halfCopy 208 = .ok (.iload 5, 2) := by decide +kernel
theorem dX12_halfCopy_210 : decode cX12_halfCopy 210 = .ok (.invokevirtual 383, 3) := by decide +kernel
theorem dX12_halfCopy_213 : decode cX12_halfCopy 213 = .ok (.iconst 0, 1) := by decide +kernel
theorem dX12_halfCopy_214 : decode cX12_halfCopy 214 = .ok (.istore 6, 2) := by decide +kernel
theorem dX12_halfCopy_216 : decode cX12_halfCopy 216 = .ok (.iload 6, 2) := by decide +kernel
theorem dX12_halfCopy_218 : decode cX12_halfCopy 218 = .ok (.aload_n 0, 1) := by decide +kernel
theorem dX12_halfCopy_219 : decode cX12_halfCopy 219 = .ok (.getfield 50, 3) := by decide +kernel
theorem dX12_halfCopy_222 : decode cX12_halfCopy 222 = .ok (.iload 5, 2) := by decide +kernel
theorem dX12_halfCopy_224 : decode cX12_halfCopy 224 = .ok (.iaload, 1) := by decide +kernel
theorem dX12_halfCopy_225 : decode cX12_halfCopy 225 = .ok (.if_icmp .ge 26, 3) := by decide +kernel
theorem dX12_halfCopy_228 : decode cX12_halfCopy 228 = .ok (.aload_n 0, 1) := by decide +kernel
theorem dX12_halfCopy_229 : decode cX12_halfCopy 229 = .ok (.aload_n 0, 1) := by decide +kernel
theorem dX12_halfCopy_230 : decode cX12_halfCopy 230 = .ok (.getfield 47, 3) := by decide +kernel
theorem dX12_halfCopy_233 : decode cX12_halfCopy 233 = .ok (.bipush 60, 2) := by decide +kernel
theorem dX12_halfCopy_235 : decode cX12_halfCopy 235 = .ok (.iload 5, 2) := by decide +kernel
theorem dX12_halfCopy_237 : decode cX12_halfCopy 237 = .ok (.imul, 1) := by decide +kernel
theorem dX12_halfCopy_238 : decode cX12_halfCopy 238 = .ok (.iload 6, 2) := by decide +kernel
theorem dX12_halfCopy_240 : decode cX12_halfCopy 240 = .ok (.iadd, 1) := by decide +kernel
theorem dX12_halfCopy_241 : decode cX12_halfCopy 241 = .ok (.iaload, 1) := by decide +kernel
theorem dX12_halfCopy_242 : decode cX12_halfCopy 242 = .ok (.invokevirtual 374, 3) := by decide +kernel
theorem dX12_halfCopy_245 : decode cX12_halfCopy 245 = .ok (.iinc 6 1, 3) := by decide +kernel
theorem dX12_halfCopy_248 : decode cX12_halfCopy 248 = .ok (.goto (-32), 3) := by decide +kernel
theorem dX12_halfCopy_251 : decode cX12_halfCopy 251 = .ok (.aload_n 0, 1) := by decide +kernel
theorem dX12_halfCopy_252 : decode cX12_halfCopy 252 = .ok (.sipush 255, 3) := by decide +kernel
theorem dX12_halfCopy_255 : decode cX12_halfCopy 255 = .ok (.invokevirtual 374, 3) := by decide +kernel
theorem dX12_halfCopy_258 : decode cX12_halfCopy 258 = .ok (.iload 4, 2) := by decide +kernel
theorem dX12_halfCopy_260 : decode cX12_halfCopy 260 = .ok (.aload_n 0, 1) := by decide +kernel
theorem dX12_halfCopy_261 : decode cX12_halfCopy 261 = .ok (.getfield 327, 3) := by decide +kernel
theorem dX12_halfCopy_264 : decode cX12_halfCopy 264 = .ok (.iadd, 1) := by decide +kernel
theorem dX12_halfCopy_265 : decode cX12_halfCopy 265 = .ok (.istore 4, 2) := by decide +kernel
theorem dX12_halfCopy_267 : decode cX12_halfCopy 267 = .ok (.goto (-124), 3) := by decide +kernel
theorem dX12_halfCopy_270 : decode cX12_halfCopy 270 = .ok (.aload_n 0, 1) := by decide +kernel
theorem dX12_halfCopy_271 : decode cX12_halfCopy 271 = .ok (.iconst 4, 1) := by decide +kernel
theorem dX12_halfCopy_272 : decode cX12_halfCopy 272 = .ok (.invokevirtual 374, 3) := by decide +kernel
theorem dX12_halfCopy_275 : decode cX12_halfCopy 275 = .ok (.aload_n 0, 1) := by decide +kernel
theorem dX12_halfCopy_276 : decode cX12_halfCopy 276 = .ok (.iconst 2, 1) := by decide +kernel
theorem dX12_halfCopy_277 : decode cX12_halfCopy 277 = .ok (.invokevirtual 374, 3) := by decide +kernel
theorem dX12_halfCopy_280 : decode cX12_halfCopy 280 = .ok (.aload_n 0, 1) := by decide +kernel
theorem dX12_halfCopy_281 : decode cX12_halfCopy 281 = .ok (.aload_n 0, 1) := by decide +kernel
theorem dX12_halfCopy_282 : decode cX12_halfCopy 282 = .ok (.getfield 137, 3) := by decide +kernel
theorem dX12_halfCopy_285 : decode cX12_halfCopy 285 = .ok (.iload_n 1, 1) := by decide +kernel
theorem dX12_halfCopy_286 : decode cX12_halfCopy 286 = .ok (.iaload, 1) := by decide +kernel
theorem dX12_halfCopy_287 : decode cX12_halfCopy 287 = .ok (.invokevirtual 383, 3) := by decide +kernel
theorem dX12_halfCopy_290 : decode cX12_halfCopy 290 = .ok (.aload_n 0, 1) := by decide +kernel
theorem dX12_halfCopy_291 : decode cX12_halfCopy 291 = .ok (.sipush 255, 3) := by decide +kernel
theorem dX12_halfCopy_294 : decode cX12_halfCopy 294 = .ok (.invokevirtual 374, 3) := by decide +kernel
theorem dX12_halfCopy_297 : decode cX12_halfCopy 297 = .ok (.aload_n 0, 1) := by decide +kernel
theorem dX12_halfCopy_298 : decode cX12_halfCopy 298 = .ok (.getfield 134, 3) := by decide +kernel
theorem dX12_halfCopy_301 : decode cX12_halfCopy 301 = .ok (.iload_n 1, 1) := by decide +kernel
theorem dX12_halfCopy_302 : decode cX12_halfCopy 302 = .ok (.iaload, 1) := by decide +kernel
theorem dX12_halfCopy_303 : decode cX12_halfCopy 303 = .ok (.iconst 1, 1) := by decide +kernel
theorem dX12_halfCopy_304 : decode cX12_halfCopy 304 = .ok (.iadd, 1) := by decide +kernel
theorem dX12_halfCopy_305 : decode cX12_halfCopy 305 = .ok (.istore 4, 2) := by decide +kernel
theorem dX12_halfCopy_307 : decode cX12_halfCopy 307 = .ok (.iload 4, 2) := by decide +kernel
theorem dX12_halfCopy_309 : decode cX12_halfCopy 309 = .ok (.aload_n 0, 1) := by decide +kernel
theorem dX12_halfCopy_310 : decode cX12_halfCopy 310 = .ok (.getfield 131, 3) := by decide +kernel
theorem dX12_halfCopy_313 : decode cX12_halfCopy 313 = .ok (.iload_n 1, 1) := by decide +kernel
theorem dX12_halfCopy_314 : decode cX12_halfCopy 314 = .ok (.iaload, 1) := by decide +kernel
theorem dX12_halfCopy_315 : decode cX12_halfCopy 315 = .ok (.if_icmp .gt 28, 3) := by decide +kernel
theorem dX12_halfCopy_318 : decode cX12_halfCopy 318 = .ok (.aload_n 0, 1) := by decide +kernel
theorem dX12_halfCopy_319 : decode cX12_halfCopy 319 = .ok (.iload 4, 2) := by decide +kernel
theorem dX12_halfCopy_321 : decode cX12_halfCopy 321 = .ok (.aload_n 0, 1) := by decide +kernel
theorem dX12_halfCopy_322 : decode cX12_halfCopy 322 = .ok (.iload_n 1, 1) := by decide +kernel
theorem dX12_halfCopy_323 : decode cX12_halfCopy 323 = .ok (.iload 4, 2) := by decide +kernel
theorem dX12_halfCopy_325 : decode cX12_halfCopy 325 = .ok (.invokevirtual 389, 3) := by decide +kernel
theorem dX12_halfCopy_328 : decode cX12_halfCopy 328 = .ok (.aload_n 0, 1) := by decide +kernel
theorem dX12_halfCopy_329 : decode cX12_halfCopy 329 = .ok (.getfield 134, 3) := by decide +kernel
theorem dX12_halfCopy_332 : decode cX12_halfCopy 332 = .ok (.iload_n 1, 1) := by decide +kernel
theorem dX12_halfCopy_333 : decode cX12_halfCopy 333 = .ok (.iaload, 1) := by decide +kernel
theorem dX12_halfCopy_334 : decode cX12_halfCopy 334 = .ok (.invokevirtual 395, 3) := by decide +kernel
theorem dX12_halfCopy_337 : decode cX12_halfCopy 337 = .ok (.iinc 4 1, 3) := by decide +kernel
theorem dX12_halfCopy_340 : decode cX12_halfCopy 340 = .ok (.goto (-33), 3) := by decide +kernel
theorem dX12_halfCopy_343 : decode cX12_halfCopy 343 = .ok (.return_, 1) := by decide +kernel
theorem dX12_write_0 : decode cX12_write 0 = .ok (.aload_n 0, 1) := by decide +kernel
theorem dX12_write_1 : decode cX12_write 1 = .ok (.iload_n 1, 1) := by decide +kernel
theorem dX12_write_2 : decode cX12_write 2 = .ok (.invokevirtual 398, 3) := by decide +kernel
theorem dX12_write_5 : decode cX12_write 5 = .ok (.istore_n 3, 1) := by decide +kernel
theorem dX12_write_6 : decode cX12_write 6 = .ok (.aload_n 0, 1) := by decide +kernel
theorem dX12_write_7 : decode cX12_write 7 = .ok (.dup, 1) := by decide +kernel
theorem dX12_write_8 : decode cX12_write 8 = .ok (.getfield 339, 3) := by decide +kernel
theorem dX12_write_11 : decode cX12_write 11 = .ok (.iconst 1, 1) := by decide +kernel
theorem dX12_write_12 : decode cX12_write 12 = .ok (.iadd, 1) := by decide +kernel
theorem dX12_write_13 : decode cX12_write 13 = .ok (.putfield 339, 3) := by decide +kernel
theorem dX12_write_16 : decode cX12_write 16 = .ok (.bipush 64, 2) := by decide +kernel
theorem dX12_write_18 : decode cX12_write 18 = .ok (.istore 4, 2) := by decide +kernel
theorem dX12_write_20 : decode cX12_write 20 = .ok (.aload_n 0, 1) := by decide +kernel
theorem dX12_write_21 : decode cX12_write 21 = .ok (.getfield 80, 3) := by decide +kernel
theorem dX12_write_24 : decode cX12_write 24 = .ok (.iload_n 3, 1) := by decide +kernel
theorem dX12_write_25 : decode cX12_write 25 = .ok (.iaload, 1) := by decide +kernel
theorem dX12_write_26 : decode cX12_write 26 = .ok (.ifCond .le 35, 3) := by decide +kernel
theorem dX12_write_29 : decode cX12_write 29 = .ok (.aload_n 0, 1) := by decide +kernel
theorem dX12_write_30 : decode cX12_write 30 = .ok (.getfield 80, 3) := by decide +kernel
theorem dX12_write_33 : decode cX12_write 33 = .ok (.iload_n 3, 1) := by decide +kernel
theorem dX12_write_34 : decode cX12_write 34 = .ok (.dup2, 1) := by decide +kernel
theorem dX12_write_35 : decode cX12_write 35 = .ok (.iaload, 1) := by decide +kernel
theorem dX12_write_36 : decode cX12_write 36 = .ok (.iconst 1, 1) := by decide +kernel
theorem dX12_write_37 : decode cX12_write 37 = .ok (.isub, 1) := by decide +kernel
theorem dX12_write_38 : decode cX12_write 38 = .ok (.iastore, 1) := by decide +kernel
theorem dX12_write_39 : decode cX12_write 39 = .ok (.aload_n 0, 1) := by decide +kernel
theorem dX12_write_40 : decode cX12_write 40 = .ok (.getfield 80, 3) := by decide +kernel
theorem dX12_write_43 : decode cX12_write 43 = .ok (.iload_n 3, 1) := by decide +kernel
theorem dX12_write_44 : decode cX12_write 44 = .ok (.iaload, 1) := by decide +kernel
theorem dX12_write_45 : decode cX12_write 45 = .ok (.ifCond .ne 12, 3) := by decide +kernel
theorem dX12_write_48 : decode cX12_write 48 = .ok (.aload_n 0, 1) := by decide +kernel
theorem dX12_write_49 : decode cX12_write 49 = .ok (.getfield 83, 3) := by decide +kernel
theorem dX12_write_52 : decode cX12_write 52 = .ok (.iload_n 3, 1) := by decide +kernel
theorem dX12_write_53 : decode cX12_write 53 = .ok (.iaload, 1) := by decide +kernel
theorem dX12_write_54 : decode cX12_write 54 = .ok (.goto 5, 3) := by decide +kernel
theorem dX12_write_57 : decode cX12_write 57 = .ok (.bipush 64, 2) := by decide +kernel
theorem dX12_write_59 : decode cX12_write 59 = .ok (.istore 4, 2) := by decide +kernel
theorem dX12_write_61 : decode cX12_write 61 = .ok (.iload 4, 2) := by decide +kernel
theorem dX12_write_63 : decode cX12_write 63 = .ok (.bipush 64, 2) := by decide +kernel
theorem dX12_write_65 : decode cX12_write 65 = .ok (.if_icmp .ge 7, 3) := by decide +kernel
theorem dX12_write_68 : decode cX12_write 68 = .ok (.iconst 1, 1) := by decide +kernel
theorem dX12_write_69 : decode cX12_write 69 = .ok (.goto 4, 3) := by decide +kernel
theorem dX12_write_72 : decode cX12_write 72 = .ok (.iconst 0, 1) := by decide +kernel
theorem dX12_write_73 : decode cX12_write 73 = .ok (.istore 5, 2) := by decide +kernel
theorem dX12_write_75 : decode cX12_write 75 = .ok (.iconst 0, 1) := by decide +kernel
theorem dX12_write_76 : decode cX12_write 76 = .ok (.istore 6, 2) := by decide +kernel
theorem dX12_write_78 : decode cX12_write 78 = .ok (.iload 6, 2) := by decide +kernel
theorem dX12_write_80 : decode cX12_write 80 = .ok (.iload 4, 2) := by decide +kernel
theorem dX12_write_82 : decode cX12_write 82 = .ok (.if_icmp .ge 34, 3) := by decide +kernel
theorem dX12_write_85 : decode cX12_write 85 = .ok (.aload_n 0, 1) := by decide +kernel
theorem dX12_write_86 : decode cX12_write 86 = .ok (.getfield 87, 3) := by decide +kernel
theorem dX12_write_89 : decode cX12_write 89 = .ok (.iload_n 1, 1) := by decide +kernel
theorem dX12_write_90 : decode cX12_write 90 = .ok (.sipush 202, 3) := by decide +kernel
theorem dX12_write_93 : decode cX12_write 93 = .ok (.imul, 1) := by decide +kernel
theorem dX12_write_94 : decode cX12_write 94 = .ok (.iload_n 2, 1) := by decide +kernel
theorem dX12_write_95 : decode cX12_write 95 = .ok (.iadd, 1) := by decide +kernel
theorem dX12_write_96 : decode cX12_write 96 = .ok (.bipush 64, 2) := by decide +kernel
theorem dX12_write_98 : decode cX12_write 98 = .ok (.imul, 1) := by decide +kernel
theorem dX12_write_99 : decode cX12_write 99 = .ok (.iload 6, 2) := by decide +kernel
theorem dX12_write_101 : decode cX12_write 101 = .ok (.iadd, 1) := by decide +kernel
theorem dX12_write_102 : decode cX12_write 102 = .ok (.aload_n 0, 1) := by decide +kernel
theorem dX12_write_103 : decode cX12_write 103 = .ok (.getfield 100, 3) := by decide +kernel
theorem dX12_write_106 : decode cX12_write 106 = .ok (.iload 6, 2) := by decide +kernel
theorem dX12_write_108 : decode cX12_write 108 = .ok (.baload, 1) := by decide +kernel
theorem dX12_write_109 : decode cX12_write 109 = .ok (.bastore, 1) := by decide +kernel
theorem dX12_write_110 : decode cX12_write 110 = .ok (.iinc 6 1, 3) := by decide +kernel
theorem dX12_write_113 : decode cX12_write 113 = .ok (.goto (-35), 3) := by decide +kernel
theorem dX12_write_116 : decode cX12_write 116 = .ok (.iload 5, 2) := by decide +kernel
theorem dX12_write_118 : decode cX12_write 118 = .ok (.ifCond .eq 10, 3) := by decide +kernel
theorem dX12_write_121 : decode cX12_write 121 = .ok (.aload_n 0, 1) := by decide +kernel
theorem dX12_write_122 : decode cX12_write 122 = .ok (.iload_n 3, 1) := by decide +kernel
theorem dX12_write_123 : decode cX12_write 123 = .ok (.invokevirtual 402, 3) := by decide +kernel
theorem dX12_write_126 : decode cX12_write 126 = .ok (.istore 6, 2) := by decide +kernel
theorem dX12_write_128 : decode cX12_write 128 = .ok (.iload 5, 2) := by decide +kernel
theorem dX12_write_130 : decode cX12_write 130 = .ok (.ifCond .ne 7, 3) := by decide +kernel
theorem dX12_write_133 : decode cX12_write 133 = .ok (.iconst 1, 1) := by decide +kernel
theorem dX12_write_134 : decode cX12_write 134 = .ok (.goto 4, 3) := by decide +kernel
theorem dX12_write_137 : decode cX12_write 137 = .ok (.iconst 0, 1) := by decide +kernel
theorem dX12_write_138 : decode cX12_write 138 = .ok (.ireturn, 1) := by decide +kernel
theorem dX12_flush_0 : decode cX12_flush 0 = .ok (.aload_n 0, 1) := by decide +kernel
theorem dX12_flush_1 : decode cX12_flush 1 = .ok (.getfield 94, 3) := by decide +kernel
theorem dX12_flush_4 : decode cX12_flush 4 = .ok (.iload_n 1, 1) := by decide +kernel
theorem dX12_flush_5 : decode cX12_flush 5 = .ok (.iaload, 1) := by decide +kernel
theorem dX12_flush_6 : decode cX12_flush 6 = .ok (.sipush 250, 3) := by decide +kernel
theorem dX12_flush_9 : decode cX12_flush 9 = .ok (.if_icmp .ne 7, 3) := by decide +kernel
theorem dX12_flush_12 : decode cX12_flush 12 = .ok (.iconst 1, 1) := by decide +kernel
theorem dX12_flush_13 : decode cX12_flush 13 = .ok (.goto 11, 3) := by decide +kernel
theorem dX12_flush_16 : decode cX12_flush 16 = .ok (.aload_n 0, 1) := by decide +kernel
theorem dX12_flush_17 : decode cX12_flush 17 = .ok (.getfield 94, 3) := by decide +kernel
theorem dX12_flush_20 : decode cX12_flush 20 = .ok (.iload_n 1, 1) := by decide +kernel
theorem dX12_flush_21 : decode cX12_flush 21 = .ok (.iaload, 1) := by decide +kernel
theorem dX12_flush_22 : decode cX12_flush 22 = .ok (.iconst 1, 1) := by decide +kernel
theorem dX12_flush_23 : decode cX12_flush 23 = .ok (.iadd, 1) := by decide +kernel
theorem dX12_flush_24 : decode cX12_flush 24 = .ok (.istore_n 2, 1) := by decide +kernel
theorem dX12_flush_25 : decode cX12_flush 25 = .ok (.iload_n 2, 1) := by decide +kernel
theorem dX12_flush_26 : decode cX12_flush 26 = .ok (.iconst 2, 1) := by decide +kernel
theorem dX12_flush_27 : decode cX12_flush 27 = .ok (.irem, 1) := by decide +kernel
theorem dX12_flush_28 : decode cX12_flush 28 = .ok (.istore_n 3, 1) := by decide +kernel
theorem dX12_flush_29 : decode cX12_flush 29 = .ok (.aload_n 0, 1) := by decide +kernel
theorem dX12_flush_30 : decode cX12_flush 30 = .ok (.iload_n 1, 1) := by decide +kernel
theorem dX12_flush_31 : decode cX12_flush 31 = .ok (.invokevirtual 368, 3) := by decide +kernel
theorem dX12_flush_34 : decode cX12_flush 34 = .ok (.iconst 0, 1) := by decide +kernel
theorem dX12_flush_35 : decode cX12_flush 35 = .ok (.istore 4, 2) := by decide +kernel
theorem dX12_flush_37 : decode cX12_flush 37 = .ok (.iload 4, 2) := by decide +kernel
theorem dX12_flush_39 : decode cX12_flush 39 = .ok (.bipush 100, 2) := by decide +kernel
theorem dX12_flush_41 : decode cX12_flush 41 = .ok (.if_icmp .ge 120, 3) := by decide +kernel
theorem dX12_flush_44 : decode cX12_flush 44 = .ok (.iconst 0, 1) := by decide +kernel
theorem dX12_flush_45 : decode cX12_flush 45 = .ok (.istore 5, 2) := by decide +kernel
theorem dX12_flush_47 : decode cX12_flush 47 = .ok (.iconst 0, 1) := by decide +kernel
theorem dX12_flush_48 : decode cX12_flush 48 = .ok (.istore 6, 2) := by decide +kernel
theorem dX12_flush_50 : decode cX12_flush 50 = .ok (.iload 6, 2) := by decide +kernel
theorem dX12_flush_52 : decode cX12_flush 52 = .ok (.bipush 64, 2) := by decide +kernel
theorem dX12_flush_54 : decode cX12_flush 54 = .ok (.if_icmp .ge 77, 3) := by decide +kernel
theorem dX12_flush_57 : decode cX12_flush 57 = .ok (.aload_n 0, 1) := by decide +kernel
theorem dX12_flush_58 : decode cX12_flush 58 = .ok (.getfield 100, 3) := by decide +kernel
theorem dX12_flush_61 : decode cX12_flush 61 = .ok (.iload 6, 2) := by decide +kernel
theorem dX12_flush_63 : decode cX12_flush 63 = .ok (.aload_n 0, 1) := by decide +kernel
theorem dX12_flush_64 : decode cX12_flush 64 = .ok (.getfield 103, 3) := by decide +kernel
theorem dX12_flush_67 : decode cX12_flush 67 = .ok (.bipush 64, 2) := by decide +kernel
theorem dX12_flush_69 : decode cX12_flush 69 = .ok (.iload 4, 2) := by decide +kernel
theorem dX12_flush_71 : decode cX12_flush 71 = .ok (.imul, 1) := by decide +kernel
theorem dX12_flush_72 : decode cX12_flush 72 = .ok (.iload 6, 2) := by decide +kernel
theorem dX12_flush_74 : decode cX12_flush 74 = .ok (.iadd, 1) := by decide +kernel
theorem dX12_flush_75 : decode cX12_flush 75 = .ok (.baload, 1) := by decide +kernel
theorem dX12_flush_76 : decode cX12_flush 76 = .ok (.bastore, 1) := by decide +kernel
theorem dX12_flush_77 : decode cX12_flush 77 = .ok (.iload 5, 2) := by decide +kernel
theorem dX12_flush_79 : decode cX12_flush 79 = .ok (.ifCond .ne 39, 3) := by decide +kernel
theorem dX12_flush_82 : decode cX12_flush 82 = .ok (.aload_n 0, 1) := by decide +kernel
theorem dX12_flush_83 : decode cX12_flush 83 = .ok (.getfield 87, 3) := by decide +kernel
theorem dX12_flush_86 : decode cX12_flush 86 = .ok (.iload_n 1, 1) := by decide +kernel
theorem dX12_flush_87 : decode cX12_flush 87 = .ok (.sipush 202, 3) := by decide +kernel
theorem dX12_flush_90 : decode cX12_flush 90 = .ok (.imul, 1) := by decide +kernel
theorem dX12_flush_91 : decode cX12_flush 91 = .ok (.iconst 2, 1) := by decide +kernel
theorem dX12_flush_92 : decode cX12_flush 92 = .ok (.iadd, 1) := by decide +kernel
theorem dX12_flush_93 : decode cX12_flush 93 = .ok (.bipush 100, 2) := by decide +kernel
theorem dX12_flush_95 : decode cX12_flush 95 = .ok (.iload_n 3, 1) := by decide +kernel
theorem dX12_flush_96 : decode cX12_flush 96 = .ok (.imul, 1) := by decide +kernel
theorem dX12_flush_97 : decode cX12_flush 97 = .ok (.iadd, 1) := by decide +kernel
theorem dX12_flush_98 : decode cX12_flush 98 = .ok (.iload 4, 2) := by decide +kernel
theorem dX12_flush_100 : decode cX12_flush 100 = .ok (.iadd, 1) := by decide +kernel
theorem dX12_flush_101 : decode cX12_flush 101 = .ok (.bipush 64, 2) := by decide +kernel
theorem dX12_flush_103 : decode cX12_flush 103 = .ok (.imul, 1) := by decide +kernel
theorem dX12_flush_104 : decode cX12_flush 104 = .ok (.iload 6, 2) := by decide +kernel
theorem dX12_flush_106 : decode cX12_flush 106 = .ok (.iadd, 1) := by decide +kernel
theorem dX12_flush_107 : decode cX12_flush 107 = .ok (.baload, 1) := by decide +kernel
theorem dX12_flush_108 : decode cX12_flush 108 = .ok (.aload_n 0, 1) := by decide +kernel
theorem dX12_flush_109 : decode cX12_flush 109 = .ok (.getfield 100, 3) := by decide +kernel
theorem dX12_flush_112 : decode cX12_flush 112 = .ok (.iload 6, 2) := by decide +kernel
theorem dX12_flush_114 : decode cX12_flush 114 = .ok (.baload, 1) := by decide +kernel
theorem dX12_flush_115 : decode cX12_flush 115 = .ok (.if_icmp .eq 7, 3) := by decide +kernel
theorem dX12_flush_118 : decode cX12_flush 118 = .ok (.iconst 1, 1) := by decide +kernel
theorem dX12_flush_119 : decode cX12_flush 119 = .ok (.goto 4, 3) := by decide +kernel
theorem dX12_flush_122 : decode cX12_flush 122 = .ok (.iconst 0, 1) := by decide +kernel
theorem dX12_flush_123 : decode cX12_flush 123 = .ok (.istore 5, 2) := by decide +kernel
theorem dX12_flush_125 : decode cX12_flush 125 = .ok (.iinc 6 1, 3) := by decide +kernel
theorem dX12_flush_128 : decode cX12_flush 128 = .ok (.goto (-78), 3) := by decide +kernel
theorem dX12_flush_131 : decode cX12_flush 131 = .ok (.iload 5, 2) := by decide +kernel
theorem dX12_flush_133 : decode cX12_flush 133 = .ok (.ifCond .eq 22, 3) := by decide +kernel
theorem dX12_flush_136 : decode cX12_flush 136 = .ok (.aload_n 0, 1) := by decide +kernel
theorem dX12_flush_137 : decode cX12_flush 137 = .ok (.iload_n 1, 1) := by decide +kernel
theorem dX12_flush_138 : decode cX12_flush 138 = .ok (.iconst 2, 1) := by decide +kernel
theorem dX12_flush_139 : decode cX12_flush 139 = .ok (.bipush 100, 2) := by decide +kernel
theorem dX12_flush_141 : decode cX12_flush 141 = .ok (.iload_n 3, 1) := by decide +kernel
theorem dX12_flush_142 : decode cX12_flush 142 = .ok (.imul, 1) := by decide +kernel
theorem dX12_flush_143 : decode cX12_flush 143 = .ok (.iadd, 1) := by decide +kernel
theorem dX12_flush_144 : decode cX12_flush 144 = .ok (.iload 4, 2) := by decide +kernel
theorem dX12_flush_146 : decode cX12_flush 146 = .ok (.iadd, 1) := by decide +kernel
theorem dX12_flush_147 : decode cX12_flush 147 = .ok (.invokevirtual 405, 3) := by decide +kernel
theorem dX12_flush_150 : decode cX12_flush 150 = .ok (.ifCond .ne 5, 3) := by decide +kernel
theorem dX12_flush_153 : decode cX12_flush 153 = .ok (.iconst 0, 1) := by decide +kernel
theorem dX12_flush_154 : decode cX12_flush 154 = .ok (.ireturn, 1) := by decide +kernel
theorem dX12_flush_155 : decode cX12_flush 155 = .ok (.iinc 4 1, 3) := by decide +kernel
theorem dX12_flush_158 : decode cX12_flush 158 = .ok (.goto (-121), 3) := by decide +kernel
theorem dX12_flush_161 : decode cX12_flush 161 = .ok (.iload_n 1, 1) := by decide +kernel
theorem dX12_flush_162 : decode cX12_flush 162 = .ok (.bipush 20, 2) := by decide +kernel
theorem dX12_flush_164 : decode cX12_flush 164 = .ok (.if_icmp .eq 24, 3) := by decide +kernel
theorem dX12_flush_167 : decode cX12_flush 167 = .ok (.aload_n 0, 1) := by decide +kernel
theorem dX12_flush_168 : decode cX12_flush 168 = .ok (.getfield 97, 3) := by decide +kernel
theorem dX12_flush_171 : decode cX12_flush 171 = .ok (.iconst 2, 1) := by decide +kernel
theorem dX12_flush_172 : decode cX12_flush 172 = .ok (.iload_n 1, 1) := by decide +kernel
theorem dX12_flush_173 : decode cX12_flush 173 = .ok (.imul, 1) := by decide +kernel
theorem dX12_flush_174 : decode cX12_flush 174 = .ok (.iload_n 3, 1) := by decide +kernel
theorem dX12_flush_175 : decode cX12_flush 175 = .ok (.iadd, 1) := by decide +kernel
theorem dX12_flush_176 : decode cX12_flush 176 = .ok (.aload_n 0, 1) := by decide +kernel
theorem dX12_flush_177 : decode cX12_flush 177 = .ok (.iload_n 1, 1) := by decide +kernel
theorem dX12_flush_178 : decode cX12_flush 178 = .ok (.aload_n 0, 1) := by decide +kernel
theorem dX12_flush_179 : decode cX12_flush 179 = .ok (.getfield 134, 3) := by decide +kernel
theorem dX12_flush_182 : decode cX12_flush 182 = .ok (.iload_n 1, 1) := by decide +kernel
theorem dX12_flush_183 : decode cX12_flush 183 = .ok (.iaload, 1) := by decide +kernel
theorem dX12_flush_184 : decode cX12_flush 184 = .ok (.invokevirtual 389, 3) := by decide +kernel
theorem dX12_flush_187 : decode cX12_flush 187 = .ok (.iastore, 1) := by decide +kernel
theorem dX12_flush_188 : decode cX12_flush 188 = .ok (.iconst 0, 1) := by decide +kernel
theorem dX12_flush_189 : decode cX12_flush 189 = .ok (.istore 4, 2) := by decide +kernel
theorem dX12_flush_191 : decode cX12_flush 191 = .ok (.iload 4, 2) := by decide +kernel
theorem dX12_flush_193 : decode cX12_flush 193 = .ok (.bipush 64, 2) := by decide +kernel
theorem dX12_flush_195 : decode cX12_flush 195 = .ok (.if_icmp .ge 17, 3) := by decide +kernel
theorem dX12_flush_198 : decode cX12_flush 198 = .ok (.aload_n 0, 1) := by decide +kernel
theorem dX12_flush_199 : decode cX12_flush 199 = .ok (.getfield 100, 3) := by decide +kernel
theorem dX12_flush_202 : decode cX12_flush 202 = .ok (.iload 4, 2) := by decide +kernel
theorem dX12_flush_204 : decode cX12_flush 204 = .ok (.iconst 0, 1) := by decide +kernel
theorem dX12_flush_205 : decode cX12_flush 205 = .ok (.bastore, 1) := by decide +kernel
theorem dX12_flush_206 : decode cX12_flush 206 = .ok (.iinc 4 1, 3) := by decide +kernel
theorem dX12_flush_209 : decode cX12_flush 209 = .ok (.goto (-18), 3) := by decide +kernel
theorem dX12_flush_212 : decode cX12_flush 212 = .ok (.aload_n 0, 1) := by decide +kernel
theorem dX12_flush_213 : decode cX12_flush 213 = .ok (.getfield 100, 3) := by decide +kernel
theorem dX12_flush_216 : decode cX12_flush 216 = .ok (.iconst 0, 1) := by decide +kernel
theorem dX12_flush_217 : decode cX12_flush 217 = .ok (.iload_n 2, 1) := by decide +kernel
theorem dX12_flush_218 : decode cX12_flush 218 = .ok (.i2b, 1) := by decide +kernel
theorem dX12_flush_219 : decode cX12_flush 219 = .ok (.bastore, 1) := by decide +kernel
theorem dX12_flush_220 : decode cX12_flush 220 = .ok (.aload_n 0, 1) := by decide +kernel
theorem dX12_flush_221 : decode cX12_flush 221 = .ok (.iload_n 1, 1) := by decide +kernel
theorem dX12_flush_222 : decode cX12_flush 222 = .ok (.iload_n 3, 1) := by decide +kernel
theorem dX12_flush_223 : decode cX12_flush 223 = .ok (.invokevirtual 405, 3) := by decide +kernel
theorem dX12_flush_226 : decode cX12_flush 226 = .ok (.ifCond .ne 5, 3) := by decide +kernel
theorem dX12_flush_229 : decode cX12_flush 229 = .ok (.iconst 0, 1) := by decide +kernel
theorem dX12_flush_230 : decode cX12_flush 230 = .ok (.ireturn, 1) := by decide +kernel
theorem dX12_flush_231 : decode cX12_flush 231 = .ok (.aload_n 0, 1) := by decide +kernel
theorem dX12_flush_232 : decode cX12_flush 232 = .ok (.getfield 94, 3) := by decide +kernel
theorem dX12_flush_235 : decode cX12_flush 235 = .ok (.iload_n 1, 1) := by decide +kernel
theorem dX12_flush_236 : decode cX12_flush 236 = .ok (.iload_n 2, 1) := by decide +kernel
theorem dX12_flush_237 : decode cX12_flush 237 = .ok (.iastore, 1) := by decide +kernel
theorem dX12_flush_238 : decode cX12_flush 238 = .ok (.aload_n 0, 1) := by decide +kernel
theorem dX12_flush_239 : decode cX12_flush 239 = .ok (.getfield 91, 3) := by decide +kernel
theorem dX12_flush_242 : decode cX12_flush 242 = .ok (.iload_n 1, 1) := by decide +kernel
theorem dX12_flush_243 : decode cX12_flush 243 = .ok (.aload_n 0, 1) := by decide +kernel
theorem dX12_flush_244 : decode cX12_flush 244 = .ok (.getfield 371, 3) := by decide +kernel
theorem dX12_flush_247 : decode cX12_flush 247 = .ok (.iastore, 1) := by decide +kernel
theorem dX12_flush_248 : decode cX12_flush 248 = .ok (.iload_n 1, 1) := by decide +kernel
theorem dX12_flush_249 : decode cX12_flush 249 = .ok (.bipush 20, 2) := by decide +kernel
theorem dX12_flush_251 : decode cX12_flush 251 = .ok (.if_icmp .eq 15, 3) := by decide +kernel
theorem dX12_flush_254 : decode cX12_flush 254 = .ok (.aload_n 0, 1) := by decide +kernel
theorem dX12_flush_255 : decode cX12_flush 255 = .ok (.getfield 128, 3) := by decide +kernel
theorem dX12_flush_258 : decode cX12_flush 258 = .ok (.iload_n 1, 1) := by decide +kernel
theorem dX12_flush_259 : decode cX12_flush 259 = .ok (.aload_n 0, 1) := by decide +kernel
theorem dX12_flush_260 : decode cX12_flush 260 = .ok (.getfield 134, 3) := by decide +kernel
theorem dX12_flush_263 : decode cX12_flush 263 = .ok (.iload_n 1, 1) := by decide +kernel
theorem dX12_flush_264 : decode cX12_flush 264 = .ok (.iaload, 1) := by decide +kernel
theorem dX12_flush_265 : decode cX12_flush 265 = .ok (.iastore, 1) := by decide +kernel
theorem dX12_flush_266 : decode cX12_flush 266 = .ok (.iconst 1, 1) := by decide +kernel
theorem dX12_flush_267 : decode cX12_flush 267 = .ok (.ireturn, 1) := by decide +kernel
theorem dX12_fits_0 : decode cX12_fits 0 = .ok (.aload_n 0, 1) := by decide +kernel
theorem dX12_fits_1 : decode cX12_fits 1 = .ok (.getfield 91, 3) := by decide +kernel
theorem dX12_fits_4 : decode cX12_fits 4 = .ok (.iload_n 1, 1) := by decide +kernel
theorem dX12_fits_5 : decode cX12_fits 5 = .ok (.iaload, 1) := by decide +kernel
theorem dX12_fits_6 : decode cX12_fits 6 = .ok (.iload_n 2, 1) := by decide +kernel
theorem dX12_fits_7 : decode cX12_fits 7 = .ok (.iadd, 1) := by decide +kernel
theorem dX12_fits_8 : decode cX12_fits 8 = .ok (.sipush 6400, 3) := by decide +kernel
theorem dX12_fits_11 : decode cX12_fits 11 = .ok (.if_icmp .gt 7, 3) := by decide +kernel
theorem dX12_fits_14 : decode cX12_fits 14 = .ok (.iconst 1, 1) := by decide +kernel
theorem dX12_fits_15 : decode cX12_fits 15 = .ok (.goto 4, 3) := by decide +kernel
theorem dX12_fits_18 : decode cX12_fits 18 = .ok (.iconst 0, 1) := by decide +kernel
theorem dX12_fits_19 : decode cX12_fits 19 = .ok (.ireturn, 1) := by decide +kernel
theorem dX12_putRecord_0 : decode cX12_putRecord 0 = .ok (.aload_n 0, 1) := by decide +kernel
theorem dX12_putRecord_1 : decode cX12_putRecord 1 = .ok (.getfield 91, 3) := by decide +kernel
theorem dX12_putRecord_4 : decode cX12_putRecord 4 = .ok (.iload_n 1, 1) := by decide +kernel
theorem dX12_putRecord_5 : decode cX12_putRecord 5 = .ok (.iaload, 1) := by decide +kernel
theorem dX12_putRecord_6 : decode cX12_putRecord 6 = .ok (.istore_n 2, 1) := by decide +kernel
theorem dX12_putRecord_7 : decode cX12_putRecord 7 = .ok (.iload_n 2, 1) := by decide +kernel
theorem dX12_putRecord_8 : decode cX12_putRecord 8 = .ok (.aload_n 0, 1) := by decide +kernel
theorem dX12_putRecord_9 : decode cX12_putRecord 9 = .ok (.getfield 377, 3) := by decide +kernel
theorem dX12_putRecord_12 : decode cX12_putRecord 12 = .ok (.iadd, 1) := by decide +kernel
theorem dX12_putRecord_13 : decode cX12_putRecord 13 = .ok (.istore_n 3, 1) := by decide +kernel
theorem dX12_putRecord_14 : decode cX12_putRecord 14 = .ok (.iload_n 1, 1) := by decide +kernel
theorem dX12_putRecord_15 : decode cX12_putRecord 15 = .ok (.sipush 202, 3) := by decide +kernel
theorem dX12_putRecord_18 : decode cX12_putRecord 18 = .ok (.imul, 1) := by decide +kernel
theorem dX12_putRecord_19 : decode cX12_putRecord 19 = .ok (.iconst 2, 1) := by decide +kernel
theorem dX12_putRecord_20 : decode cX12_putRecord 20 = .ok (.iadd, 1) := by decide +kernel
theorem dX12_putRecord_21 : decode cX12_putRecord 21 = .ok (.bipush 100, 2) := by decide +kernel
theorem dX12_putRecord_23 : decode cX12_putRecord 23 = .ok (.aload_n 0, 1) := by decide +kernel
theorem dX12_putRecord_24 : decode cX12_putRecord 24 = .ok (.getfield 94, 3) := by decide +kernel
theorem dX12_putRecord_27 : decode cX12_putRecord 27 = .ok (.iload_n 1, 1) := by decide +kernel
theorem dX12_putRecord_28 : decode cX12_putRecord 28 = .ok (.iaload, 1) := by decide +kernel
theorem dX12_putRecord_29 : decode cX12_putRecord 29 = .ok (.iconst 2, 1) := by decide +kernel
theorem dX12_putRecord_30 : decode cX12_putRecord 30 = .ok (.irem, 1) := by decide +kernel
theorem dX12_putRecord_31 : decode cX12_putRecord 31 = .ok (.imul, 1) := by decide +kernel
theorem dX12_putRecord_32 : decode cX12_putRecord 32 = .ok (.iadd, 1) := by decide +kernel
theorem dX12_putRecord_33 : decode cX12_putRecord 33 = .ok (.bipush 64, 2) := by decide +kernel
theorem dX12_putRecord_35 : decode cX12_putRecord 35 = .ok (.imul, 1) := by decide +kernel
theorem dX12_putRecord_36 : decode cX12_putRecord 36 = .ok (.istore 4, 2) := by decide +kernel
theorem dX12_putRecord_38 : decode cX12_putRecord 38 = .ok (.iload_n 2, 1) := by decide +kernel
theorem dX12_putRecord_39 : decode cX12_putRecord 39 = .ok (.bipush 64, 2) := by decide +kernel
theorem dX12_putRecord_41 : decode cX12_putRecord 41 = .ok (.idiv, 1) := by decide +kernel
theorem dX12_putRecord_42 : decode cX12_putRecord 42 = .ok (.istore 5, 2) := by decide +kernel
theorem dX12_putRecord_44 : decode cX12_putRecord 44 = .ok (.iload 5, 2) := by decide +kernel
theorem dX12_putRecord_46 : decode cX12_putRecord 46 = .ok (.iload_n 3, 1) := by decide +kernel
theorem dX12_putRecord_47 : decode cX12_putRecord 47 = .ok (.iconst 1, 1) := by decide +kernel
theorem dX12_putRecord_48 : decode cX12_putRecord 48 = .ok (.isub, 1) := by decide +kernel
theorem dX12_putRecord_49 : decode cX12_putRecord 49 = .ok (.bipush 64, 2) := by decide +kernel
theorem dX12_putRecord_51 : decode cX12_putRecord 51 = .ok (.idiv, 1) := by decide +kernel
theorem dX12_putRecord_52 : decode cX12_putRecord 52 = .ok (.if_icmp .gt 102, 3) := by decide +kernel
theorem dX12_putRecord_55 : decode cX12_putRecord 55 = .ok (.iconst 0, 1) := by decide +kernel
theorem dX12_putRecord_56 : decode cX12_putRecord 56 = .ok (.istore 6, 2) := by decide +kernel
theorem dX12_putRecord_58 : decode cX12_putRecord 58 = .ok (.iload 6, 2) := by decide +kernel
theorem dX12_putRecord_60 : decode cX12_putRecord 60 = .ok (.bipush 64, 2) := by decide +kernel
theorem dX12_putRecord_62 : decode cX12_putRecord 62 = .ok (.if_icmp .ge 60, 3) := by decide +kernel
theorem dX12_putRecord_65 : decode cX12_putRecord 65 = .ok (.bipush 64, 2) := by decide +kernel
theorem dX12_putRecord_67 : decode cX12_putRecord 67 = .ok (.iload 5, 2) := by decide +kernel
theorem dX12_putRecord_69 : decode cX12_putRecord 69 = .ok (.imul, 1) := by decide +kernel
theorem dX12_putRecord_70 : decode cX12_putRecord 70 = .ok (.iload 6, 2) := by decide +kernel
theorem dX12_putRecord_72 : decode cX12_putRecord 72 = .ok (.iadd, 1) := by decide +kernel
theorem dX12_putRecord_73 : decode cX12_putRecord 73 = .ok (.istore 7, 2) := by decide +kernel
theorem dX12_putRecord_75 : decode cX12_putRecord 75 = .ok (.aload_n 0, 1) := by decide +kernel
theorem dX12_putRecord_76 : decode cX12_putRecord 76 = .ok (.getfield 100, 3) := by decide +kernel
theorem dX12_putRecord_79 : decode cX12_putRecord 79 = .ok (.iload 6, 2) := by decide +kernel
theorem dX12_putRecord_81 : decode cX12_putRecord 81 = .ok (.iload 7, 2) := by decide +kernel
theorem dX12_putRecord_83 : decode cX12_putRecord 83 = .ok (.iload_n 2, 1) := by decide +kernel
theorem dX12_putRecord_84 : decode cX12_putRecord 84 = .ok (.if_icmp .lt 21, 3) := by decide +kernel
theorem dX12_putRecord_87 : decode cX12_putRecord 87 = .ok (.iload 7, 2) := by decide +kernel
theorem dX12_putRecord_89 : decode cX12_putRecord 89 = .ok (.iload_n 3, 1) := by decide +kernel
theorem dX12_putRecord_90 : decode cX12_putRecord 90 = .ok (.if_icmp .ge 15, 3) := by decide +kernel
theorem dX12_putRecord_93 : decode cX12_putRecord 93 = .ok (.aload_n 0, 1) := by decide +kernel
theorem dX12_putRecord_94 : decode cX12_putRecord 94 = .ok (.getfield 106, 3) := by decide +kernel
theorem dX12_putRecord_97 : decode cX12_putRecord 97 = .ok (.iload 7, 2) := by decide +kernel
theorem dX12_putRecord_99 : decode cX12_putRecord 99 = .ok (.iload_n 2, 1) := by decide +kernel
theorem dX12_putRecord_100 : decode cX12_putRecord 100 = .ok (.isub, 1) := by decide +kernel
theorem dX12_putRecord_101 : decode cX12_putRecord 101 = .ok (.baload, 1) := by decide +kernel
theorem dX12_putRecord_102 : decode cX12_putRecord 102 = .ok (.goto 13, 3) := by decide +kernel
theorem dX12_putRecord_105 : decode cX12_putRecord 105 = .ok (.aload_n 0, 1) := by decide +kernel
theorem dX12_putRecord_106 : decode cX12_putRecord 106 = .ok (.getfield 87, 3) := by decide +kernel
theorem dX12_putRecord_109 : decode cX12_putRecord 109 = .ok (.iload 4, 2) := by decide +kernel
theorem dX12_putRecord_111 : decode cX12_putRecord 111 = .ok (.iload 7, 2) := by decide +kernel
theorem dX12_putRecord_113 : decode cX12_putRecord 113 = .ok (.iadd, 1) := by decide +kernel
theorem dX12_putRecord_114 : decode cX12_putRecord 114 = .ok (.baload, 1) := by decide +kernel
theorem dX12_putRecord_115 : decode cX12_putRecord 115 = .ok (.bastore, 1) := by decide +kernel
theorem dX12_putRecord_116 : decode cX12_putRecord 116 = .ok (.iinc 6 1, 3) := by decide +kernel
theorem dX12_putRecord_119 : decode cX12_putRecord 119 = .ok (.goto (-61), 3) := by decide +kernel
theorem dX12_putRecord_122 : decode cX12_putRecord 122 = .ok (.aload_n 0, 1) := by decide +kernel
theorem dX12_putRecord_123 : decode cX12_putRecord 123 = .ok (.iload_n 1, 1) := by decide +kernel
theorem dX12_putRecord_124 : decode cX12_putRecord 124 = .ok (.iconst 2, 1) := by decide +kernel
theorem dX12_putRecord_125 : decode cX12_putRecord 125 = .ok (.bipush 100, 2) := by decide +kernel
theorem dX12_putRecord_127 : decode cX12_putRecord 127 = .ok (.aload_n 0, 1) := by decide +kernel
theorem dX12_putRecord_128 : decode cX12_putRecord 128 = .ok (.getfield 94, 3) := by decide +kernel
theorem dX12_putRecord_131 : decode cX12_putRecord 131 = .ok (.iload_n 1, 1) := by decide +kernel
theorem dX12_putRecord_132 : decode cX12_putRecord 132 = .ok (.iaload, 1) := by decide +kernel
theorem dX12_putRecord_133 : decode cX12_putRecord 133 = .ok (.iconst 2, 1) := by decide +kernel
theorem dX12_putRecord_134 : decode cX12_putRecord 134 = .ok (.irem, 1) := by decide +kernel
theorem dX12_putRecord_135 : decode cX12_putRecord 135 = .ok (.imul, 1) := by decide +kernel
theorem dX12_putRecord_136 : decode cX12_putRecord 136 = .ok (.iadd, 1) := by decide +kernel
theorem dX12_putRecord_137 : decode cX12_putRecord 137 = .ok (.iload 5, 2) := by decide +kernel
theorem dX12_putRecord_139 : decode cX12_putRecord 139 = .ok (.iadd, 1) := by decide +kernel
theorem dX12_putRecord_140 : decode cX12_putRecord 140 = .ok (.invokevirtual 405, 3) := by decide +kernel
theorem dX12_putRecord_143 : decode cX12_putRecord 143 = .ok (.ifCond .ne 5, 3) := by decide +kernel
theorem dX12_putRecord_146 : decode cX12_putRecord 146 = .ok (.iconst 0, 1) := by decide +kernel
theorem dX12_putRecord_147 : decode cX12_putRecord 147 = .ok (.ireturn, 1) := by decide +kernel
theorem dX12_putRecord_148 : decode cX12_putRecord 148 = .ok (.iinc 5 1, 3) := by decide +kernel
theorem dX12_putRecord_151 : decode cX12_putRecord 151 = .ok (.goto (-107), 3) := by decide +kernel
theorem dX12_putRecord_154 : decode cX12_putRecord 154 = .ok (.aload_n 0, 1) := by decide +kernel
theorem dX12_putRecord_155 : decode cX12_putRecord 155 = .ok (.getfield 91, 3) := by decide +kernel
theorem dX12_putRecord_158 : decode cX12_putRecord 158 = .ok (.iload_n 1, 1) := by decide +kernel
theorem dX12_putRecord_159 : decode cX12_putRecord 159 = .ok (.iload_n 3, 1) := by decide +kernel
theorem dX12_putRecord_160 : decode cX12_putRecord 160 = .ok (.iastore, 1) := by decide +kernel
theorem dX12_putRecord_161 : decode cX12_putRecord 161 = .ok (.iconst 1, 1) := by decide +kernel
theorem dX12_putRecord_162 : decode cX12_putRecord 162 = .ok (.ireturn, 1) := by decide +kernel
theorem dX12_append_0 : decode cX12_append 0 = .ok (.aload_n 0, 1) := by decide +kernel
theorem dX12_append_1 : decode cX12_append 1 = .ok (.getfield 7, 3) := by decide +kernel
theorem dX12_append_4 : decode cX12_append 4 = .ok (.iload_n 2, 1) := by decide +kernel
theorem dX12_append_5 : decode cX12_append 5 = .ok (.iaload, 1) := by decide +kernel
theorem dX12_append_6 : decode cX12_append 6 = .ok (.ifCond .ne 7, 3) := by decide +kernel
theorem dX12_append_9 : decode cX12_append 9 = .ok (.iconst 1, 1) := by decide +kernel
theorem dX12_append_10 : decode cX12_append 10 = .ok (.goto 4, 3) := by decide +kernel
theorem dX12_append_13 : decode cX12_append 13 = .ok (.iconst 0, 1) := by decide +kernel
theorem dX12_append_14 : decode cX12_append 14 = .ok (.istore 4, 2) := by decide +kernel
theorem dX12_append_16 : decode cX12_append 16 = .ok (.iload 4, 2) := by decide +kernel
theorem dX12_append_18 : decode cX12_append 18 = .ok (.ifCond .eq 15, 3) := by decide +kernel
theorem dX12_append_21 : decode cX12_append 21 = .ok (.bipush 9, 2) := by decide +kernel
theorem dX12_append_23 : decode cX12_append 23 = .ok (.aload_n 0, 1) := by decide +kernel
theorem dX12_append_24 : decode cX12_append 24 = .ok (.getfield 50, 3) := by decide +kernel
theorem dX12_append_27 : decode cX12_append 27 = .ok (.iload_n 2, 1) := by decide +kernel
theorem dX12_append_28 : decode cX12_append 28 = .ok (.iaload, 1) := by decide +kernel
theorem dX12_append_29 : decode cX12_append 29 = .ok (.iadd, 1) := by decide +kernel
theorem dX12_append_30 : decode cX12_append 30 = .ok (.goto 5, 3) := by decide +kernel
theorem dX12_append_33 : decode cX12_append 33 = .ok (.bipush 9, 2) := by decide +kernel
theorem dX12_append_35 : decode cX12_append 35 = .ok (.iconst 3, 1) := by decide +kernel
theorem dX12_append_36 : decode cX12_append 36 = .ok (.iadd, 1) := by decide +kernel
theorem dX12_append_37 : decode cX12_append 37 = .ok (.istore 5, 2) := by decide +kernel
theorem dX12_append_39 : decode cX12_append 39 = .ok (.aload_n 0, 1) := by decide +kernel
theorem dX12_append_40 : decode cX12_append 40 = .ok (.getfield 131, 3) := by decide +kernel
theorem dX12_append_43 : decode cX12_append 43 = .ok (.iload_n 1, 1) := by decide +kernel
theorem dX12_append_44 : decode cX12_append 44 = .ok (.iaload, 1) := by decide +kernel
theorem dX12_append_45 : decode cX12_append 45 = .ok (.aload_n 0, 1) := by decide +kernel
theorem dX12_append_46 : decode cX12_append 46 = .ok (.getfield 128, 3) := by decide +kernel
theorem dX12_append_49 : decode cX12_append 49 = .ok (.iload_n 1, 1) := by decide +kernel
theorem dX12_append_50 : decode cX12_append 50 = .ok (.iaload, 1) := by decide +kernel
theorem dX12_append_51 : decode cX12_append 51 = .ok (.isub, 1) := by decide +kernel
theorem dX12_append_52 : decode cX12_append 52 = .ok (.bipush 60, 2) := by decide +kernel
theorem dX12_append_54 : decode cX12_append 54 = .ok (.if_icmp .lt 28, 3) := by decide +kernel
theorem dX12_append_57 : decode cX12_append 57 = .ok (.aload_n 0, 1) := by decide +kernel
theorem dX12_append_58 : decode cX12_append 58 = .ok (.getfield 134, 3) := by decide +kernel
theorem dX12_append_61 : decode cX12_append 61 = .ok (.iload_n 1, 1) := by decide +kernel
theorem dX12_append_62 : decode cX12_append 62 = .ok (.iaload, 1) := by decide +kernel
theorem dX12_append_63 : decode cX12_append 63 = .ok (.aload_n 0, 1) := by decide +kernel
theorem dX12_append_64 : decode cX12_append 64 = .ok (.getfield 128, 3) := by decide +kernel
theorem dX12_append_67 : decode cX12_append 67 = .ok (.iload_n 1, 1) := by decide +kernel
theorem dX12_append_68 : decode cX12_append 68 = .ok (.iaload, 1) := by decide +kernel
theorem dX12_append_69 : decode cX12_append 69 = .ok (.if_icmp .le 13, 3) := by decide +kernel
theorem dX12_append_72 : decode cX12_append 72 = .ok (.aload_n 0, 1) := by decide +kernel
theorem dX12_append_73 : decode cX12_append 73 = .ok (.iload_n 1, 1) := by decide +kernel
theorem dX12_append_74 : decode cX12_append 74 = .ok (.invokevirtual 408, 3) := by decide +kernel
theorem dX12_append_77 : decode cX12_append 77 = .ok (.ifCond .ne 5, 3) := by decide +kernel
theorem dX12_append_80 : decode cX12_append 80 = .ok (.iconst 0, 1) := by decide +kernel
theorem dX12_append_81 : decode cX12_append 81 = .ok (.ireturn, 1) := by decide +kernel
theorem dX12_append_82 : decode cX12_append 82 = .ok (.aload_n 0, 1) := by decide +kernel
theorem dX12_append_83 : decode cX12_append 83 = .ok (.iload_n 1, 1) := by decide +kernel
theorem dX12_append_84 : decode cX12_append 84 = .ok (.iload 5, 2) := by decide +kernel
theorem dX12_append_86 : decode cX12_append 86 = .ok (.invokevirtual 412, 3) := by decide +kernel
theorem dX12_append_89 : decode cX12_append 89 = .ok (.ifCond .ne 13, 3) := by decide +kernel
theorem dX12_append_92 : decode cX12_append 92 = .ok (.aload_n 0, 1) := by decide +kernel
theorem dX12_append_93 : decode cX12_append 93 = .ok (.iload_n 1, 1) := by decide +kernel
theorem dX12_append_94 : decode cX12_append 94 = .ok (.invokevirtual 408, 3) := by decide +kernel
theorem dX12_append_97 : decode cX12_append 97 = .ok (.ifCond .ne 5, 3) := by decide +kernel
theorem dX12_append_100 : decode cX12_append 100 = .ok (.iconst 0, 1) := by decide +kernel
theorem dX12_append_101 : decode cX12_append 101 = .ok (.ireturn, 1) := by decide +kernel
theorem dX12_append_102 : decode cX12_append 102 = .ok (.aload_n 0, 1) := by decide +kernel
theorem dX12_append_103 : decode cX12_append 103 = .ok (.iconst 0, 1) := by decide +kernel
theorem dX12_append_104 : decode cX12_append 104 = .ok (.putfield 377, 3) := by decide +kernel
theorem dX12_append_107 : decode cX12_append 107 = .ok (.aload_n 0, 1) := by decide +kernel
theorem dX12_append_108 : decode cX12_append 108 = .ok (.iload 4, 2) := by decide +kernel
theorem dX12_append_110 : decode cX12_append 110 = .ok (.ifCond .eq 7, 3) := by decide +kernel
theorem dX12_append_113 : decode cX12_append 113 = .ok (.iconst 1, 1) := by decide +kernel
theorem dX12_append_114 : decode cX12_append 114 = .ok (.goto 4, 3) := by decide +kernel
theorem dX12_append_117 : decode cX12_append 117 = .ok (.iconst 2, 1) := by decide +kernel
theorem dX12_append_118 : decode cX12_append 118 = .ok (.invokevirtual 380, 3) := by decide +kernel
theorem dX12_append_121 : decode cX12_append 121 = .ok (.aload_n 0, 1) := by decide +kernel
theorem dX12_append_122 : decode cX12_append 122 = .ok (.iload 5, 2) := by decide +kernel
theorem dX12_append_124 : decode cX12_append 124 = .ok (.iconst 3, 1) := by decide +kernel
theorem dX12_append_125 : decode cX12_append 125 = .ok (.isub, 1) := by decide +kernel
theorem dX12_append_126 : decode cX12_append 126 = .ok (.invokevirtual 380, 3) := by decide +kernel
theorem dX12_append_129 : decode cX12_append 129 = .ok (.aload_n 0, 1) := by decide +kernel
theorem dX12_append_130 : decode cX12_append 130 = .ok (.aload_n 0, 1) := by decide +kernel
theorem dX12_append_131 : decode cX12_append 131 = .ok (.getfield 131, 3) := by decide +kernel
theorem dX12_append_134 : decode cX12_append 134 = .ok (.iload_n 1, 1) := by decide +kernel
theorem dX12_append_135 : decode cX12_append 135 = .ok (.iaload, 1) := by decide +kernel
theorem dX12_append_136 : decode cX12_append 136 = .ok (.iconst 1, 1) := by decide +kernel
theorem dX12_append_137 : decode cX12_append 137 = .ok (.iadd, 1) := by decide +kernel
theorem dX12_append_138 : decode cX12_append 138 = .ok (.invokevirtual 415, 3) := by decide +kernel
theorem dX12_append_141 : decode cX12_append 141 = .ok (.aload_n 0, 1) := by decide +kernel
theorem dX12_append_142 : decode cX12_append 142 = .ok (.iload_n 3, 1) := by decide +kernel
theorem dX12_append_143 : decode cX12_append 143 = .ok (.invokevirtual 415, 3) := by decide +kernel
theorem dX12_append_146 : decode cX12_append 146 = .ok (.aload_n 0, 1) := by decide +kernel
theorem dX12_append_147 : decode cX12_append 147 = .ok (.iload_n 2, 1) := by decide +kernel
theorem dX12_append_148 : decode cX12_append 148 = .ok (.invokevirtual 415, 3) := by decide +kernel
theorem dX12_append_151 : decode cX12_append 151 = .ok (.aload_n 0, 1) := by decide +kernel
theorem dX12_append_152 : decode cX12_append 152 = .ok (.aload_n 0, 1) := by decide +kernel
theorem dX12_append_153 : decode cX12_append 153 = .ok (.getfield 134, 3) := by decide +kernel
theorem dX12_append_156 : decode cX12_append 156 = .ok (.iload_n 1, 1) := by decide +kernel
theorem dX12_append_157 : decode cX12_append 157 = .ok (.iaload, 1) := by decide +kernel
theorem dX12_append_158 : decode cX12_append 158 = .ok (.invokevirtual 415, 3) := by decide +kernel
theorem dX12_append_161 : decode cX12_append 161 = .ok (.aload_n 0, 1) := by decide +kernel
theorem dX12_append_162 : decode cX12_append 162 = .ok (.aload_n 0, 1) := by decide +kernel
theorem dX12_append_163 : decode cX12_append 163 = .ok (.getfield 13, 3) := by decide +kernel
theorem dX12_append_166 : decode cX12_append 166 = .ok (.iload_n 2, 1) := by decide +kernel
theorem dX12_append_167 : decode cX12_append 167 = .ok (.iaload, 1) := by decide +kernel
theorem dX12_append_168 : decode cX12_append 168 = .ok (.invokevirtual 380, 3) := by decide +kernel
theorem dX12_append_171 : decode cX12_append 171 = .ok (.iconst 0, 1) := by decide +kernel
theorem dX12_append_172 : decode cX12_append 172 = .ok (.istore 6, 2) := by decide +kernel
theorem dX12_append_174 : decode cX12_append 174 = .ok (.iload 6, 2) := by decide +kernel
theorem dX12_append_176 : decode cX12_append 176 = .ok (.aload_n 0, 1) := by decide +kernel
theorem dX12_append_177 : decode cX12_append 177 = .ok (.getfield 50, 3) := by decide +kernel
theorem dX12_append_180 : decode cX12_append 180 = .ok (.iload_n 2, 1) := by decide +kernel
theorem dX12_append_181 : decode cX12_append 181 = .ok (.iaload, 1) := by decide +kernel
theorem dX12_append_182 : decode cX12_append 182 = .ok (.if_icmp .ge 30, 3) := by decide +kernel
theorem dX12_append_185 : decode cX12_append 185 = .ok (.iload 4, 2) := by decide +kernel
theorem dX12_append_187 : decode cX12_append 187 = .ok (.ifCond .eq 25, 3) := by decide +kernel
theorem dX12_append_190 : decode cX12_append 190 = .ok (.aload_n 0, 1) := by decide +kernel
theorem dX12_append_191 : decode cX12_append 191 = .ok (.aload_n 0, 1) := by decide +kernel
theorem dX12_append_192 : decode cX12_append 192 = .ok (.getfield 47, 3) := by decide +kernel
theorem dX12_append_195 : decode cX12_append 195 = .ok (.bipush 60, 2) := by decide +kernel
theorem dX12_append_197 : decode cX12_append 197 = .ok (.iload_n 2, 1) := by decide +kernel
theorem dX12_append_198 : decode cX12_append 198 = .ok (.imul, 1) := by decide +kernel
theorem dX12_append_199 : decode cX12_append 199 = .ok (.iload 6, 2) := by decide +kernel
theorem dX12_append_201 : decode cX12_append 201 = .ok (.iadd, 1) := by decide +kernel
theorem dX12_append_202 : decode cX12_append 202 = .ok (.iaload, 1) := by decide +kernel
theorem dX12_append_203 : decode cX12_append 203 = .ok (.invokevirtual 380, 3) := by decide +kernel
theorem dX12_append_206 : decode cX12_append 206 = .ok (.iinc 6 1, 3) := by decide +kernel
theorem dX12_append_209 : decode cX12_append 209 = .ok (.goto (-35), 3) := by decide +kernel
theorem dX12_append_212 : decode cX12_append 212 = .ok (.aload_n 0, 1) := by decide +kernel
theorem dX12_append_213 : decode cX12_append 213 = .ok (.sipush 255, 3) := by decide +kernel
theorem dX12_append_216 : decode cX12_append 216 = .ok (.invokevirtual 380, 3) := by decide +kernel
theorem dX12_append_219 : decode cX12_append 219 = .ok (.aload_n 0, 1) := by decide +kernel
theorem dX12_append_220 : decode cX12_append 220 = .ok (.iload_n 1, 1) := by decide +kernel
theorem dX12_append_221 : decode cX12_append 221 = .ok (.invokevirtual 418, 3) := by decide +kernel
theorem dX12_append_224 : decode cX12_append 224 = .ok (.ifCond .ne 5, 3) := by decide +kernel
theorem dX12_append_227 : decode cX12_append 227 = .ok (.iconst 0, 1) := by decide +kernel
theorem dX12_append_228 : decode cX12_append 228 = .ok (.ireturn, 1) := by decide +kernel
theorem dX12_append_229 : decode cX12_append 229 = .ok (.aload_n 0, 1) := by decide +kernel
theorem dX12_append_230 : decode cX12_append 230 = .ok (.iload_n 1, 1) := by decide +kernel
theorem dX12_append_231 : decode cX12_append 231 = .ok (.aload_n 0, 1) := by decide +kernel
theorem dX12_append_232 : decode cX12_append 232 = .ok (.getfield 131, 3) := by decide +kernel
theorem dX12_append_235 : decode cX12_append 235 = .ok (.iload_n 1, 1) := by decide +kernel
theorem dX12_append_236 : decode cX12_append 236 = .ok (.iaload, 1) := by decide +kernel
theorem dX12_append_237 : decode cX12_append 237 = .ok (.invokevirtual 389, 3) := by decide +kernel
theorem dX12_append_240 : decode cX12_append 240 = .ok (.istore 6, 2) := by decide +kernel
theorem dX12_append_242 : decode cX12_append 242 = .ok (.aload_n 0, 1) := by decide +kernel
theorem dX12_append_243 : decode cX12_append 243 = .ok (.getfield 131, 3) := by decide +kernel
theorem dX12_append_246 : decode cX12_append 246 = .ok (.iload_n 1, 1) := by decide +kernel
theorem dX12_append_247 : decode cX12_append 247 = .ok (.dup2, 1) := by decide +kernel
theorem dX12_append_248 : decode cX12_append 248 = .ok (.iaload, 1) := by decide +kernel
theorem dX12_append_249 : decode cX12_append 249 = .ok (.iconst 1, 1) := by decide +kernel
theorem dX12_append_250 : decode cX12_append 250 = .ok (.iadd, 1) := by decide +kernel
theorem dX12_append_251 : decode cX12_append 251 = .ok (.iastore, 1) := by decide +kernel
theorem dX12_append_252 : decode cX12_append 252 = .ok (.aload_n 0, 1) := by decide +kernel
theorem dX12_append_253 : decode cX12_append 253 = .ok (.getfield 146, 3) := by decide +kernel
theorem dX12_append_256 : decode cX12_append 256 = .ok (.sipush 700, 3) := by decide +kernel
theorem dX12_append_259 : decode cX12_append 259 = .ok (.iload_n 1, 1) := by decide +kernel
theorem dX12_append_260 : decode cX12_append 260 = .ok (.imul, 1) := by decide +kernel
theorem dX12_append_261 : decode cX12_append 261 = .ok (.aload_n 0, 1) := by decide +kernel
theorem dX12_append_262 : decode cX12_append 262 = .ok (.getfield 131, 3) := by decide +kernel
theorem dX12_append_265 : decode cX12_append 265 = .ok (.iload_n 1, 1) := by decide +kernel
theorem dX12_append_266 : decode cX12_append 266 = .ok (.iaload, 1) := by decide +kernel
theorem dX12_append_267 : decode cX12_append 267 = .ok (.iadd, 1) := by decide +kernel
theorem dX12_append_268 : decode cX12_append 268 = .ok (.aload_n 0, 1) := by decide +kernel
theorem dX12_append_269 : decode cX12_append 269 = .ok (.iload 6, 2) := by decide +kernel
theorem dX12_append_271 : decode cX12_append 271 = .ok (.iload_n 2, 1) := by decide +kernel
theorem dX12_append_272 : decode cX12_append 272 = .ok (.iload_n 3, 1) := by decide +kernel
theorem dX12_append_273 : decode cX12_append 273 = .ok (.invokevirtual 421, 3) := by decide +kernel
theorem dX12_append_276 : decode cX12_append 276 = .ok (.iastore, 1) := by decide +kernel
theorem dX12_append_277 : decode cX12_append 277 = .ok (.iconst 1, 1) := by decide +kernel
theorem dX12_append_278 : decode cX12_append 278 = .ok (.ireturn, 1) := by decide +kernel
theorem dX12_cut_0 : decode cX12_cut 0 = .ok (.aload_n 0, 1) := by decide +kernel
theorem dX12_cut_1 : decode cX12_cut 1 = .ok (.iload_n 1, 1) := by decide +kernel
theorem dX12_cut_2 : decode cX12_cut 2 = .ok (.bipush 7, 2) := by decide +kernel
theorem dX12_cut_4 : decode cX12_cut 4 = .ok (.invokevirtual 412, 3) := by decide +kernel
theorem dX12_cut_7 : decode cX12_cut 7 = .ok (.ifCond .ne 13, 3) := by decide +kernel
theorem dX12_cut_10 : decode cX12_cut 10 = .ok (.aload_n 0, 1) := by decide +kernel
theorem dX12_cut_11 : decode cX12_cut 11 = .ok (.iload_n 1, 1) := by decide +kernel
theorem dX12_cut_12 : decode cX12_cut 12 = .ok (.invokevirtual 408, 3) := by decide +kernel
theorem dX12_cut_15 : decode cX12_cut 15 = .ok (.ifCond .ne 5, 3) := by decide +kernel
theorem dX12_cut_18 : decode cX12_cut 18 = .ok (.iconst 0, 1) := by decide +kernel
theorem dX12_cut_19 : decode cX12_cut 19 = .ok (.ireturn, 1) := by decide +kernel
theorem dX12_cut_20 : decode cX12_cut 20 = .ok (.aload_n 0, 1) := by decide +kernel
theorem dX12_cut_21 : decode cX12_cut 21 = .ok (.iconst 0, 1) := by decide +kernel
theorem dX12_cut_22 : decode cX12_cut 22 = .ok (.putfield 377, 3) := by decide +kernel
theorem dX12_cut_25 : decode cX12_cut 25 = .ok (.aload_n 0, 1) := by decide +kernel
theorem dX12_cut_26 : decode cX12_cut 26 = .ok (.iconst 3, 1) := by decide +kernel
theorem dX12_cut_27 : decode cX12_cut 27 = .ok (.invokevirtual 380, 3) := by decide +kernel
theorem dX12_cut_30 : decode cX12_cut 30 = .ok (.aload_n 0, 1) := by decide +kernel
theorem dX12_cut_31 : decode cX12_cut 31 = .ok (.iconst 4, 1) := by decide +kernel
theorem dX12_cut_32 : decode cX12_cut 32 = .ok (.invokevirtual 380, 3) := by decide +kernel
theorem dX12_cut_35 : decode cX12_cut 35 = .ok (.aload_n 0, 1) := by decide +kernel
theorem dX12_cut_36 : decode cX12_cut 36 = .ok (.iload_n 2, 1) := by decide +kernel
theorem dX12_cut_37 : decode cX12_cut 37 = .ok (.invokevirtual 415, 3) := by decide +kernel
theorem dX12_cut_40 : decode cX12_cut 40 = .ok (.aload_n 0, 1) := by decide +kernel
theorem dX12_cut_41 : decode cX12_cut 41 = .ok (.iload_n 3, 1) := by decide +kernel
theorem dX12_cut_42 : decode cX12_cut 42 = .ok (.invokevirtual 415, 3) := by decide +kernel
theorem dX12_cut_45 : decode cX12_cut 45 = .ok (.aload_n 0, 1) := by decide +kernel
theorem dX12_cut_46 : decode cX12_cut 46 = .ok (.sipush 255, 3) := by decide +kernel
theorem dX12_cut_49 : decode cX12_cut 49 = .ok (.invokevirtual 380, 3) := by decide +kernel
theorem dX12_cut_52 : decode cX12_cut 52 = .ok (.aload_n 0, 1) := by decide +kernel
theorem dX12_cut_53 : decode cX12_cut 53 = .ok (.iload_n 1, 1) := by decide +kernel
theorem dX12_cut_54 : decode cX12_cut 54 = .ok (.invokevirtual 418, 3) := by decide +kernel
theorem dX12_cut_57 : decode cX12_cut 57 = .ok (.ifCond .ne 5, 3) := by decide +kernel
theorem dX12_cut_60 : decode cX12_cut 60 = .ok (.iconst 0, 1) := by decide +kernel
theorem dX12_cut_61 : decode cX12_cut 61 = .ok (.ireturn, 1) := by decide +kernel
theorem dX12_cut_62 : decode cX12_cut 62 = .ok (.aload_n 0, 1) := by decide +kernel
theorem dX12_cut_63 : decode cX12_cut 63 = .ok (.getfield 131, 3) := by decide +kernel
theorem dX12_cut_66 : decode cX12_cut 66 = .ok (.iload_n 1, 1) := by decide +kernel
theorem dX12_cut_67 : decode cX12_cut 67 = .ok (.iload_n 2, 1) := by decide +kernel
theorem dX12_cut_68 : decode cX12_cut 68 = .ok (.iastore, 1) := by decide +kernel
theorem dX12_cut_69 : decode cX12_cut 69 = .ok (.aload_n 0, 1) := by decide +kernel
theorem dX12_cut_70 : decode cX12_cut 70 = .ok (.getfield 125, 3) := by decide +kernel
theorem dX12_cut_73 : decode cX12_cut 73 = .ok (.iload_n 1, 1) := by decide +kernel
theorem dX12_cut_74 : decode cX12_cut 74 = .ok (.iload_n 3, 1) := by decide +kernel
theorem dX12_cut_75 : decode cX12_cut 75 = .ok (.iastore, 1) := by decide +kernel
theorem dX12_cut_76 : decode cX12_cut 76 = .ok (.iconst 1, 1) := by decide +kernel
theorem dX12_cut_77 : decode cX12_cut 77 = .ok (.ireturn, 1) := by decide +kernel
theorem dX12_show_0 : decode cX12_show 0 = .ok (.aload_n 0, 1) := by decide +kernel
theorem dX12_show_1 : decode cX12_show 1 = .ok (.iload_n 1, 1) := by decide +kernel
theorem dX12_show_2 : decode cX12_show 2 = .ok (.iconst 5, 1) := by decide +kernel
theorem dX12_show_3 : decode cX12_show 3 = .ok (.invokevirtual 412, 3) := by decide +kernel
theorem dX12_show_6 : decode cX12_show 6 = .ok (.ifCond .ne 13, 3) := by decide +kernel
theorem dX12_show_9 : decode cX12_show 9 = .ok (.aload_n 0, 1) := by decide +kernel
theorem dX12_show_10 : decode cX12_show 10 = .ok (.iload_n 1, 1) := by decide +kernel
theorem dX12_show_11 : decode cX12_show 11 = .ok (.invokevirtual 408, 3) := by decide +kernel
theorem dX12_show_14 : decode cX12_show 14 = .ok (.ifCond .ne 5, 3) := by decide +kernel
theorem dX12_show_17 : decode cX12_show 17 = .ok (.iconst 0, 1) := by decide +kernel
theorem dX12_show_18 : decode cX12_show 18 = .ok (.ireturn, 1) := by decide +kernel
theorem dX12_show_19 : decode cX12_show 19 = .ok (.iload_n 2, 1) := by decide +kernel
theorem dX12_show_20 : decode cX12_show 20 = .ok (.aload_n 0, 1) := by decide +kernel
theorem dX12_show_21 : decode cX12_show 21 = .ok (.getfield 128, 3) := by decide +kernel
theorem dX12_show_24 : decode cX12_show 24 = .ok (.iload_n 1, 1) := by decide +kernel
theorem dX12_show_25 : decode cX12_show 25 = .ok (.iaload, 1) := by decide +kernel
theorem dX12_show_26 : decode cX12_show 26 = .ok (.invokestatic 425, 3) := by decide +kernel
theorem dX12_show_29 : decode cX12_show 29 = .ok (.istore_n 3, 1) := by decide +kernel
theorem dX12_show_30 : decode cX12_show 30 = .ok (.aload_n 0, 1) := by decide +kernel
theorem dX12_show_31 : decode cX12_show 31 = .ok (.iconst 0, 1) := by decide +kernel
theorem dX12_show_32 : decode cX12_show 32 = .ok (.putfield 377, 3) := by decide +kernel
theorem dX12_show_35 : decode cX12_show 35 = .ok (.aload_n 0, 1) := by decide +kernel
theorem dX12_show_36 : decode cX12_show 36 = .ok (.iconst 4, 1) := by decide +kernel
theorem dX12_show_37 : decode cX12_show 37 = .ok (.invokevirtual 380, 3) := by decide +kernel
theorem dX12_show_40 : decode cX12_show 40 = .ok (.aload_n 0, 1) := by decide +kernel
theorem dX12_show_41 : decode cX12_show 41 = .ok (.iconst 2, 1) := by decide +kernel
theorem dX12_show_42 : decode cX12_show 42 = .ok (.invokevirtual 380, 3) := by decide +kernel
theorem dX12_show_45 : decode cX12_show 45 = .ok (.aload_n 0, 1) := by decide +kernel
theorem dX12_show_46 : decode cX12_show 46 = .ok (.iload_n 3, 1) := by decide +kernel
theorem dX12_show_47 : decode cX12_show 47 = .ok (.invokevirtual 415, 3) := by decide +kernel
theorem dX12_show_50 : decode cX12_show 50 = .ok (.aload_n 0, 1) := by decide +kernel
theorem dX12_show_51 : decode cX12_show 51 = .ok (.sipush 255, 3) := by decide +kernel
theorem dX12_show_54 : decode cX12_show 54 = .ok (.invokevirtual 380, 3) := by decide +kernel
theorem dX12_show_57 : decode cX12_show 57 = .ok (.aload_n 0, 1) := by decide +kernel
theorem dX12_show_58 : decode cX12_show 58 = .ok (.iload_n 1, 1) := by decide +kernel
theorem dX12_show_59 : decode cX12_show 59 = .ok (.invokevirtual 418, 3) := by decide +kernel
theorem dX12_show_62 : decode cX12_show 62 = .ok (.ifCond .ne 5, 3) := by decide +kernel
theorem dX12_show_65 : decode cX12_show 65 = .ok (.iconst 0, 1) := by decide +kernel
theorem dX12_show_66 : decode cX12_show 66 = .ok (.ireturn, 1) := by decide +kernel
theorem dX12_show_67 : decode cX12_show 67 = .ok (.aload_n 0, 1) := by decide +kernel
theorem dX12_show_68 : decode cX12_show 68 = .ok (.iload_n 1, 1) := by decide +kernel
theorem dX12_show_69 : decode cX12_show 69 = .ok (.iload_n 3, 1) := by decide +kernel
theorem dX12_show_70 : decode cX12_show 70 = .ok (.invokevirtual 428, 3) := by decide +kernel
theorem dX12_show_73 : decode cX12_show 73 = .ok (.aload_n 0, 1) := by decide +kernel
theorem dX12_show_74 : decode cX12_show 74 = .ok (.getfield 137, 3) := by decide +kernel
theorem dX12_show_77 : decode cX12_show 77 = .ok (.iload_n 1, 1) := by decide +kernel
theorem dX12_show_78 : decode cX12_show 78 = .ok (.iload_n 3, 1) := by decide +kernel
theorem dX12_show_79 : decode cX12_show 79 = .ok (.iastore, 1) := by decide +kernel
theorem dX12_show_80 : decode cX12_show 80 = .ok (.iconst 1, 1) := by decide +kernel
theorem dX12_show_81 : decode cX12_show 81 = .ok (.ireturn, 1) := by decide +kernel
theorem dX12_isOther_0 : decode cX12_isOther 0 = .ok (.iload_n 2, 1) := by decide +kernel
theorem dX12_isOther_1 : decode cX12_isOther 1 = .ok (.iload_n 1, 1) := by decide +kernel
theorem dX12_isOther_2 : decode cX12_isOther 2 = .ok (.iconst 4, 1) := by decide +kernel
theorem dX12_isOther_3 : decode cX12_isOther 3 = .ok (.idiv, 1) := by decide +kernel
theorem dX12_isOther_4 : decode cX12_isOther 4 = .ok (.if_icmp .eq 18, 3) := by decide +kernel
theorem dX12_isOther_7 : decode cX12_isOther 7 = .ok (.aload_n 0, 1) := by decide +kernel
theorem dX12_isOther_8 : decode cX12_isOther 8 = .ok (.iload_n 2, 1) := by decide +kernel
theorem dX12_isOther_9 : decode cX12_isOther 9 = .ok (.iload_n 1, 1) := by decide +kernel
theorem dX12_isOther_10 : decode cX12_isOther 10 = .ok (.iconst 4, 1) := by decide +kernel
theorem dX12_isOther_11 : decode cX12_isOther 11 = .ok (.irem, 1) := by decide +kernel
theorem dX12_isOther_12 : decode cX12_isOther 12 = .ok (.invokevirtual 352, 3) := by decide +kernel
theorem dX12_isOther_15 : decode cX12_isOther 15 = .ok (.ifCond .eq 7, 3) := by decide +kernel
theorem dX12_isOther_18 : decode cX12_isOther 18 = .ok (.iconst 1, 1) := by decide +kernel
theorem dX12_isOther_19 : decode cX12_isOther 19 = .ok (.goto 4, 3) := by decide +kernel
theorem dX12_isOther_22 : decode cX12_isOther 22 = .ok (.iconst 0, 1) := by decide +kernel
theorem dX12_isOther_23 : decode cX12_isOther 23 = .ok (.ireturn, 1) := by decide +kernel
theorem dX12_counts_0 : decode cX12_counts 0 = .ok (.aload_n 0, 1) := by decide +kernel
theorem dX12_counts_1 : decode cX12_counts 1 = .ok (.getfield 158, 3) := by decide +kernel
theorem dX12_counts_4 : decode cX12_counts 4 = .ok (.iload_n 1, 1) := by decide +kernel
theorem dX12_counts_5 : decode cX12_counts 5 = .ok (.iaload, 1) := by decide +kernel
theorem dX12_counts_6 : decode cX12_counts 6 = .ok (.iconst 2, 1) := by decide +kernel
theorem dX12_counts_7 : decode cX12_counts 7 = .ok (.if_icmp .lt 7, 3) := by decide +kernel
theorem dX12_counts_10 : decode cX12_counts 10 = .ok (.iconst 1, 1) := by decide +kernel
theorem dX12_counts_11 : decode cX12_counts 11 = .ok (.goto 4, 3) := by decide +kernel
theorem dX12_counts_14 : decode cX12_counts 14 = .ok (.iconst 0, 1) := by decide +kernel
theorem dX12_counts_15 : decode cX12_counts 15 = .ok (.ireturn, 1) := by decide +kernel
theorem dX12_settle_0 : decode cX12_settle 0 = .ok (.iload_n 1, 1) := by decide +kernel
theorem dX12_settle_1 : decode cX12_settle 1 = .ok (.iconst 4, 1) := by decide +kernel
theorem dX12_settle_2 : decode cX12_settle 2 = .ok (.idiv, 1) := by decide +kernel
theorem dX12_settle_3 : decode cX12_settle 3 = .ok (.istore_n 2, 1) := by decide +kernel
theorem dX12_settle_4 : decode cX12_settle 4 = .ok (.aload_n 0, 1) := by decide +kernel
theorem dX12_settle_5 : decode cX12_settle 5 = .ok (.getfield 131, 3) := by decide +kernel
theorem dX12_settle_8 : decode cX12_settle 8 = .ok (.iload_n 1, 1) := by decide +kernel
theorem dX12_settle_9 : decode cX12_settle 9 = .ok (.iaload, 1) := by decide +kernel
theorem dX12_settle_10 : decode cX12_settle 10 = .ok (.istore_n 3, 1) := by decide +kernel
theorem dX12_settle_11 : decode cX12_settle 11 = .ok (.iconst 0, 1) := by decide +kernel
theorem dX12_settle_12 : decode cX12_settle 12 = .ok (.istore 4, 2) := by decide +kernel
theorem dX12_settle_14 : decode cX12_settle 14 = .ok (.iload 4, 2) := by decide +kernel
theorem dX12_settle_16 : decode cX12_settle 16 = .ok (.aload_n 0, 1) := by decide +kernel
theorem dX12_settle_17 : decode cX12_settle 17 = .ok (.getfield 321, 3) := by decide +kernel
theorem dX12_settle_20 : decode cX12_settle 20 = .ok (.if_icmp .ge 48, 3) := by decide +kernel
theorem dX12_settle_23 : decode cX12_settle 23 = .ok (.aload_n 0, 1) := by decide +kernel
theorem dX12_settle_24 : decode cX12_settle 24 = .ok (.iload_n 1, 1) := by decide +kernel
theorem dX12_settle_25 : decode cX12_settle 25 = .ok (.iload 4, 2) := by decide +kernel
theorem dX12_settle_27 : decode cX12_settle 27 = .ok (.invokevirtual 431, 3) := by decide +kernel
theorem dX12_settle_30 : decode cX12_settle 30 = .ok (.ifCond .eq 32, 3) := by decide +kernel
theorem dX12_settle_33 : decode cX12_settle 33 = .ok (.aload_n 0, 1) := by decide +kernel
theorem dX12_settle_34 : decode cX12_settle 34 = .ok (.iconst 5, 1) := by decide +kernel
theorem dX12_settle_35 : decode cX12_settle 35 = .ok (.iload_n 1, 1) := by decide +kernel
theorem dX12_settle_36 : decode cX12_settle 36 = .ok (.imul, 1) := by decide +kernel
theorem dX12_settle_37 : decode cX12_settle 37 = .ok (.iload 4, 2) := by decide +kernel
theorem dX12_settle_39 : decode cX12_settle 39 = .ok (.iadd, 1) := by decide +kernel
theorem dX12_settle_40 : decode cX12_settle 40 = .ok (.invokevirtual 434, 3) := by decide +kernel
theorem dX12_settle_43 : decode cX12_settle 43 = .ok (.ifCond .eq 19, 3) := by decide +kernel
theorem dX12_settle_46 : decode cX12_settle 46 = .ok (.iload_n 3, 1) := by decide +kernel
theorem dX12_settle_47 : decode cX12_settle 47 = .ok (.aload_n 0, 1) := by decide +kernel
theorem dX12_settle_48 : decode cX12_settle 48 = .ok (.getfield 161, 3) := by decide +kernel
theorem dX12_settle_51 : decode cX12_settle 51 = .ok (.iconst 5, 1) := by decide +kernel
theorem dX12_settle_52 : decode cX12_settle 52 = .ok (.iload_n 1, 1) := by decide +kernel
theorem dX12_settle_53 : decode cX12_settle 53 = .ok (.imul, 1) := by decide +kernel
theorem dX12_settle_54 : decode cX12_settle 54 = .ok (.iload 4, 2) := by decide +kernel
theorem dX12_settle_56 : decode cX12_settle 56 = .ok (.iadd, 1) := by decide +kernel
theorem dX12_settle_57 : decode cX12_settle 57 = .ok (.iaload, 1) := by decide +kernel
theorem dX12_settle_58 : decode cX12_settle 58 = .ok (.invokestatic 437, 3) := by decide +kernel
theorem dX12_settle_61 : decode cX12_settle 61 = .ok (.istore_n 3, 1) := by decide +kernel
theorem dX12_settle_62 : decode cX12_settle 62 = .ok (.iinc 4 1, 3) := by decide +kernel
theorem dX12_settle_65 : decode cX12_settle 65 = .ok (.goto (-51), 3) := by decide +kernel
theorem dX12_settle_68 : decode cX12_settle 68 = .ok (.iload_n 3, 1) := by decide +kernel
theorem dX12_settle_69 : decode cX12_settle 69 = .ok (.aload_n 0, 1) := by decide +kernel
theorem dX12_settle_70 : decode cX12_settle 70 = .ok (.getfield 134, 3) := by decide +kernel
theorem dX12_settle_73 : decode cX12_settle 73 = .ok (.iload_n 1, 1) := by decide +kernel
theorem dX12_settle_74 : decode cX12_settle 74 = .ok (.iaload, 1) := by decide +kernel
theorem dX12_settle_75 : decode cX12_settle 75 = .ok (.if_icmp .le 53, 3) := by decide +kernel
theorem dX12_settle_78 : decode cX12_settle 78 = .ok (.aload_n 0, 1) := by decide +kernel
theorem dX12_settle_79 : decode cX12_settle 79 = .ok (.getfield 134, 3) := by decide +kernel
theorem dX12_settle_82 : decode cX12_settle 82 = .ok (.iload_n 1, 1) := by decide +kernel
theorem dX12_settle_83 : decode cX12_settle 83 = .ok (.iaload, 1) := by decide +kernel
theorem dX12_settle_84 : decode cX12_settle 84 = .ok (.istore 4, 2) := by decide +kernel
theorem dX12_settle_86 : decode cX12_settle 86 = .ok (.aload_n 0, 1) := by decide +kernel
theorem dX12_settle_87 : decode cX12_settle 87 = .ok (.getfield 134, 3) := by decide +kernel
theorem dX12_settle_90 : decode cX12_settle 90 = .ok (.iload_n 1, 1) := by decide +kernel
theorem dX12_settle_91 : decode cX12_settle 91 = .ok (.iload_n 3, 1) := by decide +kernel
theorem dX12_settle_92 : decode cX12_settle 92 = .ok (.iastore, 1) := by decide +kernel
theorem dX12_settle_93 : decode cX12_settle 93 = .ok (.iload 4, 2) := by decide +kernel
theorem dX12_settle_95 : decode cX12_settle 95 = .ok (.iconst 1, 1) := by decide +kernel
theorem dX12_settle_96 : decode cX12_settle 96 = .ok (.iadd, 1) := by decide +kernel
theorem dX12_settle_97 : decode cX12_settle 97 = .ok (.istore 5, 2) := by decide +kernel
theorem dX12_settle_99 : decode cX12_settle 99 = .ok (.iload 5, 2) := by decide +kernel
theorem dX12_settle_101 : decode cX12_settle 101 = .ok (.iload_n 3, 1) := by decide +kernel
theorem dX12_settle_102 : decode cX12_settle 102 = .ok (.if_icmp .gt 26, 3) := by decide +kernel
theorem dX12_settle_105 : decode cX12_settle 105 = .ok (.aload_n 0, 1) := by decide +kernel
theorem dX12_settle_106 : decode cX12_settle 106 = .ok (.iload_n 2, 1) := by decide +kernel
theorem dX12_settle_107 : decode cX12_settle 107 = .ok (.aload_n 0, 1) := by decide +kernel
theorem dX12_settle_108 : decode cX12_settle 108 = .ok (.getfield 113, 3) := by decide +kernel
theorem dX12_settle_111 : decode cX12_settle 111 = .ok (.aload_n 0, 1) := by decide +kernel
theorem dX12_settle_112 : decode cX12_settle 112 = .ok (.iload_n 1, 1) := by decide +kernel
theorem dX12_settle_113 : decode cX12_settle 113 = .ok (.iload 5, 2) := by decide +kernel
theorem dX12_settle_115 : decode cX12_settle 115 = .ok (.invokevirtual 389, 3) := by decide +kernel
theorem dX12_settle_118 : decode cX12_settle 118 = .ok (.iaload, 1) := by decide +kernel
theorem dX12_settle_119 : decode cX12_settle 119 = .ok (.invokevirtual 440, 3) := by decide +kernel
theorem dX12_settle_122 : decode cX12_settle 122 = .ok (.iinc 5 1, 3) := by decide +kernel
theorem dX12_settle_125 : decode cX12_settle 125 = .ok (.goto (-26), 3) := by decide +kernel
theorem dX12_settle_128 : decode cX12_settle 128 = .ok (.iconst 0, 1) := by decide +kernel
theorem dX12_settle_129 : decode cX12_settle 129 = .ok (.istore 4, 2) := by decide +kernel
theorem dX12_settle_131 : decode cX12_settle 131 = .ok (.iconst 0, 1) := by decide +kernel
theorem dX12_settle_132 : decode cX12_settle 132 = .ok (.istore 5, 2) := by decide +kernel
theorem dX12_settle_134 : decode cX12_settle 134 = .ok (.iload 5, 2) := by decide +kernel
theorem dX12_settle_136 : decode cX12_settle 136 = .ok (.aload_n 0, 1) := by decide +kernel
theorem dX12_settle_137 : decode cX12_settle 137 = .ok (.getfield 149, 3) := by decide +kernel
theorem dX12_settle_140 : decode cX12_settle 140 = .ok (.iload_n 1, 1) := by decide +kernel
theorem dX12_settle_141 : decode cX12_settle 141 = .ok (.iaload, 1) := by decide +kernel
theorem dX12_settle_142 : decode cX12_settle 142 = .ok (.if_icmp .ge 88, 3) := by decide +kernel
theorem dX12_settle_145 : decode cX12_settle 145 = .ok (.aload_n 0, 1) := by decide +kernel
theorem dX12_settle_146 : decode cX12_settle 146 = .ok (.getfield 155, 3) := by decide +kernel
theorem dX12_settle_149 : decode cX12_settle 149 = .ok (.bipush 20, 2) := by decide +kernel
theorem dX12_settle_151 : decode cX12_settle 151 = .ok (.iload_n 1, 1) := by decide +kernel
theorem dX12_settle_152 : decode cX12_settle 152 = .ok (.imul, 1) := by decide +kernel
theorem dX12_settle_153 : decode cX12_settle 153 = .ok (.iload 5, 2) := by decide +kernel
theorem dX12_settle_155 : decode cX12_settle 155 = .ok (.iadd, 1) := by decide +kernel
theorem dX12_settle_156 : decode cX12_settle 156 = .ok (.iaload, 1) := by decide +kernel
theorem dX12_settle_157 : decode cX12_settle 157 = .ok (.istore 6, 2) := by decide +kernel
theorem dX12_settle_159 : decode cX12_settle 159 = .ok (.aload_n 0, 1) := by decide +kernel
theorem dX12_settle_160 : decode cX12_settle 160 = .ok (.getfield 152, 3) := by decide +kernel
theorem dX12_settle_163 : decode cX12_settle 163 = .ok (.bipush 20, 2) := by decide +kernel
theorem dX12_settle_165 : decode cX12_settle 165 = .ok (.iload_n 1, 1) := by decide +kernel
theorem dX12_settle_166 : decode cX12_settle 166 = .ok (.imul, 1) := by decide +kernel
theorem dX12_settle_167 : decode cX12_settle 167 = .ok (.iload 5, 2) := by decide +kernel
theorem dX12_settle_169 : decode cX12_settle 169 = .ok (.iadd, 1) := by decide +kernel
theorem dX12_settle_170 : decode cX12_settle 170 = .ok (.iaload, 1) := by decide +kernel
theorem dX12_settle_171 : decode cX12_settle 171 = .ok (.istore 7, 2) := by decide +kernel
theorem dX12_settle_173 : decode cX12_settle 173 = .ok (.aload_n 0, 1) := by decide +kernel
theorem dX12_settle_174 : decode cX12_settle 174 = .ok (.iload_n 1, 1) := by decide +kernel
theorem dX12_settle_175 : decode cX12_settle 175 = .ok (.iload 6, 2) := by decide +kernel
theorem dX12_settle_177 : decode cX12_settle 177 = .ok (.invokevirtual 443, 3) := by decide +kernel
theorem dX12_settle_180 : decode cX12_settle 180 = .ok (.ifCond .eq 13, 3) := by decide +kernel
theorem dX12_settle_183 : decode cX12_settle 183 = .ok (.aload_n 0, 1) := by decide +kernel
theorem dX12_settle_184 : decode cX12_settle 184 = .ok (.iload_n 2, 1) := by decide +kernel
theorem dX12_settle_185 : decode cX12_settle 185 = .ok (.iload 7, 2) := by decide +kernel
theorem dX12_settle_187 : decode cX12_settle 187 = .ok (.invokevirtual 440, 3) := by decide +kernel
theorem dX12_settle_190 : decode cX12_settle 190 = .ok (.goto 34, 3) := by decide +kernel
theorem dX12_settle_193 : decode cX12_settle 193 = .ok (.aload_n 0, 1) := by decide +kernel
theorem dX12_settle_194 : decode cX12_settle 194 = .ok (.getfield 152, 3) := by decide +kernel
theorem dX12_settle_197 : decode cX12_settle 197 = .ok (.bipush 20, 2) := by decide +kernel
theorem dX12_settle_199 : decode cX12_settle 199 = .ok (.iload_n 1, 1) := by decide +kernel
theorem dX12_settle_200 : decode cX12_settle 200 = .ok (.imul, 1) := by decide +kernel
theorem dX12_settle_201 : decode cX12_settle 201 = .ok (.iload 4, 2) := by decide +kernel
theorem dX12_settle_203 : decode cX12_settle 203 = .ok (.iadd, 1) := by decide +kernel
theorem dX12_settle_204 : decode cX12_settle 204 = .ok (.iload 7, 2) := by decide +kernel
theorem dX12_settle_206 : decode cX12_settle 206 = .ok (.iastore, 1) := by decide +kernel
theorem dX12_settle_207 : decode cX12_settle 207 = .ok (.aload_n 0, 1) := by decide +kernel
theorem dX12_settle_208 : decode cX12_settle 208 = .ok (.getfield 155, 3) := by decide +kernel
theorem dX12_settle_211 : decode cX12_settle 211 = .ok (.bipush 20, 2) := by decide +kernel
theorem dX12_settle_213 : decode cX12_settle 213 = .ok (.iload_n 1, 1) := by decide +kernel
theorem dX12_settle_214 : decode cX12_settle 214 = .ok (.imul, 1) := by decide +kernel
theorem dX12_settle_215 : decode cX12_settle 215 = .ok (.iload 4, 2) := by decide +kernel
theorem dX12_settle_217 : decode cX12_settle 217 = .ok (.iadd, 1) := by decide +kernel
theorem dX12_settle_218 : decode cX12_settle 218 = .ok (.iload 6, 2) := by decide +kernel
theorem dX12_settle_220 : decode cX12_settle 220 = .ok (.iastore, 1) := by decide +kernel
theorem dX12_settle_221 : decode cX12_settle 221 = .ok (.iinc 4 1, 3) := by decide +kernel
theorem dX12_settle_224 : decode cX12_settle 224 = .ok (.iinc 5 1, 3) := by decide +kernel
theorem dX12_settle_227 : decode cX12_settle 227 = .ok (.goto (-93), 3) := by decide +kernel
theorem dX12_settle_230 : decode cX12_settle 230 = .ok (.aload_n 0, 1) := by decide +kernel
theorem dX12_settle_231 : decode cX12_settle 231 = .ok (.getfield 149, 3) := by decide +kernel
theorem dX12_settle_234 : decode cX12_settle 234 = .ok (.iload_n 1, 1) := by decide +kernel
theorem dX12_settle_235 : decode cX12_settle 235 = .ok (.iload 4, 2) := by decide +kernel
theorem dX12_settle_237 : decode cX12_settle 237 = .ok (.iastore, 1) := by decide +kernel
theorem dX12_settle_238 : decode cX12_settle 238 = .ok (.return_, 1) := by decide +kernel
theorem dX12_isSeen_0 : decode cX12_isSeen 0 = .ok (.iload_n 2, 1) := by decide +kernel
theorem dX12_isSeen_1 : decode cX12_isSeen 1 = .ok (.aload_n 0, 1) := by decide +kernel
theorem dX12_isSeen_2 : decode cX12_isSeen 2 = .ok (.getfield 137, 3) := by decide +kernel
theorem dX12_isSeen_5 : decode cX12_isSeen 5 = .ok (.iload_n 1, 1) := by decide +kernel
theorem dX12_isSeen_6 : decode cX12_isSeen 6 = .ok (.iaload, 1) := by decide +kernel
theorem dX12_isSeen_7 : decode cX12_isSeen 7 = .ok (.if_icmp .gt 7, 3) := by decide +kernel
theorem dX12_isSeen_10 : decode cX12_isSeen 10 = .ok (.iconst 1, 1) := by decide +kernel
theorem dX12_isSeen_11 : decode cX12_isSeen 11 = .ok (.goto 4, 3) := by decide +kernel
theorem dX12_isSeen_14 : decode cX12_isSeen 14 = .ok (.iconst 0, 1) := by decide +kernel
theorem dX12_isSeen_15 : decode cX12_isSeen 15 = .ok (.istore_n 3, 1) := by decide +kernel
theorem dX12_isSeen_16 : decode cX12_isSeen 16 = .ok (.iconst 0, 1) := by decide +kernel
theorem dX12_isSeen_17 : decode cX12_isSeen 17 = .ok (.istore 4, 2) := by decide +kernel
theorem dX12_isSeen_19 : decode cX12_isSeen 19 = .ok (.iload 4, 2) := by decide +kernel
theorem dX12_isSeen_21 : decode cX12_isSeen 21 = .ok (.aload_n 0, 1) := by decide +kernel
theorem dX12_isSeen_22 : decode cX12_isSeen 22 = .ok (.getfield 321, 3) := by decide +kernel
theorem dX12_isSeen_25 : decode cX12_isSeen 25 = .ok (.if_icmp .ge 57, 3) := by decide +kernel
theorem dX12_isSeen_28 : decode cX12_isSeen 28 = .ok (.iload_n 3, 1) := by decide +kernel
theorem dX12_isSeen_29 : decode cX12_isSeen 29 = .ok (.ifCond .eq 45, 3) := by decide +kernel
theorem dX12_isSeen_32 : decode cX12_isSeen 32 = .ok (.aload_n 0, 1) := by decide +kernel
theorem dX12_isSeen_33 : decode cX12_isSeen 33 = .ok (.iload_n 1, 1) := by decide +kernel
theorem dX12_isSeen_34 : decode cX12_isSeen 34 = .ok (.iload 4, 2) := by decide +kernel
theorem dX12_isSeen_36 : decode cX12_isSeen 36 = .ok (.invokevirtual 431, 3) := by decide +kernel
theorem dX12_isSeen_39 : decode cX12_isSeen 39 = .ok (.ifCond .eq 31, 3) := by decide +kernel
theorem dX12_isSeen_42 : decode cX12_isSeen 42 = .ok (.aload_n 0, 1) := by decide +kernel
theorem dX12_isSeen_43 : decode cX12_isSeen 43 = .ok (.iconst 5, 1) := by decide +kernel
theorem dX12_isSeen_44 : decode cX12_isSeen 44 = .ok (.iload_n 1, 1) := by decide +kernel
theorem dX12_isSeen_45 : decode cX12_isSeen 45 = .ok (.imul, 1) := by decide +kernel
theorem dX12_isSeen_46 : decode cX12_isSeen 46 = .ok (.iload 4, 2) := by decide +kernel
theorem dX12_isSeen_48 : decode cX12_isSeen 48 = .ok (.iadd, 1) := by decide +kernel
theorem dX12_isSeen_49 : decode cX12_isSeen 49 = .ok (.invokevirtual 434, 3) := by decide +kernel
theorem dX12_isSeen_52 : decode cX12_isSeen 52 = .ok (.ifCond .eq 18, 3) := by decide +kernel
theorem dX12_isSeen_55 : decode cX12_isSeen 55 = .ok (.iload_n 2, 1) := by decide +kernel
theorem dX12_isSeen_56 : decode cX12_isSeen 56 = .ok (.aload_n 0, 1) := by decide +kernel
theorem dX12_isSeen_57 : decode cX12_isSeen 57 = .ok (.getfield 164, 3) := by decide +kernel
theorem dX12_isSeen_60 : decode cX12_isSeen 60 = .ok (.iconst 5, 1) := by decide +kernel
theorem dX12_isSeen_61 : decode cX12_isSeen 61 = .ok (.iload_n 1, 1) := by decide +kernel
theorem dX12_isSeen_62 : decode cX12_isSeen 62 = .ok (.imul, 1) := by decide +kernel
theorem dX12_isSeen_63 : decode cX12_isSeen 63 = .ok (.iload 4, 2) := by decide +kernel
theorem dX12_isSeen_65 : decode cX12_isSeen 65 = .ok (.iadd, 1) := by decide +kernel
theorem dX12_isSeen_66 : decode cX12_isSeen 66 = .ok (.iaload, 1) := by decide +kernel
theorem dX12_isSeen_67 : decode cX12_isSeen 67 = .ok (.if_icmp .gt 7, 3) := by decide +kernel
theorem dX12_isSeen_70 : decode cX12_isSeen 70 = .ok (.iconst 1, 1) := by decide +kernel
theorem dX12_isSeen_71 : decode cX12_isSeen 71 = .ok (.goto 4, 3) := by decide +kernel
theorem dX12_isSeen_74 : decode cX12_isSeen 74 = .ok (.iconst 0, 1) := by decide +kernel
theorem dX12_isSeen_75 : decode cX12_isSeen 75 = .ok (.istore_n 3, 1) := by decide +kernel
theorem dX12_isSeen_76 : decode cX12_isSeen 76 = .ok (.iinc 4 1, 3) := by decide +kernel
theorem dX12_isSeen_79 : decode cX12_isSeen 79 = .ok (.goto (-60), 3) := by decide +kernel
theorem dX12_isSeen_82 : decode cX12_isSeen 82 = .ok (.iload_n 3, 1) := by decide +kernel
theorem dX12_isSeen_83 : decode cX12_isSeen 83 = .ok (.ireturn, 1) := by decide +kernel
theorem dX12_tellDone_0 : decode cX12_tellDone 0 = .ok (.aload_n 0, 1) := by decide +kernel
theorem dX12_tellDone_1 : decode cX12_tellDone 1 = .ok (.getfield 219, 3) := by decide +kernel
theorem dX12_tellDone_4 : decode cX12_tellDone 4 = .ok (.iconst 0, 1) := by decide +kernel
theorem dX12_tellDone_5 : decode cX12_tellDone 5 = .ok (.iconst 5, 1) := by decide +kernel
theorem dX12_tellDone_6 : decode cX12_tellDone 6 = .ok (.iastore, 1) := by decide +kernel
theorem dX12_tellDone_7 : decode cX12_tellDone 7 = .ok (.aload_n 0, 1) := by decide +kernel
theorem dX12_tellDone_8 : decode cX12_tellDone 8 = .ok (.getfield 219, 3) := by decide +kernel
theorem dX12_tellDone_11 : decode cX12_tellDone 11 = .ok (.iconst 1, 1) := by decide +kernel
theorem dX12_tellDone_12 : decode cX12_tellDone 12 = .ok (.iload_n 2, 1) := by decide +kernel
theorem dX12_tellDone_13 : decode cX12_tellDone 13 = .ok (.iastore, 1) := by decide +kernel
theorem dX12_tellDone_14 : decode cX12_tellDone 14 = .ok (.aload_n 0, 1) := by decide +kernel
theorem dX12_tellDone_15 : decode cX12_tellDone 15 = .ok (.iload_n 1, 1) := by decide +kernel
theorem dX12_tellDone_16 : decode cX12_tellDone 16 = .ok (.aload_n 0, 1) := by decide +kernel
theorem dX12_tellDone_17 : decode cX12_tellDone 17 = .ok (.getfield 19, 3) := by decide +kernel
theorem dX12_tellDone_20 : decode cX12_tellDone 20 = .ok (.iload_n 2, 1) := by decide +kernel
theorem dX12_tellDone_21 : decode cX12_tellDone 21 = .ok (.iaload, 1) := by decide +kernel
theorem dX12_tellDone_22 : decode cX12_tellDone 22 = .ok (.iconst 2, 1) := by decide +kernel
theorem dX12_tellDone_23 : decode cX12_tellDone 23 = .ok (.invokevirtual 446, 3) := by decide +kernel
theorem dX12_tellDone_26 : decode cX12_tellDone 26 = .ok (.return_, 1) := by decide +kernel
theorem dX12_sync_0 : decode cX12_sync 0 = .ok (.aload_n 0, 1) := by decide +kernel
theorem dX12_sync_1 : decode cX12_sync 1 = .ok (.getfield 219, 3) := by decide +kernel
theorem dX12_sync_4 : decode cX12_sync 4 = .ok (.iconst 0, 1) := by decide +kernel
theorem dX12_sync_5 : decode cX12_sync 5 = .ok (.bipush 8, 2) := by decide +kernel
theorem dX12_sync_7 : decode cX12_sync 7 = .ok (.iastore, 1) := by decide +kernel
theorem dX12_sync_8 : decode cX12_sync 8 = .ok (.aload_n 0, 1) := by decide +kernel
theorem dX12_sync_9 : decode cX12_sync 9 = .ok (.getfield 219, 3) := by decide +kernel
theorem dX12_sync_12 : decode cX12_sync 12 = .ok (.iconst 1, 1) := by decide +kernel
theorem dX12_sync_13 : decode cX12_sync 13 = .ok (.iload_n 1, 1) := by decide +kernel
theorem dX12_sync_14 : decode cX12_sync 14 = .ok (.iconst 4, 1) := by decide +kernel
theorem dX12_sync_15 : decode cX12_sync 15 = .ok (.irem, 1) := by decide +kernel
theorem dX12_sync_16 : decode cX12_sync 16 = .ok (.iastore, 1) := by decide +kernel
theorem dX12_sync_17 : decode cX12_sync 17 = .ok (.aload_n 0, 1) := by decide +kernel
theorem dX12_sync_18 : decode cX12_sync 18 = .ok (.getfield 219, 3) := by decide +kernel
theorem dX12_sync_21 : decode cX12_sync 21 = .ok (.iconst 2, 1) := by decide +kernel
theorem dX12_sync_22 : decode cX12_sync 22 = .ok (.aload_n 0, 1) := by decide +kernel
theorem dX12_sync_23 : decode cX12_sync 23 = .ok (.getfield 125, 3) := by decide +kernel
theorem dX12_sync_26 : decode cX12_sync 26 = .ok (.iload_n 1, 1) := by decide +kernel
theorem dX12_sync_27 : decode cX12_sync 27 = .ok (.iaload, 1) := by decide +kernel
theorem dX12_sync_28 : decode cX12_sync 28 = .ok (.iastore, 1) := by decide +kernel
theorem dX12_sync_29 : decode cX12_sync 29 = .ok (.aload_n 0, 1) := by decide +kernel
theorem dX12_sync_30 : decode cX12_sync 30 = .ok (.getfield 219, 3) := by decide +kernel
theorem dX12_sync_33 : decode cX12_sync 33 = .ok (.iconst 3, 1) := by decide +kernel
theorem dX12_sync_34 : decode cX12_sync 34 = .ok (.aload_n 0, 1) := by decide +kernel
theorem dX12_sync_35 : decode cX12_sync 35 = .ok (.getfield 128, 3) := by decide +kernel
theorem dX12_sync_38 : decode cX12_sync 38 = .ok (.iload_n 1, 1) := by decide +kernel
theorem dX12_sync_39 : decode cX12_sync 39 = .ok (.iaload, 1) := by decide +kernel
theorem dX12_sync_40 : decode cX12_sync 40 = .ok (.iastore, 1) := by decide +kernel
theorem dX12_sync_41 : decode cX12_sync 41 = .ok (.aload_n 0, 1) := by decide +kernel
theorem dX12_sync_42 : decode cX12_sync 42 = .ok (.getfield 219, 3) := by decide +kernel
theorem dX12_sync_45 : decode cX12_sync 45 = .ok (.iconst 4, 1) := by decide +kernel
theorem dX12_sync_46 : decode cX12_sync 46 = .ok (.aload_n 0, 1) := by decide +kernel
theorem dX12_sync_47 : decode cX12_sync 47 = .ok (.getfield 134, 3) := by decide +kernel
theorem dX12_sync_50 : decode cX12_sync 50 = .ok (.iload_n 1, 1) := by decide +kernel
theorem dX12_sync_51 : decode cX12_sync 51 = .ok (.iaload, 1) := by decide +kernel
theorem dX12_sync_52 : decode cX12_sync 52 = .ok (.iastore, 1) := by decide +kernel
theorem dX12_sync_53 : decode cX12_sync 53 = .ok (.aload_n 0, 1) := by decide +kernel
theorem dX12_sync_54 : decode cX12_sync 54 = .ok (.getfield 219, 3) := by decide +kernel
theorem dX12_sync_57 : decode cX12_sync 57 = .ok (.iconst 5, 1) := by decide +kernel
theorem dX12_sync_58 : decode cX12_sync 58 = .ok (.aload_n 0, 1) := by decide +kernel
theorem dX12_sync_59 : decode cX12_sync 59 = .ok (.getfield 131, 3) := by decide +kernel
theorem dX12_sync_62 : decode cX12_sync 62 = .ok (.iload_n 1, 1) := by decide +kernel
theorem dX12_sync_63 : decode cX12_sync 63 = .ok (.iaload, 1) := by decide +kernel
theorem dX12_sync_64 : decode cX12_sync 64 = .ok (.iastore, 1) := by decide +kernel
theorem dX12_sync_65 : decode cX12_sync 65 = .ok (.aload_n 0, 1) := by decide +kernel
theorem dX12_sync_66 : decode cX12_sync 66 = .ok (.getfield 219, 3) := by decide +kernel
theorem dX12_sync_69 : decode cX12_sync 69 = .ok (.bipush 6, 2) := by decide +kernel
theorem dX12_sync_71 : decode cX12_sync 71 = .ok (.aload_n 0, 1) := by decide +kernel
theorem dX12_sync_72 : decode cX12_sync 72 = .ok (.iload_n 1, 1) := by decide +kernel
theorem dX12_sync_73 : decode cX12_sync 73 = .ok (.aload_n 0, 1) := by decide +kernel
theorem dX12_sync_74 : decode cX12_sync 74 = .ok (.getfield 128, 3) := by decide +kernel
theorem dX12_sync_77 : decode cX12_sync 77 = .ok (.iload_n 1, 1) := by decide +kernel
theorem dX12_sync_78 : decode cX12_sync 78 = .ok (.iaload, 1) := by decide +kernel
theorem dX12_sync_79 : decode cX12_sync 79 = .ok (.invokevirtual 389, 3) := by decide +kernel
theorem dX12_sync_82 : decode cX12_sync 82 = .ok (.iastore, 1) := by decide +kernel
theorem dX12_sync_83 : decode cX12_sync 83 = .ok (.aload_n 0, 1) := by decide +kernel
theorem dX12_sync_84 : decode cX12_sync 84 = .ok (.getfield 219, 3) := by decide +kernel
theorem dX12_sync_87 : decode cX12_sync 87 = .ok (.bipush 7, 2) := by decide +kernel
theorem dX12_sync_89 : decode cX12_sync 89 = .ok (.aload_n 0, 1) := by decide +kernel
theorem dX12_sync_90 : decode cX12_sync 90 = .ok (.iload_n 1, 1) := by decide +kernel
theorem dX12_sync_91 : decode cX12_sync 91 = .ok (.aload_n 0, 1) := by decide +kernel
theorem dX12_sync_92 : decode cX12_sync 92 = .ok (.getfield 131, 3) := by decide +kernel
theorem dX12_sync_95 : decode cX12_sync 95 = .ok (.iload_n 1, 1) := by decide +kernel
theorem dX12_sync_96 : decode cX12_sync 96 = .ok (.iaload, 1) := by decide +kernel
theorem dX12_sync_97 : decode cX12_sync 97 = .ok (.invokevirtual 389, 3) := by decide +kernel
theorem dX12_sync_100 : decode cX12_sync 100 = .ok (.iastore, 1) := by decide +kernel
theorem dX12_sync_101 : decode cX12_sync 101 = .ok (.aload_n 0, 1) := by decide +kernel
theorem dX12_sync_102 : decode cX12_sync 102 = .ok (.getfield 219, 3) := by decide +kernel
theorem dX12_sync_105 : decode cX12_sync 105 = .ok (.bipush 8, 2) := by decide +kernel
theorem dX12_sync_107 : decode cX12_sync 107 = .ok (.aload_n 0, 1) := by decide +kernel
theorem dX12_sync_108 : decode cX12_sync 108 = .ok (.getfield 137, 3) := by decide +kernel
theorem dX12_sync_111 : decode cX12_sync 111 = .ok (.iload_n 1, 1) := by decide +kernel
theorem dX12_sync_112 : decode cX12_sync 112 = .ok (.iaload, 1) := by decide +kernel
theorem dX12_sync_113 : decode cX12_sync 113 = .ok (.iastore, 1) := by decide +kernel
theorem dX12_sync_114 : decode cX12_sync 114 = .ok (.aload_n 0, 1) := by decide +kernel
theorem dX12_sync_115 : decode cX12_sync 115 = .ok (.iload_n 1, 1) := by decide +kernel
theorem dX12_sync_116 : decode cX12_sync 116 = .ok (.iconst 4, 1) := by decide +kernel
theorem dX12_sync_117 : decode cX12_sync 117 = .ok (.idiv, 1) := by decide +kernel
theorem dX12_sync_118 : decode cX12_sync 118 = .ok (.iload_n 2, 1) := by decide +kernel
theorem dX12_sync_119 : decode cX12_sync 119 = .ok (.bipush 9, 2) := by decide +kernel
theorem dX12_sync_121 : decode cX12_sync 121 = .ok (.invokevirtual 446, 3) := by decide +kernel
theorem dX12_sync_124 : decode cX12_sync 124 = .ok (.aload_n 0, 1) := by decide +kernel
theorem dX12_sync_125 : decode cX12_sync 125 = .ok (.getfield 170, 3) := by decide +kernel
theorem dX12_sync_128 : decode cX12_sync 128 = .ok (.iconst 5, 1) := by decide +kernel
theorem dX12_sync_129 : decode cX12_sync 129 = .ok (.iload_n 1, 1) := by decide +kernel
theorem dX12_sync_130 : decode cX12_sync 130 = .ok (.imul, 1) := by decide +kernel
theorem dX12_sync_131 : decode cX12_sync 131 = .ok (.iload_n 2, 1) := by decide +kernel
theorem dX12_sync_132 : decode cX12_sync 132 = .ok (.iadd, 1) := by decide +kernel
theorem dX12_sync_133 : decode cX12_sync 133 = .ok (.aload_n 0, 1) := by decide +kernel
theorem dX12_sync_134 : decode cX12_sync 134 = .ok (.getfield 330, 3) := by decide +kernel
theorem dX12_sync_137 : decode cX12_sync 137 = .ok (.iastore, 1) := by decide +kernel
theorem dX12_sync_138 : decode cX12_sync 138 = .ok (.return_, 1) := by decide +kernel
theorem dX12_becomePrimary_0 : decode cX12_becomePrimary 0 = .ok (.aload_n 0, 1) := by decide +kernel
theorem dX12_becomePrimary_1 : decode cX12_becomePrimary 1 = .ok (.iload_n 1, 1) := by decide +kernel
theorem dX12_becomePrimary_2 : decode cX12_becomePrimary 2 = .ok (.aload_n 0, 1) := by decide +kernel
theorem dX12_becomePrimary_3 : decode cX12_becomePrimary 3 = .ok (.getfield 131, 3) := by decide +kernel
theorem dX12_becomePrimary_6 : decode cX12_becomePrimary 6 = .ok (.iload_n 1, 1) := by decide +kernel
theorem dX12_becomePrimary_7 : decode cX12_becomePrimary 7 = .ok (.iaload, 1) := by decide +kernel
theorem dX12_becomePrimary_8 : decode cX12_becomePrimary 8 = .ok (.iload_n 2, 1) := by decide +kernel
theorem dX12_becomePrimary_9 : decode cX12_becomePrimary 9 = .ok (.invokevirtual 449, 3) := by decide +kernel
theorem dX12_becomePrimary_12 : decode cX12_becomePrimary 12 = .ok (.ifCond .ne 5, 3) := by decide +kernel
theorem dX12_becomePrimary_15 : decode cX12_becomePrimary 15 = .ok (.iconst 0, 1) := by decide +kernel
theorem dX12_becomePrimary_16 : decode cX12_becomePrimary 16 = .ok (.ireturn, 1) := by decide +kernel
theorem dX12_becomePrimary_17 : decode cX12_becomePrimary 17 = .ok (.aload_n 0, 1) := by decide +kernel
theorem dX12_becomePrimary_18 : decode cX12_becomePrimary 18 = .ok (.getfield 140, 3) := by decide +kernel
theorem dX12_becomePrimary_21 : decode cX12_becomePrimary 21 = .ok (.iload_n 1, 1) := by decide +kernel
theorem dX12_becomePrimary_22 : decode cX12_becomePrimary 22 = .ok (.iconst 2, 1) := by decide +kernel
theorem dX12_becomePrimary_23 : decode cX12_becomePrimary 23 = .ok (.iastore, 1) := by decide +kernel
theorem dX12_becomePrimary_24 : decode cX12_becomePrimary 24 = .ok (.aload_n 0, 1) := by decide +kernel
theorem dX12_becomePrimary_25 : decode cX12_becomePrimary 25 = .ok (.getfield 149, 3) := by decide +kernel
theorem dX12_becomePrimary_28 : decode cX12_becomePrimary 28 = .ok (.iload_n 1, 1) := by decide +kernel
theorem dX12_becomePrimary_29 : decode cX12_becomePrimary 29 = .ok (.iconst 0, 1) := by decide +kernel
theorem dX12_becomePrimary_30 : decode cX12_becomePrimary 30 = .ok (.iastore, 1) := by decide +kernel
theorem dX12_becomePrimary_31 : decode cX12_becomePrimary 31 = .ok (.iconst 0, 1) := by decide +kernel
theorem dX12_becomePrimary_32 : decode cX12_becomePrimary 32 = .ok (.istore_n 3, 1) := by decide +kernel
theorem dX12_becomePrimary_33 : decode cX12_becomePrimary 33 = .ok (.iload_n 3, 1) := by decide +kernel
theorem dX12_becomePrimary_34 : decode cX12_becomePrimary 34 = .ok (.aload_n 0, 1) := by decide +kernel
theorem dX12_becomePrimary_35 : decode cX12_becomePrimary 35 = .ok (.getfield 321, 3) := by decide +kernel
theorem dX12_becomePrimary_38 : decode cX12_becomePrimary 38 = .ok (.if_icmp .ge 86, 3) := by decide +kernel
theorem dX12_becomePrimary_41 : decode cX12_becomePrimary 41 = .ok (.iconst 5, 1) := by decide +kernel
theorem dX12_becomePrimary_42 : decode cX12_becomePrimary 42 = .ok (.iload_n 1, 1) := by decide +kernel
theorem dX12_becomePrimary_43 : decode cX12_becomePrimary 43 = .ok (.imul, 1) := by decide +kernel
theorem dX12_becomePrimary_44 : decode cX12_becomePrimary 44 = .ok (.iload_n 3, 1) := by decide +kernel
theorem dX12_becomePrimary_45 : decode cX12_becomePrimary 45 = .ok (.iadd, 1) := by decide +kernel
theorem dX12_becomePrimary_46 : decode cX12_becomePrimary 46 = .ok (.istore 4, 2) := by decide +kernel
theorem dX12_becomePrimary_48 : decode cX12_becomePrimary 48 = .ok (.aload_n 0, 1) := by decide +kernel
theorem dX12_becomePrimary_49 : decode cX12_becomePrimary 49 = .ok (.getfield 158, 3) := by decide +kernel
theorem dX12_becomePrimary_52 : decode cX12_becomePrimary 52 = .ok (.iload 4, 2) := by decide +kernel
theorem dX12_becomePrimary_54 : decode cX12_becomePrimary 54 = .ok (.aload_n 0, 1) := by decide +kernel
theorem dX12_becomePrimary_55 : decode cX12_becomePrimary 55 = .ok (.iload_n 1, 1) := by decide +kernel
theorem dX12_becomePrimary_56 : decode cX12_becomePrimary 56 = .ok (.iload_n 3, 1) := by decide +kernel
theorem dX12_becomePrimary_57 : decode cX12_becomePrimary 57 = .ok (.invokevirtual 431, 3) := by decide +kernel
theorem dX12_becomePrimary_60 : decode cX12_becomePrimary 60 = .ok (.ifCond .eq 21, 3) := by decide +kernel
theorem dX12_becomePrimary_63 : decode cX12_becomePrimary 63 = .ok (.aload_n 0, 1) := by decide +kernel
theorem dX12_becomePrimary_64 : decode cX12_becomePrimary 64 = .ok (.getfield 182, 3) := by decide +kernel
theorem dX12_becomePrimary_67 : decode cX12_becomePrimary 67 = .ok (.iload_n 1, 1) := by decide +kernel
theorem dX12_becomePrimary_68 : decode cX12_becomePrimary 68 = .ok (.iaload, 1) := by decide +kernel
theorem dX12_becomePrimary_69 : decode cX12_becomePrimary 69 = .ok (.iload_n 3, 1) := by decide +kernel
theorem dX12_becomePrimary_70 : decode cX12_becomePrimary 70 = .ok (.ishr, 1) := by decide +kernel
theorem dX12_becomePrimary_71 : decode cX12_becomePrimary 71 = .ok (.iconst 1, 1) := by decide +kernel
theorem dX12_becomePrimary_72 : decode cX12_becomePrimary 72 = .ok (.iand, 1) := by decide +kernel
theorem dX12_becomePrimary_73 : decode cX12_becomePrimary 73 = .ok (.iconst 1, 1) := by decide +kernel
theorem dX12_becomePrimary_74 : decode cX12_becomePrimary 74 = .ok (.if_icmp .ne 7, 3) := by decide +kernel
theorem dX12_becomePrimary_77 : decode cX12_becomePrimary 77 = .ok (.iconst 3, 1) := by decide +kernel
theorem dX12_becomePrimary_78 : decode cX12_becomePrimary 78 = .ok (.goto 4, 3) := by decide +kernel
theorem dX12_becomePrimary_81 : decode cX12_becomePrimary 81 = .ok (.iconst 0, 1) := by decide +kernel
theorem dX12_becomePrimary_82 : decode cX12_becomePrimary 82 = .ok (.iastore, 1) := by decide +kernel
theorem dX12_becomePrimary_83 : decode cX12_becomePrimary 83 = .ok (.aload_n 0, 1) := by decide +kernel
theorem dX12_becomePrimary_84 : decode cX12_becomePrimary 84 = .ok (.getfield 161, 3) := by decide +kernel
theorem dX12_becomePrimary_87 : decode cX12_becomePrimary 87 = .ok (.iload 4, 2) := by decide +kernel
theorem dX12_becomePrimary_89 : decode cX12_becomePrimary 89 = .ok (.iconst (-1), 1) := by decide +kernel
theorem dX12_becomePrimary_90 : decode cX12_becomePrimary 90 = .ok (.iastore, 1) := by decide +kernel
theorem dX12_becomePrimary_91 : decode cX12_becomePrimary 91 = .ok (.aload_n 0, 1) := by decide +kernel
theorem dX12_becomePrimary_92 : decode cX12_becomePrimary 92 = .ok (.getfield 164, 3) := by decide +kernel
theorem dX12_becomePrimary_95 : decode cX12_becomePrimary 95 = .ok (.iload 4, 2) := by decide +kernel
theorem dX12_becomePrimary_97 : decode cX12_becomePrimary 97 = .ok (.iconst 0, 1) := by decide +kernel
theorem dX12_becomePrimary_98 : decode cX12_becomePrimary 98 = .ok (.iastore, 1) := by decide +kernel
theorem dX12_becomePrimary_99 : decode cX12_becomePrimary 99 = .ok (.aload_n 0, 1) := by decide +kernel
theorem dX12_becomePrimary_100 : decode cX12_becomePrimary 100 = .ok (.getfield 167, 3) := by decide +kernel
theorem dX12_becomePrimary_103 : decode cX12_becomePrimary 103 = .ok (.iload 4, 2) := by decide +kernel
theorem dX12_becomePrimary_105 : decode cX12_becomePrimary 105 = .ok (.aload_n 0, 1) := by decide +kernel
theorem dX12_becomePrimary_106 : decode cX12_becomePrimary 106 = .ok (.getfield 330, 3) := by decide +kernel
theorem dX12_becomePrimary_109 : decode cX12_becomePrimary 109 = .ok (.iastore, 1) := by decide +kernel
theorem dX12_becomePrimary_110 : decode cX12_becomePrimary 110 = .ok (.aload_n 0, 1) := by decide +kernel
theorem dX12_becomePrimary_111 : decode cX12_becomePrimary 111 = .ok (.getfield 173, 3) := by decide +kernel
theorem dX12_becomePrimary_114 : decode cX12_becomePrimary 114 = .ok (.iload 4, 2) := by decide +kernel
theorem dX12_becomePrimary_116 : decode cX12_becomePrimary 116 = .ok (.iconst 0, 1) := by decide +kernel
theorem dX12_becomePrimary_117 : decode cX12_becomePrimary 117 = .ok (.iastore, 1) := by decide +kernel
theorem dX12_becomePrimary_118 : decode cX12_becomePrimary 118 = .ok (.iinc 3 1, 3) := by decide +kernel
theorem dX12_becomePrimary_121 : decode cX12_becomePrimary 121 = .ok (.goto (-88), 3) := by decide +kernel
theorem dX12_becomePrimary_124 : decode cX12_becomePrimary 124 = .ok (.iconst 0, 1) := by decide +kernel
theorem dX12_becomePrimary_125 : decode cX12_becomePrimary 125 = .ok (.istore_n 3, 1) := by decide +kernel
theorem dX12_becomePrimary_126 : decode cX12_becomePrimary 126 = .ok (.iload_n 3, 1) := by decide +kernel
theorem dX12_becomePrimary_127 : decode cX12_becomePrimary 127 = .ok (.aload_n 0, 1) := by decide +kernel
theorem dX12_becomePrimary_128 : decode cX12_becomePrimary 128 = .ok (.getfield 321, 3) := by decide +kernel
theorem dX12_becomePrimary_131 : decode cX12_becomePrimary 131 = .ok (.if_icmp .ge 29, 3) := by decide +kernel
theorem dX12_becomePrimary_134 : decode cX12_becomePrimary 134 = .ok (.aload_n 0, 1) := by decide +kernel
theorem dX12_becomePrimary_135 : decode cX12_becomePrimary 135 = .ok (.getfield 158, 3) := by decide +kernel
theorem dX12_becomePrimary_138 : decode cX12_becomePrimary 138 = .ok (.iconst 5, 1) := by decide +kernel
theorem dX12_becomePrimary_139 : decode cX12_becomePrimary 139 = .ok (.iload_n 1, 1) := by decide +kernel
theorem dX12_becomePrimary_140 : decode cX12_becomePrimary 140 = .ok (.imul, 1) := by decide +kernel
theorem dX12_becomePrimary_141 : decode cX12_becomePrimary 141 = .ok (.iload_n 3, 1) := by decide +kernel
theorem dX12_becomePrimary_142 : decode cX12_becomePrimary 142 = .ok (.iadd, 1) := by decide +kernel
theorem dX12_becomePrimary_143 : decode cX12_becomePrimary 143 = .ok (.iaload, 1) := by decide +kernel
theorem dX12_becomePrimary_144 : decode cX12_becomePrimary 144 = .ok (.iconst 3, 1) := by decide +kernel
theorem dX12_becomePrimary_145 : decode cX12_becomePrimary 145 = .ok (.if_icmp .ne 9, 3) := by decide +kernel
theorem dX12_becomePrimary_148 : decode cX12_becomePrimary 148 = .ok (.aload_n 0, 1) := by decide +kernel
theorem dX12_becomePrimary_149 : decode cX12_becomePrimary 149 = .ok (.iload_n 1, 1) := by decide +kernel
theorem dX12_becomePrimary_150 : decode cX12_becomePrimary 150 = .ok (.iload_n 3, 1) := by decide +kernel
theorem dX12_becomePrimary_151 : decode cX12_becomePrimary 151 = .ok (.invokevirtual 453, 3) := by decide +kernel
theorem dX12_becomePrimary_154 : decode cX12_becomePrimary 154 = .ok (.iinc 3 1, 3) := by decide +kernel
theorem dX12_becomePrimary_157 : decode cX12_becomePrimary 157 = .ok (.goto (-31), 3) := by decide +kernel
theorem dX12_becomePrimary_160 : decode cX12_becomePrimary 160 = .ok (.aload_n 0, 1) := by decide +kernel
theorem dX12_becomePrimary_161 : decode cX12_becomePrimary 161 = .ok (.iload_n 1, 1) := by decide +kernel
theorem dX12_becomePrimary_162 : decode cX12_becomePrimary 162 = .ok (.invokevirtual 456, 3) := by decide +kernel
theorem dX12_becomePrimary_165 : decode cX12_becomePrimary 165 = .ok (.iconst 1, 1) := by decide +kernel
theorem dX12_becomePrimary_166 : decode cX12_becomePrimary 166 = .ok (.ireturn, 1) := by decide +kernel
theorem dX12_send_0 : decode cX12_send 0 = .ok (.bipush 6, 2) := by decide +kernel
theorem dX12_send_2 : decode cX12_send 2 = .ok (.iload_n 1, 1) := by decide +kernel
theorem dX12_send_3 : decode cX12_send 3 = .ok (.imul, 1) := by decide +kernel
theorem dX12_send_4 : decode cX12_send 4 = .ok (.iload_n 2, 1) := by decide +kernel
theorem dX12_send_5 : decode cX12_send 5 = .ok (.iadd, 1) := by decide +kernel
theorem dX12_send_6 : decode cX12_send 6 = .ok (.istore 4, 2) := by decide +kernel
theorem dX12_send_8 : decode cX12_send 8 = .ok (.aload_n 0, 1) := by decide +kernel
theorem dX12_send_9 : decode cX12_send 9 = .ok (.getfield 209, 3) := by decide +kernel
theorem dX12_send_12 : decode cX12_send 12 = .ok (.iload 4, 2) := by decide +kernel
theorem dX12_send_14 : decode cX12_send 14 = .ok (.iaload, 1) := by decide +kernel
theorem dX12_send_15 : decode cX12_send 15 = .ok (.bipush 60, 2) := by decide +kernel
theorem dX12_send_17 : decode cX12_send 17 = .ok (.if_icmp .ne 14, 3) := by decide +kernel
theorem dX12_send_20 : decode cX12_send 20 = .ok (.aload_n 0, 1) := by decide +kernel
theorem dX12_send_21 : decode cX12_send 21 = .ok (.dup, 1) := by decide +kernel
theorem dX12_send_22 : decode cX12_send 22 = .ok (.getfield 345, 3) := by decide +kernel
theorem dX12_send_25 : decode cX12_send 25 = .ok (.iconst 1, 1) := by decide +kernel
theorem dX12_send_26 : decode cX12_send 26 = .ok (.iadd, 1) := by decide +kernel
theorem dX12_send_27 : decode cX12_send 27 = .ok (.putfield 345, 3) := by decide +kernel
theorem dX12_send_30 : decode cX12_send 30 = .ok (.return_, 1) := by decide +kernel
theorem dX12_send_31 : decode cX12_send 31 = .ok (.iload 4, 2) := by decide +kernel
theorem dX12_send_33 : decode cX12_send 33 = .ok (.bipush 60, 2) := by decide +kernel
theorem dX12_send_35 : decode cX12_send 35 = .ok (.imul, 1) := by decide +kernel
theorem dX12_send_36 : decode cX12_send 36 = .ok (.aload_n 0, 1) := by decide +kernel
theorem dX12_send_37 : decode cX12_send 37 = .ok (.getfield 212, 3) := by decide +kernel
theorem dX12_send_40 : decode cX12_send 40 = .ok (.iload 4, 2) := by decide +kernel
theorem dX12_send_42 : decode cX12_send 42 = .ok (.iaload, 1) := by decide +kernel
theorem dX12_send_43 : decode cX12_send 43 = .ok (.aload_n 0, 1) := by decide +kernel
theorem dX12_send_44 : decode cX12_send 44 = .ok (.getfield 209, 3) := by decide +kernel
theorem dX12_send_47 : decode cX12_send 47 = .ok (.iload 4, 2) := by decide +kernel
theorem dX12_send_49 : decode cX12_send 49 = .ok (.iaload, 1) := by decide +kernel
theorem dX12_send_50 : decode cX12_send 50 = .ok (.iadd, 1) := by decide +kernel
theorem dX12_send_51 : decode cX12_send 51 = .ok (.bipush 60, 2) := by decide +kernel
theorem dX12_send_53 : decode cX12_send 53 = .ok (.irem, 1) := by decide +kernel
theorem dX12_send_54 : decode cX12_send 54 = .ok (.iadd, 1) := by decide +kernel
theorem dX12_send_55 : decode cX12_send 55 = .ok (.bipush 34, 2) := by decide +kernel
theorem dX12_send_57 : decode cX12_send 57 = .ok (.imul, 1) := by decide +kernel
theorem dX12_send_58 : decode cX12_send 58 = .ok (.istore 5, 2) := by decide +kernel
theorem dX12_send_60 : decode cX12_send 60 = .ok (.iconst 0, 1) := by decide +kernel
theorem dX12_send_61 : decode cX12_send 61 = .ok (.istore 6, 2) := by decide +kernel
theorem dX12_send_63 : decode cX12_send 63 = .ok (.iload 6, 2) := by decide +kernel
theorem dX12_send_65 : decode cX12_send 65 = .ok (.bipush 34, 2) := by decide +kernel
theorem dX12_send_67 : decode cX12_send 67 = .ok (.if_icmp .ge 36, 3) := by decide +kernel
theorem dX12_send_70 : decode cX12_send 70 = .ok (.aload_n 0, 1) := by decide +kernel
theorem dX12_send_71 : decode cX12_send 71 = .ok (.getfield 216, 3) := by decide +kernel
theorem dX12_send_74 : decode cX12_send 74 = .ok (.iload 5, 2) := by decide +kernel
theorem dX12_send_76 : decode cX12_send 76 = .ok (.iload 6, 2) := by decide +kernel
theorem dX12_send_78 : decode cX12_send 78 = .ok (.iadd, 1) := by decide +kernel
theorem dX12_send_79 : decode cX12_send 79 = .ok (.iload 6, 2) := by decide +kernel
theorem dX12_send_81 : decode cX12_send 81 = .ok (.iload_n 3, 1) := by decide +kernel
theorem dX12_send_82 : decode cX12_send 82 = .ok (.if_icmp .ge 13, 3) := by decide +kernel
theorem dX12_send_85 : decode cX12_send 85 = .ok (.aload_n 0, 1) := by decide +kernel
theorem dX12_send_86 : decode cX12_send 86 = .ok (.getfield 219, 3) := by decide +kernel
theorem dX12_send_89 : decode cX12_send 89 = .ok (.iload 6, 2) := by decide +kernel
theorem dX12_send_91 : decode cX12_send 91 = .ok (.iaload, 1) := by decide +kernel
theorem dX12_send_92 : decode cX12_send 92 = .ok (.goto 4, 3) := by decide +kernel
theorem dX12_send_95 : decode cX12_send 95 = .ok (.iconst 0, 1) := by decide +kernel
theorem dX12_send_96 : decode cX12_send 96 = .ok (.iastore, 1) := by decide +kernel
theorem dX12_send_97 : decode cX12_send 97 = .ok (.iinc 6 1, 3) := by decide +kernel
theorem dX12_send_100 : decode cX12_send 100 = .ok (.goto (-37), 3) := by decide +kernel
theorem dX12_send_103 : decode cX12_send 103 = .ok (.aload_n 0, 1) := by decide +kernel
theorem dX12_send_104 : decode cX12_send 104 = .ok (.getfield 209, 3) := by decide +kernel
theorem dX12_send_107 : decode cX12_send 107 = .ok (.iload 4, 2) := by decide +kernel
theorem dX12_send_109 : decode cX12_send 109 = .ok (.dup2, 1) := by decide +kernel
theorem dX12_send_110 : decode cX12_send 110 = .ok (.iaload, 1) := by decide +kernel
theorem dX12_send_111 : decode cX12_send 111 = .ok (.iconst 1, 1) := by decide +kernel
theorem dX12_send_112 : decode cX12_send 112 = .ok (.iadd, 1) := by decide +kernel
theorem dX12_send_113 : decode cX12_send 113 = .ok (.iastore, 1) := by decide +kernel
theorem dX12_send_114 : decode cX12_send 114 = .ok (.return_, 1) := by decide +kernel
theorem dX12_takeFirst_0 : decode cX12_takeFirst 0 = .ok (.bipush 6, 2) := by decide +kernel
theorem dX12_takeFirst_2 : decode cX12_takeFirst 2 = .ok (.iload_n 1, 1) := by decide +kernel
theorem dX12_takeFirst_3 : decode cX12_takeFirst 3 = .ok (.imul, 1) := by decide +kernel
theorem dX12_takeFirst_4 : decode cX12_takeFirst 4 = .ok (.iload_n 2, 1) := by decide +kernel
theorem dX12_takeFirst_5 : decode cX12_takeFirst 5 = .ok (.iadd, 1) := by decide +kernel
theorem dX12_takeFirst_6 : decode cX12_takeFirst 6 = .ok (.istore_n 3, 1) := by decide +kernel
theorem dX12_takeFirst_7 : decode cX12_takeFirst 7 = .ok (.iload_n 3, 1) := by decide +kernel
theorem dX12_takeFirst_8 : decode cX12_takeFirst 8 = .ok (.bipush 60, 2) := by decide +kernel
theorem dX12_takeFirst_10 : decode cX12_takeFirst 10 = .ok (.imul, 1) := by decide +kernel
theorem dX12_takeFirst_11 : decode cX12_takeFirst 11 = .ok (.aload_n 0, 1) := by decide +kernel
theorem dX12_takeFirst_12 : decode cX12_takeFirst 12 = .ok (.getfield 212, 3) := by decide +kernel
theorem dX12_takeFirst_15 : decode cX12_takeFirst 15 = .ok (.iload_n 3, 1) := by decide +kernel
theorem dX12_takeFirst_16 : decode cX12_takeFirst 16 = .ok (.iaload, 1) := by decide +kernel
theorem dX12_takeFirst_17 : decode cX12_takeFirst 17 = .ok (.iadd, 1) := by decide +kernel
theorem dX12_takeFirst_18 : decode cX12_takeFirst 18 = .ok (.bipush 34, 2) := by decide +kernel
theorem dX12_takeFirst_20 : decode cX12_takeFirst 20 = .ok (.imul, 1) := by decide +kernel
theorem dX12_takeFirst_21 : decode cX12_takeFirst 21 = .ok (.istore 4, 2) := by decide +kernel
theorem dX12_takeFirst_23 : decode cX12_takeFirst 23 = .ok (.iconst 0, 1) := by decide +kernel
theorem dX12_takeFirst_24 : decode cX12_takeFirst 24 = .ok (.istore 5, 2) := by decide +kernel
theorem dX12_takeFirst_26 : decode cX12_takeFirst 26 = .ok (.iload 5, 2) := by decide +kernel
theorem dX12_takeFirst_28 : decode cX12_takeFirst 28 = .ok (.bipush 34, 2) := by decide +kernel
theorem dX12_takeFirst_30 : decode cX12_takeFirst 30 = .ok (.if_icmp .ge 26, 3) := by decide +kernel
theorem dX12_takeFirst_33 : decode cX12_takeFirst 33 = .ok (.aload_n 0, 1) := by decide +kernel
theorem dX12_takeFirst_34 : decode cX12_takeFirst 34 = .ok (.getfield 222, 3) := by decide +kernel
theorem dX12_takeFirst_37 : decode cX12_takeFirst 37 = .ok (.iload 5, 2) := by decide +kernel
theorem dX12_takeFirst_39 : decode cX12_takeFirst 39 = .ok (.aload_n 0, 1) := by decide +kernel
theorem dX12_takeFirst_40 : decode cX12_takeFirst 40 = .ok (.getfield 216, 3) := by decide +kernel
theorem dX12_takeFirst_43 : decode cX12_takeFirst 43 = .ok (.iload 4, 2) := by decide +kernel
theorem dX12_takeFirst_45 : decode cX12_takeFirst 45 = .ok (.iload 5, 2) := by decide +kernel
theorem dX12_takeFirst_47 : decode cX12_takeFirst 47 = .ok (.iadd, 1) := by decide +kernel
theorem dX12_takeFirst_48 : decode cX12_takeFirst 48 = .ok (.iaload, 1) := by decide +kernel
theorem dX12_takeFirst_49 : decode cX12_takeFirst 49 = .ok (.iastore, 1) := by decide +kernel
theorem dX12_takeFirst_50 : decode cX12_takeFirst 50 = .ok (.iinc 5 1, 3) := by decide +kernel
theorem dX12_takeFirst_53 : decode cX12_takeFirst 53 = .ok (.goto (-27), 3) := by decide +kernel
theorem dX12_takeFirst_56 : decode cX12_takeFirst 56 = .ok (.aload_n 0, 1) := by decide +kernel
theorem dX12_takeFirst_57 : decode cX12_takeFirst 57 = .ok (.getfield 212, 3) := by decide +kernel
theorem dX12_takeFirst_60 : decode cX12_takeFirst 60 = .ok (.iload_n 3, 1) := by decide +kernel
theorem dX12_takeFirst_61 : decode cX12_takeFirst 61 = .ok (.aload_n 0, 1) := by decide +kernel
theorem dX12_takeFirst_62 : decode cX12_takeFirst 62 = .ok (.getfield 212, 3) := by decide +kernel
theorem dX12_takeFirst_65 : decode cX12_takeFirst 65 = .ok (.iload_n 3, 1) := by decide +kernel
theorem dX12_takeFirst_66 : decode cX12_takeFirst 66 = .ok (.iaload, 1) := by decide +kernel
theorem dX12_takeFirst_67 : decode cX12_takeFirst 67 = .ok (.iconst 1, 1) := by decide +kernel
theorem dX12_takeFirst_68 : decode cX12_takeFirst 68 = .ok (.iadd, 1) := by decide +kernel
theorem dX12_takeFirst_69 : decode cX12_takeFirst 69 = .ok (.bipush 60, 2) := by decide +kernel
theorem dX12_takeFirst_71 : decode cX12_takeFirst 71 = .ok (.irem, 1) := by decide +kernel
theorem dX12_takeFirst_72 : decode cX12_takeFirst 72 = .ok (.iastore, 1) := by decide +kernel
theorem dX12_takeFirst_73 : decode cX12_takeFirst 73 = .ok (.aload_n 0, 1) := by decide +kernel
theorem dX12_takeFirst_74 : decode cX12_takeFirst 74 = .ok (.getfield 209, 3) := by decide +kernel
theorem dX12_takeFirst_77 : decode cX12_takeFirst 77 = .ok (.iload_n 3, 1) := by decide +kernel
theorem dX12_takeFirst_78 : decode cX12_takeFirst 78 = .ok (.dup2, 1) := by decide +kernel
theorem dX12_takeFirst_79 : decode cX12_takeFirst 79 = .ok (.iaload, 1) := by decide +kernel
theorem dX12_takeFirst_80 : decode cX12_takeFirst 80 = .ok (.iconst 1, 1) := by decide +kernel
theorem dX12_takeFirst_81 : decode cX12_takeFirst 81 = .ok (.isub, 1) := by decide +kernel
theorem dX12_takeFirst_82 : decode cX12_takeFirst 82 = .ok (.iastore, 1) := by decide +kernel
theorem dX12_takeFirst_83 : decode cX12_takeFirst 83 = .ok (.aload_n 0, 1) := by decide +kernel
theorem dX12_takeFirst_84 : decode cX12_takeFirst 84 = .ok (.getfield 222, 3) := by decide +kernel
theorem dX12_takeFirst_87 : decode cX12_takeFirst 87 = .ok (.iconst 0, 1) := by decide +kernel
theorem dX12_takeFirst_88 : decode cX12_takeFirst 88 = .ok (.iaload, 1) := by decide +kernel
theorem dX12_takeFirst_89 : decode cX12_takeFirst 89 = .ok (.ireturn, 1) := by decide +kernel
theorem dX12_sendSimple_0 : decode cX12_sendSimple 0 = .ok (.aload_n 0, 1) := by decide +kernel
theorem dX12_sendSimple_1 : decode cX12_sendSimple 1 = .ok (.getfield 219, 3) := by decide +kernel
theorem dX12_sendSimple_4 : decode cX12_sendSimple 4 = .ok (.iconst 0, 1) := by decide +kernel
theorem dX12_sendSimple_5 : decode cX12_sendSimple 5 = .ok (.iload_n 3, 1) := by decide +kernel
theorem dX12_sendSimple_6 : decode cX12_sendSimple 6 = .ok (.iastore, 1) := by decide +kernel
theorem dX12_sendSimple_7 : decode cX12_sendSimple 7 = .ok (.aload_n 0, 1) := by decide +kernel
theorem dX12_sendSimple_8 : decode cX12_sendSimple 8 = .ok (.getfield 219, 3) := by decide +kernel
theorem dX12_sendSimple_11 : decode cX12_sendSimple 11 = .ok (.iconst 1, 1) := by decide +kernel
theorem dX12_sendSimple_12 : decode cX12_sendSimple 12 = .ok (.iload 4, 2) := by decide +kernel
theorem dX12_sendSimple_14 : decode cX12_sendSimple 14 = .ok (.iastore, 1) := by decide +kernel
theorem dX12_sendSimple_15 : decode cX12_sendSimple 15 = .ok (.aload_n 0, 1) := by decide +kernel
theorem dX12_sendSimple_16 : decode cX12_sendSimple 16 = .ok (.getfield 219, 3) := by decide +kernel
theorem dX12_sendSimple_19 : decode cX12_sendSimple 19 = .ok (.iconst 2, 1) := by decide +kernel
theorem dX12_sendSimple_20 : decode cX12_sendSimple 20 = .ok (.iload 5, 2) := by decide +kernel
theorem dX12_sendSimple_22 : decode cX12_sendSimple 22 = .ok (.iastore, 1) := by decide +kernel
theorem dX12_sendSimple_23 : decode cX12_sendSimple 23 = .ok (.aload_n 0, 1) := by decide +kernel
theorem dX12_sendSimple_24 : decode cX12_sendSimple 24 = .ok (.iload_n 1, 1) := by decide +kernel
theorem dX12_sendSimple_25 : decode cX12_sendSimple 25 = .ok (.iload_n 2, 1) := by decide +kernel
theorem dX12_sendSimple_26 : decode cX12_sendSimple 26 = .ok (.iconst 3, 1) := by decide +kernel
theorem dX12_sendSimple_27 : decode cX12_sendSimple 27 = .ok (.invokevirtual 446, 3) := by decide +kernel
theorem dX12_sendSimple_30 : decode cX12_sendSimple 30 = .ok (.return_, 1) := by decide +kernel
theorem dX12_fall_0 : decode cX12_fall 0 = .ok (.aload_n 0, 1) := by decide +kernel
theorem dX12_fall_1 : decode cX12_fall 1 = .ok (.getfield 77, 3) := by decide +kernel
theorem dX12_fall_4 : decode cX12_fall 4 = .ok (.iload_n 1, 1) := by decide +kernel
theorem dX12_fall_5 : decode cX12_fall 5 = .ok (.iconst 0, 1) := by decide +kernel
theorem dX12_fall_6 : decode cX12_fall 6 = .ok (.bastore, 1) := by decide +kernel
theorem dX12_fall_7 : decode cX12_fall 7 = .ok (.iconst 0, 1) := by decide +kernel
theorem dX12_fall_8 : decode cX12_fall 8 = .ok (.istore_n 2, 1) := by decide +kernel
theorem dX12_fall_9 : decode cX12_fall 9 = .ok (.iconst 0, 1) := by decide +kernel
theorem dX12_fall_10 : decode cX12_fall 10 = .ok (.istore_n 3, 1) := by decide +kernel
theorem dX12_fall_11 : decode cX12_fall 11 = .ok (.iload_n 3, 1) := by decide +kernel
theorem dX12_fall_12 : decode cX12_fall 12 = .ok (.aload_n 0, 1) := by decide +kernel
theorem dX12_fall_13 : decode cX12_fall 13 = .ok (.getfield 333, 3) := by decide +kernel
theorem dX12_fall_16 : decode cX12_fall 16 = .ok (.if_icmp .ge 46, 3) := by decide +kernel
theorem dX12_fall_19 : decode cX12_fall 19 = .ok (.iload_n 1, 1) := by decide +kernel
theorem dX12_fall_20 : decode cX12_fall 20 = .ok (.aload_n 0, 1) := by decide +kernel
theorem dX12_fall_21 : decode cX12_fall 21 = .ok (.getfield 321, 3) := by decide +kernel
theorem dX12_fall_24 : decode cX12_fall 24 = .ok (.if_icmp .ge 38, 3) := by decide +kernel
theorem dX12_fall_27 : decode cX12_fall 27 = .ok (.aload_n 0, 1) := by decide +kernel
theorem dX12_fall_28 : decode cX12_fall 28 = .ok (.getfield 19, 3) := by decide +kernel
theorem dX12_fall_31 : decode cX12_fall 31 = .ok (.iload_n 3, 1) := by decide +kernel
theorem dX12_fall_32 : decode cX12_fall 32 = .ok (.iaload, 1) := by decide +kernel
theorem dX12_fall_33 : decode cX12_fall 33 = .ok (.iload_n 1, 1) := by decide +kernel
theorem dX12_fall_34 : decode cX12_fall 34 = .ok (.if_icmp .ne 22, 3) := by decide +kernel
theorem dX12_fall_37 : decode cX12_fall 37 = .ok (.aload_n 0, 1) := by decide +kernel
theorem dX12_fall_38 : decode cX12_fall 38 = .ok (.getfield 22, 3) := by decide +kernel
theorem dX12_fall_41 : decode cX12_fall 41 = .ok (.iload_n 3, 1) := by decide +kernel
theorem dX12_fall_42 : decode cX12_fall 42 = .ok (.iaload, 1) := by decide +kernel
theorem dX12_fall_43 : decode cX12_fall 43 = .ok (.ifCond .ne 13, 3) := by decide +kernel
theorem dX12_fall_46 : decode cX12_fall 46 = .ok (.aload_n 0, 1) := by decide +kernel
theorem dX12_fall_47 : decode cX12_fall 47 = .ok (.getfield 22, 3) := by decide +kernel
theorem dX12_fall_50 : decode cX12_fall 50 = .ok (.iload_n 3, 1) := by decide +kernel
theorem dX12_fall_51 : decode cX12_fall 51 = .ok (.iconst 2, 1) := by decide +kernel
theorem dX12_fall_52 : decode cX12_fall 52 = .ok (.iastore, 1) := by decide +kernel
theorem dX12_fall_53 : decode cX12_fall 53 = .ok (.iinc 2 1, 3) := by decide +kernel
theorem dX12_fall_56 : decode cX12_fall 56 = .ok (.iinc 3 1, 3) := by decide +kernel
theorem dX12_fall_59 : decode cX12_fall 59 = .ok (.goto (-48), 3) := by decide +kernel
theorem dX12_fall_62 : decode cX12_fall 62 = .ok (.iconst 0, 1) := by decide +kernel
theorem dX12_fall_63 : decode cX12_fall 63 = .ok (.istore_n 3, 1) := by decide +kernel
theorem dX12_fall_64 : decode cX12_fall 64 = .ok (.iload_n 3, 1) := by decide +kernel
theorem dX12_fall_65 : decode cX12_fall 65 = .ok (.bipush 8, 2) := by decide +kernel
theorem dX12_fall_67 : decode cX12_fall 67 = .ok (.if_icmp .ge 29, 3) := by decide +kernel
theorem dX12_fall_70 : decode cX12_fall 70 = .ok (.iload_n 1, 1) := by decide +kernel
theorem dX12_fall_71 : decode cX12_fall 71 = .ok (.aload_n 0, 1) := by decide +kernel
theorem dX12_fall_72 : decode cX12_fall 72 = .ok (.getfield 321, 3) := by decide +kernel
theorem dX12_fall_75 : decode cX12_fall 75 = .ok (.if_icmp .ge 21, 3) := by decide +kernel
theorem dX12_fall_78 : decode cX12_fall 78 = .ok (.aload_n 0, 1) := by decide +kernel
theorem dX12_fall_79 : decode cX12_fall 79 = .ok (.getfield 225, 3) := by decide +kernel
theorem dX12_fall_82 : decode cX12_fall 82 = .ok (.bipush 8, 2) := by decide +kernel
theorem dX12_fall_84 : decode cX12_fall 84 = .ok (.iload_n 1, 1) := by decide +kernel
theorem dX12_fall_85 : decode cX12_fall 85 = .ok (.imul, 1) := by decide +kernel
theorem dX12_fall_86 : decode cX12_fall 86 = .ok (.iload_n 3, 1) := by decide +kernel
theorem dX12_fall_87 : decode cX12_fall 87 = .ok (.iadd, 1) := by decide +kernel
theorem dX12_fall_88 : decode cX12_fall 88 = .ok (.iconst 0, 1) := by decide +kernel
theorem dX12_fall_89 : decode cX12_fall 89 = .ok (.bastore, 1) := by decide +kernel
theorem dX12_fall_90 : decode cX12_fall 90 = .ok (.iinc 3 1, 3) := by decide +kernel
theorem dX12_fall_93 : decode cX12_fall 93 = .ok (.goto (-29), 3) := by decide +kernel
theorem dX12_fall_96 : decode cX12_fall 96 = .ok (.iload_n 2, 1) := by decide +kernel
theorem dX12_fall_97 : decode cX12_fall 97 = .ok (.ireturn, 1) := by decide +kernel
theorem dX12_u1_0 : decode cX12_u1 0 = .ok (.aload_n 0, 1) := by decide +kernel
theorem dX12_u1_1 : decode cX12_u1 1 = .ok (.getfield 87, 3) := by decide +kernel
theorem dX12_u1_4 : decode cX12_u1 4 = .ok (.iload_n 1, 1) := by decide +kernel
theorem dX12_u1_5 : decode cX12_u1 5 = .ok (.baload, 1) := by decide +kernel
theorem dX12_u1_6 : decode cX12_u1 6 = .ok (.sipush 255, 3) := by decide +kernel
theorem dX12_u1_9 : decode cX12_u1 9 = .ok (.iand, 1) := by decide +kernel
theorem dX12_u1_10 : decode cX12_u1 10 = .ok (.ireturn, 1) := by decide +kernel
theorem dX12_u2_0 : decode cX12_u2 0 = .ok (.aload_n 0, 1) := by decide +kernel
theorem dX12_u2_1 : decode cX12_u2 1 = .ok (.iload_n 1, 1) := by decide +kernel
theorem dX12_u2_2 : decode cX12_u2 2 = .ok (.invokevirtual 459, 3) := by decide +kernel
theorem dX12_u2_5 : decode cX12_u2 5 = .ok (.bipush 8, 2) := by decide +kernel
theorem dX12_u2_7 : decode cX12_u2 7 = .ok (.ishl, 1) := by decide +kernel
theorem dX12_u2_8 : decode cX12_u2 8 = .ok (.aload_n 0, 1) := by decide +kernel
theorem dX12_u2_9 : decode cX12_u2 9 = .ok (.iload_n 1, 1) := by decide +kernel
theorem dX12_u2_10 : decode cX12_u2 10 = .ok (.iconst 1, 1) := by decide +kernel
theorem dX12_u2_11 : decode cX12_u2 11 = .ok (.iadd, 1) := by decide +kernel
theorem dX12_u2_12 : decode cX12_u2 12 = .ok (.invokevirtual 459, 3) := by decide +kernel
theorem dX12_u2_15 : decode cX12_u2 15 = .ok (.ior, 1) := by decide +kernel
theorem dX12_u2_16 : decode cX12_u2 16 = .ok (.ireturn, 1) := by decide +kernel
theorem dX12_countsOf_0 : decode cX12_countsOf 0 = .ok (.aload_n 0, 1) := by decide +kernel
theorem dX12_countsOf_1 : decode cX12_countsOf 1 = .ok (.iload_n 1, 1) := by decide +kernel
theorem dX12_countsOf_2 : decode cX12_countsOf 2 = .ok (.sipush 202, 3) := by decide +kernel
theorem dX12_countsOf_5 : decode cX12_countsOf 5 = .ok (.imul, 1) := by decide +kernel
theorem dX12_countsOf_6 : decode cX12_countsOf 6 = .ok (.bipush 64, 2) := by decide +kernel
theorem dX12_countsOf_8 : decode cX12_countsOf 8 = .ok (.imul, 1) := by decide +kernel
theorem dX12_countsOf_9 : decode cX12_countsOf 9 = .ok (.invokevirtual 459, 3) := by decide +kernel
theorem dX12_countsOf_12 : decode cX12_countsOf 12 = .ok (.istore_n 2, 1) := by decide +kernel
theorem dX12_countsOf_13 : decode cX12_countsOf 13 = .ok (.aload_n 0, 1) := by decide +kernel
theorem dX12_countsOf_14 : decode cX12_countsOf 14 = .ok (.iload_n 1, 1) := by decide +kernel
theorem dX12_countsOf_15 : decode cX12_countsOf 15 = .ok (.sipush 202, 3) := by decide +kernel
theorem dX12_countsOf_18 : decode cX12_countsOf 18 = .ok (.imul, 1) := by decide +kernel
theorem dX12_countsOf_19 : decode cX12_countsOf 19 = .ok (.iconst 1, 1) := by decide +kernel
theorem dX12_countsOf_20 : decode cX12_countsOf 20 = .ok (.iadd, 1) := by decide +kernel
theorem dX12_countsOf_21 : decode cX12_countsOf 21 = .ok (.bipush 64, 2) := by decide +kernel
theorem dX12_countsOf_23 : decode cX12_countsOf 23 = .ok (.imul, 1) := by decide +kernel
theorem dX12_countsOf_24 : decode cX12_countsOf 24 = .ok (.invokevirtual 459, 3) := by decide +kernel
theorem dX12_countsOf_27 : decode cX12_countsOf 27 = .ok (.istore_n 3, 1) := by decide +kernel
theorem dX12_countsOf_28 : decode cX12_countsOf 28 = .ok (.iload_n 2, 1) := by decide +kernel
theorem dX12_countsOf_29 : decode cX12_countsOf 29 = .ok (.ifCond .eq 7, 3) := by decide +kernel
theorem dX12_countsOf_32 : decode cX12_countsOf 32 = .ok (.iload_n 3, 1) := by decide +kernel
theorem dX12_countsOf_33 : decode cX12_countsOf 33 = .ok (.ifCond .ne 7, 3) := by decide +kernel
theorem dX12_countsOf_36 : decode cX12_countsOf 36 = .ok (.iload_n 2, 1) := by decide +kernel
theorem dX12_countsOf_37 : decode cX12_countsOf 37 = .ok (.iload_n 3, 1) := by decide +kernel
theorem dX12_countsOf_38 : decode cX12_countsOf 38 = .ok (.iadd, 1) := by decide +kernel
theorem dX12_countsOf_39 : decode cX12_countsOf 39 = .ok (.ireturn, 1) := by decide +kernel
theorem dX12_countsOf_40 : decode cX12_countsOf 40 = .ok (.iload_n 2, 1) := by decide +kernel
theorem dX12_countsOf_41 : decode cX12_countsOf 41 = .ok (.sipush 250, 3) := by decide +kernel
theorem dX12_countsOf_44 : decode cX12_countsOf 44 = .ok (.if_icmp .ne 7, 3) := by decide +kernel
theorem dX12_countsOf_47 : decode cX12_countsOf 47 = .ok (.iconst 1, 1) := by decide +kernel
theorem dX12_countsOf_48 : decode cX12_countsOf 48 = .ok (.goto 6, 3) := by decide +kernel
theorem dX12_countsOf_51 : decode cX12_countsOf 51 = .ok (.iload_n 2, 1) := by decide +kernel
theorem dX12_countsOf_52 : decode cX12_countsOf 52 = .ok (.iconst 1, 1) := by decide +kernel
theorem dX12_countsOf_53 : decode cX12_countsOf 53 = .ok (.iadd, 1) := by decide +kernel
theorem dX12_countsOf_54 : decode cX12_countsOf 54 = .ok (.iload_n 3, 1) := by decide +kernel
theorem dX12_countsOf_55 : decode cX12_countsOf 55 = .ok (.if_icmp .ne 7, 3) := by decide +kernel
theorem dX12_countsOf_58 : decode cX12_countsOf 58 = .ok (.iload_n 3, 1) := by decide +kernel
theorem dX12_countsOf_59 : decode cX12_countsOf 59 = .ok (.goto 4, 3) := by decide +kernel
theorem dX12_countsOf_62 : decode cX12_countsOf 62 = .ok (.iload_n 2, 1) := by decide +kernel
theorem dX12_countsOf_63 : decode cX12_countsOf 63 = .ok (.ireturn, 1) := by decide +kernel
theorem dX12_readDisk_0 : decode cX12_readDisk 0 = .ok (.aload_n 0, 1) := by decide +kernel
theorem dX12_readDisk_1 : decode cX12_readDisk 1 = .ok (.iload_n 1, 1) := by decide +kernel
theorem dX12_readDisk_2 : decode cX12_readDisk 2 = .ok (.invokevirtual 462, 3) := by decide +kernel
theorem dX12_readDisk_5 : decode cX12_readDisk 5 = .ok (.istore_n 2, 1) := by decide +kernel
theorem dX12_readDisk_6 : decode cX12_readDisk 6 = .ok (.iload_n 1, 1) := by decide +kernel
theorem dX12_readDisk_7 : decode cX12_readDisk 7 = .ok (.sipush 202, 3) := by decide +kernel
theorem dX12_readDisk_10 : decode cX12_readDisk 10 = .ok (.imul, 1) := by decide +kernel
theorem dX12_readDisk_11 : decode cX12_readDisk 11 = .ok (.iconst 2, 1) := by decide +kernel
theorem dX12_readDisk_12 : decode cX12_readDisk 12 = .ok (.iadd, 1) := by decide +kernel
theorem dX12_readDisk_13 : decode cX12_readDisk 13 = .ok (.bipush 100, 2) := by decide +kernel
theorem dX12_readDisk_15 : decode cX12_readDisk 15 = .ok (.iload_n 2, 1) := by decide +kernel
theorem dX12_readDisk_16 : decode cX12_readDisk 16 = .ok (.iconst 2, 1) := by decide +kernel
theorem dX12_readDisk_17 : decode cX12_readDisk 17 = .ok (.irem, 1) := by decide +kernel
theorem dX12_readDisk_18 : decode cX12_readDisk 18 = .ok (.imul, 1) := by decide +kernel
theorem dX12_readDisk_19 : decode cX12_readDisk 19 = .ok (.iadd, 1) := by decide +kernel
theorem dX12_readDisk_20 : decode cX12_readDisk 20 = .ok (.bipush 64, 2) := by decide +kernel
theorem dX12_readDisk_22 : decode cX12_readDisk 22 = .ok (.imul, 1) := by decide +kernel
theorem dX12_readDisk_23 : decode cX12_readDisk 23 = .ok (.istore_n 3, 1) := by decide +kernel
theorem dX12_readDisk_24 : decode cX12_readDisk 24 = .ok (.iconst 0, 1) := by decide +kernel
theorem dX12_readDisk_25 : decode cX12_readDisk 25 = .ok (.istore 4, 2) := by decide +kernel
theorem dX12_readDisk_27 : decode cX12_readDisk 27 = .ok (.iconst 1, 1) := by decide +kernel
theorem dX12_readDisk_28 : decode cX12_readDisk 28 = .ok (.istore 5, 2) := by decide +kernel
theorem dX12_readDisk_30 : decode cX12_readDisk 30 = .ok (.iload 5, 2) := by decide +kernel
theorem dX12_readDisk_32 : decode cX12_readDisk 32 = .ok (.ifCond .eq 108, 3) := by decide +kernel
theorem dX12_readDisk_35 : decode cX12_readDisk 35 = .ok (.iload 4, 2) := by decide +kernel
theorem dX12_readDisk_37 : decode cX12_readDisk 37 = .ok (.iconst 2, 1) := by decide +kernel
theorem dX12_readDisk_38 : decode cX12_readDisk 38 = .ok (.iadd, 1) := by decide +kernel
theorem dX12_readDisk_39 : decode cX12_readDisk 39 = .ok (.sipush 6400, 3) := by decide +kernel
theorem dX12_readDisk_42 : decode cX12_readDisk 42 = .ok (.if_icmp .ge 66, 3) := by decide +kernel
theorem dX12_readDisk_45 : decode cX12_readDisk 45 = .ok (.aload_n 0, 1) := by decide +kernel
theorem dX12_readDisk_46 : decode cX12_readDisk 46 = .ok (.iload_n 3, 1) := by decide +kernel
theorem dX12_readDisk_47 : decode cX12_readDisk 47 = .ok (.iload 4, 2) := by decide +kernel
theorem dX12_readDisk_49 : decode cX12_readDisk 49 = .ok (.iadd, 1) := by decide +kernel
theorem dX12_readDisk_50 : decode cX12_readDisk 50 = .ok (.invokevirtual 459, 3) := by decide +kernel
theorem dX12_readDisk_53 : decode cX12_readDisk 53 = .ok (.ifCond .eq 55, 3) := by decide +kernel
theorem dX12_readDisk_56 : decode cX12_readDisk 56 = .ok (.iload 4, 2) := by decide +kernel
theorem dX12_readDisk_58 : decode cX12_readDisk 58 = .ok (.iconst 3, 1) := by decide +kernel
theorem dX12_readDisk_59 : decode cX12_readDisk 59 = .ok (.iadd, 1) := by decide +kernel
theorem dX12_readDisk_60 : decode cX12_readDisk 60 = .ok (.aload_n 0, 1) := by decide +kernel
theorem dX12_readDisk_61 : decode cX12_readDisk 61 = .ok (.iload_n 3, 1) := by decide +kernel
theorem dX12_readDisk_62 : decode cX12_readDisk 62 = .ok (.iload 4, 2) := by decide +kernel
theorem dX12_readDisk_64 : decode cX12_readDisk 64 = .ok (.iadd, 1) := by decide +kernel
theorem dX12_readDisk_65 : decode cX12_readDisk 65 = .ok (.iconst 1, 1) := by decide +kernel
theorem dX12_readDisk_66 : decode cX12_readDisk 66 = .ok (.iadd, 1) := by decide +kernel
theorem dX12_readDisk_67 : decode cX12_readDisk 67 = .ok (.invokevirtual 459, 3) := by decide +kernel
theorem dX12_readDisk_70 : decode cX12_readDisk 70 = .ok (.iadd, 1) := by decide +kernel
theorem dX12_readDisk_71 : decode cX12_readDisk 71 = .ok (.sipush 6400, 3) := by decide +kernel
theorem dX12_readDisk_74 : decode cX12_readDisk 74 = .ok (.if_icmp .gt 34, 3) := by decide +kernel
theorem dX12_readDisk_77 : decode cX12_readDisk 77 = .ok (.aload_n 0, 1) := by decide +kernel
theorem dX12_readDisk_78 : decode cX12_readDisk 78 = .ok (.iload_n 3, 1) := by decide +kernel
theorem dX12_readDisk_79 : decode cX12_readDisk 79 = .ok (.iload 4, 2) := by decide +kernel
theorem dX12_readDisk_81 : decode cX12_readDisk 81 = .ok (.iadd, 1) := by decide +kernel
theorem dX12_readDisk_82 : decode cX12_readDisk 82 = .ok (.iconst 2, 1) := by decide +kernel
theorem dX12_readDisk_83 : decode cX12_readDisk 83 = .ok (.iadd, 1) := by decide +kernel
theorem dX12_readDisk_84 : decode cX12_readDisk 84 = .ok (.aload_n 0, 1) := by decide +kernel
theorem dX12_readDisk_85 : decode cX12_readDisk 85 = .ok (.iload_n 3, 1) := by decide +kernel
theorem dX12_readDisk_86 : decode cX12_readDisk 86 = .ok (.iload 4, 2) := by decide +kernel
theorem dX12_readDisk_88 : decode cX12_readDisk 88 = .ok (.iadd, 1) := by decide +kernel
theorem dX12_readDisk_89 : decode cX12_readDisk 89 = .ok (.iconst 1, 1) := by decide +kernel
theorem dX12_readDisk_90 : decode cX12_readDisk 90 = .ok (.iadd, 1) := by decide +kernel
theorem dX12_readDisk_91 : decode cX12_readDisk 91 = .ok (.invokevirtual 459, 3) := by decide +kernel
theorem dX12_readDisk_94 : decode cX12_readDisk 94 = .ok (.iadd, 1) := by decide +kernel
theorem dX12_readDisk_95 : decode cX12_readDisk 95 = .ok (.invokevirtual 459, 3) := by decide +kernel
theorem dX12_readDisk_98 : decode cX12_readDisk 98 = .ok (.sipush 255, 3) := by decide +kernel
theorem dX12_readDisk_101 : decode cX12_readDisk 101 = .ok (.if_icmp .ne 7, 3) := by decide +kernel
theorem dX12_readDisk_104 : decode cX12_readDisk 104 = .ok (.iconst 1, 1) := by decide +kernel
theorem dX12_readDisk_105 : decode cX12_readDisk 105 = .ok (.goto 4, 3) := by decide +kernel
theorem dX12_readDisk_108 : decode cX12_readDisk 108 = .ok (.iconst 0, 1) := by decide +kernel
theorem dX12_readDisk_109 : decode cX12_readDisk 109 = .ok (.istore 5, 2) := by decide +kernel
theorem dX12_readDisk_111 : decode cX12_readDisk 111 = .ok (.iload 4, 2) := by decide +kernel
theorem dX12_readDisk_113 : decode cX12_readDisk 113 = .ok (.iload 5, 2) := by decide +kernel
theorem dX12_readDisk_115 : decode cX12_readDisk 115 = .ok (.ifCond .eq 18, 3) := by decide +kernel
theorem dX12_readDisk_118 : decode cX12_readDisk 118 = .ok (.iconst 3, 1) := by decide +kernel
theorem dX12_readDisk_119 : decode cX12_readDisk 119 = .ok (.aload_n 0, 1) := by decide +kernel
theorem dX12_readDisk_120 : decode cX12_readDisk 120 = .ok (.iload_n 3, 1) := by decide +kernel
theorem dX12_readDisk_121 : decode cX12_readDisk 121 = .ok (.iload 4, 2) := by decide +kernel
theorem dX12_readDisk_123 : decode cX12_readDisk 123 = .ok (.iadd, 1) := by decide +kernel
theorem dX12_readDisk_124 : decode cX12_readDisk 124 = .ok (.iconst 1, 1) := by decide +kernel
theorem dX12_readDisk_125 : decode cX12_readDisk 125 = .ok (.iadd, 1) := by decide +kernel
theorem dX12_readDisk_126 : decode cX12_readDisk 126 = .ok (.invokevirtual 459, 3) := by decide +kernel
theorem dX12_readDisk_129 : decode cX12_readDisk 129 = .ok (.iadd, 1) := by decide +kernel
theorem dX12_readDisk_130 : decode cX12_readDisk 130 = .ok (.goto 4, 3) := by decide +kernel
theorem dX12_readDisk_133 : decode cX12_readDisk 133 = .ok (.iconst 0, 1) := by decide +kernel
theorem dX12_readDisk_134 : decode cX12_readDisk 134 = .ok (.iadd, 1) := by decide +kernel
theorem dX12_readDisk_135 : decode cX12_readDisk 135 = .ok (.istore 4, 2) := by decide +kernel
theorem dX12_readDisk_137 : decode cX12_readDisk 137 = .ok (.goto (-107), 3) := by decide +kernel
theorem dX12_readDisk_140 : decode cX12_readDisk 140 = .ok (.aload_n 0, 1) := by decide +kernel
theorem dX12_readDisk_141 : decode cX12_readDisk 141 = .ok (.getfield 94, 3) := by decide +kernel
theorem dX12_readDisk_144 : decode cX12_readDisk 144 = .ok (.iload_n 1, 1) := by decide +kernel
theorem dX12_readDisk_145 : decode cX12_readDisk 145 = .ok (.iload_n 2, 1) := by decide +kernel
theorem dX12_readDisk_146 : decode cX12_readDisk 146 = .ok (.iastore, 1) := by decide +kernel
theorem dX12_readDisk_147 : decode cX12_readDisk 147 = .ok (.aload_n 0, 1) := by decide +kernel
theorem dX12_readDisk_148 : decode cX12_readDisk 148 = .ok (.getfield 91, 3) := by decide +kernel
theorem dX12_readDisk_151 : decode cX12_readDisk 151 = .ok (.iload_n 1, 1) := by decide +kernel
theorem dX12_readDisk_152 : decode cX12_readDisk 152 = .ok (.iload 4, 2) := by decide +kernel
theorem dX12_readDisk_154 : decode cX12_readDisk 154 = .ok (.iastore, 1) := by decide +kernel
theorem dX12_readDisk_155 : decode cX12_readDisk 155 = .ok (.iload 4, 2) := by decide +kernel
theorem dX12_readDisk_157 : decode cX12_readDisk 157 = .ok (.bipush 64, 2) := by decide +kernel
theorem dX12_readDisk_159 : decode cX12_readDisk 159 = .ok (.idiv, 1) := by decide +kernel
theorem dX12_readDisk_160 : decode cX12_readDisk 160 = .ok (.istore 6, 2) := by decide +kernel
theorem dX12_readDisk_162 : decode cX12_readDisk 162 = .ok (.iload 6, 2) := by decide +kernel
theorem dX12_readDisk_164 : decode cX12_readDisk 164 = .ok (.iconst 1, 1) := by decide +kernel
theorem dX12_readDisk_165 : decode cX12_readDisk 165 = .ok (.iadd, 1) := by decide +kernel
theorem dX12_readDisk_166 : decode cX12_readDisk 166 = .ok (.bipush 100, 2) := by decide +kernel
theorem dX12_readDisk_168 : decode cX12_readDisk 168 = .ok (.if_icmp .ge 25, 3) := by decide +kernel
theorem dX12_readDisk_171 : decode cX12_readDisk 171 = .ok (.aload_n 0, 1) := by decide +kernel
theorem dX12_readDisk_172 : decode cX12_readDisk 172 = .ok (.iload_n 1, 1) := by decide +kernel
theorem dX12_readDisk_173 : decode cX12_readDisk 173 = .ok (.iload_n 3, 1) := by decide +kernel
theorem dX12_readDisk_174 : decode cX12_readDisk 174 = .ok (.iload 6, 2) := by decide +kernel
theorem dX12_readDisk_176 : decode cX12_readDisk 176 = .ok (.iconst 1, 1) := by decide +kernel
theorem dX12_readDisk_177 : decode cX12_readDisk 177 = .ok (.iadd, 1) := by decide +kernel
theorem dX12_readDisk_178 : decode cX12_readDisk 178 = .ok (.bipush 64, 2) := by decide +kernel
theorem dX12_readDisk_180 : decode cX12_readDisk 180 = .ok (.iload 6, 2) := by decide +kernel
theorem dX12_readDisk_182 : decode cX12_readDisk 182 = .ok (.iconst 1, 1) := by decide +kernel
theorem dX12_readDisk_183 : decode cX12_readDisk 183 = .ok (.iadd, 1) := by decide +kernel
theorem dX12_readDisk_184 : decode cX12_readDisk 184 = .ok (.imul, 1) := by decide +kernel
theorem dX12_readDisk_185 : decode cX12_readDisk 185 = .ok (.invokevirtual 465, 3) := by decide +kernel
theorem dX12_readDisk_188 : decode cX12_readDisk 188 = .ok (.ifCond .ne 5, 3) := by decide +kernel
theorem dX12_readDisk_191 : decode cX12_readDisk 191 = .ok (.iconst 0, 1) := by decide +kernel
theorem dX12_readDisk_192 : decode cX12_readDisk 192 = .ok (.ireturn, 1) := by decide +kernel
theorem dX12_readDisk_193 : decode cX12_readDisk 193 = .ok (.iload 6, 2) := by decide +kernel
theorem dX12_readDisk_195 : decode cX12_readDisk 195 = .ok (.bipush 100, 2) := by decide +kernel
theorem dX12_readDisk_197 : decode cX12_readDisk 197 = .ok (.if_icmp .ge 16, 3) := by decide +kernel
theorem dX12_readDisk_200 : decode cX12_readDisk 200 = .ok (.aload_n 0, 1) := by decide +kernel
theorem dX12_readDisk_201 : decode cX12_readDisk 201 = .ok (.iload_n 1, 1) := by decide +kernel
theorem dX12_readDisk_202 : decode cX12_readDisk 202 = .ok (.iload_n 3, 1) := by decide +kernel
theorem dX12_readDisk_203 : decode cX12_readDisk 203 = .ok (.iload 6, 2) := by decide +kernel
theorem dX12_readDisk_205 : decode cX12_readDisk 205 = .ok (.iload 4, 2) := by decide +kernel
theorem dX12_readDisk_207 : decode cX12_readDisk 207 = .ok (.invokevirtual 465, 3) := by decide +kernel
theorem dX12_readDisk_210 : decode cX12_readDisk 210 = .ok (.ifCond .eq 7, 3) := by decide +kernel
theorem dX12_readDisk_213 : decode cX12_readDisk 213 = .ok (.iconst 1, 1) := by decide +kernel
theorem dX12_readDisk_214 : decode cX12_readDisk 214 = .ok (.goto 4, 3) := by decide +kernel
theorem dX12_readDisk_217 : decode cX12_readDisk 217 = .ok (.iconst 0, 1) := by decide +kernel
theorem dX12_readDisk_218 : decode cX12_readDisk 218 = .ok (.ireturn, 1) := by decide +kernel
theorem dX12_zero_0 : decode cX12_zero 0 = .ok (.iconst 0, 1) := by decide +kernel
theorem dX12_zero_1 : decode cX12_zero 1 = .ok (.istore 5, 2) := by decide +kernel
theorem dX12_zero_3 : decode cX12_zero 3 = .ok (.iconst 0, 1) := by decide +kernel
theorem dX12_zero_4 : decode cX12_zero 4 = .ok (.istore 6, 2) := by decide +kernel
theorem dX12_zero_6 : decode cX12_zero 6 = .ok (.iload 6, 2) := by decide +kernel
theorem dX12_zero_8 : decode cX12_zero 8 = .ok (.bipush 64, 2) := by decide +kernel
theorem dX12_zero_10 : decode cX12_zero 10 = .ok (.if_icmp .ge 76, 3) := by decide +kernel
theorem dX12_zero_13 : decode cX12_zero 13 = .ok (.bipush 64, 2) := by decide +kernel
theorem dX12_zero_15 : decode cX12_zero 15 = .ok (.iload_n 3, 1) := by decide +kernel
theorem dX12_zero_16 : decode cX12_zero 16 = .ok (.imul, 1) := by decide +kernel
theorem dX12_zero_17 : decode cX12_zero 17 = .ok (.iload 6, 2) := by decide +kernel
theorem dX12_zero_19 : decode cX12_zero 19 = .ok (.iadd, 1) := by decide +kernel
theorem dX12_zero_20 : decode cX12_zero 20 = .ok (.istore 7, 2) := by decide +kernel
theorem dX12_zero_22 : decode cX12_zero 22 = .ok (.aload_n 0, 1) := by decide +kernel
theorem dX12_zero_23 : decode cX12_zero 23 = .ok (.getfield 100, 3) := by decide +kernel
theorem dX12_zero_26 : decode cX12_zero 26 = .ok (.iload 6, 2) := by decide +kernel
theorem dX12_zero_28 : decode cX12_zero 28 = .ok (.iload 7, 2) := by decide +kernel
theorem dX12_zero_30 : decode cX12_zero 30 = .ok (.iload 4, 2) := by decide +kernel
theorem dX12_zero_32 : decode cX12_zero 32 = .ok (.if_icmp .ge 15, 3) := by decide +kernel
theorem dX12_zero_35 : decode cX12_zero 35 = .ok (.aload_n 0, 1) := by decide +kernel
theorem dX12_zero_36 : decode cX12_zero 36 = .ok (.getfield 87, 3) := by decide +kernel
theorem dX12_zero_39 : decode cX12_zero 39 = .ok (.iload_n 2, 1) := by decide +kernel
theorem dX12_zero_40 : decode cX12_zero 40 = .ok (.iload 7, 2) := by decide +kernel
theorem dX12_zero_42 : decode cX12_zero 42 = .ok (.iadd, 1) := by decide +kernel
theorem dX12_zero_43 : decode cX12_zero 43 = .ok (.baload, 1) := by decide +kernel
theorem dX12_zero_44 : decode cX12_zero 44 = .ok (.goto 4, 3) := by decide +kernel
theorem dX12_zero_47 : decode cX12_zero 47 = .ok (.iconst 0, 1) := by decide +kernel
theorem dX12_zero_48 : decode cX12_zero 48 = .ok (.bastore, 1) := by decide +kernel
theorem dX12_zero_49 : decode cX12_zero 49 = .ok (.iload 5, 2) := by decide +kernel
theorem dX12_zero_51 : decode cX12_zero 51 = .ok (.ifCond .ne 22, 3) := by decide +kernel
theorem dX12_zero_54 : decode cX12_zero 54 = .ok (.aload_n 0, 1) := by decide +kernel
theorem dX12_zero_55 : decode cX12_zero 55 = .ok (.getfield 100, 3) := by decide +kernel
theorem dX12_zero_58 : decode cX12_zero 58 = .ok (.iload 6, 2) := by decide +kernel
theorem dX12_zero_60 : decode cX12_zero 60 = .ok (.baload, 1) := by decide +kernel
theorem dX12_zero_61 : decode cX12_zero 61 = .ok (.aload_n 0, 1) := by decide +kernel
theorem dX12_zero_62 : decode cX12_zero 62 = .ok (.getfield 87, 3) := by decide +kernel
theorem dX12_zero_65 : decode cX12_zero 65 = .ok (.iload_n 2, 1) := by decide +kernel
theorem dX12_zero_66 : decode cX12_zero 66 = .ok (.iload 7, 2) := by decide +kernel
theorem dX12_zero_68 : decode cX12_zero 68 = .ok (.iadd, 1) := by decide +kernel
theorem dX12_zero_69 : decode cX12_zero 69 = .ok (.baload, 1) := by decide +kernel
theorem dX12_zero_70 : decode cX12_zero 70 = .ok (.if_icmp .eq 7, 3) := by decide +kernel
theorem dX12_zero_73 : decode cX12_zero 73 = .ok (.iconst 1, 1) := by decide +kernel
theorem dX12_zero_74 : decode cX12_zero 74 = .ok (.goto 4, 3) := by decide +kernel
theorem dX12_zero_77 : decode cX12_zero 77 = .ok (.iconst 0, 1) := by decide +kernel
theorem dX12_zero_78 : decode cX12_zero 78 = .ok (.istore 5, 2) := by decide +kernel
theorem dX12_zero_80 : decode cX12_zero 80 = .ok (.iinc 6 1, 3) := by decide +kernel
theorem dX12_zero_83 : decode cX12_zero 83 = .ok (.goto (-77), 3) := by decide +kernel
theorem dX12_zero_86 : decode cX12_zero 86 = .ok (.iload 5, 2) := by decide +kernel
theorem dX12_zero_88 : decode cX12_zero 88 = .ok (.ifCond .eq 26, 3) := by decide +kernel
theorem dX12_zero_91 : decode cX12_zero 91 = .ok (.aload_n 0, 1) := by decide +kernel
theorem dX12_zero_92 : decode cX12_zero 92 = .ok (.iload_n 1, 1) := by decide +kernel
theorem dX12_zero_93 : decode cX12_zero 93 = .ok (.iconst 2, 1) := by decide +kernel
theorem dX12_zero_94 : decode cX12_zero 94 = .ok (.bipush 100, 2) := by decide +kernel
theorem dX12_zero_96 : decode cX12_zero 96 = .ok (.aload_n 0, 1) := by decide +kernel
theorem dX12_zero_97 : decode cX12_zero 97 = .ok (.getfield 94, 3) := by decide +kernel
theorem dX12_zero_100 : decode cX12_zero 100 = .ok (.iload_n 1, 1) := by decide +kernel
theorem dX12_zero_101 : decode cX12_zero 101 = .ok (.iaload, 1) := by decide +kernel
theorem dX12_zero_102 : decode cX12_zero 102 = .ok (.iconst 2, 1) := by decide +kernel
theorem dX12_zero_103 : decode cX12_zero 103 = .ok (.irem, 1) := by decide +kernel
theorem dX12_zero_104 : decode cX12_zero 104 = .ok (.imul, 1) := by decide +kernel
theorem dX12_zero_105 : decode cX12_zero 105 = .ok (.iadd, 1) := by decide +kernel
theorem dX12_zero_106 : decode cX12_zero 106 = .ok (.iload_n 3, 1) := by decide +kernel
theorem dX12_zero_107 : decode cX12_zero 107 = .ok (.iadd, 1) := by decide +kernel
theorem dX12_zero_108 : decode cX12_zero 108 = .ok (.invokevirtual 405, 3) := by decide +kernel
theorem dX12_zero_111 : decode cX12_zero 111 = .ok (.ifCond .eq 7, 3) := by decide +kernel
theorem dX12_zero_114 : decode cX12_zero 114 = .ok (.iconst 1, 1) := by decide +kernel
theorem dX12_zero_115 : decode cX12_zero 115 = .ok (.goto 4, 3) := by decide +kernel
theorem dX12_zero_118 : decode cX12_zero 118 = .ok (.iconst 0, 1) := by decide +kernel
theorem dX12_zero_119 : decode cX12_zero 119 = .ok (.ireturn, 1) := by decide +kernel
theorem dX12_readCopy_0 : decode cX12_readCopy 0 = .ok (.iload_n 1, 1) := by decide +kernel
theorem dX12_readCopy_1 : decode cX12_readCopy 1 = .ok (.sipush 202, 3) := by decide +kernel
theorem dX12_readCopy_4 : decode cX12_readCopy 4 = .ok (.imul, 1) := by decide +kernel
theorem dX12_readCopy_5 : decode cX12_readCopy 5 = .ok (.iconst 2, 1) := by decide +kernel
theorem dX12_readCopy_6 : decode cX12_readCopy 6 = .ok (.iadd, 1) := by decide +kernel
theorem dX12_readCopy_7 : decode cX12_readCopy 7 = .ok (.bipush 100, 2) := by decide +kernel
theorem dX12_readCopy_9 : decode cX12_readCopy 9 = .ok (.aload_n 0, 1) := by decide +kernel
theorem dX12_readCopy_10 : decode cX12_readCopy 10 = .ok (.getfield 94, 3) := by decide +kernel
theorem dX12_readCopy_13 : decode cX12_readCopy 13 = .ok (.iload_n 1, 1) := by decide +kernel
theorem dX12_readCopy_14 : decode cX12_readCopy 14 = .ok (.iaload, 1) := by decide +kernel
theorem dX12_readCopy_15 : decode cX12_readCopy 15 = .ok (.iconst 2, 1) := by decide +kernel
theorem dX12_readCopy_16 : decode cX12_readCopy 16 = .ok (.irem, 1) := by decide +kernel
theorem dX12_readCopy_17 : decode cX12_readCopy 17 = .ok (.imul, 1) := by decide +kernel
theorem dX12_readCopy_18 : decode cX12_readCopy 18 = .ok (.iadd, 1) := by decide +kernel
theorem dX12_readCopy_19 : decode cX12_readCopy 19 = .ok (.bipush 64, 2) := by decide +kernel
theorem dX12_readCopy_21 : decode cX12_readCopy 21 = .ok (.imul, 1) := by decide +kernel
theorem dX12_readCopy_22 : decode cX12_readCopy 22 = .ok (.istore_n 2, 1) := by decide +kernel
theorem dX12_readCopy_23 : decode cX12_readCopy 23 = .ok (.aload_n 0, 1) := by decide +kernel
theorem dX12_readCopy_24 : decode cX12_readCopy 24 = .ok (.getfield 125, 3) := by decide +kernel
theorem dX12_readCopy_27 : decode cX12_readCopy 27 = .ok (.iload_n 1, 1) := by decide +kernel
theorem dX12_readCopy_28 : decode cX12_readCopy 28 = .ok (.iconst 0, 1) := by decide +kernel
theorem dX12_readCopy_29 : decode cX12_readCopy 29 = .ok (.iastore, 1) := by decide +kernel
theorem dX12_readCopy_30 : decode cX12_readCopy 30 = .ok (.aload_n 0, 1) := by decide +kernel
theorem dX12_readCopy_31 : decode cX12_readCopy 31 = .ok (.getfield 128, 3) := by decide +kernel
theorem dX12_readCopy_34 : decode cX12_readCopy 34 = .ok (.iload_n 1, 1) := by decide +kernel
theorem dX12_readCopy_35 : decode cX12_readCopy 35 = .ok (.iconst 0, 1) := by decide +kernel
theorem dX12_readCopy_36 : decode cX12_readCopy 36 = .ok (.iastore, 1) := by decide +kernel
theorem dX12_readCopy_37 : decode cX12_readCopy 37 = .ok (.aload_n 0, 1) := by decide +kernel
theorem dX12_readCopy_38 : decode cX12_readCopy 38 = .ok (.getfield 131, 3) := by decide +kernel
theorem dX12_readCopy_41 : decode cX12_readCopy 41 = .ok (.iload_n 1, 1) := by decide +kernel
theorem dX12_readCopy_42 : decode cX12_readCopy 42 = .ok (.iconst 0, 1) := by decide +kernel
theorem dX12_readCopy_43 : decode cX12_readCopy 43 = .ok (.iastore, 1) := by decide +kernel
theorem dX12_readCopy_44 : decode cX12_readCopy 44 = .ok (.aload_n 0, 1) := by decide +kernel
theorem dX12_readCopy_45 : decode cX12_readCopy 45 = .ok (.getfield 134, 3) := by decide +kernel
theorem dX12_readCopy_48 : decode cX12_readCopy 48 = .ok (.iload_n 1, 1) := by decide +kernel
theorem dX12_readCopy_49 : decode cX12_readCopy 49 = .ok (.iconst 0, 1) := by decide +kernel
theorem dX12_readCopy_50 : decode cX12_readCopy 50 = .ok (.iastore, 1) := by decide +kernel
theorem dX12_readCopy_51 : decode cX12_readCopy 51 = .ok (.aload_n 0, 1) := by decide +kernel
theorem dX12_readCopy_52 : decode cX12_readCopy 52 = .ok (.getfield 137, 3) := by decide +kernel
theorem dX12_readCopy_55 : decode cX12_readCopy 55 = .ok (.iload_n 1, 1) := by decide +kernel
theorem dX12_readCopy_56 : decode cX12_readCopy 56 = .ok (.iconst 0, 1) := by decide +kernel
theorem dX12_readCopy_57 : decode cX12_readCopy 57 = .ok (.iastore, 1) := by decide +kernel
theorem dX12_readCopy_58 : decode cX12_readCopy 58 = .ok (.aload_n 0, 1) := by decide +kernel
theorem dX12_readCopy_59 : decode cX12_readCopy 59 = .ok (.getfield 146, 3) := by decide +kernel
theorem dX12_readCopy_62 : decode cX12_readCopy 62 = .ok (.sipush 700, 3) := by decide +kernel
theorem dX12_readCopy_65 : decode cX12_readCopy 65 = .ok (.iload_n 1, 1) := by decide +kernel
theorem dX12_readCopy_66 : decode cX12_readCopy 66 = .ok (.imul, 1) := by decide +kernel
theorem dX12_readCopy_67 : decode cX12_readCopy 67 = .ok (.iconst 0, 1) := by decide +kernel
theorem dX12_readCopy_68 : decode cX12_readCopy 68 = .ok (.iastore, 1) := by decide +kernel
theorem dX12_readCopy_69 : decode cX12_readCopy 69 = .ok (.iload_n 2, 1) := by decide +kernel
theorem dX12_readCopy_70 : decode cX12_readCopy 70 = .ok (.istore_n 3, 1) := by decide +kernel
theorem dX12_readCopy_71 : decode cX12_readCopy 71 = .ok (.iload_n 3, 1) := by decide +kernel
theorem dX12_readCopy_72 : decode cX12_readCopy 72 = .ok (.iload_n 2, 1) := by decide +kernel
theorem dX12_readCopy_73 : decode cX12_readCopy 73 = .ok (.aload_n 0, 1) := by decide +kernel
theorem dX12_readCopy_74 : decode cX12_readCopy 74 = .ok (.getfield 91, 3) := by decide +kernel
theorem dX12_readCopy_77 : decode cX12_readCopy 77 = .ok (.iload_n 1, 1) := by decide +kernel
theorem dX12_readCopy_78 : decode cX12_readCopy 78 = .ok (.iaload, 1) := by decide +kernel
theorem dX12_readCopy_79 : decode cX12_readCopy 79 = .ok (.iadd, 1) := by decide +kernel
theorem dX12_readCopy_80 : decode cX12_readCopy 80 = .ok (.if_icmp .ge 377, 3) := by decide +kernel
theorem dX12_readCopy_83 : decode cX12_readCopy 83 = .ok (.aload_n 0, 1) := by decide +kernel
theorem dX12_readCopy_84 : decode cX12_readCopy 84 = .ok (.iload_n 3, 1) := by decide +kernel
theorem dX12_readCopy_85 : decode cX12_readCopy 85 = .ok (.invokevirtual 459, 3) := by decide +kernel
theorem dX12_readCopy_88 : decode cX12_readCopy 88 = .ok (.istore 4, 2) := by decide +kernel
theorem dX12_readCopy_90 : decode cX12_readCopy 90 = .ok (.iload_n 3, 1) := by decide +kernel
theorem dX12_readCopy_91 : decode cX12_readCopy 91 = .ok (.iconst 2, 1) := by decide +kernel
theorem dX12_readCopy_92 : decode cX12_readCopy 92 = .ok (.iadd, 1) := by decide +kernel
theorem dX12_readCopy_93 : decode cX12_readCopy 93 = .ok (.istore 5, 2) := by decide +kernel
theorem dX12_readCopy_95 : decode cX12_readCopy 95 = .ok (.iload 4, 2) := by decide +kernel
theorem dX12_readCopy_97 : decode cX12_readCopy 97 = .ok (.iconst 5, 1) := by decide +kernel
theorem dX12_readCopy_98 : decode cX12_readCopy 98 = .ok (.if_icmp .ne 102, 3) := by decide +kernel
theorem dX12_readCopy_101 : decode cX12_readCopy 101 = .ok (.aload_n 0, 1) := by decide +kernel
theorem dX12_readCopy_102 : decode cX12_readCopy 102 = .ok (.getfield 128, 3) := by decide +kernel
theorem dX12_readCopy_105 : decode cX12_readCopy 105 = .ok (.iload_n 1, 1) := by decide +kernel
theorem dX12_readCopy_106 : decode cX12_readCopy 106 = .ok (.aload_n 0, 1) := by decide +kernel
theorem dX12_readCopy_107 : decode cX12_readCopy 107 = .ok (.iload 5, 2) := by decide +kernel
theorem dX12_readCopy_109 : decode cX12_readCopy 109 = .ok (.invokevirtual 469, 3) := by decide +kernel
theorem dX12_readCopy_112 : decode cX12_readCopy 112 = .ok (.iastore, 1) := by decide +kernel
theorem dX12_readCopy_113 : decode cX12_readCopy 113 = .ok (.aload_n 0, 1) := by decide +kernel
theorem dX12_readCopy_114 : decode cX12_readCopy 114 = .ok (.getfield 131, 3) := by decide +kernel
theorem dX12_readCopy_117 : decode cX12_readCopy 117 = .ok (.iload_n 1, 1) := by decide +kernel
theorem dX12_readCopy_118 : decode cX12_readCopy 118 = .ok (.aload_n 0, 1) := by decide +kernel
theorem dX12_readCopy_119 : decode cX12_readCopy 119 = .ok (.getfield 128, 3) := by decide +kernel
theorem dX12_readCopy_122 : decode cX12_readCopy 122 = .ok (.iload_n 1, 1) := by decide +kernel
theorem dX12_readCopy_123 : decode cX12_readCopy 123 = .ok (.iaload, 1) := by decide +kernel
theorem dX12_readCopy_124 : decode cX12_readCopy 124 = .ok (.iastore, 1) := by decide +kernel
theorem dX12_readCopy_125 : decode cX12_readCopy 125 = .ok (.aload_n 0, 1) := by decide +kernel
theorem dX12_readCopy_126 : decode cX12_readCopy 126 = .ok (.getfield 134, 3) := by decide +kernel
theorem dX12_readCopy_129 : decode cX12_readCopy 129 = .ok (.iload_n 1, 1) := by decide +kernel
theorem dX12_readCopy_130 : decode cX12_readCopy 130 = .ok (.aload_n 0, 1) := by decide +kernel
theorem dX12_readCopy_131 : decode cX12_readCopy 131 = .ok (.getfield 128, 3) := by decide +kernel
theorem dX12_readCopy_134 : decode cX12_readCopy 134 = .ok (.iload_n 1, 1) := by decide +kernel
theorem dX12_readCopy_135 : decode cX12_readCopy 135 = .ok (.iaload, 1) := by decide +kernel
theorem dX12_readCopy_136 : decode cX12_readCopy 136 = .ok (.iastore, 1) := by decide +kernel
theorem dX12_readCopy_137 : decode cX12_readCopy 137 = .ok (.aload_n 0, 1) := by decide +kernel
theorem dX12_readCopy_138 : decode cX12_readCopy 138 = .ok (.getfield 137, 3) := by decide +kernel
theorem dX12_readCopy_141 : decode cX12_readCopy 141 = .ok (.iload_n 1, 1) := by decide +kernel
theorem dX12_readCopy_142 : decode cX12_readCopy 142 = .ok (.aload_n 0, 1) := by decide +kernel
theorem dX12_readCopy_143 : decode cX12_readCopy 143 = .ok (.getfield 128, 3) := by decide +kernel
theorem dX12_readCopy_146 : decode cX12_readCopy 146 = .ok (.iload_n 1, 1) := by decide +kernel
theorem dX12_readCopy_147 : decode cX12_readCopy 147 = .ok (.iaload, 1) := by decide +kernel
theorem dX12_readCopy_148 : decode cX12_readCopy 148 = .ok (.iastore, 1) := by decide +kernel
theorem dX12_readCopy_149 : decode cX12_readCopy 149 = .ok (.aload_n 0, 1) := by decide +kernel
theorem dX12_readCopy_150 : decode cX12_readCopy 150 = .ok (.getfield 125, 3) := by decide +kernel
theorem dX12_readCopy_153 : decode cX12_readCopy 153 = .ok (.iload_n 1, 1) := by decide +kernel
theorem dX12_readCopy_154 : decode cX12_readCopy 154 = .ok (.aload_n 0, 1) := by decide +kernel
theorem dX12_readCopy_155 : decode cX12_readCopy 155 = .ok (.iload 5, 2) := by decide +kernel
theorem dX12_readCopy_157 : decode cX12_readCopy 157 = .ok (.iconst 2, 1) := by decide +kernel
theorem dX12_readCopy_158 : decode cX12_readCopy 158 = .ok (.iadd, 1) := by decide +kernel
theorem dX12_readCopy_159 : decode cX12_readCopy 159 = .ok (.invokevirtual 469, 3) := by decide +kernel
theorem dX12_readCopy_162 : decode cX12_readCopy 162 = .ok (.iastore, 1) := by decide +kernel
theorem dX12_readCopy_163 : decode cX12_readCopy 163 = .ok (.aload_n 0, 1) := by decide +kernel
theorem dX12_readCopy_164 : decode cX12_readCopy 164 = .ok (.getfield 146, 3) := by decide +kernel
theorem dX12_readCopy_167 : decode cX12_readCopy 167 = .ok (.sipush 700, 3) := by decide +kernel
theorem dX12_readCopy_170 : decode cX12_readCopy 170 = .ok (.iload_n 1, 1) := by decide +kernel
theorem dX12_readCopy_171 : decode cX12_readCopy 171 = .ok (.imul, 1) := by decide +kernel
theorem dX12_readCopy_172 : decode cX12_readCopy 172 = .ok (.aload_n 0, 1) := by decide +kernel
theorem dX12_readCopy_173 : decode cX12_readCopy 173 = .ok (.getfield 128, 3) := by decide +kernel
theorem dX12_readCopy_176 : decode cX12_readCopy 176 = .ok (.iload_n 1, 1) := by decide +kernel
theorem dX12_readCopy_177 : decode cX12_readCopy 177 = .ok (.iaload, 1) := by decide +kernel
theorem dX12_readCopy_178 : decode cX12_readCopy 178 = .ok (.iadd, 1) := by decide +kernel
theorem dX12_readCopy_179 : decode cX12_readCopy 179 = .ok (.aload_n 0, 1) := by decide +kernel
theorem dX12_readCopy_180 : decode cX12_readCopy 180 = .ok (.getfield 97, 3) := by decide +kernel
theorem dX12_readCopy_183 : decode cX12_readCopy 183 = .ok (.iconst 2, 1) := by decide +kernel
theorem dX12_readCopy_184 : decode cX12_readCopy 184 = .ok (.iload_n 1, 1) := by decide +kernel
theorem dX12_readCopy_185 : decode cX12_readCopy 185 = .ok (.imul, 1) := by decide +kernel
theorem dX12_readCopy_186 : decode cX12_readCopy 186 = .ok (.aload_n 0, 1) := by decide +kernel
theorem dX12_readCopy_187 : decode cX12_readCopy 187 = .ok (.getfield 94, 3) := by decide +kernel
theorem dX12_readCopy_190 : decode cX12_readCopy 190 = .ok (.iload_n 1, 1) := by decide +kernel
theorem dX12_readCopy_191 : decode cX12_readCopy 191 = .ok (.iaload, 1) := by decide +kernel
theorem dX12_readCopy_192 : decode cX12_readCopy 192 = .ok (.iconst 2, 1) := by decide +kernel
theorem dX12_readCopy_193 : decode cX12_readCopy 193 = .ok (.irem, 1) := by decide +kernel
theorem dX12_readCopy_194 : decode cX12_readCopy 194 = .ok (.iadd, 1) := by decide +kernel
theorem dX12_readCopy_195 : decode cX12_readCopy 195 = .ok (.iaload, 1) := by decide +kernel
theorem dX12_readCopy_196 : decode cX12_readCopy 196 = .ok (.iastore, 1) := by decide +kernel
theorem dX12_readCopy_197 : decode cX12_readCopy 197 = .ok (.goto 245, 3) := by decide +kernel
theorem dX12_readCopy_200 : decode cX12_readCopy 200 = .ok (.iload 4, 2) := by decide +kernel
theorem dX12_readCopy_202 : decode cX12_readCopy 202 = .ok (.iconst 1, 1) := by decide +kernel
theorem dX12_readCopy_203 : decode cX12_readCopy 203 = .ok (.if_icmp .eq 9, 3) := by decide +kernel
theorem dX12_readCopy_206 : decode cX12_readCopy 206 = .ok (.iload 4, 2) := by decide +kernel
theorem dX12_readCopy_208 : decode cX12_readCopy 208 = .ok (.iconst 2, 1) := by decide +kernel
theorem dX12_readCopy_209 : decode cX12_readCopy 209 = .ok (.if_icmp .ne 132, 3) := by decide +kernel
theorem dX12_readCopy_212 : decode cX12_readCopy 212 = .ok (.aload_n 0, 1) := by decide +kernel
theorem dX12_readCopy_213 : decode cX12_readCopy 213 = .ok (.getfield 125, 3) := by decide +kernel
theorem dX12_readCopy_216 : decode cX12_readCopy 216 = .ok (.iload_n 1, 1) := by decide +kernel
theorem dX12_readCopy_217 : decode cX12_readCopy 217 = .ok (.aload_n 0, 1) := by decide +kernel
theorem dX12_readCopy_218 : decode cX12_readCopy 218 = .ok (.getfield 125, 3) := by decide +kernel
theorem dX12_readCopy_221 : decode cX12_readCopy 221 = .ok (.iload_n 1, 1) := by decide +kernel
theorem dX12_readCopy_222 : decode cX12_readCopy 222 = .ok (.iaload, 1) := by decide +kernel
theorem dX12_readCopy_223 : decode cX12_readCopy 223 = .ok (.aload_n 0, 1) := by decide +kernel
theorem dX12_readCopy_224 : decode cX12_readCopy 224 = .ok (.iload 5, 2) := by decide +kernel
theorem dX12_readCopy_226 : decode cX12_readCopy 226 = .ok (.iconst 2, 1) := by decide +kernel
theorem dX12_readCopy_227 : decode cX12_readCopy 227 = .ok (.iadd, 1) := by decide +kernel
theorem dX12_readCopy_228 : decode cX12_readCopy 228 = .ok (.invokevirtual 469, 3) := by decide +kernel
theorem dX12_readCopy_231 : decode cX12_readCopy 231 = .ok (.invokestatic 425, 3) := by decide +kernel
theorem dX12_readCopy_234 : decode cX12_readCopy 234 = .ok (.iastore, 1) := by decide +kernel
theorem dX12_readCopy_235 : decode cX12_readCopy 235 = .ok (.aload_n 0, 1) := by decide +kernel
theorem dX12_readCopy_236 : decode cX12_readCopy 236 = .ok (.getfield 134, 3) := by decide +kernel
theorem dX12_readCopy_239 : decode cX12_readCopy 239 = .ok (.iload_n 1, 1) := by decide +kernel
theorem dX12_readCopy_240 : decode cX12_readCopy 240 = .ok (.aload_n 0, 1) := by decide +kernel
theorem dX12_readCopy_241 : decode cX12_readCopy 241 = .ok (.getfield 134, 3) := by decide +kernel
theorem dX12_readCopy_244 : decode cX12_readCopy 244 = .ok (.iload_n 1, 1) := by decide +kernel
theorem dX12_readCopy_245 : decode cX12_readCopy 245 = .ok (.iaload, 1) := by decide +kernel
theorem dX12_readCopy_246 : decode cX12_readCopy 246 = .ok (.aload_n 0, 1) := by decide +kernel
theorem dX12_readCopy_247 : decode cX12_readCopy 247 = .ok (.iload 5, 2) := by decide +kernel
theorem dX12_readCopy_249 : decode cX12_readCopy 249 = .ok (.bipush 6, 2) := by decide +kernel
theorem dX12_readCopy_251 : decode cX12_readCopy 251 = .ok (.iadd, 1) := by decide +kernel
theorem dX12_readCopy_252 : decode cX12_readCopy 252 = .ok (.invokevirtual 469, 3) := by decide +kernel
theorem dX12_readCopy_255 : decode cX12_readCopy 255 = .ok (.invokestatic 425, 3) := by decide +kernel
theorem dX12_readCopy_258 : decode cX12_readCopy 258 = .ok (.iastore, 1) := by decide +kernel
theorem dX12_readCopy_259 : decode cX12_readCopy 259 = .ok (.aload_n 0, 1) := by decide +kernel
theorem dX12_readCopy_260 : decode cX12_readCopy 260 = .ok (.iload 5, 2) := by decide +kernel
theorem dX12_readCopy_262 : decode cX12_readCopy 262 = .ok (.invokevirtual 469, 3) := by decide +kernel
theorem dX12_readCopy_265 : decode cX12_readCopy 265 = .ok (.aload_n 0, 1) := by decide +kernel
theorem dX12_readCopy_266 : decode cX12_readCopy 266 = .ok (.getfield 131, 3) := by decide +kernel
theorem dX12_readCopy_269 : decode cX12_readCopy 269 = .ok (.iload_n 1, 1) := by decide +kernel
theorem dX12_readCopy_270 : decode cX12_readCopy 270 = .ok (.iaload, 1) := by decide +kernel
theorem dX12_readCopy_271 : decode cX12_readCopy 271 = .ok (.iconst 1, 1) := by decide +kernel
theorem dX12_readCopy_272 : decode cX12_readCopy 272 = .ok (.iadd, 1) := by decide +kernel
theorem dX12_readCopy_273 : decode cX12_readCopy 273 = .ok (.if_icmp .ne 169, 3) := by decide +kernel
theorem dX12_readCopy_276 : decode cX12_readCopy 276 = .ok (.aload_n 0, 1) := by decide +kernel
theorem dX12_readCopy_277 : decode cX12_readCopy 277 = .ok (.iload_n 1, 1) := by decide +kernel
theorem dX12_readCopy_278 : decode cX12_readCopy 278 = .ok (.aload_n 0, 1) := by decide +kernel
theorem dX12_readCopy_279 : decode cX12_readCopy 279 = .ok (.getfield 131, 3) := by decide +kernel
theorem dX12_readCopy_282 : decode cX12_readCopy 282 = .ok (.iload_n 1, 1) := by decide +kernel
theorem dX12_readCopy_283 : decode cX12_readCopy 283 = .ok (.iaload, 1) := by decide +kernel
theorem dX12_readCopy_284 : decode cX12_readCopy 284 = .ok (.invokevirtual 389, 3) := by decide +kernel
theorem dX12_readCopy_287 : decode cX12_readCopy 287 = .ok (.istore 6, 2) := by decide +kernel
theorem dX12_readCopy_289 : decode cX12_readCopy 289 = .ok (.aload_n 0, 1) := by decide +kernel
theorem dX12_readCopy_290 : decode cX12_readCopy 290 = .ok (.getfield 131, 3) := by decide +kernel
theorem dX12_readCopy_293 : decode cX12_readCopy 293 = .ok (.iload_n 1, 1) := by decide +kernel
theorem dX12_readCopy_294 : decode cX12_readCopy 294 = .ok (.dup2, 1) := by decide +kernel
theorem dX12_readCopy_295 : decode cX12_readCopy 295 = .ok (.iaload, 1) := by decide +kernel
theorem dX12_readCopy_296 : decode cX12_readCopy 296 = .ok (.iconst 1, 1) := by decide +kernel
theorem dX12_readCopy_297 : decode cX12_readCopy 297 = .ok (.iadd, 1) := by decide +kernel
theorem dX12_readCopy_298 : decode cX12_readCopy 298 = .ok (.iastore, 1) := by decide +kernel
theorem dX12_readCopy_299 : decode cX12_readCopy 299 = .ok (.aload_n 0, 1) := by decide +kernel
theorem dX12_readCopy_300 : decode cX12_readCopy 300 = .ok (.getfield 146, 3) := by decide +kernel
theorem dX12_readCopy_303 : decode cX12_readCopy 303 = .ok (.sipush 700, 3) := by decide +kernel
theorem dX12_readCopy_306 : decode cX12_readCopy 306 = .ok (.iload_n 1, 1) := by decide +kernel
theorem dX12_readCopy_307 : decode cX12_readCopy 307 = .ok (.imul, 1) := by decide +kernel
theorem dX12_readCopy_308 : decode cX12_readCopy 308 = .ok (.aload_n 0, 1) := by decide +kernel
theorem dX12_readCopy_309 : decode cX12_readCopy 309 = .ok (.getfield 131, 3) := by decide +kernel
theorem dX12_readCopy_312 : decode cX12_readCopy 312 = .ok (.iload_n 1, 1) := by decide +kernel
theorem dX12_readCopy_313 : decode cX12_readCopy 313 = .ok (.iaload, 1) := by decide +kernel
theorem dX12_readCopy_314 : decode cX12_readCopy 314 = .ok (.iadd, 1) := by decide +kernel
theorem dX12_readCopy_315 : decode cX12_readCopy 315 = .ok (.aload_n 0, 1) := by decide +kernel
theorem dX12_readCopy_316 : decode cX12_readCopy 316 = .ok (.iload 6, 2) := by decide +kernel
theorem dX12_readCopy_318 : decode cX12_readCopy 318 = .ok (.aload_n 0, 1) := by decide +kernel
theorem dX12_readCopy_319 : decode cX12_readCopy 319 = .ok (.iload 5, 2) := by decide +kernel
theorem dX12_readCopy_321 : decode cX12_readCopy 321 = .ok (.iconst 4, 1) := by decide +kernel
theorem dX12_readCopy_322 : decode cX12_readCopy 322 = .ok (.iadd, 1) := by decide +kernel
theorem dX12_readCopy_323 : decode cX12_readCopy 323 = .ok (.invokevirtual 469, 3) := by decide +kernel
theorem dX12_readCopy_326 : decode cX12_readCopy 326 = .ok (.aload_n 0, 1) := by decide +kernel
theorem dX12_readCopy_327 : decode cX12_readCopy 327 = .ok (.iload 5, 2) := by decide +kernel
theorem dX12_readCopy_329 : decode cX12_readCopy 329 = .ok (.iconst 2, 1) := by decide +kernel
theorem dX12_readCopy_330 : decode cX12_readCopy 330 = .ok (.iadd, 1) := by decide +kernel
theorem dX12_readCopy_331 : decode cX12_readCopy 331 = .ok (.invokevirtual 469, 3) := by decide +kernel
theorem dX12_readCopy_334 : decode cX12_readCopy 334 = .ok (.invokevirtual 421, 3) := by decide +kernel
theorem dX12_readCopy_337 : decode cX12_readCopy 337 = .ok (.iastore, 1) := by decide +kernel
theorem dX12_readCopy_338 : decode cX12_readCopy 338 = .ok (.goto 104, 3) := by decide +kernel
theorem dX12_readCopy_341 : decode cX12_readCopy 341 = .ok (.iload 4, 2) := by decide +kernel
theorem dX12_readCopy_343 : decode cX12_readCopy 343 = .ok (.iconst 3, 1) := by decide +kernel
theorem dX12_readCopy_344 : decode cX12_readCopy 344 = .ok (.if_icmp .ne 50, 3) := by decide +kernel
theorem dX12_readCopy_347 : decode cX12_readCopy 347 = .ok (.aload_n 0, 1) := by decide +kernel
theorem dX12_readCopy_348 : decode cX12_readCopy 348 = .ok (.getfield 131, 3) := by decide +kernel
theorem dX12_readCopy_351 : decode cX12_readCopy 351 = .ok (.iload_n 1, 1) := by decide +kernel
theorem dX12_readCopy_352 : decode cX12_readCopy 352 = .ok (.aload_n 0, 1) := by decide +kernel
theorem dX12_readCopy_353 : decode cX12_readCopy 353 = .ok (.getfield 131, 3) := by decide +kernel
theorem dX12_readCopy_356 : decode cX12_readCopy 356 = .ok (.iload_n 1, 1) := by decide +kernel
theorem dX12_readCopy_357 : decode cX12_readCopy 357 = .ok (.iaload, 1) := by decide +kernel
theorem dX12_readCopy_358 : decode cX12_readCopy 358 = .ok (.aload_n 0, 1) := by decide +kernel
theorem dX12_readCopy_359 : decode cX12_readCopy 359 = .ok (.iload 5, 2) := by decide +kernel
theorem dX12_readCopy_361 : decode cX12_readCopy 361 = .ok (.invokevirtual 469, 3) := by decide +kernel
theorem dX12_readCopy_364 : decode cX12_readCopy 364 = .ok (.invokestatic 437, 3) := by decide +kernel
theorem dX12_readCopy_367 : decode cX12_readCopy 367 = .ok (.iastore, 1) := by decide +kernel
theorem dX12_readCopy_368 : decode cX12_readCopy 368 = .ok (.aload_n 0, 1) := by decide +kernel
theorem dX12_readCopy_369 : decode cX12_readCopy 369 = .ok (.getfield 125, 3) := by decide +kernel
theorem dX12_readCopy_372 : decode cX12_readCopy 372 = .ok (.iload_n 1, 1) := by decide +kernel
theorem dX12_readCopy_373 : decode cX12_readCopy 373 = .ok (.aload_n 0, 1) := by decide +kernel
theorem dX12_readCopy_374 : decode cX12_readCopy 374 = .ok (.getfield 125, 3) := by decide +kernel
theorem dX12_readCopy_377 : decode cX12_readCopy 377 = .ok (.iload_n 1, 1) := by decide +kernel
theorem dX12_readCopy_378 : decode cX12_readCopy 378 = .ok (.iaload, 1) := by decide +kernel
theorem dX12_readCopy_379 : decode cX12_readCopy 379 = .ok (.aload_n 0, 1) := by decide +kernel
theorem dX12_readCopy_380 : decode cX12_readCopy 380 = .ok (.iload 5, 2) := by decide +kernel
theorem dX12_readCopy_382 : decode cX12_readCopy 382 = .ok (.iconst 2, 1) := by decide +kernel
theorem dX12_readCopy_383 : decode cX12_readCopy 383 = .ok (.iadd, 1) := by decide +kernel
theorem dX12_readCopy_384 : decode cX12_readCopy 384 = .ok (.invokevirtual 469, 3) := by decide +kernel
theorem dX12_readCopy_387 : decode cX12_readCopy 387 = .ok (.invokestatic 425, 3) := by decide +kernel
theorem dX12_readCopy_390 : decode cX12_readCopy 390 = .ok (.iastore, 1) := by decide +kernel
theorem dX12_readCopy_391 : decode cX12_readCopy 391 = .ok (.goto 51, 3) := by decide +kernel
theorem dX12_readCopy_394 : decode cX12_readCopy 394 = .ok (.iload 4, 2) := by decide +kernel
theorem dX12_readCopy_396 : decode cX12_readCopy 396 = .ok (.iconst 4, 1) := by decide +kernel
theorem dX12_readCopy_397 : decode cX12_readCopy 397 = .ok (.if_icmp .ne 45, 3) := by decide +kernel
theorem dX12_readCopy_400 : decode cX12_readCopy 400 = .ok (.aload_n 0, 1) := by decide +kernel
theorem dX12_readCopy_401 : decode cX12_readCopy 401 = .ok (.getfield 137, 3) := by decide +kernel
theorem dX12_readCopy_404 : decode cX12_readCopy 404 = .ok (.iload_n 1, 1) := by decide +kernel
theorem dX12_readCopy_405 : decode cX12_readCopy 405 = .ok (.aload_n 0, 1) := by decide +kernel
theorem dX12_readCopy_406 : decode cX12_readCopy 406 = .ok (.getfield 137, 3) := by decide +kernel
theorem dX12_readCopy_409 : decode cX12_readCopy 409 = .ok (.iload_n 1, 1) := by decide +kernel
theorem dX12_readCopy_410 : decode cX12_readCopy 410 = .ok (.iaload, 1) := by decide +kernel
theorem dX12_readCopy_411 : decode cX12_readCopy 411 = .ok (.aload_n 0, 1) := by decide +kernel
theorem dX12_readCopy_412 : decode cX12_readCopy 412 = .ok (.iload 5, 2) := by decide +kernel
theorem dX12_readCopy_414 : decode cX12_readCopy 414 = .ok (.invokevirtual 469, 3) := by decide +kernel
theorem dX12_readCopy_417 : decode cX12_readCopy 417 = .ok (.invokestatic 425, 3) := by decide +kernel
theorem dX12_readCopy_420 : decode cX12_readCopy 420 = .ok (.iastore, 1) := by decide +kernel
theorem dX12_readCopy_421 : decode cX12_readCopy 421 = .ok (.aload_n 0, 1) := by decide +kernel
theorem dX12_readCopy_422 : decode cX12_readCopy 422 = .ok (.getfield 134, 3) := by decide +kernel
theorem dX12_readCopy_425 : decode cX12_readCopy 425 = .ok (.iload_n 1, 1) := by decide +kernel
theorem dX12_readCopy_426 : decode cX12_readCopy 426 = .ok (.aload_n 0, 1) := by decide +kernel
theorem dX12_readCopy_427 : decode cX12_readCopy 427 = .ok (.getfield 134, 3) := by decide +kernel
theorem dX12_readCopy_430 : decode cX12_readCopy 430 = .ok (.iload_n 1, 1) := by decide +kernel
theorem dX12_readCopy_431 : decode cX12_readCopy 431 = .ok (.iaload, 1) := by decide +kernel
theorem dX12_readCopy_432 : decode cX12_readCopy 432 = .ok (.aload_n 0, 1) := by decide +kernel
theorem dX12_readCopy_433 : decode cX12_readCopy 433 = .ok (.iload 5, 2) := by decide +kernel
theorem dX12_readCopy_435 : decode cX12_readCopy 435 = .ok (.invokevirtual 469, 3) := by decide +kernel
theorem dX12_readCopy_438 : decode cX12_readCopy 438 = .ok (.invokestatic 425, 3) := by decide +kernel
theorem dX12_readCopy_441 : decode cX12_readCopy 441 = .ok (.iastore, 1) := by decide +kernel
theorem dX12_readCopy_442 : decode cX12_readCopy 442 = .ok (.iload_n 3, 1) := by decide +kernel
theorem dX12_readCopy_443 : decode cX12_readCopy 443 = .ok (.iconst 3, 1) := by decide +kernel
theorem dX12_readCopy_444 : decode cX12_readCopy 444 = .ok (.aload_n 0, 1) := by decide +kernel
theorem dX12_readCopy_445 : decode cX12_readCopy 445 = .ok (.iload_n 3, 1) := by decide +kernel
theorem dX12_readCopy_446 : decode cX12_readCopy 446 = .ok (.iconst 1, 1) := by decide +kernel
theorem dX12_readCopy_447 : decode cX12_readCopy 447 = .ok (.iadd, 1) := by decide +kernel
theorem dX12_readCopy_448 : decode cX12_readCopy 448 = .ok (.invokevirtual 459, 3) := by decide +kernel
theorem dX12_readCopy_451 : decode cX12_readCopy 451 = .ok (.iadd, 1) := by decide +kernel
theorem dX12_readCopy_452 : decode cX12_readCopy 452 = .ok (.iadd, 1) := by decide +kernel
theorem dX12_readCopy_453 : decode cX12_readCopy 453 = .ok (.istore_n 3, 1) := by decide +kernel
theorem dX12_readCopy_454 : decode cX12_readCopy 454 = .ok (.goto (-383), 3) := by decide +kernel
theorem dX12_readCopy_457 : decode cX12_readCopy 457 = .ok (.aload_n 0, 1) := by decide +kernel
theorem dX12_readCopy_458 : decode cX12_readCopy 458 = .ok (.getfield 134, 3) := by decide +kernel
theorem dX12_readCopy_461 : decode cX12_readCopy 461 = .ok (.iload_n 1, 1) := by decide +kernel
theorem dX12_readCopy_462 : decode cX12_readCopy 462 = .ok (.aload_n 0, 1) := by decide +kernel
theorem dX12_readCopy_463 : decode cX12_readCopy 463 = .ok (.getfield 134, 3) := by decide +kernel
theorem dX12_readCopy_466 : decode cX12_readCopy 466 = .ok (.iload_n 1, 1) := by decide +kernel
theorem dX12_readCopy_467 : decode cX12_readCopy 467 = .ok (.iaload, 1) := by decide +kernel
theorem dX12_readCopy_468 : decode cX12_readCopy 468 = .ok (.aload_n 0, 1) := by decide +kernel
theorem dX12_readCopy_469 : decode cX12_readCopy 469 = .ok (.getfield 131, 3) := by decide +kernel
theorem dX12_readCopy_472 : decode cX12_readCopy 472 = .ok (.iload_n 1, 1) := by decide +kernel
theorem dX12_readCopy_473 : decode cX12_readCopy 473 = .ok (.iaload, 1) := by decide +kernel
theorem dX12_readCopy_474 : decode cX12_readCopy 474 = .ok (.invokestatic 437, 3) := by decide +kernel
theorem dX12_readCopy_477 : decode cX12_readCopy 477 = .ok (.iastore, 1) := by decide +kernel
theorem dX12_readCopy_478 : decode cX12_readCopy 478 = .ok (.aload_n 0, 1) := by decide +kernel
theorem dX12_readCopy_479 : decode cX12_readCopy 479 = .ok (.getfield 137, 3) := by decide +kernel
theorem dX12_readCopy_482 : decode cX12_readCopy 482 = .ok (.iload_n 1, 1) := by decide +kernel
theorem dX12_readCopy_483 : decode cX12_readCopy 483 = .ok (.aload_n 0, 1) := by decide +kernel
theorem dX12_readCopy_484 : decode cX12_readCopy 484 = .ok (.getfield 137, 3) := by decide +kernel
theorem dX12_readCopy_487 : decode cX12_readCopy 487 = .ok (.iload_n 1, 1) := by decide +kernel
theorem dX12_readCopy_488 : decode cX12_readCopy 488 = .ok (.iaload, 1) := by decide +kernel
theorem dX12_readCopy_489 : decode cX12_readCopy 489 = .ok (.aload_n 0, 1) := by decide +kernel
theorem dX12_readCopy_490 : decode cX12_readCopy 490 = .ok (.getfield 131, 3) := by decide +kernel
theorem dX12_readCopy_493 : decode cX12_readCopy 493 = .ok (.iload_n 1, 1) := by decide +kernel
theorem dX12_readCopy_494 : decode cX12_readCopy 494 = .ok (.iaload, 1) := by decide +kernel
theorem dX12_readCopy_495 : decode cX12_readCopy 495 = .ok (.invokestatic 437, 3) := by decide +kernel
theorem dX12_readCopy_498 : decode cX12_readCopy 498 = .ok (.iastore, 1) := by decide +kernel
theorem dX12_readCopy_499 : decode cX12_readCopy 499 = .ok (.aload_n 0, 1) := by decide +kernel
theorem dX12_readCopy_500 : decode cX12_readCopy 500 = .ok (.getfield 194, 3) := by decide +kernel
theorem dX12_readCopy_503 : decode cX12_readCopy 503 = .ok (.iload_n 1, 1) := by decide +kernel
theorem dX12_readCopy_504 : decode cX12_readCopy 504 = .ok (.iconst 0, 1) := by decide +kernel
theorem dX12_readCopy_505 : decode cX12_readCopy 505 = .ok (.iastore, 1) := by decide +kernel
theorem dX12_readCopy_506 : decode cX12_readCopy 506 = .ok (.aload_n 0, 1) := by decide +kernel
theorem dX12_readCopy_507 : decode cX12_readCopy 507 = .ok (.iload_n 1, 1) := by decide +kernel
theorem dX12_readCopy_508 : decode cX12_readCopy 508 = .ok (.aload_n 0, 1) := by decide +kernel
theorem dX12_readCopy_509 : decode cX12_readCopy 509 = .ok (.getfield 137, 3) := by decide +kernel
theorem dX12_readCopy_512 : decode cX12_readCopy 512 = .ok (.iload_n 1, 1) := by decide +kernel
theorem dX12_readCopy_513 : decode cX12_readCopy 513 = .ok (.iaload, 1) := by decide +kernel
theorem dX12_readCopy_514 : decode cX12_readCopy 514 = .ok (.invokevirtual 428, 3) := by decide +kernel
theorem dX12_readCopy_517 : decode cX12_readCopy 517 = .ok (.aload_n 0, 1) := by decide +kernel
theorem dX12_readCopy_518 : decode cX12_readCopy 518 = .ok (.getfield 140, 3) := by decide +kernel
theorem dX12_readCopy_521 : decode cX12_readCopy 521 = .ok (.iload_n 1, 1) := by decide +kernel
theorem dX12_readCopy_522 : decode cX12_readCopy 522 = .ok (.iconst 0, 1) := by decide +kernel
theorem dX12_readCopy_523 : decode cX12_readCopy 523 = .ok (.iastore, 1) := by decide +kernel
theorem dX12_readCopy_524 : decode cX12_readCopy 524 = .ok (.aload_n 0, 1) := by decide +kernel
theorem dX12_readCopy_525 : decode cX12_readCopy 525 = .ok (.getfield 149, 3) := by decide +kernel
theorem dX12_readCopy_528 : decode cX12_readCopy 528 = .ok (.iload_n 1, 1) := by decide +kernel
theorem dX12_readCopy_529 : decode cX12_readCopy 529 = .ok (.iconst 0, 1) := by decide +kernel
theorem dX12_readCopy_530 : decode cX12_readCopy 530 = .ok (.iastore, 1) := by decide +kernel
theorem dX12_readCopy_531 : decode cX12_readCopy 531 = .ok (.aload_n 0, 1) := by decide +kernel
theorem dX12_readCopy_532 : decode cX12_readCopy 532 = .ok (.getfield 143, 3) := by decide +kernel
theorem dX12_readCopy_535 : decode cX12_readCopy 535 = .ok (.iload_n 1, 1) := by decide +kernel
theorem dX12_readCopy_536 : decode cX12_readCopy 536 = .ok (.iconst 0, 1) := by decide +kernel
theorem dX12_readCopy_537 : decode cX12_readCopy 537 = .ok (.iastore, 1) := by decide +kernel
theorem dX12_readCopy_538 : decode cX12_readCopy 538 = .ok (.aload_n 0, 1) := by decide +kernel
theorem dX12_readCopy_539 : decode cX12_readCopy 539 = .ok (.iload_n 1, 1) := by decide +kernel
theorem dX12_readCopy_540 : decode cX12_readCopy 540 = .ok (.iconst 0, 1) := by decide +kernel
theorem dX12_readCopy_541 : decode cX12_readCopy 541 = .ok (.iconst (-1), 1) := by decide +kernel
theorem dX12_readCopy_542 : decode cX12_readCopy 542 = .ok (.iconst 0, 1) := by decide +kernel
theorem dX12_readCopy_543 : decode cX12_readCopy 543 = .ok (.iconst 0, 1) := by decide +kernel
theorem dX12_readCopy_544 : decode cX12_readCopy 544 = .ok (.invokevirtual 348, 3) := by decide +kernel
theorem dX12_readCopy_547 : decode cX12_readCopy 547 = .ok (.iconst 0, 1) := by decide +kernel
theorem dX12_readCopy_548 : decode cX12_readCopy 548 = .ok (.istore 4, 2) := by decide +kernel
theorem dX12_readCopy_550 : decode cX12_readCopy 550 = .ok (.iload 4, 2) := by decide +kernel
theorem dX12_readCopy_552 : decode cX12_readCopy 552 = .ok (.iconst 5, 1) := by decide +kernel
theorem dX12_readCopy_553 : decode cX12_readCopy 553 = .ok (.if_icmp .ge 33, 3) := by decide +kernel
theorem dX12_readCopy_556 : decode cX12_readCopy 556 = .ok (.aload_n 0, 1) := by decide +kernel
theorem dX12_readCopy_557 : decode cX12_readCopy 557 = .ok (.getfield 158, 3) := by decide +kernel
theorem dX12_readCopy_560 : decode cX12_readCopy 560 = .ok (.iconst 5, 1) := by decide +kernel
theorem dX12_readCopy_561 : decode cX12_readCopy 561 = .ok (.iload_n 1, 1) := by decide +kernel
theorem dX12_readCopy_562 : decode cX12_readCopy 562 = .ok (.imul, 1) := by decide +kernel
theorem dX12_readCopy_563 : decode cX12_readCopy 563 = .ok (.iload 4, 2) := by decide +kernel
theorem dX12_readCopy_565 : decode cX12_readCopy 565 = .ok (.iadd, 1) := by decide +kernel
theorem dX12_readCopy_566 : decode cX12_readCopy 566 = .ok (.iconst 0, 1) := by decide +kernel
theorem dX12_readCopy_567 : decode cX12_readCopy 567 = .ok (.iastore, 1) := by decide +kernel
theorem dX12_readCopy_568 : decode cX12_readCopy 568 = .ok (.aload_n 0, 1) := by decide +kernel
theorem dX12_readCopy_569 : decode cX12_readCopy 569 = .ok (.getfield 170, 3) := by decide +kernel
theorem dX12_readCopy_572 : decode cX12_readCopy 572 = .ok (.iconst 5, 1) := by decide +kernel
theorem dX12_readCopy_573 : decode cX12_readCopy 573 = .ok (.iload_n 1, 1) := by decide +kernel
theorem dX12_readCopy_574 : decode cX12_readCopy 574 = .ok (.imul, 1) := by decide +kernel
theorem dX12_readCopy_575 : decode cX12_readCopy 575 = .ok (.iload 4, 2) := by decide +kernel
theorem dX12_readCopy_577 : decode cX12_readCopy 577 = .ok (.iadd, 1) := by decide +kernel
theorem dX12_readCopy_578 : decode cX12_readCopy 578 = .ok (.iconst 0, 1) := by decide +kernel
theorem dX12_readCopy_579 : decode cX12_readCopy 579 = .ok (.iastore, 1) := by decide +kernel
theorem dX12_readCopy_580 : decode cX12_readCopy 580 = .ok (.iinc 4 1, 3) := by decide +kernel
theorem dX12_readCopy_583 : decode cX12_readCopy 583 = .ok (.goto (-33), 3) := by decide +kernel
theorem dX12_readCopy_586 : decode cX12_readCopy 586 = .ok (.return_, 1) := by decide +kernel
theorem dX12_readViews_0 : decode cX12_readViews 0 = .ok (.sipush 4042, 3) := by decide +kernel
theorem dX12_readViews_3 : decode cX12_readViews 3 = .ok (.bipush 100, 2) := by decide +kernel
theorem dX12_readViews_5 : decode cX12_readViews 5 = .ok (.aload_n 0, 1) := by decide +kernel
theorem dX12_readViews_6 : decode cX12_readViews 6 = .ok (.getfield 94, 3) := by decide +kernel
theorem dX12_readViews_9 : decode cX12_readViews 9 = .ok (.bipush 20, 2) := by decide +kernel
theorem dX12_readViews_11 : decode cX12_readViews 11 = .ok (.iaload, 1) := by decide +kernel
theorem dX12_readViews_12 : decode cX12_readViews 12 = .ok (.iconst 2, 1) := by decide +kernel
theorem dX12_readViews_13 : decode cX12_readViews 13 = .ok (.irem, 1) := by decide +kernel
theorem dX12_readViews_14 : decode cX12_readViews 14 = .ok (.imul, 1) := by decide +kernel
theorem dX12_readViews_15 : decode cX12_readViews 15 = .ok (.iadd, 1) := by decide +kernel
theorem dX12_readViews_16 : decode cX12_readViews 16 = .ok (.bipush 64, 2) := by decide +kernel
theorem dX12_readViews_18 : decode cX12_readViews 18 = .ok (.imul, 1) := by decide +kernel
theorem dX12_readViews_19 : decode cX12_readViews 19 = .ok (.istore_n 1, 1) := by decide +kernel
theorem dX12_readViews_20 : decode cX12_readViews 20 = .ok (.iload_n 1, 1) := by decide +kernel
theorem dX12_readViews_21 : decode cX12_readViews 21 = .ok (.istore_n 2, 1) := by decide +kernel
theorem dX12_readViews_22 : decode cX12_readViews 22 = .ok (.iload_n 2, 1) := by decide +kernel
theorem dX12_readViews_23 : decode cX12_readViews 23 = .ok (.iload_n 1, 1) := by decide +kernel
theorem dX12_readViews_24 : decode cX12_readViews 24 = .ok (.aload_n 0, 1) := by decide +kernel
theorem dX12_readViews_25 : decode cX12_readViews 25 = .ok (.getfield 91, 3) := by decide +kernel
theorem dX12_readViews_28 : decode cX12_readViews 28 = .ok (.bipush 20, 2) := by decide +kernel
theorem dX12_readViews_30 : decode cX12_readViews 30 = .ok (.iaload, 1) := by decide +kernel
theorem dX12_readViews_31 : decode cX12_readViews 31 = .ok (.iadd, 1) := by decide +kernel
theorem dX12_readViews_32 : decode cX12_readViews 32 = .ok (.if_icmp .ge 62, 3) := by decide +kernel
theorem dX12_readViews_35 : decode cX12_readViews 35 = .ok (.iload_n 2, 1) := by decide +kernel
theorem dX12_readViews_36 : decode cX12_readViews 36 = .ok (.iconst 2, 1) := by decide +kernel
theorem dX12_readViews_37 : decode cX12_readViews 37 = .ok (.iadd, 1) := by decide +kernel
theorem dX12_readViews_38 : decode cX12_readViews 38 = .ok (.istore_n 3, 1) := by decide +kernel
theorem dX12_readViews_39 : decode cX12_readViews 39 = .ok (.aload_n 0, 1) := by decide +kernel
theorem dX12_readViews_40 : decode cX12_readViews 40 = .ok (.bipush 20, 2) := by decide +kernel
theorem dX12_readViews_42 : decode cX12_readViews 42 = .ok (.aload_n 0, 1) := by decide +kernel
theorem dX12_readViews_43 : decode cX12_readViews 43 = .ok (.iload_n 3, 1) := by decide +kernel
theorem dX12_readViews_44 : decode cX12_readViews 44 = .ok (.invokevirtual 459, 3) := by decide +kernel
theorem dX12_readViews_47 : decode cX12_readViews 47 = .ok (.iadd, 1) := by decide +kernel
theorem dX12_readViews_48 : decode cX12_readViews 48 = .ok (.aload_n 0, 1) := by decide +kernel
theorem dX12_readViews_49 : decode cX12_readViews 49 = .ok (.iload_n 3, 1) := by decide +kernel
theorem dX12_readViews_50 : decode cX12_readViews 50 = .ok (.iconst 1, 1) := by decide +kernel
theorem dX12_readViews_51 : decode cX12_readViews 51 = .ok (.iadd, 1) := by decide +kernel
theorem dX12_readViews_52 : decode cX12_readViews 52 = .ok (.invokevirtual 469, 3) := by decide +kernel
theorem dX12_readViews_55 : decode cX12_readViews 55 = .ok (.aload_n 0, 1) := by decide +kernel
theorem dX12_readViews_56 : decode cX12_readViews 56 = .ok (.iload_n 3, 1) := by decide +kernel
theorem dX12_readViews_57 : decode cX12_readViews 57 = .ok (.iconst 3, 1) := by decide +kernel
theorem dX12_readViews_58 : decode cX12_readViews 58 = .ok (.iadd, 1) := by decide +kernel
theorem dX12_readViews_59 : decode cX12_readViews 59 = .ok (.invokevirtual 459, 3) := by decide +kernel
theorem dX12_readViews_62 : decode cX12_readViews 62 = .ok (.aload_n 0, 1) := by decide +kernel
theorem dX12_readViews_63 : decode cX12_readViews 63 = .ok (.iload_n 3, 1) := by decide +kernel
theorem dX12_readViews_64 : decode cX12_readViews 64 = .ok (.iconst 4, 1) := by decide +kernel
theorem dX12_readViews_65 : decode cX12_readViews 65 = .ok (.iadd, 1) := by decide +kernel
theorem dX12_readViews_66 : decode cX12_readViews 66 = .ok (.invokevirtual 459, 3) := by decide +kernel
theorem dX12_readViews_69 : decode cX12_readViews 69 = .ok (.aload_n 0, 1) := by decide +kernel
theorem dX12_readViews_70 : decode cX12_readViews 70 = .ok (.iload_n 3, 1) := by decide +kernel
theorem dX12_readViews_71 : decode cX12_readViews 71 = .ok (.iconst 5, 1) := by decide +kernel
theorem dX12_readViews_72 : decode cX12_readViews 72 = .ok (.iadd, 1) := by decide +kernel
theorem dX12_readViews_73 : decode cX12_readViews 73 = .ok (.invokevirtual 469, 3) := by decide +kernel
theorem dX12_readViews_76 : decode cX12_readViews 76 = .ok (.invokevirtual 348, 3) := by decide +kernel
theorem dX12_readViews_79 : decode cX12_readViews 79 = .ok (.iload_n 2, 1) := by decide +kernel
theorem dX12_readViews_80 : decode cX12_readViews 80 = .ok (.iconst 3, 1) := by decide +kernel
theorem dX12_readViews_81 : decode cX12_readViews 81 = .ok (.aload_n 0, 1) := by decide +kernel
theorem dX12_readViews_82 : decode cX12_readViews 82 = .ok (.iload_n 2, 1) := by decide +kernel
theorem dX12_readViews_83 : decode cX12_readViews 83 = .ok (.iconst 1, 1) := by decide +kernel
theorem dX12_readViews_84 : decode cX12_readViews 84 = .ok (.iadd, 1) := by decide +kernel
theorem dX12_readViews_85 : decode cX12_readViews 85 = .ok (.invokevirtual 459, 3) := by decide +kernel
theorem dX12_readViews_88 : decode cX12_readViews 88 = .ok (.iadd, 1) := by decide +kernel
theorem dX12_readViews_89 : decode cX12_readViews 89 = .ok (.iadd, 1) := by decide +kernel
theorem dX12_readViews_90 : decode cX12_readViews 90 = .ok (.istore_n 2, 1) := by decide +kernel
theorem dX12_readViews_91 : decode cX12_readViews 91 = .ok (.goto (-69), 3) := by decide +kernel
theorem dX12_readViews_94 : decode cX12_readViews 94 = .ok (.iconst 0, 1) := by decide +kernel
theorem dX12_readViews_95 : decode cX12_readViews 95 = .ok (.istore_n 3, 1) := by decide +kernel
theorem dX12_readViews_96 : decode cX12_readViews 96 = .ok (.iload_n 3, 1) := by decide +kernel
theorem dX12_readViews_97 : decode cX12_readViews 97 = .ok (.iconst 5, 1) := by decide +kernel
theorem dX12_readViews_98 : decode cX12_readViews 98 = .ok (.if_icmp .ge 26, 3) := by decide +kernel
theorem dX12_readViews_101 : decode cX12_readViews 101 = .ok (.aload_n 0, 1) := by decide +kernel
theorem dX12_readViews_102 : decode cX12_readViews 102 = .ok (.getfield 188, 3) := by decide +kernel
theorem dX12_readViews_105 : decode cX12_readViews 105 = .ok (.iload_n 3, 1) := by decide +kernel
theorem dX12_readViews_106 : decode cX12_readViews 106 = .ok (.iconst 1, 1) := by decide +kernel
theorem dX12_readViews_107 : decode cX12_readViews 107 = .ok (.bastore, 1) := by decide +kernel
theorem dX12_readViews_108 : decode cX12_readViews 108 = .ok (.aload_n 0, 1) := by decide +kernel
theorem dX12_readViews_109 : decode cX12_readViews 109 = .ok (.getfield 191, 3) := by decide +kernel
theorem dX12_readViews_112 : decode cX12_readViews 112 = .ok (.iload_n 3, 1) := by decide +kernel
theorem dX12_readViews_113 : decode cX12_readViews 113 = .ok (.aload_n 0, 1) := by decide +kernel
theorem dX12_readViews_114 : decode cX12_readViews 114 = .ok (.getfield 330, 3) := by decide +kernel
theorem dX12_readViews_117 : decode cX12_readViews 117 = .ok (.iastore, 1) := by decide +kernel
theorem dX12_readViews_118 : decode cX12_readViews 118 = .ok (.iinc 3 1, 3) := by decide +kernel
theorem dX12_readViews_121 : decode cX12_readViews 121 = .ok (.goto (-25), 3) := by decide +kernel
theorem dX12_readViews_124 : decode cX12_readViews 124 = .ok (.return_, 1) := by decide +kernel
theorem dX12_rise_0 : decode cX12_rise 0 = .ok (.aload_n 0, 1) := by decide +kernel
theorem dX12_rise_1 : decode cX12_rise 1 = .ok (.getfield 77, 3) := by decide +kernel
theorem dX12_rise_4 : decode cX12_rise 4 = .ok (.iload_n 1, 1) := by decide +kernel
theorem dX12_rise_5 : decode cX12_rise 5 = .ok (.iconst 1, 1) := by decide +kernel
theorem dX12_rise_6 : decode cX12_rise 6 = .ok (.bastore, 1) := by decide +kernel
theorem dX12_rise_7 : decode cX12_rise 7 = .ok (.iload_n 1, 1) := by decide +kernel
theorem dX12_rise_8 : decode cX12_rise 8 = .ok (.aload_n 0, 1) := by decide +kernel
theorem dX12_rise_9 : decode cX12_rise 9 = .ok (.getfield 321, 3) := by decide +kernel
theorem dX12_rise_12 : decode cX12_rise 12 = .ok (.if_icmp .ne 20, 3) := by decide +kernel
theorem dX12_rise_15 : decode cX12_rise 15 = .ok (.aload_n 0, 1) := by decide +kernel
theorem dX12_rise_16 : decode cX12_rise 16 = .ok (.bipush 20, 2) := by decide +kernel
theorem dX12_rise_18 : decode cX12_rise 18 = .ok (.invokevirtual 472, 3) := by decide +kernel
theorem dX12_rise_21 : decode cX12_rise 21 = .ok (.ifCond .ne 5, 3) := by decide +kernel
theorem dX12_rise_24 : decode cX12_rise 24 = .ok (.iconst 0, 1) := by decide +kernel
theorem dX12_rise_25 : decode cX12_rise 25 = .ok (.ireturn, 1) := by decide +kernel
theorem dX12_rise_26 : decode cX12_rise 26 = .ok (.aload_n 0, 1) := by decide +kernel
theorem dX12_rise_27 : decode cX12_rise 27 = .ok (.invokevirtual 475, 3) := by decide +kernel
theorem dX12_rise_30 : decode cX12_rise 30 = .ok (.iconst 1, 1) := by decide +kernel
theorem dX12_rise_31 : decode cX12_rise 31 = .ok (.ireturn, 1) := by decide +kernel
theorem dX12_rise_32 : decode cX12_rise 32 = .ok (.iconst 0, 1) := by decide +kernel
theorem dX12_rise_33 : decode cX12_rise 33 = .ok (.istore_n 2, 1) := by decide +kernel
theorem dX12_rise_34 : decode cX12_rise 34 = .ok (.iload_n 2, 1) := by decide +kernel
theorem dX12_rise_35 : decode cX12_rise 35 = .ok (.aload_n 0, 1) := by decide +kernel
theorem dX12_rise_36 : decode cX12_rise 36 = .ok (.getfield 327, 3) := by decide +kernel
theorem dX12_rise_39 : decode cX12_rise 39 = .ok (.if_icmp .ge 43, 3) := by decide +kernel
theorem dX12_rise_42 : decode cX12_rise 42 = .ok (.aload_n 0, 1) := by decide +kernel
theorem dX12_rise_43 : decode cX12_rise 43 = .ok (.iload_n 1, 1) := by decide +kernel
theorem dX12_rise_44 : decode cX12_rise 44 = .ok (.iload_n 2, 1) := by decide +kernel
theorem dX12_rise_45 : decode cX12_rise 45 = .ok (.invokevirtual 352, 3) := by decide +kernel
theorem dX12_rise_48 : decode cX12_rise 48 = .ok (.ifCond .eq 28, 3) := by decide +kernel
theorem dX12_rise_51 : decode cX12_rise 51 = .ok (.aload_n 0, 1) := by decide +kernel
theorem dX12_rise_52 : decode cX12_rise 52 = .ok (.aload_n 0, 1) := by decide +kernel
theorem dX12_rise_53 : decode cX12_rise 53 = .ok (.iload_n 1, 1) := by decide +kernel
theorem dX12_rise_54 : decode cX12_rise 54 = .ok (.iload_n 2, 1) := by decide +kernel
theorem dX12_rise_55 : decode cX12_rise 55 = .ok (.invokevirtual 364, 3) := by decide +kernel
theorem dX12_rise_58 : decode cX12_rise 58 = .ok (.invokevirtual 472, 3) := by decide +kernel
theorem dX12_rise_61 : decode cX12_rise 61 = .ok (.ifCond .ne 5, 3) := by decide +kernel
theorem dX12_rise_64 : decode cX12_rise 64 = .ok (.iconst 0, 1) := by decide +kernel
theorem dX12_rise_65 : decode cX12_rise 65 = .ok (.ireturn, 1) := by decide +kernel
theorem dX12_rise_66 : decode cX12_rise 66 = .ok (.aload_n 0, 1) := by decide +kernel
theorem dX12_rise_67 : decode cX12_rise 67 = .ok (.aload_n 0, 1) := by decide +kernel
theorem dX12_rise_68 : decode cX12_rise 68 = .ok (.iload_n 1, 1) := by decide +kernel
theorem dX12_rise_69 : decode cX12_rise 69 = .ok (.iload_n 2, 1) := by decide +kernel
theorem dX12_rise_70 : decode cX12_rise 70 = .ok (.invokevirtual 364, 3) := by decide +kernel
theorem dX12_rise_73 : decode cX12_rise 73 = .ok (.invokevirtual 478, 3) := by decide +kernel
theorem dX12_rise_76 : decode cX12_rise 76 = .ok (.iinc 2 1, 3) := by decide +kernel
theorem dX12_rise_79 : decode cX12_rise 79 = .ok (.goto (-45), 3) := by decide +kernel
theorem dX12_rise_82 : decode cX12_rise 82 = .ok (.aload_n 0, 1) := by decide +kernel
theorem dX12_rise_83 : decode cX12_rise 83 = .ok (.getfield 219, 3) := by decide +kernel
theorem dX12_rise_86 : decode cX12_rise 86 = .ok (.iconst 0, 1) := by decide +kernel
theorem dX12_rise_87 : decode cX12_rise 87 = .ok (.bipush 15, 2) := by decide +kernel
theorem dX12_rise_89 : decode cX12_rise 89 = .ok (.iastore, 1) := by decide +kernel
theorem dX12_rise_90 : decode cX12_rise 90 = .ok (.aload_n 0, 1) := by decide +kernel
theorem dX12_rise_91 : decode cX12_rise 91 = .ok (.iload_n 1, 1) := by decide +kernel
theorem dX12_rise_92 : decode cX12_rise 92 = .ok (.aload_n 0, 1) := by decide +kernel
theorem dX12_rise_93 : decode cX12_rise 93 = .ok (.getfield 321, 3) := by decide +kernel
theorem dX12_rise_96 : decode cX12_rise 96 = .ok (.iconst 1, 1) := by decide +kernel
theorem dX12_rise_97 : decode cX12_rise 97 = .ok (.invokevirtual 446, 3) := by decide +kernel
theorem dX12_rise_100 : decode cX12_rise 100 = .ok (.iconst 1, 1) := by decide +kernel
theorem dX12_rise_101 : decode cX12_rise 101 = .ok (.ireturn, 1) := by decide +kernel
theorem dX12_liveRequest_0 : decode cX12_liveRequest 0 = .ok (.iconst 5, 1) := by decide +kernel
theorem dX12_liveRequest_1 : decode cX12_liveRequest 1 = .ok (.iload_n 1, 1) := by decide +kernel
theorem dX12_liveRequest_2 : decode cX12_liveRequest 2 = .ok (.imul, 1) := by decide +kernel
theorem dX12_liveRequest_3 : decode cX12_liveRequest 3 = .ok (.istore_n 3, 1) := by decide +kernel
theorem dX12_liveRequest_4 : decode cX12_liveRequest 4 = .ok (.iload_n 3, 1) := by decide +kernel
theorem dX12_liveRequest_5 : decode cX12_liveRequest 5 = .ok (.iconst 5, 1) := by decide +kernel
theorem dX12_liveRequest_6 : decode cX12_liveRequest 6 = .ok (.iload_n 1, 1) := by decide +kernel
theorem dX12_liveRequest_7 : decode cX12_liveRequest 7 = .ok (.imul, 1) := by decide +kernel
theorem dX12_liveRequest_8 : decode cX12_liveRequest 8 = .ok (.aload_n 0, 1) := by decide +kernel
theorem dX12_liveRequest_9 : decode cX12_liveRequest 9 = .ok (.getfield 194, 3) := by decide +kernel
theorem dX12_liveRequest_12 : decode cX12_liveRequest 12 = .ok (.iload_n 1, 1) := by decide +kernel
theorem dX12_liveRequest_13 : decode cX12_liveRequest 13 = .ok (.iaload, 1) := by decide +kernel
theorem dX12_liveRequest_14 : decode cX12_liveRequest 14 = .ok (.iadd, 1) := by decide +kernel
theorem dX12_liveRequest_15 : decode cX12_liveRequest 15 = .ok (.if_icmp .ge 73, 3) := by decide +kernel
theorem dX12_liveRequest_18 : decode cX12_liveRequest 18 = .ok (.iconst 0, 1) := by decide +kernel
theorem dX12_liveRequest_19 : decode cX12_liveRequest 19 = .ok (.istore 4, 2) := by decide +kernel
theorem dX12_liveRequest_21 : decode cX12_liveRequest 21 = .ok (.iload 4, 2) := by decide +kernel
theorem dX12_liveRequest_23 : decode cX12_liveRequest 23 = .ok (.aload_n 0, 1) := by decide +kernel
theorem dX12_liveRequest_24 : decode cX12_liveRequest 24 = .ok (.getfield 197, 3) := by decide +kernel
theorem dX12_liveRequest_27 : decode cX12_liveRequest 27 = .ok (.iload_n 3, 1) := by decide +kernel
theorem dX12_liveRequest_28 : decode cX12_liveRequest 28 = .ok (.iaload, 1) := by decide +kernel
theorem dX12_liveRequest_29 : decode cX12_liveRequest 29 = .ok (.if_icmp .ge 53, 3) := by decide +kernel
theorem dX12_liveRequest_32 : decode cX12_liveRequest 32 = .ok (.aload_n 0, 1) := by decide +kernel
theorem dX12_liveRequest_33 : decode cX12_liveRequest 33 = .ok (.getfield 206, 3) := by decide +kernel
theorem dX12_liveRequest_36 : decode cX12_liveRequest 36 = .ok (.bipush 100, 2) := by decide +kernel
theorem dX12_liveRequest_38 : decode cX12_liveRequest 38 = .ok (.iload_n 3, 1) := by decide +kernel
theorem dX12_liveRequest_39 : decode cX12_liveRequest 39 = .ok (.imul, 1) := by decide +kernel
theorem dX12_liveRequest_40 : decode cX12_liveRequest 40 = .ok (.iload 4, 2) := by decide +kernel
theorem dX12_liveRequest_42 : decode cX12_liveRequest 42 = .ok (.iadd, 1) := by decide +kernel
theorem dX12_liveRequest_43 : decode cX12_liveRequest 43 = .ok (.baload, 1) := by decide +kernel
theorem dX12_liveRequest_44 : decode cX12_liveRequest 44 = .ok (.ifCond .eq 32, 3) := by decide +kernel
theorem dX12_liveRequest_47 : decode cX12_liveRequest 47 = .ok (.aload_n 0, 1) := by decide +kernel
theorem dX12_liveRequest_48 : decode cX12_liveRequest 48 = .ok (.getfield 200, 3) := by decide +kernel
theorem dX12_liveRequest_51 : decode cX12_liveRequest 51 = .ok (.bipush 100, 2) := by decide +kernel
theorem dX12_liveRequest_53 : decode cX12_liveRequest 53 = .ok (.iload_n 3, 1) := by decide +kernel
theorem dX12_liveRequest_54 : decode cX12_liveRequest 54 = .ok (.imul, 1) := by decide +kernel
theorem dX12_liveRequest_55 : decode cX12_liveRequest 55 = .ok (.iload 4, 2) := by decide +kernel
theorem dX12_liveRequest_57 : decode cX12_liveRequest 57 = .ok (.iadd, 1) := by decide +kernel
theorem dX12_liveRequest_58 : decode cX12_liveRequest 58 = .ok (.iaload, 1) := by decide +kernel
theorem dX12_liveRequest_59 : decode cX12_liveRequest 59 = .ok (.iload_n 2, 1) := by decide +kernel
theorem dX12_liveRequest_60 : decode cX12_liveRequest 60 = .ok (.if_icmp .ne 16, 3) := by decide +kernel
theorem dX12_liveRequest_63 : decode cX12_liveRequest 63 = .ok (.aload_n 0, 1) := by decide +kernel
theorem dX12_liveRequest_64 : decode cX12_liveRequest 64 = .ok (.getfield 203, 3) := by decide +kernel
theorem dX12_liveRequest_67 : decode cX12_liveRequest 67 = .ok (.bipush 100, 2) := by decide +kernel
theorem dX12_liveRequest_69 : decode cX12_liveRequest 69 = .ok (.iload_n 3, 1) := by decide +kernel
theorem dX12_liveRequest_70 : decode cX12_liveRequest 70 = .ok (.imul, 1) := by decide +kernel
theorem dX12_liveRequest_71 : decode cX12_liveRequest 71 = .ok (.iload 4, 2) := by decide +kernel
theorem dX12_liveRequest_73 : decode cX12_liveRequest 73 = .ok (.iadd, 1) := by decide +kernel
theorem dX12_liveRequest_74 : decode cX12_liveRequest 74 = .ok (.iaload, 1) := by decide +kernel
theorem dX12_liveRequest_75 : decode cX12_liveRequest 75 = .ok (.ireturn, 1) := by decide +kernel
theorem dX12_liveRequest_76 : decode cX12_liveRequest 76 = .ok (.iinc 4 1, 3) := by decide +kernel
theorem dX12_liveRequest_79 : decode cX12_liveRequest 79 = .ok (.goto (-58), 3) := by decide +kernel
theorem dX12_liveRequest_82 : decode cX12_liveRequest 82 = .ok (.iinc 3 1, 3) := by decide +kernel
theorem dX12_liveRequest_85 : decode cX12_liveRequest 85 = .ok (.goto (-81), 3) := by decide +kernel
theorem dX12_liveRequest_88 : decode cX12_liveRequest 88 = .ok (.iconst (-1), 1) := by decide +kernel
theorem dX12_liveRequest_89 : decode cX12_liveRequest 89 = .ok (.ireturn, 1) := by decide +kernel
theorem dX12_kill_0 : decode cX12_kill 0 = .ok (.iconst 5, 1) := by decide +kernel
theorem dX12_kill_1 : decode cX12_kill 1 = .ok (.iload_n 1, 1) := by decide +kernel
theorem dX12_kill_2 : decode cX12_kill 2 = .ok (.imul, 1) := by decide +kernel
theorem dX12_kill_3 : decode cX12_kill 3 = .ok (.istore_n 3, 1) := by decide +kernel
theorem dX12_kill_4 : decode cX12_kill 4 = .ok (.iload_n 3, 1) := by decide +kernel
theorem dX12_kill_5 : decode cX12_kill 5 = .ok (.iconst 5, 1) := by decide +kernel
theorem dX12_kill_6 : decode cX12_kill 6 = .ok (.iload_n 1, 1) := by decide +kernel
theorem dX12_kill_7 : decode cX12_kill 7 = .ok (.imul, 1) := by decide +kernel
theorem dX12_kill_8 : decode cX12_kill 8 = .ok (.aload_n 0, 1) := by decide +kernel
theorem dX12_kill_9 : decode cX12_kill 9 = .ok (.getfield 194, 3) := by decide +kernel
theorem dX12_kill_12 : decode cX12_kill 12 = .ok (.iload_n 1, 1) := by decide +kernel
theorem dX12_kill_13 : decode cX12_kill 13 = .ok (.iaload, 1) := by decide +kernel
theorem dX12_kill_14 : decode cX12_kill 14 = .ok (.iadd, 1) := by decide +kernel
theorem dX12_kill_15 : decode cX12_kill 15 = .ok (.if_icmp .ge 58, 3) := by decide +kernel
theorem dX12_kill_18 : decode cX12_kill 18 = .ok (.iconst 0, 1) := by decide +kernel
theorem dX12_kill_19 : decode cX12_kill 19 = .ok (.istore 4, 2) := by decide +kernel
theorem dX12_kill_21 : decode cX12_kill 21 = .ok (.iload 4, 2) := by decide +kernel
theorem dX12_kill_23 : decode cX12_kill 23 = .ok (.aload_n 0, 1) := by decide +kernel
theorem dX12_kill_24 : decode cX12_kill 24 = .ok (.getfield 197, 3) := by decide +kernel
theorem dX12_kill_27 : decode cX12_kill 27 = .ok (.iload_n 3, 1) := by decide +kernel
theorem dX12_kill_28 : decode cX12_kill 28 = .ok (.iaload, 1) := by decide +kernel
theorem dX12_kill_29 : decode cX12_kill 29 = .ok (.if_icmp .ge 38, 3) := by decide +kernel
theorem dX12_kill_32 : decode cX12_kill 32 = .ok (.aload_n 0, 1) := by decide +kernel
theorem dX12_kill_33 : decode cX12_kill 33 = .ok (.getfield 200, 3) := by decide +kernel
theorem dX12_kill_36 : decode cX12_kill 36 = .ok (.bipush 100, 2) := by decide +kernel
theorem dX12_kill_38 : decode cX12_kill 38 = .ok (.iload_n 3, 1) := by decide +kernel
theorem dX12_kill_39 : decode cX12_kill 39 = .ok (.imul, 1) := by decide +kernel
theorem dX12_kill_40 : decode cX12_kill 40 = .ok (.iload 4, 2) := by decide +kernel
theorem dX12_kill_42 : decode cX12_kill 42 = .ok (.iadd, 1) := by decide +kernel
theorem dX12_kill_43 : decode cX12_kill 43 = .ok (.iaload, 1) := by decide +kernel
theorem dX12_kill_44 : decode cX12_kill 44 = .ok (.iload_n 2, 1) := by decide +kernel
theorem dX12_kill_45 : decode cX12_kill 45 = .ok (.if_icmp .ne 16, 3) := by decide +kernel
theorem dX12_kill_48 : decode cX12_kill 48 = .ok (.aload_n 0, 1) := by decide +kernel
theorem dX12_kill_49 : decode cX12_kill 49 = .ok (.getfield 206, 3) := by decide +kernel
theorem dX12_kill_52 : decode cX12_kill 52 = .ok (.bipush 100, 2) := by decide +kernel
theorem dX12_kill_54 : decode cX12_kill 54 = .ok (.iload_n 3, 1) := by decide +kernel
theorem dX12_kill_55 : decode cX12_kill 55 = .ok (.imul, 1) := by decide +kernel
theorem dX12_kill_56 : decode cX12_kill 56 = .ok (.iload 4, 2) := by decide +kernel
theorem dX12_kill_58 : decode cX12_kill 58 = .ok (.iadd, 1) := by decide +kernel
theorem dX12_kill_59 : decode cX12_kill 59 = .ok (.iconst 0, 1) := by decide +kernel
theorem dX12_kill_60 : decode cX12_kill 60 = .ok (.bastore, 1) := by decide +kernel
theorem dX12_kill_61 : decode cX12_kill 61 = .ok (.iinc 4 1, 3) := by decide +kernel
theorem dX12_kill_64 : decode cX12_kill 64 = .ok (.goto (-43), 3) := by decide +kernel
theorem dX12_kill_67 : decode cX12_kill 67 = .ok (.iinc 3 1, 3) := by decide +kernel
theorem dX12_kill_70 : decode cX12_kill 70 = .ok (.goto (-66), 3) := by decide +kernel
theorem dX12_kill_73 : decode cX12_kill 73 = .ok (.return_, 1) := by decide +kernel
theorem dX12_putFresh_0 : decode cX12_putFresh 0 = .ok (.iconst 5, 1) := by decide +kernel
theorem dX12_putFresh_1 : decode cX12_putFresh 1 = .ok (.iload_n 1, 1) := by decide +kernel
theorem dX12_putFresh_2 : decode cX12_putFresh 2 = .ok (.imul, 1) := by decide +kernel
theorem dX12_putFresh_3 : decode cX12_putFresh 3 = .ok (.aload_n 0, 1) := by decide +kernel
theorem dX12_putFresh_4 : decode cX12_putFresh 4 = .ok (.getfield 194, 3) := by decide +kernel
theorem dX12_putFresh_7 : decode cX12_putFresh 7 = .ok (.iload_n 1, 1) := by decide +kernel
theorem dX12_putFresh_8 : decode cX12_putFresh 8 = .ok (.iaload, 1) := by decide +kernel
theorem dX12_putFresh_9 : decode cX12_putFresh 9 = .ok (.iadd, 1) := by decide +kernel
theorem dX12_putFresh_10 : decode cX12_putFresh 10 = .ok (.istore_n 2, 1) := by decide +kernel
theorem dX12_putFresh_11 : decode cX12_putFresh 11 = .ok (.aload_n 0, 1) := by decide +kernel
theorem dX12_putFresh_12 : decode cX12_putFresh 12 = .ok (.getfield 194, 3) := by decide +kernel
theorem dX12_putFresh_15 : decode cX12_putFresh 15 = .ok (.iload_n 1, 1) := by decide +kernel
theorem dX12_putFresh_16 : decode cX12_putFresh 16 = .ok (.dup2, 1) := by decide +kernel
theorem dX12_putFresh_17 : decode cX12_putFresh 17 = .ok (.iaload, 1) := by decide +kernel
theorem dX12_putFresh_18 : decode cX12_putFresh 18 = .ok (.iconst 1, 1) := by decide +kernel
theorem dX12_putFresh_19 : decode cX12_putFresh 19 = .ok (.iadd, 1) := by decide +kernel
theorem dX12_putFresh_20 : decode cX12_putFresh 20 = .ok (.iastore, 1) := by decide +kernel
theorem dX12_putFresh_21 : decode cX12_putFresh 21 = .ok (.aload_n 0, 1) := by decide +kernel
theorem dX12_putFresh_22 : decode cX12_putFresh 22 = .ok (.getfield 197, 3) := by decide +kernel
theorem dX12_putFresh_25 : decode cX12_putFresh 25 = .ok (.iload_n 2, 1) := by decide +kernel
theorem dX12_putFresh_26 : decode cX12_putFresh 26 = .ok (.aload_n 0, 1) := by decide +kernel
theorem dX12_putFresh_27 : decode cX12_putFresh 27 = .ok (.getfield 481, 3) := by decide +kernel
theorem dX12_putFresh_30 : decode cX12_putFresh 30 = .ok (.iastore, 1) := by decide +kernel
theorem dX12_putFresh_31 : decode cX12_putFresh 31 = .ok (.iconst 0, 1) := by decide +kernel
theorem dX12_putFresh_32 : decode cX12_putFresh 32 = .ok (.istore_n 3, 1) := by decide +kernel
theorem dX12_putFresh_33 : decode cX12_putFresh 33 = .ok (.iload_n 3, 1) := by decide +kernel
theorem dX12_putFresh_34 : decode cX12_putFresh 34 = .ok (.aload_n 0, 1) := by decide +kernel
theorem dX12_putFresh_35 : decode cX12_putFresh 35 = .ok (.getfield 481, 3) := by decide +kernel
theorem dX12_putFresh_38 : decode cX12_putFresh 38 = .ok (.if_icmp .ge 55, 3) := by decide +kernel
theorem dX12_putFresh_41 : decode cX12_putFresh 41 = .ok (.aload_n 0, 1) := by decide +kernel
theorem dX12_putFresh_42 : decode cX12_putFresh 42 = .ok (.getfield 200, 3) := by decide +kernel
theorem dX12_putFresh_45 : decode cX12_putFresh 45 = .ok (.bipush 100, 2) := by decide +kernel
theorem dX12_putFresh_47 : decode cX12_putFresh 47 = .ok (.iload_n 2, 1) := by decide +kernel
theorem dX12_putFresh_48 : decode cX12_putFresh 48 = .ok (.imul, 1) := by decide +kernel
theorem dX12_putFresh_49 : decode cX12_putFresh 49 = .ok (.iload_n 3, 1) := by decide +kernel
theorem dX12_putFresh_50 : decode cX12_putFresh 50 = .ok (.iadd, 1) := by decide +kernel
theorem dX12_putFresh_51 : decode cX12_putFresh 51 = .ok (.aload_n 0, 1) := by decide +kernel
theorem dX12_putFresh_52 : decode cX12_putFresh 52 = .ok (.getfield 243, 3) := by decide +kernel
theorem dX12_putFresh_55 : decode cX12_putFresh 55 = .ok (.iload_n 3, 1) := by decide +kernel
theorem dX12_putFresh_56 : decode cX12_putFresh 56 = .ok (.iaload, 1) := by decide +kernel
theorem dX12_putFresh_57 : decode cX12_putFresh 57 = .ok (.iastore, 1) := by decide +kernel
theorem dX12_putFresh_58 : decode cX12_putFresh 58 = .ok (.aload_n 0, 1) := by decide +kernel
theorem dX12_putFresh_59 : decode cX12_putFresh 59 = .ok (.getfield 203, 3) := by decide +kernel
theorem dX12_putFresh_62 : decode cX12_putFresh 62 = .ok (.bipush 100, 2) := by decide +kernel
theorem dX12_putFresh_64 : decode cX12_putFresh 64 = .ok (.iload_n 2, 1) := by decide +kernel
theorem dX12_putFresh_65 : decode cX12_putFresh 65 = .ok (.imul, 1) := by decide +kernel
theorem dX12_putFresh_66 : decode cX12_putFresh 66 = .ok (.iload_n 3, 1) := by decide +kernel
theorem dX12_putFresh_67 : decode cX12_putFresh 67 = .ok (.iadd, 1) := by decide +kernel
theorem dX12_putFresh_68 : decode cX12_putFresh 68 = .ok (.aload_n 0, 1) := by decide +kernel
theorem dX12_putFresh_69 : decode cX12_putFresh 69 = .ok (.getfield 246, 3) := by decide +kernel
theorem dX12_putFresh_72 : decode cX12_putFresh 72 = .ok (.iload_n 3, 1) := by decide +kernel
theorem dX12_putFresh_73 : decode cX12_putFresh 73 = .ok (.iaload, 1) := by decide +kernel
theorem dX12_putFresh_74 : decode cX12_putFresh 74 = .ok (.iastore, 1) := by decide +kernel
theorem dX12_putFresh_75 : decode cX12_putFresh 75 = .ok (.aload_n 0, 1) := by decide +kernel
theorem dX12_putFresh_76 : decode cX12_putFresh 76 = .ok (.getfield 206, 3) := by decide +kernel
theorem dX12_putFresh_79 : decode cX12_putFresh 79 = .ok (.bipush 100, 2) := by decide +kernel
theorem dX12_putFresh_81 : decode cX12_putFresh 81 = .ok (.iload_n 2, 1) := by decide +kernel
theorem dX12_putFresh_82 : decode cX12_putFresh 82 = .ok (.imul, 1) := by decide +kernel
theorem dX12_putFresh_83 : decode cX12_putFresh 83 = .ok (.iload_n 3, 1) := by decide +kernel
theorem dX12_putFresh_84 : decode cX12_putFresh 84 = .ok (.iadd, 1) := by decide +kernel
theorem dX12_putFresh_85 : decode cX12_putFresh 85 = .ok (.iconst 1, 1) := by decide +kernel
theorem dX12_putFresh_86 : decode cX12_putFresh 86 = .ok (.bastore, 1) := by decide +kernel
theorem dX12_putFresh_87 : decode cX12_putFresh 87 = .ok (.iinc 3 1, 3) := by decide +kernel
theorem dX12_putFresh_90 : decode cX12_putFresh 90 = .ok (.goto (-57), 3) := by decide +kernel
theorem dX12_putFresh_93 : decode cX12_putFresh 93 = .ok (.return_, 1) := by decide +kernel
theorem dX12_hasLive_0 : decode cX12_hasLive 0 = .ok (.iconst 0, 1) := by decide +kernel
theorem dX12_hasLive_1 : decode cX12_hasLive 1 = .ok (.istore_n 2, 1) := by decide +kernel
theorem dX12_hasLive_2 : decode cX12_hasLive 2 = .ok (.iconst 0, 1) := by decide +kernel
theorem dX12_hasLive_3 : decode cX12_hasLive 3 = .ok (.istore_n 3, 1) := by decide +kernel
theorem dX12_hasLive_4 : decode cX12_hasLive 4 = .ok (.iload_n 3, 1) := by decide +kernel
theorem dX12_hasLive_5 : decode cX12_hasLive 5 = .ok (.aload_n 0, 1) := by decide +kernel
theorem dX12_hasLive_6 : decode cX12_hasLive 6 = .ok (.getfield 197, 3) := by decide +kernel
theorem dX12_hasLive_9 : decode cX12_hasLive 9 = .ok (.iload_n 1, 1) := by decide +kernel
theorem dX12_hasLive_10 : decode cX12_hasLive 10 = .ok (.iaload, 1) := by decide +kernel
theorem dX12_hasLive_11 : decode cX12_hasLive 11 = .ok (.if_icmp .ge 33, 3) := by decide +kernel
theorem dX12_hasLive_14 : decode cX12_hasLive 14 = .ok (.iload_n 2, 1) := by decide +kernel
theorem dX12_hasLive_15 : decode cX12_hasLive 15 = .ok (.ifCond .ne 17, 3) := by decide +kernel
theorem dX12_hasLive_18 : decode cX12_hasLive 18 = .ok (.aload_n 0, 1) := by decide +kernel
theorem dX12_hasLive_19 : decode cX12_hasLive 19 = .ok (.getfield 206, 3) := by decide +kernel
theorem dX12_hasLive_22 : decode cX12_hasLive 22 = .ok (.bipush 100, 2) := by decide +kernel
theorem dX12_hasLive_24 : decode cX12_hasLive 24 = .ok (.iload_n 1, 1) := by decide +kernel
theorem dX12_hasLive_25 : decode cX12_hasLive 25 = .ok (.imul, 1) := by decide +kernel
theorem dX12_hasLive_26 : decode cX12_hasLive 26 = .ok (.iload_n 3, 1) := by decide +kernel
theorem dX12_hasLive_27 : decode cX12_hasLive 27 = .ok (.iadd, 1) := by decide +kernel
theorem dX12_hasLive_28 : decode cX12_hasLive 28 = .ok (.baload, 1) := by decide +kernel
theorem dX12_hasLive_29 : decode cX12_hasLive 29 = .ok (.ifCond .eq 7, 3) := by decide +kernel
theorem dX12_hasLive_32 : decode cX12_hasLive 32 = .ok (.iconst 1, 1) := by decide +kernel
theorem dX12_hasLive_33 : decode cX12_hasLive 33 = .ok (.goto 4, 3) := by decide +kernel
theorem dX12_hasLive_36 : decode cX12_hasLive 36 = .ok (.iconst 0, 1) := by decide +kernel
theorem dX12_hasLive_37 : decode cX12_hasLive 37 = .ok (.istore_n 2, 1) := by decide +kernel
theorem dX12_hasLive_38 : decode cX12_hasLive 38 = .ok (.iinc 3 1, 3) := by decide +kernel
theorem dX12_hasLive_41 : decode cX12_hasLive 41 = .ok (.goto (-37), 3) := by decide +kernel
theorem dX12_hasLive_44 : decode cX12_hasLive 44 = .ok (.iload_n 2, 1) := by decide +kernel
theorem dX12_hasLive_45 : decode cX12_hasLive 45 = .ok (.ireturn, 1) := by decide +kernel
theorem dX12_index_0 : decode cX12_index 0 = .ok (.aload_n 0, 1) := by decide +kernel
theorem dX12_index_1 : decode cX12_index 1 = .ok (.iload_n 1, 1) := by decide +kernel
theorem dX12_index_2 : decode cX12_index 2 = .ok (.iload_n 2, 1) := by decide +kernel
theorem dX12_index_3 : decode cX12_index 3 = .ok (.invokevirtual 389, 3) := by decide +kernel
theorem dX12_index_6 : decode cX12_index 6 = .ok (.istore_n 3, 1) := by decide +kernel
theorem dX12_index_7 : decode cX12_index 7 = .ok (.iload_n 1, 1) := by decide +kernel
theorem dX12_index_8 : decode cX12_index 8 = .ok (.iconst 4, 1) := by decide +kernel
theorem dX12_index_9 : decode cX12_index 9 = .ok (.irem, 1) := by decide +kernel
theorem dX12_index_10 : decode cX12_index 10 = .ok (.istore 4, 2) := by decide +kernel
theorem dX12_index_12 : decode cX12_index 12 = .ok (.aload_n 0, 1) := by decide +kernel
theorem dX12_index_13 : decode cX12_index 13 = .ok (.iconst 0, 1) := by decide +kernel
theorem dX12_index_14 : decode cX12_index 14 = .ok (.putfield 481, 3) := by decide +kernel
theorem dX12_index_17 : decode cX12_index 17 = .ok (.iload 4, 2) := by decide +kernel
theorem dX12_index_19 : decode cX12_index 19 = .ok (.istore 5, 2) := by decide +kernel
theorem dX12_index_21 : decode cX12_index 21 = .ok (.iload 5, 2) := by decide +kernel
theorem dX12_index_23 : decode cX12_index 23 = .ok (.bipush 100, 2) := by decide +kernel
theorem dX12_index_25 : decode cX12_index 25 = .ok (.if_icmp .ge 81, 3) := by decide +kernel
theorem dX12_index_28 : decode cX12_index 28 = .ok (.aload_n 0, 1) := by decide +kernel
theorem dX12_index_29 : decode cX12_index 29 = .ok (.iload_n 3, 1) := by decide +kernel
theorem dX12_index_30 : decode cX12_index 30 = .ok (.iload 5, 2) := by decide +kernel
theorem dX12_index_32 : decode cX12_index 32 = .ok (.invokevirtual 392, 3) := by decide +kernel
theorem dX12_index_35 : decode cX12_index 35 = .ok (.istore 6, 2) := by decide +kernel
theorem dX12_index_37 : decode cX12_index 37 = .ok (.aload_n 0, 1) := by decide +kernel
theorem dX12_index_38 : decode cX12_index 38 = .ok (.iload_n 1, 1) := by decide +kernel
theorem dX12_index_39 : decode cX12_index 39 = .ok (.iload 5, 2) := by decide +kernel
theorem dX12_index_41 : decode cX12_index 41 = .ok (.invokevirtual 484, 3) := by decide +kernel
theorem dX12_index_44 : decode cX12_index 44 = .ok (.iload 6, 2) := by decide +kernel
theorem dX12_index_46 : decode cX12_index 46 = .ok (.if_icmp .eq 48, 3) := by decide +kernel
theorem dX12_index_49 : decode cX12_index 49 = .ok (.aload_n 0, 1) := by decide +kernel
theorem dX12_index_50 : decode cX12_index 50 = .ok (.iload_n 1, 1) := by decide +kernel
theorem dX12_index_51 : decode cX12_index 51 = .ok (.iload 5, 2) := by decide +kernel
theorem dX12_index_53 : decode cX12_index 53 = .ok (.invokevirtual 487, 3) := by decide +kernel
theorem dX12_index_56 : decode cX12_index 56 = .ok (.iload 6, 2) := by decide +kernel
theorem dX12_index_58 : decode cX12_index 58 = .ok (.iconst (-1), 1) := by decide +kernel
theorem dX12_index_59 : decode cX12_index 59 = .ok (.if_icmp .eq 35, 3) := by decide +kernel
theorem dX12_index_62 : decode cX12_index 62 = .ok (.aload_n 0, 1) := by decide +kernel
theorem dX12_index_63 : decode cX12_index 63 = .ok (.getfield 243, 3) := by decide +kernel
theorem dX12_index_66 : decode cX12_index 66 = .ok (.aload_n 0, 1) := by decide +kernel
theorem dX12_index_67 : decode cX12_index 67 = .ok (.getfield 481, 3) := by decide +kernel
theorem dX12_index_70 : decode cX12_index 70 = .ok (.iload 5, 2) := by decide +kernel
theorem dX12_index_72 : decode cX12_index 72 = .ok (.iastore, 1) := by decide +kernel
theorem dX12_index_73 : decode cX12_index 73 = .ok (.aload_n 0, 1) := by decide +kernel
theorem dX12_index_74 : decode cX12_index 74 = .ok (.getfield 246, 3) := by decide +kernel
theorem dX12_index_77 : decode cX12_index 77 = .ok (.aload_n 0, 1) := by decide +kernel
theorem dX12_index_78 : decode cX12_index 78 = .ok (.getfield 481, 3) := by decide +kernel
theorem dX12_index_81 : decode cX12_index 81 = .ok (.iload 6, 2) := by decide +kernel
theorem dX12_index_83 : decode cX12_index 83 = .ok (.iastore, 1) := by decide +kernel
theorem dX12_index_84 : decode cX12_index 84 = .ok (.aload_n 0, 1) := by decide +kernel
theorem dX12_index_85 : decode cX12_index 85 = .ok (.dup, 1) := by decide +kernel
theorem dX12_index_86 : decode cX12_index 86 = .ok (.getfield 481, 3) := by decide +kernel
theorem dX12_index_89 : decode cX12_index 89 = .ok (.iconst 1, 1) := by decide +kernel
theorem dX12_index_90 : decode cX12_index 90 = .ok (.iadd, 1) := by decide +kernel
theorem dX12_index_91 : decode cX12_index 91 = .ok (.putfield 481, 3) := by decide +kernel
theorem dX12_index_94 : decode cX12_index 94 = .ok (.iload 5, 2) := by decide +kernel
theorem dX12_index_96 : decode cX12_index 96 = .ok (.aload_n 0, 1) := by decide +kernel
theorem dX12_index_97 : decode cX12_index 97 = .ok (.getfield 327, 3) := by decide +kernel
theorem dX12_index_100 : decode cX12_index 100 = .ok (.iadd, 1) := by decide +kernel
theorem dX12_index_101 : decode cX12_index 101 = .ok (.istore 5, 2) := by decide +kernel
theorem dX12_index_103 : decode cX12_index 103 = .ok (.goto (-82), 3) := by decide +kernel
theorem dX12_index_106 : decode cX12_index 106 = .ok (.aload_n 0, 1) := by decide +kernel
theorem dX12_index_107 : decode cX12_index 107 = .ok (.getfield 481, 3) := by decide +kernel
theorem dX12_index_110 : decode cX12_index 110 = .ok (.ifCond .le 8, 3) := by decide +kernel
theorem dX12_index_113 : decode cX12_index 113 = .ok (.aload_n 0, 1) := by decide +kernel
theorem dX12_index_114 : decode cX12_index 114 = .ok (.iload_n 1, 1) := by decide +kernel
theorem dX12_index_115 : decode cX12_index 115 = .ok (.invokevirtual 490, 3) := by decide +kernel
theorem dX12_index_118 : decode cX12_index 118 = .ok (.aload_n 0, 1) := by decide +kernel
theorem dX12_index_119 : decode cX12_index 119 = .ok (.getfield 194, 3) := by decide +kernel
theorem dX12_index_122 : decode cX12_index 122 = .ok (.iload_n 1, 1) := by decide +kernel
theorem dX12_index_123 : decode cX12_index 123 = .ok (.iaload, 1) := by decide +kernel
theorem dX12_index_124 : decode cX12_index 124 = .ok (.iconst 5, 1) := by decide +kernel
theorem dX12_index_125 : decode cX12_index 125 = .ok (.if_icmp .ne 90, 3) := by decide +kernel
theorem dX12_index_128 : decode cX12_index 128 = .ok (.aload_n 0, 1) := by decide +kernel
theorem dX12_index_129 : decode cX12_index 129 = .ok (.iconst 0, 1) := by decide +kernel
theorem dX12_index_130 : decode cX12_index 130 = .ok (.putfield 481, 3) := by decide +kernel
theorem dX12_index_133 : decode cX12_index 133 = .ok (.iload 4, 2) := by decide +kernel
theorem dX12_index_135 : decode cX12_index 135 = .ok (.istore 5, 2) := by decide +kernel
theorem dX12_index_137 : decode cX12_index 137 = .ok (.iload 5, 2) := by decide +kernel
theorem dX12_index_139 : decode cX12_index 139 = .ok (.bipush 100, 2) := by decide +kernel
theorem dX12_index_141 : decode cX12_index 141 = .ok (.if_icmp .ge 62, 3) := by decide +kernel
theorem dX12_index_144 : decode cX12_index 144 = .ok (.aload_n 0, 1) := by decide +kernel
theorem dX12_index_145 : decode cX12_index 145 = .ok (.iload_n 1, 1) := by decide +kernel
theorem dX12_index_146 : decode cX12_index 146 = .ok (.iload 5, 2) := by decide +kernel
theorem dX12_index_148 : decode cX12_index 148 = .ok (.invokevirtual 484, 3) := by decide +kernel
theorem dX12_index_151 : decode cX12_index 151 = .ok (.istore 6, 2) := by decide +kernel
theorem dX12_index_153 : decode cX12_index 153 = .ok (.iload 6, 2) := by decide +kernel
theorem dX12_index_155 : decode cX12_index 155 = .ok (.iconst (-1), 1) := by decide +kernel
theorem dX12_index_156 : decode cX12_index 156 = .ok (.if_icmp .eq 35, 3) := by decide +kernel
theorem dX12_index_159 : decode cX12_index 159 = .ok (.aload_n 0, 1) := by decide +kernel
theorem dX12_index_160 : decode cX12_index 160 = .ok (.getfield 243, 3) := by decide +kernel
theorem dX12_index_163 : decode cX12_index 163 = .ok (.aload_n 0, 1) := by decide +kernel
theorem dX12_index_164 : decode cX12_index 164 = .ok (.getfield 481, 3) := by decide +kernel
theorem dX12_index_167 : decode cX12_index 167 = .ok (.iload 5, 2) := by decide +kernel
theorem dX12_index_169 : decode cX12_index 169 = .ok (.iastore, 1) := by decide +kernel
theorem dX12_index_170 : decode cX12_index 170 = .ok (.aload_n 0, 1) := by decide +kernel
theorem dX12_index_171 : decode cX12_index 171 = .ok (.getfield 246, 3) := by decide +kernel
theorem dX12_index_174 : decode cX12_index 174 = .ok (.aload_n 0, 1) := by decide +kernel
theorem dX12_index_175 : decode cX12_index 175 = .ok (.getfield 481, 3) := by decide +kernel
theorem dX12_index_178 : decode cX12_index 178 = .ok (.iload 6, 2) := by decide +kernel
theorem dX12_index_180 : decode cX12_index 180 = .ok (.iastore, 1) := by decide +kernel
theorem dX12_index_181 : decode cX12_index 181 = .ok (.aload_n 0, 1) := by decide +kernel
theorem dX12_index_182 : decode cX12_index 182 = .ok (.dup, 1) := by decide +kernel
theorem dX12_index_183 : decode cX12_index 183 = .ok (.getfield 481, 3) := by decide +kernel
theorem dX12_index_186 : decode cX12_index 186 = .ok (.iconst 1, 1) := by decide +kernel
theorem dX12_index_187 : decode cX12_index 187 = .ok (.iadd, 1) := by decide +kernel
theorem dX12_index_188 : decode cX12_index 188 = .ok (.putfield 481, 3) := by decide +kernel
theorem dX12_index_191 : decode cX12_index 191 = .ok (.iload 5, 2) := by decide +kernel
theorem dX12_index_193 : decode cX12_index 193 = .ok (.aload_n 0, 1) := by decide +kernel
theorem dX12_index_194 : decode cX12_index 194 = .ok (.getfield 327, 3) := by decide +kernel
theorem dX12_index_197 : decode cX12_index 197 = .ok (.iadd, 1) := by decide +kernel
theorem dX12_index_198 : decode cX12_index 198 = .ok (.istore 5, 2) := by decide +kernel
theorem dX12_index_200 : decode cX12_index 200 = .ok (.goto (-63), 3) := by decide +kernel
theorem dX12_index_203 : decode cX12_index 203 = .ok (.aload_n 0, 1) := by decide +kernel
theorem dX12_index_204 : decode cX12_index 204 = .ok (.getfield 194, 3) := by decide +kernel
theorem dX12_index_207 : decode cX12_index 207 = .ok (.iload_n 1, 1) := by decide +kernel
theorem dX12_index_208 : decode cX12_index 208 = .ok (.iconst 0, 1) := by decide +kernel
theorem dX12_index_209 : decode cX12_index 209 = .ok (.iastore, 1) := by decide +kernel
theorem dX12_index_210 : decode cX12_index 210 = .ok (.aload_n 0, 1) := by decide +kernel
theorem dX12_index_211 : decode cX12_index 211 = .ok (.iload_n 1, 1) := by decide +kernel
theorem dX12_index_212 : decode cX12_index 212 = .ok (.invokevirtual 490, 3) := by decide +kernel
theorem dX12_index_215 : decode cX12_index 215 = .ok (.iconst 0, 1) := by decide +kernel
theorem dX12_index_216 : decode cX12_index 216 = .ok (.istore 5, 2) := by decide +kernel
theorem dX12_index_218 : decode cX12_index 218 = .ok (.iconst 0, 1) := by decide +kernel
theorem dX12_index_219 : decode cX12_index 219 = .ok (.istore 6, 2) := by decide +kernel
theorem dX12_index_221 : decode cX12_index 221 = .ok (.iload 6, 2) := by decide +kernel
theorem dX12_index_223 : decode cX12_index 223 = .ok (.aload_n 0, 1) := by decide +kernel
theorem dX12_index_224 : decode cX12_index 224 = .ok (.getfield 194, 3) := by decide +kernel
theorem dX12_index_227 : decode cX12_index 227 = .ok (.iload_n 1, 1) := by decide +kernel
theorem dX12_index_228 : decode cX12_index 228 = .ok (.iaload, 1) := by decide +kernel
theorem dX12_index_229 : decode cX12_index 229 = .ok (.if_icmp .ge 41, 3) := by decide +kernel
theorem dX12_index_232 : decode cX12_index 232 = .ok (.aload_n 0, 1) := by decide +kernel
theorem dX12_index_233 : decode cX12_index 233 = .ok (.iconst 5, 1) := by decide +kernel
theorem dX12_index_234 : decode cX12_index 234 = .ok (.iload_n 1, 1) := by decide +kernel
theorem dX12_index_235 : decode cX12_index 235 = .ok (.imul, 1) := by decide +kernel
theorem dX12_index_236 : decode cX12_index 236 = .ok (.iload 6, 2) := by decide +kernel
theorem dX12_index_238 : decode cX12_index 238 = .ok (.iadd, 1) := by decide +kernel
theorem dX12_index_239 : decode cX12_index 239 = .ok (.invokevirtual 493, 3) := by decide +kernel
theorem dX12_index_242 : decode cX12_index 242 = .ok (.ifCond .eq 22, 3) := by decide +kernel
theorem dX12_index_245 : decode cX12_index 245 = .ok (.aload_n 0, 1) := by decide +kernel
theorem dX12_index_246 : decode cX12_index 246 = .ok (.iconst 5, 1) := by decide +kernel
theorem dX12_index_247 : decode cX12_index 247 = .ok (.iload_n 1, 1) := by decide +kernel
theorem dX12_index_248 : decode cX12_index 248 = .ok (.imul, 1) := by decide +kernel
theorem dX12_index_249 : decode cX12_index 249 = .ok (.iload 6, 2) := by decide +kernel
theorem dX12_index_251 : decode cX12_index 251 = .ok (.iadd, 1) := by decide +kernel
theorem dX12_index_252 : decode cX12_index 252 = .ok (.iconst 5, 1) := by decide +kernel
theorem dX12_index_253 : decode cX12_index 253 = .ok (.iload_n 1, 1) := by decide +kernel
theorem dX12_index_254 : decode cX12_index 254 = .ok (.imul, 1) := by decide +kernel
theorem dX12_index_255 : decode cX12_index 255 = .ok (.iload 5, 2) := by decide +kernel
theorem dX12_index_257 : decode cX12_index 257 = .ok (.iadd, 1) := by decide +kernel
theorem dX12_index_258 : decode cX12_index 258 = .ok (.invokevirtual 496, 3) := by decide +kernel
theorem dX12_index_261 : decode cX12_index 261 = .ok (.iinc 5 1, 3) := by decide +kernel
theorem dX12_index_264 : decode cX12_index 264 = .ok (.iinc 6 1, 3) := by decide +kernel
theorem dX12_index_267 : decode cX12_index 267 = .ok (.goto (-46), 3) := by decide +kernel
theorem dX12_index_270 : decode cX12_index 270 = .ok (.aload_n 0, 1) := by decide +kernel
theorem dX12_index_271 : decode cX12_index 271 = .ok (.getfield 194, 3) := by decide +kernel
theorem dX12_index_274 : decode cX12_index 274 = .ok (.iload_n 1, 1) := by decide +kernel
theorem dX12_index_275 : decode cX12_index 275 = .ok (.iload 5, 2) := by decide +kernel
theorem dX12_index_277 : decode cX12_index 277 = .ok (.iastore, 1) := by decide +kernel
theorem dX12_index_278 : decode cX12_index 278 = .ok (.return_, 1) := by decide +kernel
theorem dX12_moveSegment_0 : decode cX12_moveSegment 0 = .ok (.aload_n 0, 1) := by decide +kernel
theorem dX12_moveSegment_1 : decode cX12_moveSegment 1 = .ok (.getfield 197, 3) := by decide +kernel
theorem dX12_moveSegment_4 : decode cX12_moveSegment 4 = .ok (.iload_n 2, 1) := by decide +kernel
theorem dX12_moveSegment_5 : decode cX12_moveSegment 5 = .ok (.aload_n 0, 1) := by decide +kernel
theorem dX12_moveSegment_6 : decode cX12_moveSegment 6 = .ok (.getfield 197, 3) := by decide +kernel
theorem dX12_moveSegment_9 : decode cX12_moveSegment 9 = .ok (.iload_n 1, 1) := by decide +kernel
theorem dX12_moveSegment_10 : decode cX12_moveSegment 10 = .ok (.iaload, 1) := by decide +kernel
theorem dX12_moveSegment_11 : decode cX12_moveSegment 11 = .ok (.iastore, 1) := by decide +kernel
theorem dX12_moveSegment_12 : decode cX12_moveSegment 12 = .ok (.iconst 0, 1) := by decide +kernel
theorem dX12_moveSegment_13 : decode cX12_moveSegment 13 = .ok (.istore_n 3, 1) := by decide +kernel
theorem dX12_moveSegment_14 : decode cX12_moveSegment 14 = .ok (.iload_n 3, 1) := by decide +kernel
theorem dX12_moveSegment_15 : decode cX12_moveSegment 15 = .ok (.aload_n 0, 1) := by decide +kernel
theorem dX12_moveSegment_16 : decode cX12_moveSegment 16 = .ok (.getfield 197, 3) := by decide +kernel
theorem dX12_moveSegment_19 : decode cX12_moveSegment 19 = .ok (.iload_n 1, 1) := by decide +kernel
theorem dX12_moveSegment_20 : decode cX12_moveSegment 20 = .ok (.iaload, 1) := by decide +kernel
theorem dX12_moveSegment_21 : decode cX12_moveSegment 21 = .ok (.if_icmp .ge 75, 3) := by decide +kernel
theorem dX12_moveSegment_24 : decode cX12_moveSegment 24 = .ok (.aload_n 0, 1) := by decide +kernel
theorem dX12_moveSegment_25 : decode cX12_moveSegment 25 = .ok (.getfield 200, 3) := by decide +kernel
theorem dX12_moveSegment_28 : decode cX12_moveSegment 28 = .ok (.bipush 100, 2) := by decide +kernel
theorem dX12_moveSegment_30 : decode cX12_moveSegment 30 = .ok (.iload_n 2, 1) := by decide +kernel
theorem dX12_moveSegment_31 : decode cX12_moveSegment 31 = .ok (.imul, 1) := by decide +kernel
theorem dX12_moveSegment_32 : decode cX12_moveSegment 32 = .ok (.iload_n 3, 1) := by decide +kernel
theorem dX12_moveSegment_33 : decode cX12_moveSegment 33 = .ok (.iadd, 1) := by decide +kernel
theorem dX12_moveSegment_34 : decode cX12_moveSegment 34 = .ok (.aload_n 0, 1) := by decide +kernel
theorem dX12_moveSegment_35 : decode cX12_moveSegment 35 = .ok (.getfield 200, 3) := by decide +kernel
theorem dX12_moveSegment_38 : decode cX12_moveSegment 38 = .ok (.bipush 100, 2) := by decide +kernel
theorem dX12_moveSegment_40 : decode cX12_moveSegment 40 = .ok (.iload_n 1, 1) := by decide +kernel
theorem dX12_moveSegment_41 : decode cX12_moveSegment 41 = .ok (.imul, 1) := by decide +kernel
theorem dX12_moveSegment_42 : decode cX12_moveSegment 42 = .ok (.iload_n 3, 1) := by decide +kernel
theorem dX12_moveSegment_43 : decode cX12_moveSegment 43 = .ok (.iadd, 1) := by decide +kernel
theorem dX12_moveSegment_44 : decode cX12_moveSegment 44 = .ok (.iaload, 1) := by decide +kernel
theorem dX12_moveSegment_45 : decode cX12_moveSegment 45 = .ok (.iastore, 1) := by decide +kernel
theorem dX12_moveSegment_46 : decode cX12_moveSegment 46 = .ok (.aload_n 0, 1) := by decide +kernel
theorem dX12_moveSegment_47 : decode cX12_moveSegment 47 = .ok (.getfield 203, 3) := by decide +kernel
theorem dX12_moveSegment_50 : decode cX12_moveSegment 50 = .ok (.bipush 100, 2) := by decide +kernel
theorem dX12_moveSegment_52 : decode cX12_moveSegment 52 = .ok (.iload_n 2, 1) := by decide +kernel
theorem dX12_moveSegment_53 : decode cX12_moveSegment 53 = .ok (.imul, 1) := by decide +kernel
theorem dX12_moveSegment_54 : decode cX12_moveSegment 54 = .ok (.iload_n 3, 1) := by decide +kernel
theorem dX12_moveSegment_55 : decode cX12_moveSegment 55 = .ok (.iadd, 1) := by decide +kernel
theorem dX12_moveSegment_56 : decode cX12_moveSegment 56 = .ok (.aload_n 0, 1) := by decide +kernel
theorem dX12_moveSegment_57 : decode cX12_moveSegment 57 = .ok (.getfield 203, 3) := by decide +kernel
theorem dX12_moveSegment_60 : decode cX12_moveSegment 60 = .ok (.bipush 100, 2) := by decide +kernel
theorem dX12_moveSegment_62 : decode cX12_moveSegment 62 = .ok (.iload_n 1, 1) := by decide +kernel
theorem dX12_moveSegment_63 : decode cX12_moveSegment 63 = .ok (.imul, 1) := by decide +kernel
theorem dX12_moveSegment_64 : decode cX12_moveSegment 64 = .ok (.iload_n 3, 1) := by decide +kernel
theorem dX12_moveSegment_65 : decode cX12_moveSegment 65 = .ok (.iadd, 1) := by decide +kernel
theorem dX12_moveSegment_66 : decode cX12_moveSegment 66 = .ok (.iaload, 1) := by decide +kernel
theorem dX12_moveSegment_67 : decode cX12_moveSegment 67 = .ok (.iastore, 1) := by decide +kernel
theorem dX12_moveSegment_68 : decode cX12_moveSegment 68 = .ok (.aload_n 0, 1) := by decide +kernel
theorem dX12_moveSegment_69 : decode cX12_moveSegment 69 = .ok (.getfield 206, 3) := by decide +kernel
theorem dX12_moveSegment_72 : decode cX12_moveSegment 72 = .ok (.bipush 100, 2) := by decide +kernel
theorem dX12_moveSegment_74 : decode cX12_moveSegment 74 = .ok (.iload_n 2, 1) := by decide +kernel
theorem dX12_moveSegment_75 : decode cX12_moveSegment 75 = .ok (.imul, 1) := by decide +kernel
theorem dX12_moveSegment_76 : decode cX12_moveSegment 76 = .ok (.iload_n 3, 1) := by decide +kernel
theorem dX12_moveSegment_77 : decode cX12_moveSegment 77 = .ok (.iadd, 1) := by decide +kernel
theorem dX12_moveSegment_78 : decode cX12_moveSegment 78 = .ok (.aload_n 0, 1) := by decide +kernel
theorem dX12_moveSegment_79 : decode cX12_moveSegment 79 = .ok (.getfield 206, 3) := by decide +kernel
theorem dX12_moveSegment_82 : decode cX12_moveSegment 82 = .ok (.bipush 100, 2) := by decide +kernel
theorem dX12_moveSegment_84 : decode cX12_moveSegment 84 = .ok (.iload_n 1, 1) := by decide +kernel
theorem dX12_moveSegment_85 : decode cX12_moveSegment 85 = .ok (.imul, 1) := by decide +kernel
theorem dX12_moveSegment_86 : decode cX12_moveSegment 86 = .ok (.iload_n 3, 1) := by decide +kernel
theorem dX12_moveSegment_87 : decode cX12_moveSegment 87 = .ok (.iadd, 1) := by decide +kernel
theorem dX12_moveSegment_88 : decode cX12_moveSegment 88 = .ok (.baload, 1) := by decide +kernel
theorem dX12_moveSegment_89 : decode cX12_moveSegment 89 = .ok (.bastore, 1) := by decide +kernel
theorem dX12_moveSegment_90 : decode cX12_moveSegment 90 = .ok (.iinc 3 1, 3) := by decide +kernel
theorem dX12_moveSegment_93 : decode cX12_moveSegment 93 = .ok (.goto (-79), 3) := by decide +kernel
theorem dX12_moveSegment_96 : decode cX12_moveSegment 96 = .ok (.return_, 1) := by decide +kernel
theorem dX12_isLetter_0 : decode cX12_isLetter 0 = .ok (.iload_n 0, 1) := by decide +kernel
theorem dX12_isLetter_1 : decode cX12_isLetter 1 = .ok (.bipush 97, 2) := by decide +kernel
theorem dX12_isLetter_3 : decode cX12_isLetter 3 = .ok (.if_icmp .lt 9, 3) := by decide +kernel
theorem dX12_isLetter_6 : decode cX12_isLetter 6 = .ok (.iload_n 0, 1) := by decide +kernel
theorem dX12_isLetter_7 : decode cX12_isLetter 7 = .ok (.bipush 122, 2) := by decide +kernel
theorem dX12_isLetter_9 : decode cX12_isLetter 9 = .ok (.if_icmp .le 15, 3) := by decide +kernel
theorem dX12_isLetter_12 : decode cX12_isLetter 12 = .ok (.iload_n 0, 1) := by decide +kernel
theorem dX12_isLetter_13 : decode cX12_isLetter 13 = .ok (.bipush 65, 2) := by decide +kernel
theorem dX12_isLetter_15 : decode cX12_isLetter 15 = .ok (.if_icmp .lt 13, 3) := by decide +kernel
theorem dX12_isLetter_18 : decode cX12_isLetter 18 = .ok (.iload_n 0, 1) := by decide +kernel
theorem dX12_isLetter_19 : decode cX12_isLetter 19 = .ok (.bipush 90, 2) := by decide +kernel
theorem dX12_isLetter_21 : decode cX12_isLetter 21 = .ok (.if_icmp .gt 7, 3) := by decide +kernel
theorem dX12_isLetter_24 : decode cX12_isLetter 24 = .ok (.iconst 1, 1) := by decide +kernel
theorem dX12_isLetter_25 : decode cX12_isLetter 25 = .ok (.goto 4, 3) := by decide +kernel
theorem dX12_isLetter_28 : decode cX12_isLetter 28 = .ok (.iconst 0, 1) := by decide +kernel
theorem dX12_isLetter_29 : decode cX12_isLetter 29 = .ok (.ireturn, 1) := by decide +kernel
theorem dX12_isRow_0 : decode cX12_isRow 0 = .ok (.iload_n 0, 1) := by decide +kernel
theorem dX12_isRow_1 : decode cX12_isRow 1 = .ok (.invokestatic 499, 3) := by decide +kernel
theorem dX12_isRow_4 : decode cX12_isRow 4 = .ok (.ifCond .ne 15, 3) := by decide +kernel
theorem dX12_isRow_7 : decode cX12_isRow 7 = .ok (.iload_n 0, 1) := by decide +kernel
theorem dX12_isRow_8 : decode cX12_isRow 8 = .ok (.bipush 48, 2) := by decide +kernel
theorem dX12_isRow_10 : decode cX12_isRow 10 = .ok (.if_icmp .lt 13, 3) := by decide +kernel
theorem dX12_isRow_13 : decode cX12_isRow 13 = .ok (.iload_n 0, 1) := by decide +kernel
theorem dX12_isRow_14 : decode cX12_isRow 14 = .ok (.bipush 57, 2) := by decide +kernel
theorem dX12_isRow_16 : decode cX12_isRow 16 = .ok (.if_icmp .gt 7, 3) := by decide +kernel
theorem dX12_isRow_19 : decode cX12_isRow 19 = .ok (.iconst 1, 1) := by decide +kernel
theorem dX12_isRow_20 : decode cX12_isRow 20 = .ok (.goto 4, 3) := by decide +kernel
theorem dX12_isRow_23 : decode cX12_isRow 23 = .ok (.iconst 0, 1) := by decide +kernel
theorem dX12_isRow_24 : decode cX12_isRow 24 = .ok (.ireturn, 1) := by decide +kernel
theorem dX12_small_0 : decode cX12_small 0 = .ok (.iload_n 0, 1) := by decide +kernel
theorem dX12_small_1 : decode cX12_small 1 = .ok (.bipush 65, 2) := by decide +kernel
theorem dX12_small_3 : decode cX12_small 3 = .ok (.if_icmp .lt 16, 3) := by decide +kernel
theorem dX12_small_6 : decode cX12_small 6 = .ok (.iload_n 0, 1) := by decide +kernel
theorem dX12_small_7 : decode cX12_small 7 = .ok (.bipush 90, 2) := by decide +kernel
theorem dX12_small_9 : decode cX12_small 9 = .ok (.if_icmp .gt 10, 3) := by decide +kernel
theorem dX12_small_12 : decode cX12_small 12 = .ok (.iload_n 0, 1) := by decide +kernel
theorem dX12_small_13 : decode cX12_small 13 = .ok (.bipush 32, 2) := by decide +kernel
theorem dX12_small_15 : decode cX12_small 15 = .ok (.iadd, 1) := by decide +kernel
theorem dX12_small_16 : decode cX12_small 16 = .ok (.goto 4, 3) := by decide +kernel
theorem dX12_small_19 : decode cX12_small 19 = .ok (.iload_n 0, 1) := by decide +kernel
theorem dX12_small_20 : decode cX12_small 20 = .ok (.ireturn, 1) := by decide +kernel
theorem dX12_ends_0 : decode cX12_ends 0 = .ok (.aload_n 0, 1) := by decide +kernel
theorem dX12_ends_1 : decode cX12_ends 1 = .ok (.getfield 502, 3) := by decide +kernel
theorem dX12_ends_4 : decode cX12_ends 4 = .ok (.istore 4, 2) := by decide +kernel
theorem dX12_ends_6 : decode cX12_ends 6 = .ok (.aload_n 0, 1) := by decide +kernel
theorem dX12_ends_7 : decode cX12_ends 7 = .ok (.getfield 249, 3) := by decide +kernel
theorem dX12_ends_10 : decode cX12_ends 10 = .ok (.iload 4, 2) := by decide +kernel
theorem dX12_ends_12 : decode cX12_ends 12 = .ok (.iconst 1, 1) := by decide +kernel
theorem dX12_ends_13 : decode cX12_ends 13 = .ok (.isub, 1) := by decide +kernel
theorem dX12_ends_14 : decode cX12_ends 14 = .ok (.iaload, 1) := by decide +kernel
theorem dX12_ends_15 : decode cX12_ends 15 = .ok (.iload_n 3, 1) := by decide +kernel
theorem dX12_ends_16 : decode cX12_ends 16 = .ok (.if_icmp .ne 41, 3) := by decide +kernel
theorem dX12_ends_19 : decode cX12_ends 19 = .ok (.iload_n 2, 1) := by decide +kernel
theorem dX12_ends_20 : decode cX12_ends 20 = .ok (.ifCond .eq 16, 3) := by decide +kernel
theorem dX12_ends_23 : decode cX12_ends 23 = .ok (.aload_n 0, 1) := by decide +kernel
theorem dX12_ends_24 : decode cX12_ends 24 = .ok (.getfield 249, 3) := by decide +kernel
theorem dX12_ends_27 : decode cX12_ends 27 = .ok (.iload 4, 2) := by decide +kernel
theorem dX12_ends_29 : decode cX12_ends 29 = .ok (.iconst 2, 1) := by decide +kernel
theorem dX12_ends_30 : decode cX12_ends 30 = .ok (.isub, 1) := by decide +kernel
theorem dX12_ends_31 : decode cX12_ends 31 = .ok (.iaload, 1) := by decide +kernel
theorem dX12_ends_32 : decode cX12_ends 32 = .ok (.iload_n 2, 1) := by decide +kernel
theorem dX12_ends_33 : decode cX12_ends 33 = .ok (.if_icmp .ne 24, 3) := by decide +kernel
theorem dX12_ends_36 : decode cX12_ends 36 = .ok (.iload_n 1, 1) := by decide +kernel
theorem dX12_ends_37 : decode cX12_ends 37 = .ok (.ifCond .eq 16, 3) := by decide +kernel
theorem dX12_ends_40 : decode cX12_ends 40 = .ok (.aload_n 0, 1) := by decide +kernel
theorem dX12_ends_41 : decode cX12_ends 41 = .ok (.getfield 249, 3) := by decide +kernel
theorem dX12_ends_44 : decode cX12_ends 44 = .ok (.iload 4, 2) := by decide +kernel
theorem dX12_ends_46 : decode cX12_ends 46 = .ok (.iconst 3, 1) := by decide +kernel
theorem dX12_ends_47 : decode cX12_ends 47 = .ok (.isub, 1) := by decide +kernel
theorem dX12_ends_48 : decode cX12_ends 48 = .ok (.iaload, 1) := by decide +kernel
theorem dX12_ends_49 : decode cX12_ends 49 = .ok (.iload_n 1, 1) := by decide +kernel
theorem dX12_ends_50 : decode cX12_ends 50 = .ok (.if_icmp .ne 7, 3) := by decide +kernel
theorem dX12_ends_53 : decode cX12_ends 53 = .ok (.iconst 1, 1) := by decide +kernel
theorem dX12_ends_54 : decode cX12_ends 54 = .ok (.goto 4, 3) := by decide +kernel
theorem dX12_ends_57 : decode cX12_ends 57 = .ok (.iconst 0, 1) := by decide +kernel
theorem dX12_ends_58 : decode cX12_ends 58 = .ok (.ireturn, 1) := by decide +kernel
theorem dX12_takeRow_0 : decode cX12_takeRow 0 = .ok (.aload_n 0, 1) := by decide +kernel
theorem dX12_takeRow_1 : decode cX12_takeRow 1 = .ok (.iload_n 2, 1) := by decide +kernel
theorem dX12_takeRow_2 : decode cX12_takeRow 2 = .ok (.iload_n 1, 1) := by decide +kernel
theorem dX12_takeRow_3 : decode cX12_takeRow 3 = .ok (.isub, 1) := by decide +kernel
theorem dX12_takeRow_4 : decode cX12_takeRow 4 = .ok (.bipush 12, 2) := by decide +kernel
theorem dX12_takeRow_6 : decode cX12_takeRow 6 = .ok (.invokestatic 437, 3) := by decide +kernel
theorem dX12_takeRow_9 : decode cX12_takeRow 9 = .ok (.putfield 502, 3) := by decide +kernel
theorem dX12_takeRow_12 : decode cX12_takeRow 12 = .ok (.iconst 0, 1) := by decide +kernel
theorem dX12_takeRow_13 : decode cX12_takeRow 13 = .ok (.istore_n 3, 1) := by decide +kernel
theorem dX12_takeRow_14 : decode cX12_takeRow 14 = .ok (.iload_n 3, 1) := by decide +kernel
theorem dX12_takeRow_15 : decode cX12_takeRow 15 = .ok (.aload_n 0, 1) := by decide +kernel
theorem dX12_takeRow_16 : decode cX12_takeRow 16 = .ok (.getfield 502, 3) := by decide +kernel
theorem dX12_takeRow_19 : decode cX12_takeRow 19 = .ok (.if_icmp .ge 26, 3) := by decide +kernel
theorem dX12_takeRow_22 : decode cX12_takeRow 22 = .ok (.aload_n 0, 1) := by decide +kernel
theorem dX12_takeRow_23 : decode cX12_takeRow 23 = .ok (.getfield 249, 3) := by decide +kernel
theorem dX12_takeRow_26 : decode cX12_takeRow 26 = .ok (.iload_n 3, 1) := by decide +kernel
theorem dX12_takeRow_27 : decode cX12_takeRow 27 = .ok (.aload_n 0, 1) := by decide +kernel
theorem dX12_takeRow_28 : decode cX12_takeRow 28 = .ok (.getfield 47, 3) := by decide +kernel
theorem dX12_takeRow_31 : decode cX12_takeRow 31 = .ok (.iload_n 1, 1) := by decide +kernel
theorem dX12_takeRow_32 : decode cX12_takeRow 32 = .ok (.iload_n 3, 1) := by decide +kernel
theorem dX12_takeRow_33 : decode cX12_takeRow 33 = .ok (.iadd, 1) := by decide +kernel
theorem dX12_takeRow_34 : decode cX12_takeRow 34 = .ok (.iaload, 1) := by decide +kernel
theorem dX12_takeRow_35 : decode cX12_takeRow 35 = .ok (.invokestatic 505, 3) := by decide +kernel
theorem dX12_takeRow_38 : decode cX12_takeRow 38 = .ok (.iastore, 1) := by decide +kernel
theorem dX12_takeRow_39 : decode cX12_takeRow 39 = .ok (.iinc 3 1, 3) := by decide +kernel
theorem dX12_takeRow_42 : decode cX12_takeRow 42 = .ok (.goto (-28), 3) := by decide +kernel
theorem dX12_takeRow_45 : decode cX12_takeRow 45 = .ok (.return_, 1) := by decide +kernel
theorem dX12_stem_0 : decode cX12_stem 0 = .ok (.iconst 1, 1) := by decide +kernel
theorem dX12_stem_1 : decode cX12_stem 1 = .ok (.istore_n 1, 1) := by decide +kernel
theorem dX12_stem_2 : decode cX12_stem 2 = .ok (.iconst 0, 1) := by decide +kernel
theorem dX12_stem_3 : decode cX12_stem 3 = .ok (.istore_n 2, 1) := by decide +kernel
theorem dX12_stem_4 : decode cX12_stem 4 = .ok (.iload_n 2, 1) := by decide +kernel
theorem dX12_stem_5 : decode cX12_stem 5 = .ok (.aload_n 0, 1) := by decide +kernel
theorem dX12_stem_6 : decode cX12_stem 6 = .ok (.getfield 502, 3) := by decide +kernel
theorem dX12_stem_9 : decode cX12_stem 9 = .ok (.if_icmp .ge 31, 3) := by decide +kernel
theorem dX12_stem_12 : decode cX12_stem 12 = .ok (.iload_n 1, 1) := by decide +kernel
theorem dX12_stem_13 : decode cX12_stem 13 = .ok (.ifCond .eq 19, 3) := by decide +kernel
theorem dX12_stem_16 : decode cX12_stem 16 = .ok (.aload_n 0, 1) := by decide +kernel
theorem dX12_stem_17 : decode cX12_stem 17 = .ok (.getfield 249, 3) := by decide +kernel
theorem dX12_stem_20 : decode cX12_stem 20 = .ok (.iload_n 2, 1) := by decide +kernel
theorem dX12_stem_21 : decode cX12_stem 21 = .ok (.iaload, 1) := by decide +kernel
theorem dX12_stem_22 : decode cX12_stem 22 = .ok (.invokestatic 499, 3) := by decide +kernel
theorem dX12_stem_25 : decode cX12_stem 25 = .ok (.ifCond .eq 7, 3) := by decide +kernel
theorem dX12_stem_28 : decode cX12_stem 28 = .ok (.iconst 1, 1) := by decide +kernel
theorem dX12_stem_29 : decode cX12_stem 29 = .ok (.goto 4, 3) := by decide +kernel
theorem dX12_stem_32 : decode cX12_stem 32 = .ok (.iconst 0, 1) := by decide +kernel
theorem dX12_stem_33 : decode cX12_stem 33 = .ok (.istore_n 1, 1) := by decide +kernel
theorem dX12_stem_34 : decode cX12_stem 34 = .ok (.iinc 2 1, 3) := by decide +kernel
theorem dX12_stem_37 : decode cX12_stem 37 = .ok (.goto (-33), 3) := by decide +kernel
theorem dX12_stem_40 : decode cX12_stem 40 = .ok (.aload_n 0, 1) := by decide +kernel
theorem dX12_stem_41 : decode cX12_stem 41 = .ok (.getfield 502, 3) := by decide +kernel
theorem dX12_stem_44 : decode cX12_stem 44 = .ok (.istore_n 2, 1) := by decide +kernel
theorem dX12_stem_45 : decode cX12_stem 45 = .ok (.iload_n 1, 1) := by decide +kernel
theorem dX12_stem_46 : decode cX12_stem 46 = .ok (.ifCond .ne 4, 3) := by decide +kernel
theorem dX12_stem_49 : decode cX12_stem 49 = .ok (.return_, 1) := by decide +kernel
theorem dX12_stem_50 : decode cX12_stem 50 = .ok (.iload_n 2, 1) := by decide +kernel
theorem dX12_stem_51 : decode cX12_stem 51 = .ok (.iconst 5, 1) := by decide +kernel
theorem dX12_stem_52 : decode cX12_stem 52 = .ok (.if_icmp .lt 36, 3) := by decide +kernel
theorem dX12_stem_55 : decode cX12_stem 55 = .ok (.aload_n 0, 1) := by decide +kernel
theorem dX12_stem_56 : decode cX12_stem 56 = .ok (.bipush 105, 2) := by decide +kernel
theorem dX12_stem_58 : decode cX12_stem 58 = .ok (.bipush 101, 2) := by decide +kernel
theorem dX12_stem_60 : decode cX12_stem 60 = .ok (.bipush 115, 2) := by decide +kernel
theorem dX12_stem_62 : decode cX12_stem 62 = .ok (.invokevirtual 508, 3) := by decide +kernel
theorem dX12_stem_65 : decode cX12_stem 65 = .ok (.ifCond .eq 23, 3) := by decide +kernel
theorem dX12_stem_68 : decode cX12_stem 68 = .ok (.aload_n 0, 1) := by decide +kernel
theorem dX12_stem_69 : decode cX12_stem 69 = .ok (.getfield 249, 3) := by decide +kernel
theorem dX12_stem_72 : decode cX12_stem 72 = .ok (.iload_n 2, 1) := by decide +kernel
theorem dX12_stem_73 : decode cX12_stem 73 = .ok (.iconst 3, 1) := by decide +kernel
theorem dX12_stem_74 : decode cX12_stem 74 = .ok (.isub, 1) := by decide +kernel
theorem dX12_stem_75 : decode cX12_stem 75 = .ok (.bipush 121, 2) := by decide +kernel
theorem dX12_stem_77 : decode cX12_stem 77 = .ok (.iastore, 1) := by decide +kernel
theorem dX12_stem_78 : decode cX12_stem 78 = .ok (.aload_n 0, 1) := by decide +kernel
theorem dX12_stem_79 : decode cX12_stem 79 = .ok (.iload_n 2, 1) := by decide +kernel
theorem dX12_stem_80 : decode cX12_stem 80 = .ok (.iconst 2, 1) := by decide +kernel
theorem dX12_stem_81 : decode cX12_stem 81 = .ok (.isub, 1) := by decide +kernel
theorem dX12_stem_82 : decode cX12_stem 82 = .ok (.putfield 502, 3) := by decide +kernel
theorem dX12_stem_85 : decode cX12_stem 85 = .ok (.goto 95, 3) := by decide +kernel
theorem dX12_stem_88 : decode cX12_stem 88 = .ok (.iload_n 2, 1) := by decide +kernel
theorem dX12_stem_89 : decode cX12_stem 89 = .ok (.bipush 6, 2) := by decide +kernel
theorem dX12_stem_91 : decode cX12_stem 91 = .ok (.if_icmp .lt 26, 3) := by decide +kernel
theorem dX12_stem_94 : decode cX12_stem 94 = .ok (.aload_n 0, 1) := by decide +kernel
theorem dX12_stem_95 : decode cX12_stem 95 = .ok (.bipush 105, 2) := by decide +kernel
theorem dX12_stem_97 : decode cX12_stem 97 = .ok (.bipush 110, 2) := by decide +kernel
theorem dX12_stem_99 : decode cX12_stem 99 = .ok (.bipush 103, 2) := by decide +kernel
theorem dX12_stem_101 : decode cX12_stem 101 = .ok (.invokevirtual 508, 3) := by decide +kernel
theorem dX12_stem_104 : decode cX12_stem 104 = .ok (.ifCond .eq 13, 3) := by decide +kernel
theorem dX12_stem_107 : decode cX12_stem 107 = .ok (.aload_n 0, 1) := by decide +kernel
theorem dX12_stem_108 : decode cX12_stem 108 = .ok (.iload_n 2, 1) := by decide +kernel
theorem dX12_stem_109 : decode cX12_stem 109 = .ok (.iconst 3, 1) := by decide +kernel
theorem dX12_stem_110 : decode cX12_stem 110 = .ok (.isub, 1) := by decide +kernel
theorem dX12_stem_111 : decode cX12_stem 111 = .ok (.putfield 502, 3) := by decide +kernel
theorem dX12_stem_114 : decode cX12_stem 114 = .ok (.goto 66, 3) := by decide +kernel
theorem dX12_stem_117 : decode cX12_stem 117 = .ok (.iload_n 2, 1) := by decide +kernel
theorem dX12_stem_118 : decode cX12_stem 118 = .ok (.iconst 5, 1) := by decide +kernel
theorem dX12_stem_119 : decode cX12_stem 119 = .ok (.if_icmp .lt 25, 3) := by decide +kernel
theorem dX12_stem_122 : decode cX12_stem 122 = .ok (.aload_n 0, 1) := by decide +kernel
theorem dX12_stem_123 : decode cX12_stem 123 = .ok (.iconst 0, 1) := by decide +kernel
theorem dX12_stem_124 : decode cX12_stem 124 = .ok (.bipush 101, 2) := by decide +kernel
theorem dX12_stem_126 : decode cX12_stem 126 = .ok (.bipush 100, 2) := by decide +kernel
theorem dX12_stem_128 : decode cX12_stem 128 = .ok (.invokevirtual 508, 3) := by decide +kernel
theorem dX12_stem_131 : decode cX12_stem 131 = .ok (.ifCond .eq 13, 3) := by decide +kernel
theorem dX12_stem_134 : decode cX12_stem 134 = .ok (.aload_n 0, 1) := by decide +kernel
theorem dX12_stem_135 : decode cX12_stem 135 = .ok (.iload_n 2, 1) := by decide +kernel
theorem dX12_stem_136 : decode cX12_stem 136 = .ok (.iconst 2, 1) := by decide +kernel
theorem dX12_stem_137 : decode cX12_stem 137 = .ok (.isub, 1) := by decide +kernel
theorem dX12_stem_138 : decode cX12_stem 138 = .ok (.putfield 502, 3) := by decide +kernel
theorem dX12_stem_141 : decode cX12_stem 141 = .ok (.goto 39, 3) := by decide +kernel
theorem dX12_stem_144 : decode cX12_stem 144 = .ok (.iload_n 2, 1) := by decide +kernel
theorem dX12_stem_145 : decode cX12_stem 145 = .ok (.iconst 4, 1) := by decide +kernel
theorem dX12_stem_146 : decode cX12_stem 146 = .ok (.if_icmp .lt 34, 3) := by decide +kernel
theorem dX12_stem_149 : decode cX12_stem 149 = .ok (.aload_n 0, 1) := by decide +kernel
theorem dX12_stem_150 : decode cX12_stem 150 = .ok (.iconst 0, 1) := by decide +kernel
theorem dX12_stem_151 : decode cX12_stem 151 = .ok (.iconst 0, 1) := by decide +kernel
theorem dX12_stem_152 : decode cX12_stem 152 = .ok (.bipush 115, 2) := by decide +kernel
theorem dX12_stem_154 : decode cX12_stem 154 = .ok (.invokevirtual 508, 3) := by decide +kernel
theorem dX12_stem_157 : decode cX12_stem 157 = .ok (.ifCond .eq 23, 3) := by decide +kernel
theorem dX12_stem_160 : decode cX12_stem 160 = .ok (.aload_n 0, 1) := by decide +kernel
theorem dX12_stem_161 : decode cX12_stem 161 = .ok (.getfield 249, 3) := by decide +kernel
theorem dX12_stem_164 : decode cX12_stem 164 = .ok (.iload_n 2, 1) := by decide +kernel
theorem dX12_stem_165 : decode cX12_stem 165 = .ok (.iconst 2, 1) := by decide +kernel
theorem dX12_stem_166 : decode cX12_stem 166 = .ok (.isub, 1) := by decide +kernel
theorem dX12_stem_167 : decode cX12_stem 167 = .ok (.iaload, 1) := by decide +kernel
theorem dX12_stem_168 : decode cX12_stem 168 = .ok (.bipush 115, 2) := by decide +kernel
theorem dX12_stem_170 : decode cX12_stem 170 = .ok (.if_icmp .eq 10, 3) := by decide +kernel
theorem dX12_stem_173 : decode cX12_stem 173 = .ok (.aload_n 0, 1) := by decide +kernel
theorem dX12_stem_174 : decode cX12_stem 174 = .ok (.iload_n 2, 1) := by decide +kernel
theorem dX12_stem_175 : decode cX12_stem 175 = .ok (.iconst 1, 1) := by decide +kernel
theorem dX12_stem_176 : decode cX12_stem 176 = .ok (.isub, 1) := by decide +kernel
theorem dX12_stem_177 : decode cX12_stem 177 = .ok (.putfield 502, 3) := by decide +kernel
theorem dX12_stem_180 : decode cX12_stem 180 = .ok (.return_, 1) := by decide +kernel
theorem dX12_key_0 : decode cX12_key 0 = .ok (.aload_n 0, 1) := by decide +kernel
theorem dX12_key_1 : decode cX12_key 1 = .ok (.lconst 0, 1) := by decide +kernel
theorem dX12_key_2 : decode cX12_key 2 = .ok (.putfield 511, 3) := by decide +kernel
theorem dX12_key_5 : decode cX12_key 5 = .ok (.aload_n 0, 1) := by decide +kernel
theorem dX12_key_6 : decode cX12_key 6 = .ok (.lconst 0, 1) := by decide +kernel
theorem dX12_key_7 : decode cX12_key 7 = .ok (.putfield 515, 3) := by decide +kernel
theorem dX12_key_10 : decode cX12_key 10 = .ok (.iconst 0, 1) := by decide +kernel
theorem dX12_key_11 : decode cX12_key 11 = .ok (.istore_n 1, 1) := by decide +kernel
theorem dX12_key_12 : decode cX12_key 12 = .ok (.iload_n 1, 1) := by decide +kernel
theorem dX12_key_13 : decode cX12_key 13 = .ok (.bipush 12, 2) := by decide +kernel
theorem dX12_key_15 : decode cX12_key 15 = .ok (.if_icmp .ge 64, 3) := by decide +kernel
theorem dX12_key_18 : decode cX12_key 18 = .ok (.iload_n 1, 1) := by decide +kernel
theorem dX12_key_19 : decode cX12_key 19 = .ok (.aload_n 0, 1) := by decide +kernel
theorem dX12_key_20 : decode cX12_key 20 = .ok (.getfield 502, 3) := by decide +kernel
theorem dX12_key_23 : decode cX12_key 23 = .ok (.if_icmp .ge 13, 3) := by decide +kernel
theorem dX12_key_26 : decode cX12_key 26 = .ok (.aload_n 0, 1) := by decide +kernel
theorem dX12_key_27 : decode cX12_key 27 = .ok (.getfield 249, 3) := by decide +kernel
theorem dX12_key_30 : decode cX12_key 30 = .ok (.iload_n 1, 1) := by decide +kernel
theorem dX12_key_31 : decode cX12_key 31 = .ok (.iaload, 1) := by decide +kernel
theorem dX12_key_32 : decode cX12_key 32 = .ok (.i2l, 1) := by decide +kernel
theorem dX12_key_33 : decode cX12_key 33 = .ok (.goto 4, 3) := by decide +kernel
theorem dX12_key_36 : decode cX12_key 36 = .ok (.lconst 0, 1) := by decide +kernel
theorem dX12_key_37 : decode cX12_key 37 = .ok (.lstore_n 2, 1) := by decide +kernel
theorem dX12_key_38 : decode cX12_key 38 = .ok (.iload_n 1, 1) := by decide +kernel
theorem dX12_key_39 : decode cX12_key 39 = .ok (.bipush 8, 2) := by decide +kernel
theorem dX12_key_41 : decode cX12_key 41 = .ok (.if_icmp .ge 19, 3) := by decide +kernel
theorem dX12_key_44 : decode cX12_key 44 = .ok (.aload_n 0, 1) := by decide +kernel
theorem dX12_key_45 : decode cX12_key 45 = .ok (.aload_n 0, 1) := by decide +kernel
theorem dX12_key_46 : decode cX12_key 46 = .ok (.getfield 511, 3) := by decide +kernel
theorem dX12_key_49 : decode cX12_key 49 = .ok (.bipush 8, 2) := by decide +kernel
theorem dX12_key_51 : decode cX12_key 51 = .ok (.lshl, 1) := by decide +kernel
theorem dX12_key_52 : decode cX12_key 52 = .ok (.lload_n 2, 1) := by decide +kernel
theorem dX12_key_53 : decode cX12_key 53 = .ok (.lor, 1) := by decide +kernel
theorem dX12_key_54 : decode cX12_key 54 = .ok (.putfield 511, 3) := by decide +kernel
theorem dX12_key_57 : decode cX12_key 57 = .ok (.goto 16, 3) := by decide +kernel
theorem dX12_key_60 : decode cX12_key 60 = .ok (.aload_n 0, 1) := by decide +kernel
theorem dX12_key_61 : decode cX12_key 61 = .ok (.aload_n 0, 1) := by decide +kernel
theorem dX12_key_62 : decode cX12_key 62 = .ok (.getfield 515, 3) := by decide +kernel
theorem dX12_key_65 : decode cX12_key 65 = .ok (.bipush 8, 2) := by decide +kernel
theorem dX12_key_67 : decode cX12_key 67 = .ok (.lshl, 1) := by decide +kernel
theorem dX12_key_68 : decode cX12_key 68 = .ok (.lload_n 2, 1) := by decide +kernel
theorem dX12_key_69 : decode cX12_key 69 = .ok (.lor, 1) := by decide +kernel
theorem dX12_key_70 : decode cX12_key 70 = .ok (.putfield 515, 3) := by decide +kernel
theorem dX12_key_73 : decode cX12_key 73 = .ok (.iinc 1 1, 3) := by decide +kernel
theorem dX12_key_76 : decode cX12_key 76 = .ok (.goto (-64), 3) := by decide +kernel
theorem dX12_key_79 : decode cX12_key 79 = .ok (.return_, 1) := by decide +kernel
theorem dX12_isNone_0 : decode cX12_isNone 0 = .ok (.aload_n 0, 1) := by decide +kernel
theorem dX12_isNone_1 : decode cX12_isNone 1 = .ok (.getfield 502, 3) := by decide +kernel
theorem dX12_isNone_4 : decode cX12_isNone 4 = .ok (.istore_n 1, 1) := by decide +kernel
theorem dX12_isNone_5 : decode cX12_isNone 5 = .ok (.iload_n 1, 1) := by decide +kernel
theorem dX12_isNone_6 : decode cX12_isNone 6 = .ok (.iconst 1, 1) := by decide +kernel
theorem dX12_isNone_7 : decode cX12_isNone 7 = .ok (.if_icmp .ne 14, 3) := by decide +kernel
theorem dX12_isNone_10 : decode cX12_isNone 10 = .ok (.aload_n 0, 1) := by decide +kernel
theorem dX12_isNone_11 : decode cX12_isNone 11 = .ok (.getfield 249, 3) := by decide +kernel
theorem dX12_isNone_14 : decode cX12_isNone 14 = .ok (.iconst 0, 1) := by decide +kernel
theorem dX12_isNone_15 : decode cX12_isNone 15 = .ok (.iaload, 1) := by decide +kernel
theorem dX12_isNone_16 : decode cX12_isNone 16 = .ok (.bipush 97, 2) := by decide +kernel
theorem dX12_isNone_18 : decode cX12_isNone 18 = .ok (.if_icmp .eq 57, 3) := by decide +kernel
theorem dX12_isNone_21 : decode cX12_isNone 21 = .ok (.iload_n 1, 1) := by decide +kernel
theorem dX12_isNone_22 : decode cX12_isNone 22 = .ok (.iconst 2, 1) := by decide +kernel
theorem dX12_isNone_23 : decode cX12_isNone 23 = .ok (.if_icmp .ne 25, 3) := by decide +kernel
theorem dX12_isNone_26 : decode cX12_isNone 26 = .ok (.aload_n 0, 1) := by decide +kernel
theorem dX12_isNone_27 : decode cX12_isNone 27 = .ok (.getfield 249, 3) := by decide +kernel
theorem dX12_isNone_30 : decode cX12_isNone 30 = .ok (.iconst 0, 1) := by decide +kernel
theorem dX12_isNone_31 : decode cX12_isNone 31 = .ok (.iaload, 1) := by decide +kernel
theorem dX12_isNone_32 : decode cX12_isNone 32 = .ok (.bipush 97, 2) := by decide +kernel
theorem dX12_isNone_34 : decode cX12_isNone 34 = .ok (.if_icmp .ne 14, 3) := by decide +kernel
theorem dX12_isNone_37 : decode cX12_isNone 37 = .ok (.aload_n 0, 1) := by decide +kernel
theorem dX12_isNone_38 : decode cX12_isNone 38 = .ok (.getfield 249, 3) := by decide +kernel
theorem dX12_isNone_41 : decode cX12_isNone 41 = .ok (.iconst 1, 1) := by decide +kernel
theorem dX12_isNone_42 : decode cX12_isNone 42 = .ok (.iaload, 1) := by decide +kernel
theorem dX12_isNone_43 : decode cX12_isNone 43 = .ok (.bipush 110, 2) := by decide +kernel
theorem dX12_isNone_45 : decode cX12_isNone 45 = .ok (.if_icmp .eq 30, 3) := by decide +kernel
theorem dX12_isNone_48 : decode cX12_isNone 48 = .ok (.iload_n 1, 1) := by decide +kernel
theorem dX12_isNone_49 : decode cX12_isNone 49 = .ok (.iconst 2, 1) := by decide +kernel
theorem dX12_isNone_50 : decode cX12_isNone 50 = .ok (.if_icmp .ne 29, 3) := by decide +kernel
theorem dX12_isNone_53 : decode cX12_isNone 53 = .ok (.aload_n 0, 1) := by decide +kernel
theorem dX12_isNone_54 : decode cX12_isNone 54 = .ok (.getfield 249, 3) := by decide +kernel
theorem dX12_isNone_57 : decode cX12_isNone 57 = .ok (.iconst 0, 1) := by decide +kernel
theorem dX12_isNone_58 : decode cX12_isNone 58 = .ok (.iaload, 1) := by decide +kernel
theorem dX12_isNone_59 : decode cX12_isNone 59 = .ok (.bipush 111, 2) := by decide +kernel
theorem dX12_isNone_61 : decode cX12_isNone 61 = .ok (.if_icmp .ne 18, 3) := by decide +kernel
theorem dX12_isNone_64 : decode cX12_isNone 64 = .ok (.aload_n 0, 1) := by decide +kernel
theorem dX12_isNone_65 : decode cX12_isNone 65 = .ok (.getfield 249, 3) := by decide +kernel
theorem dX12_isNone_68 : decode cX12_isNone 68 = .ok (.iconst 1, 1) := by decide +kernel
theorem dX12_isNone_69 : decode cX12_isNone 69 = .ok (.iaload, 1) := by decide +kernel
theorem dX12_isNone_70 : decode cX12_isNone 70 = .ok (.bipush 102, 2) := by decide +kernel
theorem dX12_isNone_72 : decode cX12_isNone 72 = .ok (.if_icmp .ne 7, 3) := by decide +kernel
theorem dX12_isNone_75 : decode cX12_isNone 75 = .ok (.iconst 1, 1) := by decide +kernel
theorem dX12_isNone_76 : decode cX12_isNone 76 = .ok (.goto 4, 3) := by decide +kernel
theorem dX12_isNone_79 : decode cX12_isNone 79 = .ok (.iconst 0, 1) := by decide +kernel
theorem dX12_isNone_80 : decode cX12_isNone 80 = .ok (.istore_n 2, 1) := by decide +kernel
theorem dX12_isNone_81 : decode cX12_isNone 81 = .ok (.iload_n 2, 1) := by decide +kernel
theorem dX12_isNone_82 : decode cX12_isNone 82 = .ok (.ifCond .ne 41, 3) := by decide +kernel
theorem dX12_isNone_85 : decode cX12_isNone 85 = .ok (.iload_n 1, 1) := by decide +kernel
theorem dX12_isNone_86 : decode cX12_isNone 86 = .ok (.iconst 3, 1) := by decide +kernel
theorem dX12_isNone_87 : decode cX12_isNone 87 = .ok (.if_icmp .ne 40, 3) := by decide +kernel
theorem dX12_isNone_90 : decode cX12_isNone 90 = .ok (.aload_n 0, 1) := by decide +kernel
theorem dX12_isNone_91 : decode cX12_isNone 91 = .ok (.getfield 249, 3) := by decide +kernel
theorem dX12_isNone_94 : decode cX12_isNone 94 = .ok (.iconst 0, 1) := by decide +kernel
theorem dX12_isNone_95 : decode cX12_isNone 95 = .ok (.iaload, 1) := by decide +kernel
theorem dX12_isNone_96 : decode cX12_isNone 96 = .ok (.bipush 116, 2) := by decide +kernel
theorem dX12_isNone_98 : decode cX12_isNone 98 = .ok (.if_icmp .ne 29, 3) := by decide +kernel
theorem dX12_isNone_101 : decode cX12_isNone 101 = .ok (.aload_n 0, 1) := by decide +kernel
theorem dX12_isNone_102 : decode cX12_isNone 102 = .ok (.getfield 249, 3) := by decide +kernel
theorem dX12_isNone_105 : decode cX12_isNone 105 = .ok (.iconst 1, 1) := by decide +kernel
theorem dX12_isNone_106 : decode cX12_isNone 106 = .ok (.iaload, 1) := by decide +kernel
theorem dX12_isNone_107 : decode cX12_isNone 107 = .ok (.bipush 104, 2) := by decide +kernel
theorem dX12_isNone_109 : decode cX12_isNone 109 = .ok (.if_icmp .ne 18, 3) := by decide +kernel
theorem dX12_isNone_112 : decode cX12_isNone 112 = .ok (.aload_n 0, 1) := by decide +kernel
theorem dX12_isNone_113 : decode cX12_isNone 113 = .ok (.getfield 249, 3) := by decide +kernel
theorem dX12_isNone_116 : decode cX12_isNone 116 = .ok (.iconst 2, 1) := by decide +kernel
theorem dX12_isNone_117 : decode cX12_isNone 117 = .ok (.iaload, 1) := by decide +kernel
theorem dX12_isNone_118 : decode cX12_isNone 118 = .ok (.bipush 101, 2) := by decide +kernel
theorem dX12_isNone_120 : decode cX12_isNone 120 = .ok (.if_icmp .ne 7, 3) := by decide +kernel
theorem dX12_isNone_123 : decode cX12_isNone 123 = .ok (.iconst 1, 1) := by decide +kernel
theorem dX12_isNone_124 : decode cX12_isNone 124 = .ok (.goto 4, 3) := by decide +kernel
theorem dX12_isNone_127 : decode cX12_isNone 127 = .ok (.iconst 0, 1) := by decide +kernel
theorem dX12_isNone_128 : decode cX12_isNone 128 = .ok (.ireturn, 1) := by decide +kernel
theorem dX12_read_0 : decode cX12_read 0 = .ok (.aload_n 0, 1) := by decide +kernel
theorem dX12_read_1 : decode cX12_read 1 = .ok (.iconst 0, 1) := by decide +kernel
theorem dX12_read_2 : decode cX12_read 2 = .ok (.putfield 518, 3) := by decide +kernel
theorem dX12_read_5 : decode cX12_read 5 = .ok (.iconst 0, 1) := by decide +kernel
theorem dX12_read_6 : decode cX12_read 6 = .ok (.istore_n 2, 1) := by decide +kernel
theorem dX12_read_7 : decode cX12_read 7 = .ok (.bipush 60, 2) := by decide +kernel
theorem dX12_read_9 : decode cX12_read 9 = .ok (.iload_n 1, 1) := by decide +kernel
theorem dX12_read_10 : decode cX12_read 10 = .ok (.imul, 1) := by decide +kernel
theorem dX12_read_11 : decode cX12_read 11 = .ok (.istore_n 3, 1) := by decide +kernel
theorem dX12_read_12 : decode cX12_read 12 = .ok (.iload_n 3, 1) := by decide +kernel
theorem dX12_read_13 : decode cX12_read 13 = .ok (.aload_n 0, 1) := by decide +kernel
theorem dX12_read_14 : decode cX12_read 14 = .ok (.getfield 50, 3) := by decide +kernel
theorem dX12_read_17 : decode cX12_read 17 = .ok (.iload_n 1, 1) := by decide +kernel
theorem dX12_read_18 : decode cX12_read 18 = .ok (.iaload, 1) := by decide +kernel
theorem dX12_read_19 : decode cX12_read 19 = .ok (.iadd, 1) := by decide +kernel
theorem dX12_read_20 : decode cX12_read 20 = .ok (.istore 4, 2) := by decide +kernel
theorem dX12_read_22 : decode cX12_read 22 = .ok (.iload_n 3, 1) := by decide +kernel
theorem dX12_read_23 : decode cX12_read 23 = .ok (.iload 4, 2) := by decide +kernel
theorem dX12_read_25 : decode cX12_read 25 = .ok (.if_icmp .ge 122, 3) := by decide +kernel
theorem dX12_read_28 : decode cX12_read 28 = .ok (.aload_n 0, 1) := by decide +kernel
theorem dX12_read_29 : decode cX12_read 29 = .ok (.getfield 47, 3) := by decide +kernel
theorem dX12_read_32 : decode cX12_read 32 = .ok (.iload_n 3, 1) := by decide +kernel
theorem dX12_read_33 : decode cX12_read 33 = .ok (.iaload, 1) := by decide +kernel
theorem dX12_read_34 : decode cX12_read 34 = .ok (.invokestatic 521, 3) := by decide +kernel
theorem dX12_read_37 : decode cX12_read 37 = .ok (.ifCond .eq 104, 3) := by decide +kernel
theorem dX12_read_40 : decode cX12_read 40 = .ok (.iload_n 3, 1) := by decide +kernel
theorem dX12_read_41 : decode cX12_read 41 = .ok (.istore 5, 2) := by decide +kernel
theorem dX12_read_43 : decode cX12_read 43 = .ok (.iload_n 3, 1) := by decide +kernel
theorem dX12_read_44 : decode cX12_read 44 = .ok (.iload 4, 2) := by decide +kernel
theorem dX12_read_46 : decode cX12_read 46 = .ok (.if_icmp .ge 21, 3) := by decide +kernel
theorem dX12_read_49 : decode cX12_read 49 = .ok (.aload_n 0, 1) := by decide +kernel
theorem dX12_read_50 : decode cX12_read 50 = .ok (.getfield 47, 3) := by decide +kernel
theorem dX12_read_53 : decode cX12_read 53 = .ok (.iload_n 3, 1) := by decide +kernel
theorem dX12_read_54 : decode cX12_read 54 = .ok (.iaload, 1) := by decide +kernel
theorem dX12_read_55 : decode cX12_read 55 = .ok (.invokestatic 521, 3) := by decide +kernel
theorem dX12_read_58 : decode cX12_read 58 = .ok (.ifCond .eq 9, 3) := by decide +kernel
theorem dX12_read_61 : decode cX12_read 61 = .ok (.iinc 3 1, 3) := by decide +kernel
theorem dX12_read_64 : decode cX12_read 64 = .ok (.goto (-21), 3) := by decide +kernel
theorem dX12_read_67 : decode cX12_read 67 = .ok (.aload_n 0, 1) := by decide +kernel
theorem dX12_read_68 : decode cX12_read 68 = .ok (.iload 5, 2) := by decide +kernel
theorem dX12_read_70 : decode cX12_read 70 = .ok (.iload_n 3, 1) := by decide +kernel
theorem dX12_read_71 : decode cX12_read 71 = .ok (.invokevirtual 524, 3) := by decide +kernel
theorem dX12_read_74 : decode cX12_read 74 = .ok (.aload_n 0, 1) := by decide +kernel
theorem dX12_read_75 : decode cX12_read 75 = .ok (.invokevirtual 527, 3) := by decide +kernel
theorem dX12_read_78 : decode cX12_read 78 = .ok (.aload_n 0, 1) := by decide +kernel
theorem dX12_read_79 : decode cX12_read 79 = .ok (.invokevirtual 530, 3) := by decide +kernel
theorem dX12_read_82 : decode cX12_read 82 = .ok (.ifCond .ne 53, 3) := by decide +kernel
theorem dX12_read_85 : decode cX12_read 85 = .ok (.aload_n 0, 1) := by decide +kernel
theorem dX12_read_86 : decode cX12_read 86 = .ok (.invokevirtual 534, 3) := by decide +kernel
theorem dX12_read_89 : decode cX12_read 89 = .ok (.aload_n 0, 1) := by decide +kernel
theorem dX12_read_90 : decode cX12_read 90 = .ok (.getfield 252, 3) := by decide +kernel
theorem dX12_read_93 : decode cX12_read 93 = .ok (.aload_n 0, 1) := by decide +kernel
theorem dX12_read_94 : decode cX12_read 94 = .ok (.getfield 518, 3) := by decide +kernel
theorem dX12_read_97 : decode cX12_read 97 = .ok (.aload_n 0, 1) := by decide +kernel
theorem dX12_read_98 : decode cX12_read 98 = .ok (.getfield 511, 3) := by decide +kernel
theorem dX12_read_101 : decode cX12_read 101 = .ok (.lastore, 1) := by decide +kernel
theorem dX12_read_102 : decode cX12_read 102 = .ok (.aload_n 0, 1) := by decide +kernel
theorem dX12_read_103 : decode cX12_read 103 = .ok (.getfield 256, 3) := by decide +kernel
theorem dX12_read_106 : decode cX12_read 106 = .ok (.aload_n 0, 1) := by decide +kernel
theorem dX12_read_107 : decode cX12_read 107 = .ok (.getfield 518, 3) := by decide +kernel
theorem dX12_read_110 : decode cX12_read 110 = .ok (.aload_n 0, 1) := by decide +kernel
theorem dX12_read_111 : decode cX12_read 111 = .ok (.getfield 515, 3) := by decide +kernel
theorem dX12_read_114 : decode cX12_read 114 = .ok (.lastore, 1) := by decide +kernel
theorem dX12_read_115 : decode cX12_read 115 = .ok (.aload_n 0, 1) := by decide +kernel
theorem dX12_read_116 : decode cX12_read 116 = .ok (.getfield 259, 3) := by decide +kernel
theorem dX12_read_119 : decode cX12_read 119 = .ok (.aload_n 0, 1) := by decide +kernel
theorem dX12_read_120 : decode cX12_read 120 = .ok (.getfield 518, 3) := by decide +kernel
theorem dX12_read_123 : decode cX12_read 123 = .ok (.iload_n 2, 1) := by decide +kernel
theorem dX12_read_124 : decode cX12_read 124 = .ok (.iastore, 1) := by decide +kernel
theorem dX12_read_125 : decode cX12_read 125 = .ok (.aload_n 0, 1) := by decide +kernel
theorem dX12_read_126 : decode cX12_read 126 = .ok (.dup, 1) := by decide +kernel
theorem dX12_read_127 : decode cX12_read 127 = .ok (.getfield 518, 3) := by decide +kernel
theorem dX12_read_130 : decode cX12_read 130 = .ok (.iconst 1, 1) := by decide +kernel
theorem dX12_read_131 : decode cX12_read 131 = .ok (.iadd, 1) := by decide +kernel
theorem dX12_read_132 : decode cX12_read 132 = .ok (.putfield 518, 3) := by decide +kernel
theorem dX12_read_135 : decode cX12_read 135 = .ok (.iinc 2 1, 3) := by decide +kernel
theorem dX12_read_138 : decode cX12_read 138 = .ok (.goto (-116), 3) := by decide +kernel
theorem dX12_read_141 : decode cX12_read 141 = .ok (.iinc 3 1, 3) := by decide +kernel
theorem dX12_read_144 : decode cX12_read 144 = .ok (.goto (-122), 3) := by decide +kernel
theorem dX12_read_147 : decode cX12_read 147 = .ok (.return_, 1) := by decide +kernel
theorem dX12_sign_0 : decode cX12_sign 0 = .ok (.aload_n 0, 1) := by decide +kernel
theorem dX12_sign_1 : decode cX12_sign 1 = .ok (.getfield 537, 3) := by decide +kernel
theorem dX12_sign_4 : decode cX12_sign 4 = .ok (.aload_n 0, 1) := by decide +kernel
theorem dX12_sign_5 : decode cX12_sign 5 = .ok (.getfield 540, 3) := by decide +kernel
theorem dX12_sign_8 : decode cX12_sign 8 = .ok (.if_icmp .ge 15, 3) := by decide +kernel
theorem dX12_sign_11 : decode cX12_sign 11 = .ok (.aload_n 0, 1) := by decide +kernel
theorem dX12_sign_12 : decode cX12_sign 12 = .ok (.getfield 47, 3) := by decide +kernel
theorem dX12_sign_15 : decode cX12_sign 15 = .ok (.aload_n 0, 1) := by decide +kernel
theorem dX12_sign_16 : decode cX12_sign 16 = .ok (.getfield 537, 3) := by decide +kernel
theorem dX12_sign_19 : decode cX12_sign 19 = .ok (.iaload, 1) := by decide +kernel
theorem dX12_sign_20 : decode cX12_sign 20 = .ok (.goto 4, 3) := by decide +kernel
theorem dX12_sign_23 : decode cX12_sign 23 = .ok (.iconst (-1), 1) := by decide +kernel
theorem dX12_sign_24 : decode cX12_sign 24 = .ok (.ireturn, 1) := by decide +kernel
theorem dX12_skipBlanks_0 : decode cX12_skipBlanks 0 = .ok (.aload_n 0, 1) := by decide +kernel
theorem dX12_skipBlanks_1 : decode cX12_skipBlanks 1 = .ok (.invokevirtual 543, 3) := by decide +kernel
theorem dX12_skipBlanks_4 : decode cX12_skipBlanks 4 = .ok (.bipush 32, 2) := by decide +kernel
theorem dX12_skipBlanks_6 : decode cX12_skipBlanks 6 = .ok (.if_icmp .ne 16, 3) := by decide +kernel
theorem dX12_skipBlanks_9 : decode cX12_skipBlanks 9 = .ok (.aload_n 0, 1) := by decide +kernel
theorem dX12_skipBlanks_10 : decode cX12_skipBlanks 10 = .ok (.dup, 1) := by decide +kernel
theorem dX12_skipBlanks_11 : decode cX12_skipBlanks 11 = .ok (.getfield 537, 3) := by decide +kernel
theorem dX12_skipBlanks_14 : decode cX12_skipBlanks 14 = .ok (.iconst 1, 1) := by decide +kernel
theorem dX12_skipBlanks_15 : decode cX12_skipBlanks 15 = .ok (.iadd, 1) := by decide +kernel
theorem dX12_skipBlanks_16 : decode cX12_skipBlanks 16 = .ok (.putfield 537, 3) := by decide +kernel
theorem dX12_skipBlanks_19 : decode cX12_skipBlanks 19 = .ok (.goto (-19), 3) := by decide +kernel
theorem dX12_skipBlanks_22 : decode cX12_skipBlanks 22 = .ok (.return_, 1) := by decide +kernel
theorem dX12_takeQuestionRow_0 : decode cX12_takeQuestionRow 0 = .ok (.aload_n 0, 1) := by decide +kernel
theorem dX12_takeQuestionRow_1 : decode cX12_takeQuestionRow 1 = .ok (.getfield 537, 3) := by decide +kernel
theorem dX12_takeQuestionRow_4 : decode cX12_takeQuestionRow 4 = .ok (.istore 4, 2) := by decide +kernel
theorem dX12_takeQuestionRow_6 : decode cX12_takeQuestionRow 6 = .ok (.aload_n 0, 1) := by decide +kernel
theorem dX12_takeQuestionRow_7 : decode cX12_takeQuestionRow 7 = .ok (.invokevirtual 543, 3) := by decide +kernel
theorem dX12_takeQuestionRow_10 : decode cX12_takeQuestionRow 10 = .ok (.invokestatic 521, 3) := by decide +kernel
theorem dX12_takeQuestionRow_13 : decode cX12_takeQuestionRow 13 = .ok (.ifCond .eq 16, 3) := by decide +kernel
theorem dX12_takeQuestionRow_16 : decode cX12_takeQuestionRow 16 = .ok (.aload_n 0, 1) := by decide +kernel
theorem dX12_takeQuestionRow_17 : decode cX12_takeQuestionRow 17 = .ok (.dup, 1) := by decide +kernel
theorem dX12_takeQuestionRow_18 : decode cX12_takeQuestionRow 18 = .ok (.getfield 537, 3) := by decide +kernel
theorem dX12_takeQuestionRow_21 : decode cX12_takeQuestionRow 21 = .ok (.iconst 1, 1) := by decide +kernel
theorem dX12_takeQuestionRow_22 : decode cX12_takeQuestionRow 22 = .ok (.iadd, 1) := by decide +kernel
theorem dX12_takeQuestionRow_23 : decode cX12_takeQuestionRow 23 = .ok (.putfield 537, 3) := by decide +kernel
theorem dX12_takeQuestionRow_26 : decode cX12_takeQuestionRow 26 = .ok (.goto (-20), 3) := by decide +kernel
theorem dX12_takeQuestionRow_29 : decode cX12_takeQuestionRow 29 = .ok (.aload_n 0, 1) := by decide +kernel
theorem dX12_takeQuestionRow_30 : decode cX12_takeQuestionRow 30 = .ok (.iload 4, 2) := by decide +kernel
theorem dX12_takeQuestionRow_32 : decode cX12_takeQuestionRow 32 = .ok (.aload_n 0, 1) := by decide +kernel
theorem dX12_takeQuestionRow_33 : decode cX12_takeQuestionRow 33 = .ok (.getfield 537, 3) := by decide +kernel
theorem dX12_takeQuestionRow_36 : decode cX12_takeQuestionRow 36 = .ok (.invokevirtual 524, 3) := by decide +kernel
theorem dX12_takeQuestionRow_39 : decode cX12_takeQuestionRow 39 = .ok (.iload_n 3, 1) := by decide +kernel
theorem dX12_takeQuestionRow_40 : decode cX12_takeQuestionRow 40 = .ok (.ifCond .eq 16, 3) := by decide +kernel
theorem dX12_takeQuestionRow_43 : decode cX12_takeQuestionRow 43 = .ok (.aload_n 0, 1) := by decide +kernel
theorem dX12_takeQuestionRow_44 : decode cX12_takeQuestionRow 44 = .ok (.invokevirtual 543, 3) := by decide +kernel
theorem dX12_takeQuestionRow_47 : decode cX12_takeQuestionRow 47 = .ok (.bipush 42, 2) := by decide +kernel
theorem dX12_takeQuestionRow_49 : decode cX12_takeQuestionRow 49 = .ok (.if_icmp .ne 7, 3) := by decide +kernel
theorem dX12_takeQuestionRow_52 : decode cX12_takeQuestionRow 52 = .ok (.iconst 1, 1) := by decide +kernel
theorem dX12_takeQuestionRow_53 : decode cX12_takeQuestionRow 53 = .ok (.goto 4, 3) := by decide +kernel
theorem dX12_takeQuestionRow_56 : decode cX12_takeQuestionRow 56 = .ok (.iconst 0, 1) := by decide +kernel
theorem dX12_takeQuestionRow_57 : decode cX12_takeQuestionRow 57 = .ok (.istore 5, 2) := by decide +kernel
theorem dX12_takeQuestionRow_59 : decode cX12_takeQuestionRow 59 = .ok (.iload 5, 2) := by decide +kernel
theorem dX12_takeQuestionRow_61 : decode cX12_takeQuestionRow 61 = .ok (.ifCond .eq 23, 3) := by decide +kernel
theorem dX12_takeQuestionRow_64 : decode cX12_takeQuestionRow 64 = .ok (.aload_n 0, 1) := by decide +kernel
theorem dX12_takeQuestionRow_65 : decode cX12_takeQuestionRow 65 = .ok (.dup, 1) := by decide +kernel
theorem dX12_takeQuestionRow_66 : decode cX12_takeQuestionRow 66 = .ok (.getfield 537, 3) := by decide +kernel
theorem dX12_takeQuestionRow_69 : decode cX12_takeQuestionRow 69 = .ok (.iconst 1, 1) := by decide +kernel
theorem dX12_takeQuestionRow_70 : decode cX12_takeQuestionRow 70 = .ok (.iadd, 1) := by decide +kernel
theorem dX12_takeQuestionRow_71 : decode cX12_takeQuestionRow 71 = .ok (.putfield 537, 3) := by decide +kernel
theorem dX12_takeQuestionRow_74 : decode cX12_takeQuestionRow 74 = .ok (.aload_n 0, 1) := by decide +kernel
theorem dX12_takeQuestionRow_75 : decode cX12_takeQuestionRow 75 = .ok (.getfield 265, 3) := by decide +kernel
theorem dX12_takeQuestionRow_78 : decode cX12_takeQuestionRow 78 = .ok (.iload_n 1, 1) := by decide +kernel
theorem dX12_takeQuestionRow_79 : decode cX12_takeQuestionRow 79 = .ok (.iconst 1, 1) := by decide +kernel
theorem dX12_takeQuestionRow_80 : decode cX12_takeQuestionRow 80 = .ok (.bastore, 1) := by decide +kernel
theorem dX12_takeQuestionRow_81 : decode cX12_takeQuestionRow 81 = .ok (.goto 7, 3) := by decide +kernel
theorem dX12_takeQuestionRow_84 : decode cX12_takeQuestionRow 84 = .ok (.aload_n 0, 1) := by decide +kernel
theorem dX12_takeQuestionRow_85 : decode cX12_takeQuestionRow 85 = .ok (.invokevirtual 527, 3) := by decide +kernel
theorem dX12_takeQuestionRow_88 : decode cX12_takeQuestionRow 88 = .ok (.aload_n 0, 1) := by decide +kernel
theorem dX12_takeQuestionRow_89 : decode cX12_takeQuestionRow 89 = .ok (.invokevirtual 534, 3) := by decide +kernel
theorem dX12_takeQuestionRow_92 : decode cX12_takeQuestionRow 92 = .ok (.iconst 4, 1) := by decide +kernel
theorem dX12_takeQuestionRow_93 : decode cX12_takeQuestionRow 93 = .ok (.iload_n 1, 1) := by decide +kernel
theorem dX12_takeQuestionRow_94 : decode cX12_takeQuestionRow 94 = .ok (.imul, 1) := by decide +kernel
theorem dX12_takeQuestionRow_95 : decode cX12_takeQuestionRow 95 = .ok (.iload_n 2, 1) := by decide +kernel
theorem dX12_takeQuestionRow_96 : decode cX12_takeQuestionRow 96 = .ok (.iadd, 1) := by decide +kernel
theorem dX12_takeQuestionRow_97 : decode cX12_takeQuestionRow 97 = .ok (.istore 6, 2) := by decide +kernel
theorem dX12_takeQuestionRow_99 : decode cX12_takeQuestionRow 99 = .ok (.aload_n 0, 1) := by decide +kernel
theorem dX12_takeQuestionRow_100 : decode cX12_takeQuestionRow 100 = .ok (.getfield 271, 3) := by decide +kernel
theorem dX12_takeQuestionRow_103 : decode cX12_takeQuestionRow 103 = .ok (.iload 6, 2) := by decide +kernel
theorem dX12_takeQuestionRow_105 : decode cX12_takeQuestionRow 105 = .ok (.iload 5, 2) := by decide +kernel
theorem dX12_takeQuestionRow_107 : decode cX12_takeQuestionRow 107 = .ok (.ifCond .ne 10, 3) := by decide +kernel
theorem dX12_takeQuestionRow_110 : decode cX12_takeQuestionRow 110 = .ok (.aload_n 0, 1) := by decide +kernel
theorem dX12_takeQuestionRow_111 : decode cX12_takeQuestionRow 111 = .ok (.invokevirtual 530, 3) := by decide +kernel
theorem dX12_takeQuestionRow_114 : decode cX12_takeQuestionRow 114 = .ok (.ifCond .ne 7, 3) := by decide +kernel
theorem dX12_takeQuestionRow_117 : decode cX12_takeQuestionRow 117 = .ok (.iconst 1, 1) := by decide +kernel
theorem dX12_takeQuestionRow_118 : decode cX12_takeQuestionRow 118 = .ok (.goto 4, 3) := by decide +kernel
theorem dX12_takeQuestionRow_121 : decode cX12_takeQuestionRow 121 = .ok (.iconst 0, 1) := by decide +kernel
theorem dX12_takeQuestionRow_122 : decode cX12_takeQuestionRow 122 = .ok (.bastore, 1) := by decide +kernel
theorem dX12_takeQuestionRow_123 : decode cX12_takeQuestionRow 123 = .ok (.aload_n 0, 1) := by decide +kernel
theorem dX12_takeQuestionRow_124 : decode cX12_takeQuestionRow 124 = .ok (.getfield 274, 3) := by decide +kernel
theorem dX12_takeQuestionRow_127 : decode cX12_takeQuestionRow 127 = .ok (.iload 6, 2) := by decide +kernel
theorem dX12_takeQuestionRow_129 : decode cX12_takeQuestionRow 129 = .ok (.aload_n 0, 1) := by decide +kernel
theorem dX12_takeQuestionRow_130 : decode cX12_takeQuestionRow 130 = .ok (.getfield 511, 3) := by decide +kernel
theorem dX12_takeQuestionRow_133 : decode cX12_takeQuestionRow 133 = .ok (.lastore, 1) := by decide +kernel
theorem dX12_takeQuestionRow_134 : decode cX12_takeQuestionRow 134 = .ok (.aload_n 0, 1) := by decide +kernel
theorem dX12_takeQuestionRow_135 : decode cX12_takeQuestionRow 135 = .ok (.getfield 277, 3) := by decide +kernel
theorem dX12_takeQuestionRow_138 : decode cX12_takeQuestionRow 138 = .ok (.iload 6, 2) := by decide +kernel
theorem dX12_takeQuestionRow_140 : decode cX12_takeQuestionRow 140 = .ok (.aload_n 0, 1) := by decide +kernel
theorem dX12_takeQuestionRow_141 : decode cX12_takeQuestionRow 141 = .ok (.getfield 515, 3) := by decide +kernel
theorem dX12_takeQuestionRow_144 : decode cX12_takeQuestionRow 144 = .ok (.lastore, 1) := by decide +kernel
theorem dX12_takeQuestionRow_145 : decode cX12_takeQuestionRow 145 = .ok (.aload_n 0, 1) := by decide +kernel
theorem dX12_takeQuestionRow_146 : decode cX12_takeQuestionRow 146 = .ok (.getfield 280, 3) := by decide +kernel
theorem dX12_takeQuestionRow_149 : decode cX12_takeQuestionRow 149 = .ok (.iload 6, 2) := by decide +kernel
theorem dX12_takeQuestionRow_151 : decode cX12_takeQuestionRow 151 = .ok (.aload_n 0, 1) := by decide +kernel
theorem dX12_takeQuestionRow_152 : decode cX12_takeQuestionRow 152 = .ok (.getfield 502, 3) := by decide +kernel
theorem dX12_takeQuestionRow_155 : decode cX12_takeQuestionRow 155 = .ok (.iastore, 1) := by decide +kernel
theorem dX12_takeQuestionRow_156 : decode cX12_takeQuestionRow 156 = .ok (.return_, 1) := by decide +kernel
theorem dX12_question_0 : decode cX12_question 0 = .ok (.aload_n 0, 1) := by decide +kernel
theorem dX12_question_1 : decode cX12_question 1 = .ok (.iload_n 1, 1) := by decide +kernel
theorem dX12_question_2 : decode cX12_question 2 = .ok (.putfield 537, 3) := by decide +kernel
theorem dX12_question_5 : decode cX12_question 5 = .ok (.aload_n 0, 1) := by decide +kernel
theorem dX12_question_6 : decode cX12_question 6 = .ok (.iload_n 1, 1) := by decide +kernel
theorem dX12_question_7 : decode cX12_question 7 = .ok (.iload_n 2, 1) := by decide +kernel
theorem dX12_question_8 : decode cX12_question 8 = .ok (.iadd, 1) := by decide +kernel
theorem dX12_question_9 : decode cX12_question 9 = .ok (.putfield 540, 3) := by decide +kernel
theorem dX12_question_12 : decode cX12_question 12 = .ok (.aload_n 0, 1) := by decide +kernel
theorem dX12_question_13 : decode cX12_question 13 = .ok (.iconst 0, 1) := by decide +kernel
theorem dX12_question_14 : decode cX12_question 14 = .ok (.putfield 547, 3) := by decide +kernel
theorem dX12_question_17 : decode cX12_question 17 = .ok (.aload_n 0, 1) := by decide +kernel
theorem dX12_question_18 : decode cX12_question 18 = .ok (.iconst (-1), 1) := by decide +kernel
theorem dX12_question_19 : decode cX12_question 19 = .ok (.putfield 550, 3) := by decide +kernel
theorem dX12_question_22 : decode cX12_question 22 = .ok (.aload_n 0, 1) := by decide +kernel
theorem dX12_question_23 : decode cX12_question 23 = .ok (.invokevirtual 553, 3) := by decide +kernel
theorem dX12_question_26 : decode cX12_question 26 = .ok (.iconst 1, 1) := by decide +kernel
theorem dX12_question_27 : decode cX12_question 27 = .ok (.istore_n 3, 1) := by decide +kernel
theorem dX12_question_28 : decode cX12_question 28 = .ok (.iload_n 3, 1) := by decide +kernel
theorem dX12_question_29 : decode cX12_question 29 = .ok (.ifCond .eq 84, 3) := by decide +kernel
theorem dX12_question_32 : decode cX12_question 32 = .ok (.aload_n 0, 1) := by decide +kernel
theorem dX12_question_33 : decode cX12_question 33 = .ok (.getfield 550, 3) := by decide +kernel
theorem dX12_question_36 : decode cX12_question 36 = .ok (.iconst (-1), 1) := by decide +kernel
theorem dX12_question_37 : decode cX12_question 37 = .ok (.if_icmp .ne 76, 3) := by decide +kernel
theorem dX12_question_40 : decode cX12_question 40 = .ok (.aload_n 0, 1) := by decide +kernel
theorem dX12_question_41 : decode cX12_question 41 = .ok (.iload_n 1, 1) := by decide +kernel
theorem dX12_question_42 : decode cX12_question 42 = .ok (.invokevirtual 556, 3) := by decide +kernel
theorem dX12_question_45 : decode cX12_question 45 = .ok (.aload_n 0, 1) := by decide +kernel
theorem dX12_question_46 : decode cX12_question 46 = .ok (.getfield 550, 3) := by decide +kernel
theorem dX12_question_49 : decode cX12_question 49 = .ok (.iconst (-1), 1) := by decide +kernel
theorem dX12_question_50 : decode cX12_question 50 = .ok (.if_icmp .ne (-22), 3) := by decide +kernel
theorem dX12_question_53 : decode cX12_question 53 = .ok (.aload_n 0, 1) := by decide +kernel
theorem dX12_question_54 : decode cX12_question 54 = .ok (.invokevirtual 543, 3) := by decide +kernel
theorem dX12_question_57 : decode cX12_question 57 = .ok (.bipush 32, 2) := by decide +kernel
theorem dX12_question_59 : decode cX12_question 59 = .ok (.if_icmp .ne 7, 3) := by decide +kernel
theorem dX12_question_62 : decode cX12_question 62 = .ok (.iconst 1, 1) := by decide +kernel
theorem dX12_question_63 : decode cX12_question 63 = .ok (.goto 4, 3) := by decide +kernel
theorem dX12_question_66 : decode cX12_question 66 = .ok (.iconst 0, 1) := by decide +kernel
theorem dX12_question_67 : decode cX12_question 67 = .ok (.istore 4, 2) := by decide +kernel
theorem dX12_question_69 : decode cX12_question 69 = .ok (.aload_n 0, 1) := by decide +kernel
theorem dX12_question_70 : decode cX12_question 70 = .ok (.invokevirtual 553, 3) := by decide +kernel
theorem dX12_question_73 : decode cX12_question 73 = .ok (.aload_n 0, 1) := by decide +kernel
theorem dX12_question_74 : decode cX12_question 74 = .ok (.invokevirtual 543, 3) := by decide +kernel
theorem dX12_question_77 : decode cX12_question 77 = .ok (.iconst (-1), 1) := by decide +kernel
theorem dX12_question_78 : decode cX12_question 78 = .ok (.if_icmp .eq 7, 3) := by decide +kernel
theorem dX12_question_81 : decode cX12_question 81 = .ok (.iconst 1, 1) := by decide +kernel
theorem dX12_question_82 : decode cX12_question 82 = .ok (.goto 4, 3) := by decide +kernel
theorem dX12_question_85 : decode cX12_question 85 = .ok (.iconst 0, 1) := by decide +kernel
theorem dX12_question_86 : decode cX12_question 86 = .ok (.istore_n 3, 1) := by decide +kernel
theorem dX12_question_87 : decode cX12_question 87 = .ok (.aload_n 0, 1) := by decide +kernel
theorem dX12_question_88 : decode cX12_question 88 = .ok (.iload_n 3, 1) := by decide +kernel
theorem dX12_question_89 : decode cX12_question 89 = .ok (.ifCond .eq 17, 3) := by decide +kernel
theorem dX12_question_92 : decode cX12_question 92 = .ok (.iload 4, 2) := by decide +kernel
theorem dX12_question_94 : decode cX12_question 94 = .ok (.ifCond .ne 12, 3) := by decide +kernel
theorem dX12_question_97 : decode cX12_question 97 = .ok (.aload_n 0, 1) := by decide +kernel
theorem dX12_question_98 : decode cX12_question 98 = .ok (.getfield 537, 3) := by decide +kernel
theorem dX12_question_101 : decode cX12_question 101 = .ok (.iload_n 1, 1) := by decide +kernel
theorem dX12_question_102 : decode cX12_question 102 = .ok (.isub, 1) := by decide +kernel
theorem dX12_question_103 : decode cX12_question 103 = .ok (.goto 4, 3) := by decide +kernel
theorem dX12_question_106 : decode cX12_question 106 = .ok (.iconst (-1), 1) := by decide +kernel
theorem dX12_question_107 : decode cX12_question 107 = .ok (.putfield 550, 3) := by decide +kernel
theorem dX12_question_110 : decode cX12_question 110 = .ok (.goto (-82), 3) := by decide +kernel
theorem dX12_question_113 : decode cX12_question 113 = .ok (.return_, 1) := by decide +kernel
theorem dX12_clause_0 : decode cX12_clause 0 = .ok (.aload_n 0, 1) := by decide +kernel
theorem dX12_clause_1 : decode cX12_clause 1 = .ok (.getfield 537, 3) := by decide +kernel
theorem dX12_clause_4 : decode cX12_clause 4 = .ok (.istore_n 2, 1) := by decide +kernel
theorem dX12_clause_5 : decode cX12_clause 5 = .ok (.aload_n 0, 1) := by decide +kernel
theorem dX12_clause_6 : decode cX12_clause 6 = .ok (.invokevirtual 543, 3) := by decide +kernel
theorem dX12_clause_9 : decode cX12_clause 9 = .ok (.bipush 43, 2) := by decide +kernel
theorem dX12_clause_11 : decode cX12_clause 11 = .ok (.if_icmp .ne 7, 3) := by decide +kernel
theorem dX12_clause_14 : decode cX12_clause 14 = .ok (.iconst 1, 1) := by decide +kernel
theorem dX12_clause_15 : decode cX12_clause 15 = .ok (.goto 17, 3) := by decide +kernel
theorem dX12_clause_18 : decode cX12_clause 18 = .ok (.aload_n 0, 1) := by decide +kernel
theorem dX12_clause_19 : decode cX12_clause 19 = .ok (.invokevirtual 543, 3) := by decide +kernel
theorem dX12_clause_22 : decode cX12_clause 22 = .ok (.bipush 45, 2) := by decide +kernel
theorem dX12_clause_24 : decode cX12_clause 24 = .ok (.if_icmp .ne 7, 3) := by decide +kernel
theorem dX12_clause_27 : decode cX12_clause 27 = .ok (.iconst 2, 1) := by decide +kernel
theorem dX12_clause_28 : decode cX12_clause 28 = .ok (.goto 4, 3) := by decide +kernel
theorem dX12_clause_31 : decode cX12_clause 31 = .ok (.iconst 0, 1) := by decide +kernel
theorem dX12_clause_32 : decode cX12_clause 32 = .ok (.istore_n 3, 1) := by decide +kernel
theorem dX12_clause_33 : decode cX12_clause 33 = .ok (.iload_n 3, 1) := by decide +kernel
theorem dX12_clause_34 : decode cX12_clause 34 = .ok (.ifCond .gt 22, 3) := by decide +kernel
theorem dX12_clause_37 : decode cX12_clause 37 = .ok (.aload_n 0, 1) := by decide +kernel
theorem dX12_clause_38 : decode cX12_clause 38 = .ok (.invokevirtual 543, 3) := by decide +kernel
theorem dX12_clause_41 : decode cX12_clause 41 = .ok (.bipush 34, 2) := by decide +kernel
theorem dX12_clause_43 : decode cX12_clause 43 = .ok (.if_icmp .eq 13, 3) := by decide +kernel
theorem dX12_clause_46 : decode cX12_clause 46 = .ok (.aload_n 0, 1) := by decide +kernel
theorem dX12_clause_47 : decode cX12_clause 47 = .ok (.invokevirtual 543, 3) := by decide +kernel
theorem dX12_clause_50 : decode cX12_clause 50 = .ok (.invokestatic 521, 3) := by decide +kernel
theorem dX12_clause_53 : decode cX12_clause 53 = .ok (.ifCond .eq 7, 3) := by decide +kernel
theorem dX12_clause_56 : decode cX12_clause 56 = .ok (.iconst 1, 1) := by decide +kernel
theorem dX12_clause_57 : decode cX12_clause 57 = .ok (.goto 4, 3) := by decide +kernel
theorem dX12_clause_60 : decode cX12_clause 60 = .ok (.iconst 0, 1) := by decide +kernel
theorem dX12_clause_61 : decode cX12_clause 61 = .ok (.istore 4, 2) := by decide +kernel
theorem dX12_clause_63 : decode cX12_clause 63 = .ok (.iload 4, 2) := by decide +kernel
theorem dX12_clause_65 : decode cX12_clause 65 = .ok (.ifCond .eq 12, 3) := by decide +kernel
theorem dX12_clause_68 : decode cX12_clause 68 = .ok (.aload_n 0, 1) := by decide +kernel
theorem dX12_clause_69 : decode cX12_clause 69 = .ok (.getfield 547, 3) := by decide +kernel
theorem dX12_clause_72 : decode cX12_clause 72 = .ok (.bipush 6, 2) := by decide +kernel
theorem dX12_clause_74 : decode cX12_clause 74 = .ok (.if_icmp .ne 11, 3) := by decide +kernel
theorem dX12_clause_77 : decode cX12_clause 77 = .ok (.aload_n 0, 1) := by decide +kernel
theorem dX12_clause_78 : decode cX12_clause 78 = .ok (.iload_n 2, 1) := by decide +kernel
theorem dX12_clause_79 : decode cX12_clause 79 = .ok (.iload_n 1, 1) := by decide +kernel
theorem dX12_clause_80 : decode cX12_clause 80 = .ok (.isub, 1) := by decide +kernel
theorem dX12_clause_81 : decode cX12_clause 81 = .ok (.putfield 550, 3) := by decide +kernel
theorem dX12_clause_84 : decode cX12_clause 84 = .ok (.return_, 1) := by decide +kernel
theorem dX12_clause_85 : decode cX12_clause 85 = .ok (.aload_n 0, 1) := by decide +kernel
theorem dX12_clause_86 : decode cX12_clause 86 = .ok (.dup, 1) := by decide +kernel
theorem dX12_clause_87 : decode cX12_clause 87 = .ok (.getfield 537, 3) := by decide +kernel
theorem dX12_clause_90 : decode cX12_clause 90 = .ok (.iload_n 3, 1) := by decide +kernel
theorem dX12_clause_91 : decode cX12_clause 91 = .ok (.ifCond .le 7, 3) := by decide +kernel
theorem dX12_clause_94 : decode cX12_clause 94 = .ok (.iconst 1, 1) := by decide +kernel
theorem dX12_clause_95 : decode cX12_clause 95 = .ok (.goto 4, 3) := by decide +kernel
theorem dX12_clause_98 : decode cX12_clause 98 = .ok (.iconst 0, 1) := by decide +kernel
theorem dX12_clause_99 : decode cX12_clause 99 = .ok (.iadd, 1) := by decide +kernel
theorem dX12_clause_100 : decode cX12_clause 100 = .ok (.putfield 537, 3) := by decide +kernel
theorem dX12_clause_103 : decode cX12_clause 103 = .ok (.aload_n 0, 1) := by decide +kernel
theorem dX12_clause_104 : decode cX12_clause 104 = .ok (.getfield 547, 3) := by decide +kernel
theorem dX12_clause_107 : decode cX12_clause 107 = .ok (.istore 5, 2) := by decide +kernel
theorem dX12_clause_109 : decode cX12_clause 109 = .ok (.aload_n 0, 1) := by decide +kernel
theorem dX12_clause_110 : decode cX12_clause 110 = .ok (.dup, 1) := by decide +kernel
theorem dX12_clause_111 : decode cX12_clause 111 = .ok (.getfield 547, 3) := by decide +kernel
theorem dX12_clause_114 : decode cX12_clause 114 = .ok (.iconst 1, 1) := by decide +kernel
theorem dX12_clause_115 : decode cX12_clause 115 = .ok (.iadd, 1) := by decide +kernel
theorem dX12_clause_116 : decode cX12_clause 116 = .ok (.putfield 547, 3) := by decide +kernel
theorem dX12_clause_119 : decode cX12_clause 119 = .ok (.aload_n 0, 1) := by decide +kernel
theorem dX12_clause_120 : decode cX12_clause 120 = .ok (.getfield 262, 3) := by decide +kernel
theorem dX12_clause_123 : decode cX12_clause 123 = .ok (.iload 5, 2) := by decide +kernel
theorem dX12_clause_125 : decode cX12_clause 125 = .ok (.iload_n 3, 1) := by decide +kernel
theorem dX12_clause_126 : decode cX12_clause 126 = .ok (.iastore, 1) := by decide +kernel
theorem dX12_clause_127 : decode cX12_clause 127 = .ok (.aload_n 0, 1) := by decide +kernel
theorem dX12_clause_128 : decode cX12_clause 128 = .ok (.getfield 265, 3) := by decide +kernel
theorem dX12_clause_131 : decode cX12_clause 131 = .ok (.iload 5, 2) := by decide +kernel
theorem dX12_clause_133 : decode cX12_clause 133 = .ok (.iconst 0, 1) := by decide +kernel
theorem dX12_clause_134 : decode cX12_clause 134 = .ok (.bastore, 1) := by decide +kernel
theorem dX12_clause_135 : decode cX12_clause 135 = .ok (.aload_n 0, 1) := by decide +kernel
theorem dX12_clause_136 : decode cX12_clause 136 = .ok (.getfield 268, 3) := by decide +kernel
theorem dX12_clause_139 : decode cX12_clause 139 = .ok (.iload 5, 2) := by decide +kernel
theorem dX12_clause_141 : decode cX12_clause 141 = .ok (.iconst 0, 1) := by decide +kernel
theorem dX12_clause_142 : decode cX12_clause 142 = .ok (.iastore, 1) := by decide +kernel
theorem dX12_clause_143 : decode cX12_clause 143 = .ok (.aload_n 0, 1) := by decide +kernel
theorem dX12_clause_144 : decode cX12_clause 144 = .ok (.invokevirtual 543, 3) := by decide +kernel
theorem dX12_clause_147 : decode cX12_clause 147 = .ok (.invokestatic 521, 3) := by decide +kernel
theorem dX12_clause_150 : decode cX12_clause 150 = .ok (.ifCond .eq 22, 3) := by decide +kernel
theorem dX12_clause_153 : decode cX12_clause 153 = .ok (.aload_n 0, 1) := by decide +kernel
theorem dX12_clause_154 : decode cX12_clause 154 = .ok (.iload 5, 2) := by decide +kernel
theorem dX12_clause_156 : decode cX12_clause 156 = .ok (.iconst 0, 1) := by decide +kernel
theorem dX12_clause_157 : decode cX12_clause 157 = .ok (.iconst 1, 1) := by decide +kernel
theorem dX12_clause_158 : decode cX12_clause 158 = .ok (.invokevirtual 559, 3) := by decide +kernel
theorem dX12_clause_161 : decode cX12_clause 161 = .ok (.aload_n 0, 1) := by decide +kernel
theorem dX12_clause_162 : decode cX12_clause 162 = .ok (.getfield 268, 3) := by decide +kernel
theorem dX12_clause_165 : decode cX12_clause 165 = .ok (.iload 5, 2) := by decide +kernel
theorem dX12_clause_167 : decode cX12_clause 167 = .ok (.iconst 1, 1) := by decide +kernel
theorem dX12_clause_168 : decode cX12_clause 168 = .ok (.iastore, 1) := by decide +kernel
theorem dX12_clause_169 : decode cX12_clause 169 = .ok (.goto 42, 3) := by decide +kernel
theorem dX12_clause_172 : decode cX12_clause 172 = .ok (.aload_n 0, 1) := by decide +kernel
theorem dX12_clause_173 : decode cX12_clause 173 = .ok (.invokevirtual 543, 3) := by decide +kernel
theorem dX12_clause_176 : decode cX12_clause 176 = .ok (.bipush 34, 2) := by decide +kernel
theorem dX12_clause_178 : decode cX12_clause 178 = .ok (.if_icmp .ne 23, 3) := by decide +kernel
theorem dX12_clause_181 : decode cX12_clause 181 = .ok (.aload_n 0, 1) := by decide +kernel
theorem dX12_clause_182 : decode cX12_clause 182 = .ok (.dup, 1) := by decide +kernel
theorem dX12_clause_183 : decode cX12_clause 183 = .ok (.getfield 537, 3) := by decide +kernel
theorem dX12_clause_186 : decode cX12_clause 186 = .ok (.iconst 1, 1) := by decide +kernel
theorem dX12_clause_187 : decode cX12_clause 187 = .ok (.iadd, 1) := by decide +kernel
theorem dX12_clause_188 : decode cX12_clause 188 = .ok (.putfield 537, 3) := by decide +kernel
theorem dX12_clause_191 : decode cX12_clause 191 = .ok (.aload_n 0, 1) := by decide +kernel
theorem dX12_clause_192 : decode cX12_clause 192 = .ok (.iload 5, 2) := by decide +kernel
theorem dX12_clause_194 : decode cX12_clause 194 = .ok (.iload_n 1, 1) := by decide +kernel
theorem dX12_clause_195 : decode cX12_clause 195 = .ok (.invokevirtual 563, 3) := by decide +kernel
theorem dX12_clause_198 : decode cX12_clause 198 = .ok (.goto 13, 3) := by decide +kernel
theorem dX12_clause_201 : decode cX12_clause 201 = .ok (.aload_n 0, 1) := by decide +kernel
theorem dX12_clause_202 : decode cX12_clause 202 = .ok (.aload_n 0, 1) := by decide +kernel
theorem dX12_clause_203 : decode cX12_clause 203 = .ok (.getfield 537, 3) := by decide +kernel
theorem dX12_clause_206 : decode cX12_clause 206 = .ok (.iload_n 1, 1) := by decide +kernel
theorem dX12_clause_207 : decode cX12_clause 207 = .ok (.isub, 1) := by decide +kernel
theorem dX12_clause_208 : decode cX12_clause 208 = .ok (.putfield 550, 3) := by decide +kernel
theorem dX12_clause_211 : decode cX12_clause 211 = .ok (.iconst 0, 1) := by decide +kernel
theorem dX12_clause_212 : decode cX12_clause 212 = .ok (.istore 6, 2) := by decide +kernel
theorem dX12_clause_214 : decode cX12_clause 214 = .ok (.iconst 0, 1) := by decide +kernel
theorem dX12_clause_215 : decode cX12_clause 215 = .ok (.istore 7, 2) := by decide +kernel
theorem dX12_clause_217 : decode cX12_clause 217 = .ok (.iload 7, 2) := by decide +kernel
theorem dX12_clause_219 : decode cX12_clause 219 = .ok (.aload_n 0, 1) := by decide +kernel
theorem dX12_clause_220 : decode cX12_clause 220 = .ok (.getfield 268, 3) := by decide +kernel
theorem dX12_clause_223 : decode cX12_clause 223 = .ok (.iload 5, 2) := by decide +kernel
theorem dX12_clause_225 : decode cX12_clause 225 = .ok (.iaload, 1) := by decide +kernel
theorem dX12_clause_226 : decode cX12_clause 226 = .ok (.if_icmp .ge 36, 3) := by decide +kernel
theorem dX12_clause_229 : decode cX12_clause 229 = .ok (.iload 6, 2) := by decide +kernel
theorem dX12_clause_231 : decode cX12_clause 231 = .ok (.ifCond .ne 18, 3) := by decide +kernel
theorem dX12_clause_234 : decode cX12_clause 234 = .ok (.aload_n 0, 1) := by decide +kernel
theorem dX12_clause_235 : decode cX12_clause 235 = .ok (.getfield 271, 3) := by decide +kernel
theorem dX12_clause_238 : decode cX12_clause 238 = .ok (.iconst 4, 1) := by decide +kernel
theorem dX12_clause_239 : decode cX12_clause 239 = .ok (.iload 5, 2) := by decide +kernel
theorem dX12_clause_241 : decode cX12_clause 241 = .ok (.imul, 1) := by decide +kernel
theorem dX12_clause_242 : decode cX12_clause 242 = .ok (.iload 7, 2) := by decide +kernel
theorem dX12_clause_244 : decode cX12_clause 244 = .ok (.iadd, 1) := by decide +kernel
theorem dX12_clause_245 : decode cX12_clause 245 = .ok (.baload, 1) := by decide +kernel
theorem dX12_clause_246 : decode cX12_clause 246 = .ok (.ifCond .eq 7, 3) := by decide +kernel
theorem dX12_clause_249 : decode cX12_clause 249 = .ok (.iconst 1, 1) := by decide +kernel
theorem dX12_clause_250 : decode cX12_clause 250 = .ok (.goto 4, 3) := by decide +kernel
theorem dX12_clause_253 : decode cX12_clause 253 = .ok (.iconst 0, 1) := by decide +kernel
theorem dX12_clause_254 : decode cX12_clause 254 = .ok (.istore 6, 2) := by decide +kernel
theorem dX12_clause_256 : decode cX12_clause 256 = .ok (.iinc 7 1, 3) := by decide +kernel
theorem dX12_clause_259 : decode cX12_clause 259 = .ok (.goto (-42), 3) := by decide +kernel
theorem dX12_clause_262 : decode cX12_clause 262 = .ok (.aload_n 0, 1) := by decide +kernel
theorem dX12_clause_263 : decode cX12_clause 263 = .ok (.getfield 283, 3) := by decide +kernel
theorem dX12_clause_266 : decode cX12_clause 266 = .ok (.iload 5, 2) := by decide +kernel
theorem dX12_clause_268 : decode cX12_clause 268 = .ok (.iload 6, 2) := by decide +kernel
theorem dX12_clause_270 : decode cX12_clause 270 = .ok (.ifCond .ne 7, 3) := by decide +kernel
theorem dX12_clause_273 : decode cX12_clause 273 = .ok (.iconst 1, 1) := by decide +kernel
theorem dX12_clause_274 : decode cX12_clause 274 = .ok (.goto 4, 3) := by decide +kernel
theorem dX12_clause_277 : decode cX12_clause 277 = .ok (.iconst 0, 1) := by decide +kernel
theorem dX12_clause_278 : decode cX12_clause 278 = .ok (.bastore, 1) := by decide +kernel
theorem dX12_clause_279 : decode cX12_clause 279 = .ok (.return_, 1) := by decide +kernel
theorem dX12_rowsWithin_0 : decode cX12_rowsWithin 0 = .ok (.aload_n 0, 1) := by decide +kernel
theorem dX12_rowsWithin_1 : decode cX12_rowsWithin 1 = .ok (.invokevirtual 553, 3) := by decide +kernel
theorem dX12_rowsWithin_4 : decode cX12_rowsWithin 4 = .ok (.iconst 1, 1) := by decide +kernel
theorem dX12_rowsWithin_5 : decode cX12_rowsWithin 5 = .ok (.istore_n 3, 1) := by decide +kernel
theorem dX12_rowsWithin_6 : decode cX12_rowsWithin 6 = .ok (.iload_n 3, 1) := by decide +kernel
theorem dX12_rowsWithin_7 : decode cX12_rowsWithin 7 = .ok (.ifCond .eq 114, 3) := by decide +kernel
theorem dX12_rowsWithin_10 : decode cX12_rowsWithin 10 = .ok (.aload_n 0, 1) := by decide +kernel
theorem dX12_rowsWithin_11 : decode cX12_rowsWithin 11 = .ok (.invokevirtual 543, 3) := by decide +kernel
theorem dX12_rowsWithin_14 : decode cX12_rowsWithin 14 = .ok (.invokestatic 521, 3) := by decide +kernel
theorem dX12_rowsWithin_17 : decode cX12_rowsWithin 17 = .ok (.ifCond .eq 13, 3) := by decide +kernel
theorem dX12_rowsWithin_20 : decode cX12_rowsWithin 20 = .ok (.aload_n 0, 1) := by decide +kernel
theorem dX12_rowsWithin_21 : decode cX12_rowsWithin 21 = .ok (.getfield 268, 3) := by decide +kernel
theorem dX12_rowsWithin_24 : decode cX12_rowsWithin 24 = .ok (.iload_n 1, 1) := by decide +kernel
theorem dX12_rowsWithin_25 : decode cX12_rowsWithin 25 = .ok (.iaload, 1) := by decide +kernel
theorem dX12_rowsWithin_26 : decode cX12_rowsWithin 26 = .ok (.iconst 4, 1) := by decide +kernel
theorem dX12_rowsWithin_27 : decode cX12_rowsWithin 27 = .ok (.if_icmp .ne 14, 3) := by decide +kernel
theorem dX12_rowsWithin_30 : decode cX12_rowsWithin 30 = .ok (.aload_n 0, 1) := by decide +kernel
theorem dX12_rowsWithin_31 : decode cX12_rowsWithin 31 = .ok (.aload_n 0, 1) := by decide +kernel
theorem dX12_rowsWithin_32 : decode cX12_rowsWithin 32 = .ok (.getfield 537, 3) := by decide +kernel
theorem dX12_rowsWithin_35 : decode cX12_rowsWithin 35 = .ok (.iload_n 2, 1) := by decide +kernel
theorem dX12_rowsWithin_36 : decode cX12_rowsWithin 36 = .ok (.isub, 1) := by decide +kernel
theorem dX12_rowsWithin_37 : decode cX12_rowsWithin 37 = .ok (.putfield 550, 3) := by decide +kernel
theorem dX12_rowsWithin_40 : decode cX12_rowsWithin 40 = .ok (.return_, 1) := by decide +kernel
theorem dX12_rowsWithin_41 : decode cX12_rowsWithin 41 = .ok (.aload_n 0, 1) := by decide +kernel
theorem dX12_rowsWithin_42 : decode cX12_rowsWithin 42 = .ok (.iload_n 1, 1) := by decide +kernel
theorem dX12_rowsWithin_43 : decode cX12_rowsWithin 43 = .ok (.aload_n 0, 1) := by decide +kernel
theorem dX12_rowsWithin_44 : decode cX12_rowsWithin 44 = .ok (.getfield 268, 3) := by decide +kernel
theorem dX12_rowsWithin_47 : decode cX12_rowsWithin 47 = .ok (.iload_n 1, 1) := by decide +kernel
theorem dX12_rowsWithin_48 : decode cX12_rowsWithin 48 = .ok (.iaload, 1) := by decide +kernel
theorem dX12_rowsWithin_49 : decode cX12_rowsWithin 49 = .ok (.iconst 0, 1) := by decide +kernel
theorem dX12_rowsWithin_50 : decode cX12_rowsWithin 50 = .ok (.invokevirtual 559, 3) := by decide +kernel
theorem dX12_rowsWithin_53 : decode cX12_rowsWithin 53 = .ok (.aload_n 0, 1) := by decide +kernel
theorem dX12_rowsWithin_54 : decode cX12_rowsWithin 54 = .ok (.getfield 268, 3) := by decide +kernel
theorem dX12_rowsWithin_57 : decode cX12_rowsWithin 57 = .ok (.iload_n 1, 1) := by decide +kernel
theorem dX12_rowsWithin_58 : decode cX12_rowsWithin 58 = .ok (.dup2, 1) := by decide +kernel
theorem dX12_rowsWithin_59 : decode cX12_rowsWithin 59 = .ok (.iaload, 1) := by decide +kernel
theorem dX12_rowsWithin_60 : decode cX12_rowsWithin 60 = .ok (.iconst 1, 1) := by decide +kernel
theorem dX12_rowsWithin_61 : decode cX12_rowsWithin 61 = .ok (.iadd, 1) := by decide +kernel
theorem dX12_rowsWithin_62 : decode cX12_rowsWithin 62 = .ok (.iastore, 1) := by decide +kernel
theorem dX12_rowsWithin_63 : decode cX12_rowsWithin 63 = .ok (.aload_n 0, 1) := by decide +kernel
theorem dX12_rowsWithin_64 : decode cX12_rowsWithin 64 = .ok (.invokevirtual 543, 3) := by decide +kernel
theorem dX12_rowsWithin_67 : decode cX12_rowsWithin 67 = .ok (.bipush 32, 2) := by decide +kernel
theorem dX12_rowsWithin_69 : decode cX12_rowsWithin 69 = .ok (.if_icmp .ne 7, 3) := by decide +kernel
theorem dX12_rowsWithin_72 : decode cX12_rowsWithin 72 = .ok (.iconst 1, 1) := by decide +kernel
theorem dX12_rowsWithin_73 : decode cX12_rowsWithin 73 = .ok (.goto 4, 3) := by decide +kernel
theorem dX12_rowsWithin_76 : decode cX12_rowsWithin 76 = .ok (.iconst 0, 1) := by decide +kernel
theorem dX12_rowsWithin_77 : decode cX12_rowsWithin 77 = .ok (.istore 4, 2) := by decide +kernel
theorem dX12_rowsWithin_79 : decode cX12_rowsWithin 79 = .ok (.aload_n 0, 1) := by decide +kernel
theorem dX12_rowsWithin_80 : decode cX12_rowsWithin 80 = .ok (.invokevirtual 553, 3) := by decide +kernel
theorem dX12_rowsWithin_83 : decode cX12_rowsWithin 83 = .ok (.aload_n 0, 1) := by decide +kernel
theorem dX12_rowsWithin_84 : decode cX12_rowsWithin 84 = .ok (.invokevirtual 543, 3) := by decide +kernel
theorem dX12_rowsWithin_87 : decode cX12_rowsWithin 87 = .ok (.bipush 34, 2) := by decide +kernel
theorem dX12_rowsWithin_89 : decode cX12_rowsWithin 89 = .ok (.if_icmp .eq 7, 3) := by decide +kernel
theorem dX12_rowsWithin_92 : decode cX12_rowsWithin 92 = .ok (.iconst 1, 1) := by decide +kernel
theorem dX12_rowsWithin_93 : decode cX12_rowsWithin 93 = .ok (.goto 4, 3) := by decide +kernel
theorem dX12_rowsWithin_96 : decode cX12_rowsWithin 96 = .ok (.iconst 0, 1) := by decide +kernel
theorem dX12_rowsWithin_97 : decode cX12_rowsWithin 97 = .ok (.istore_n 3, 1) := by decide +kernel
theorem dX12_rowsWithin_98 : decode cX12_rowsWithin 98 = .ok (.iload_n 3, 1) := by decide +kernel
theorem dX12_rowsWithin_99 : decode cX12_rowsWithin 99 = .ok (.ifCond .eq 19, 3) := by decide +kernel
theorem dX12_rowsWithin_102 : decode cX12_rowsWithin 102 = .ok (.iload 4, 2) := by decide +kernel
theorem dX12_rowsWithin_104 : decode cX12_rowsWithin 104 = .ok (.ifCond .ne 14, 3) := by decide +kernel
theorem dX12_rowsWithin_107 : decode cX12_rowsWithin 107 = .ok (.aload_n 0, 1) := by decide +kernel
theorem dX12_rowsWithin_108 : decode cX12_rowsWithin 108 = .ok (.aload_n 0, 1) := by decide +kernel
theorem dX12_rowsWithin_109 : decode cX12_rowsWithin 109 = .ok (.getfield 537, 3) := by decide +kernel
theorem dX12_rowsWithin_112 : decode cX12_rowsWithin 112 = .ok (.iload_n 2, 1) := by decide +kernel
theorem dX12_rowsWithin_113 : decode cX12_rowsWithin 113 = .ok (.isub, 1) := by decide +kernel
theorem dX12_rowsWithin_114 : decode cX12_rowsWithin 114 = .ok (.putfield 550, 3) := by decide +kernel
theorem dX12_rowsWithin_117 : decode cX12_rowsWithin 117 = .ok (.return_, 1) := by decide +kernel
theorem dX12_rowsWithin_118 : decode cX12_rowsWithin 118 = .ok (.goto (-112), 3) := by decide +kernel
theorem dX12_rowsWithin_121 : decode cX12_rowsWithin 121 = .ok (.aload_n 0, 1) := by decide +kernel
theorem dX12_rowsWithin_122 : decode cX12_rowsWithin 122 = .ok (.dup, 1) := by decide +kernel
theorem dX12_rowsWithin_123 : decode cX12_rowsWithin 123 = .ok (.getfield 537, 3) := by decide +kernel
theorem dX12_rowsWithin_126 : decode cX12_rowsWithin 126 = .ok (.iconst 1, 1) := by decide +kernel
theorem dX12_rowsWithin_127 : decode cX12_rowsWithin 127 = .ok (.iadd, 1) := by decide +kernel
theorem dX12_rowsWithin_128 : decode cX12_rowsWithin 128 = .ok (.putfield 537, 3) := by decide +kernel
theorem dX12_rowsWithin_131 : decode cX12_rowsWithin 131 = .ok (.return_, 1) := by decide +kernel
theorem dX12_questionOf_0 : decode cX12_questionOf 0 = .ok (.aload_n 0, 1) := by decide +kernel
theorem dX12_questionOf_1 : decode cX12_questionOf 1 = .ok (.bipush 60, 2) := by decide +kernel
theorem dX12_questionOf_3 : decode cX12_questionOf 3 = .ok (.iload_n 1, 1) := by decide +kernel
theorem dX12_questionOf_4 : decode cX12_questionOf 4 = .ok (.imul, 1) := by decide +kernel
theorem dX12_questionOf_5 : decode cX12_questionOf 5 = .ok (.aload_n 0, 1) := by decide +kernel
theorem dX12_questionOf_6 : decode cX12_questionOf 6 = .ok (.getfield 50, 3) := by decide +kernel
theorem dX12_questionOf_9 : decode cX12_questionOf 9 = .ok (.iload_n 1, 1) := by decide +kernel
theorem dX12_questionOf_10 : decode cX12_questionOf 10 = .ok (.iaload, 1) := by decide +kernel
theorem dX12_questionOf_11 : decode cX12_questionOf 11 = .ok (.invokevirtual 566, 3) := by decide +kernel
theorem dX12_questionOf_14 : decode cX12_questionOf 14 = .ok (.return_, 1) := by decide +kernel
theorem dX12_begins_0 : decode cX12_begins 0 = .ok (.aload_n 0, 1) := by decide +kernel
theorem dX12_begins_1 : decode cX12_begins 1 = .ok (.getfield 280, 3) := by decide +kernel
theorem dX12_begins_4 : decode cX12_begins 4 = .ok (.iload_n 2, 1) := by decide +kernel
theorem dX12_begins_5 : decode cX12_begins 5 = .ok (.iaload, 1) := by decide +kernel
theorem dX12_begins_6 : decode cX12_begins 6 = .ok (.istore_n 3, 1) := by decide +kernel
theorem dX12_begins_7 : decode cX12_begins 7 = .ok (.iload_n 3, 1) := by decide +kernel
theorem dX12_begins_8 : decode cX12_begins 8 = .ok (.bipush 8, 2) := by decide +kernel
theorem dX12_begins_10 : decode cX12_begins 10 = .ok (.if_icmp .gt 41, 3) := by decide +kernel
theorem dX12_begins_13 : decode cX12_begins 13 = .ok (.aload_n 0, 1) := by decide +kernel
theorem dX12_begins_14 : decode cX12_begins 14 = .ok (.getfield 252, 3) := by decide +kernel
theorem dX12_begins_17 : decode cX12_begins 17 = .ok (.iload_n 1, 1) := by decide +kernel
theorem dX12_begins_18 : decode cX12_begins 18 = .ok (.laload, 1) := by decide +kernel
theorem dX12_begins_19 : decode cX12_begins 19 = .ok (.bipush 8, 2) := by decide +kernel
theorem dX12_begins_21 : decode cX12_begins 21 = .ok (.bipush 8, 2) := by decide +kernel
theorem dX12_begins_23 : decode cX12_begins 23 = .ok (.iload_n 3, 1) := by decide +kernel
theorem dX12_begins_24 : decode cX12_begins 24 = .ok (.isub, 1) := by decide +kernel
theorem dX12_begins_25 : decode cX12_begins 25 = .ok (.imul, 1) := by decide +kernel
theorem dX12_begins_26 : decode cX12_begins 26 = .ok (.lshr, 1) := by decide +kernel
theorem dX12_begins_27 : decode cX12_begins 27 = .ok (.aload_n 0, 1) := by decide +kernel
theorem dX12_begins_28 : decode cX12_begins 28 = .ok (.getfield 274, 3) := by decide +kernel
theorem dX12_begins_31 : decode cX12_begins 31 = .ok (.iload_n 2, 1) := by decide +kernel
theorem dX12_begins_32 : decode cX12_begins 32 = .ok (.laload, 1) := by decide +kernel
theorem dX12_begins_33 : decode cX12_begins 33 = .ok (.bipush 8, 2) := by decide +kernel
theorem dX12_begins_35 : decode cX12_begins 35 = .ok (.bipush 8, 2) := by decide +kernel
theorem dX12_begins_37 : decode cX12_begins 37 = .ok (.iload_n 3, 1) := by decide +kernel
theorem dX12_begins_38 : decode cX12_begins 38 = .ok (.isub, 1) := by decide +kernel
theorem dX12_begins_39 : decode cX12_begins 39 = .ok (.imul, 1) := by decide +kernel
theorem dX12_begins_40 : decode cX12_begins 40 = .ok (.lshr, 1) := by decide +kernel
theorem dX12_begins_41 : decode cX12_begins 41 = .ok (.lcmp, 1) := by decide +kernel
theorem dX12_begins_42 : decode cX12_begins 42 = .ok (.ifCond .ne 7, 3) := by decide +kernel
theorem dX12_begins_45 : decode cX12_begins 45 = .ok (.iconst 1, 1) := by decide +kernel
theorem dX12_begins_46 : decode cX12_begins 46 = .ok (.goto 4, 3) := by decide +kernel
theorem dX12_begins_49 : decode cX12_begins 49 = .ok (.iconst 0, 1) := by decide +kernel
theorem dX12_begins_50 : decode cX12_begins 50 = .ok (.ireturn, 1) := by decide +kernel
theorem dX12_begins_51 : decode cX12_begins 51 = .ok (.aload_n 0, 1) := by decide +kernel
theorem dX12_begins_52 : decode cX12_begins 52 = .ok (.getfield 252, 3) := by decide +kernel
theorem dX12_begins_55 : decode cX12_begins 55 = .ok (.iload_n 1, 1) := by decide +kernel
theorem dX12_begins_56 : decode cX12_begins 56 = .ok (.laload, 1) := by decide +kernel
theorem dX12_begins_57 : decode cX12_begins 57 = .ok (.aload_n 0, 1) := by decide +kernel
theorem dX12_begins_58 : decode cX12_begins 58 = .ok (.getfield 274, 3) := by decide +kernel
theorem dX12_begins_61 : decode cX12_begins 61 = .ok (.iload_n 2, 1) := by decide +kernel
theorem dX12_begins_62 : decode cX12_begins 62 = .ok (.laload, 1) := by decide +kernel
theorem dX12_begins_63 : decode cX12_begins 63 = .ok (.lcmp, 1) := by decide +kernel
theorem dX12_begins_64 : decode cX12_begins 64 = .ok (.ifCond .ne 39, 3) := by decide +kernel
theorem dX12_begins_67 : decode cX12_begins 67 = .ok (.aload_n 0, 1) := by decide +kernel
theorem dX12_begins_68 : decode cX12_begins 68 = .ok (.getfield 256, 3) := by decide +kernel
theorem dX12_begins_71 : decode cX12_begins 71 = .ok (.iload_n 1, 1) := by decide +kernel
theorem dX12_begins_72 : decode cX12_begins 72 = .ok (.laload, 1) := by decide +kernel
theorem dX12_begins_73 : decode cX12_begins 73 = .ok (.bipush 8, 2) := by decide +kernel
theorem dX12_begins_75 : decode cX12_begins 75 = .ok (.bipush 12, 2) := by decide +kernel
theorem dX12_begins_77 : decode cX12_begins 77 = .ok (.iload_n 3, 1) := by decide +kernel
theorem dX12_begins_78 : decode cX12_begins 78 = .ok (.isub, 1) := by decide +kernel
theorem dX12_begins_79 : decode cX12_begins 79 = .ok (.imul, 1) := by decide +kernel
theorem dX12_begins_80 : decode cX12_begins 80 = .ok (.lshr, 1) := by decide +kernel
theorem dX12_begins_81 : decode cX12_begins 81 = .ok (.aload_n 0, 1) := by decide +kernel
theorem dX12_begins_82 : decode cX12_begins 82 = .ok (.getfield 277, 3) := by decide +kernel
theorem dX12_begins_85 : decode cX12_begins 85 = .ok (.iload_n 2, 1) := by decide +kernel
theorem dX12_begins_86 : decode cX12_begins 86 = .ok (.laload, 1) := by decide +kernel
theorem dX12_begins_87 : decode cX12_begins 87 = .ok (.bipush 8, 2) := by decide +kernel
theorem dX12_begins_89 : decode cX12_begins 89 = .ok (.bipush 12, 2) := by decide +kernel
theorem dX12_begins_91 : decode cX12_begins 91 = .ok (.iload_n 3, 1) := by decide +kernel
theorem dX12_begins_92 : decode cX12_begins 92 = .ok (.isub, 1) := by decide +kernel
theorem dX12_begins_93 : decode cX12_begins 93 = .ok (.imul, 1) := by decide +kernel
theorem dX12_begins_94 : decode cX12_begins 94 = .ok (.lshr, 1) := by decide +kernel
theorem dX12_begins_95 : decode cX12_begins 95 = .ok (.lcmp, 1) := by decide +kernel
theorem dX12_begins_96 : decode cX12_begins 96 = .ok (.ifCond .ne 7, 3) := by decide +kernel
theorem dX12_begins_99 : decode cX12_begins 99 = .ok (.iconst 1, 1) := by decide +kernel
theorem dX12_begins_100 : decode cX12_begins 100 = .ok (.goto 4, 3) := by decide +kernel
theorem dX12_begins_103 : decode cX12_begins 103 = .ok (.iconst 0, 1) := by decide +kernel
theorem dX12_begins_104 : decode cX12_begins 104 = .ok (.ireturn, 1) := by decide +kernel
theorem dX12_hasAt_0 : decode cX12_hasAt 0 = .ok (.iconst 0, 1) := by decide +kernel
theorem dX12_hasAt_1 : decode cX12_hasAt 1 = .ok (.istore_n 3, 1) := by decide +kernel
theorem dX12_hasAt_2 : decode cX12_hasAt 2 = .ok (.iload_n 3, 1) := by decide +kernel
theorem dX12_hasAt_3 : decode cX12_hasAt 3 = .ok (.aload_n 0, 1) := by decide +kernel
theorem dX12_hasAt_4 : decode cX12_hasAt 4 = .ok (.getfield 518, 3) := by decide +kernel
theorem dX12_hasAt_7 : decode cX12_hasAt 7 = .ok (.if_icmp .ge 57, 3) := by decide +kernel
theorem dX12_hasAt_10 : decode cX12_hasAt 10 = .ok (.aload_n 0, 1) := by decide +kernel
theorem dX12_hasAt_11 : decode cX12_hasAt 11 = .ok (.getfield 259, 3) := by decide +kernel
theorem dX12_hasAt_14 : decode cX12_hasAt 14 = .ok (.iload_n 3, 1) := by decide +kernel
theorem dX12_hasAt_15 : decode cX12_hasAt 15 = .ok (.iaload, 1) := by decide +kernel
theorem dX12_hasAt_16 : decode cX12_hasAt 16 = .ok (.iload_n 2, 1) := by decide +kernel
theorem dX12_hasAt_17 : decode cX12_hasAt 17 = .ok (.if_icmp .ne 41, 3) := by decide +kernel
theorem dX12_hasAt_20 : decode cX12_hasAt 20 = .ok (.aload_n 0, 1) := by decide +kernel
theorem dX12_hasAt_21 : decode cX12_hasAt 21 = .ok (.getfield 252, 3) := by decide +kernel
theorem dX12_hasAt_24 : decode cX12_hasAt 24 = .ok (.iload_n 3, 1) := by decide +kernel
theorem dX12_hasAt_25 : decode cX12_hasAt 25 = .ok (.laload, 1) := by decide +kernel
theorem dX12_hasAt_26 : decode cX12_hasAt 26 = .ok (.aload_n 0, 1) := by decide +kernel
theorem dX12_hasAt_27 : decode cX12_hasAt 27 = .ok (.getfield 274, 3) := by decide +kernel
theorem dX12_hasAt_30 : decode cX12_hasAt 30 = .ok (.iload_n 1, 1) := by decide +kernel
theorem dX12_hasAt_31 : decode cX12_hasAt 31 = .ok (.laload, 1) := by decide +kernel
theorem dX12_hasAt_32 : decode cX12_hasAt 32 = .ok (.lcmp, 1) := by decide +kernel
theorem dX12_hasAt_33 : decode cX12_hasAt 33 = .ok (.ifCond .ne 23, 3) := by decide +kernel
theorem dX12_hasAt_36 : decode cX12_hasAt 36 = .ok (.aload_n 0, 1) := by decide +kernel
theorem dX12_hasAt_37 : decode cX12_hasAt 37 = .ok (.getfield 256, 3) := by decide +kernel
theorem dX12_hasAt_40 : decode cX12_hasAt 40 = .ok (.iload_n 3, 1) := by decide +kernel
theorem dX12_hasAt_41 : decode cX12_hasAt 41 = .ok (.laload, 1) := by decide +kernel
theorem dX12_hasAt_42 : decode cX12_hasAt 42 = .ok (.aload_n 0, 1) := by decide +kernel
theorem dX12_hasAt_43 : decode cX12_hasAt 43 = .ok (.getfield 277, 3) := by decide +kernel
theorem dX12_hasAt_46 : decode cX12_hasAt 46 = .ok (.iload_n 1, 1) := by decide +kernel
theorem dX12_hasAt_47 : decode cX12_hasAt 47 = .ok (.laload, 1) := by decide +kernel
theorem dX12_hasAt_48 : decode cX12_hasAt 48 = .ok (.lcmp, 1) := by decide +kernel
theorem dX12_hasAt_49 : decode cX12_hasAt 49 = .ok (.ifCond .ne 7, 3) := by decide +kernel
theorem dX12_hasAt_52 : decode cX12_hasAt 52 = .ok (.iconst 1, 1) := by decide +kernel
theorem dX12_hasAt_53 : decode cX12_hasAt 53 = .ok (.goto 4, 3) := by decide +kernel
theorem dX12_hasAt_56 : decode cX12_hasAt 56 = .ok (.iconst 0, 1) := by decide +kernel
theorem dX12_hasAt_57 : decode cX12_hasAt 57 = .ok (.ireturn, 1) := by decide +kernel
theorem dX12_hasAt_58 : decode cX12_hasAt 58 = .ok (.iinc 3 1, 3) := by decide +kernel
theorem dX12_hasAt_61 : decode cX12_hasAt 61 = .ok (.goto (-59), 3) := by decide +kernel
theorem dX12_hasAt_64 : decode cX12_hasAt 64 = .ok (.iconst 0, 1) := by decide +kernel
theorem dX12_hasAt_65 : decode cX12_hasAt 65 = .ok (.ireturn, 1) := by decide +kernel
theorem dX12_fitting_0 : decode cX12_fitting 0 = .ok (.iconst 0, 1) := by decide +kernel
theorem dX12_fitting_1 : decode cX12_fitting 1 = .ok (.istore_n 2, 1) := by decide +kernel
theorem dX12_fitting_2 : decode cX12_fitting 2 = .ok (.aload_n 0, 1) := by decide +kernel
theorem dX12_fitting_3 : decode cX12_fitting 3 = .ok (.getfield 265, 3) := by decide +kernel
theorem dX12_fitting_6 : decode cX12_fitting 6 = .ok (.iload_n 1, 1) := by decide +kernel
theorem dX12_fitting_7 : decode cX12_fitting 7 = .ok (.baload, 1) := by decide +kernel
theorem dX12_fitting_8 : decode cX12_fitting 8 = .ok (.ifCond .eq 40, 3) := by decide +kernel
theorem dX12_fitting_11 : decode cX12_fitting 11 = .ok (.iconst 0, 1) := by decide +kernel
theorem dX12_fitting_12 : decode cX12_fitting 12 = .ok (.istore_n 3, 1) := by decide +kernel
theorem dX12_fitting_13 : decode cX12_fitting 13 = .ok (.iload_n 3, 1) := by decide +kernel
theorem dX12_fitting_14 : decode cX12_fitting 14 = .ok (.aload_n 0, 1) := by decide +kernel
theorem dX12_fitting_15 : decode cX12_fitting 15 = .ok (.getfield 518, 3) := by decide +kernel
theorem dX12_fitting_18 : decode cX12_fitting 18 = .ok (.if_icmp .ge 28, 3) := by decide +kernel
theorem dX12_fitting_21 : decode cX12_fitting 21 = .ok (.iload_n 2, 1) := by decide +kernel
theorem dX12_fitting_22 : decode cX12_fitting 22 = .ok (.aload_n 0, 1) := by decide +kernel
theorem dX12_fitting_23 : decode cX12_fitting 23 = .ok (.iload_n 3, 1) := by decide +kernel
theorem dX12_fitting_24 : decode cX12_fitting 24 = .ok (.iconst 4, 1) := by decide +kernel
theorem dX12_fitting_25 : decode cX12_fitting 25 = .ok (.iload_n 1, 1) := by decide +kernel
theorem dX12_fitting_26 : decode cX12_fitting 26 = .ok (.imul, 1) := by decide +kernel
theorem dX12_fitting_27 : decode cX12_fitting 27 = .ok (.invokevirtual 569, 3) := by decide +kernel
theorem dX12_fitting_30 : decode cX12_fitting 30 = .ok (.ifCond .eq 7, 3) := by decide +kernel
theorem dX12_fitting_33 : decode cX12_fitting 33 = .ok (.iconst 1, 1) := by decide +kernel
theorem dX12_fitting_34 : decode cX12_fitting 34 = .ok (.goto 4, 3) := by decide +kernel
theorem dX12_fitting_37 : decode cX12_fitting 37 = .ok (.iconst 0, 1) := by decide +kernel
theorem dX12_fitting_38 : decode cX12_fitting 38 = .ok (.iadd, 1) := by decide +kernel
theorem dX12_fitting_39 : decode cX12_fitting 39 = .ok (.istore_n 2, 1) := by decide +kernel
theorem dX12_fitting_40 : decode cX12_fitting 40 = .ok (.iinc 3 1, 3) := by decide +kernel
theorem dX12_fitting_43 : decode cX12_fitting 43 = .ok (.goto (-30), 3) := by decide +kernel
theorem dX12_fitting_46 : decode cX12_fitting 46 = .ok (.iload_n 2, 1) := by decide +kernel
theorem dX12_fitting_47 : decode cX12_fitting 47 = .ok (.ireturn, 1) := by decide +kernel
theorem dX12_fitting_48 : decode cX12_fitting 48 = .ok (.iconst 0, 1) := by decide +kernel
theorem dX12_fitting_49 : decode cX12_fitting 49 = .ok (.istore_n 3, 1) := by decide +kernel
theorem dX12_fitting_50 : decode cX12_fitting 50 = .ok (.aload_n 0, 1) := by decide +kernel
theorem dX12_fitting_51 : decode cX12_fitting 51 = .ok (.getfield 271, 3) := by decide +kernel
theorem dX12_fitting_54 : decode cX12_fitting 54 = .ok (.iconst 4, 1) := by decide +kernel
theorem dX12_fitting_55 : decode cX12_fitting 55 = .ok (.iload_n 1, 1) := by decide +kernel
theorem dX12_fitting_56 : decode cX12_fitting 56 = .ok (.imul, 1) := by decide +kernel
theorem dX12_fitting_57 : decode cX12_fitting 57 = .ok (.iload_n 3, 1) := by decide +kernel
theorem dX12_fitting_58 : decode cX12_fitting 58 = .ok (.iadd, 1) := by decide +kernel
theorem dX12_fitting_59 : decode cX12_fitting 59 = .ok (.baload, 1) := by decide +kernel
theorem dX12_fitting_60 : decode cX12_fitting 60 = .ok (.ifCond .ne 9, 3) := by decide +kernel
theorem dX12_fitting_63 : decode cX12_fitting 63 = .ok (.iinc 3 1, 3) := by decide +kernel
theorem dX12_fitting_66 : decode cX12_fitting 66 = .ok (.goto (-16), 3) := by decide +kernel
theorem dX12_fitting_69 : decode cX12_fitting 69 = .ok (.iconst 0, 1) := by decide +kernel
theorem dX12_fitting_70 : decode cX12_fitting 70 = .ok (.istore 4, 2) := by decide +kernel
theorem dX12_fitting_72 : decode cX12_fitting 72 = .ok (.iload 4, 2) := by decide +kernel
theorem dX12_fitting_74 : decode cX12_fitting 74 = .ok (.aload_n 0, 1) := by decide +kernel
theorem dX12_fitting_75 : decode cX12_fitting 75 = .ok (.getfield 518, 3) := by decide +kernel
theorem dX12_fitting_78 : decode cX12_fitting 78 = .ok (.if_icmp .ge 109, 3) := by decide +kernel
theorem dX12_fitting_81 : decode cX12_fitting 81 = .ok (.aload_n 0, 1) := by decide +kernel
theorem dX12_fitting_82 : decode cX12_fitting 82 = .ok (.getfield 259, 3) := by decide +kernel
theorem dX12_fitting_85 : decode cX12_fitting 85 = .ok (.iload 4, 2) := by decide +kernel
theorem dX12_fitting_87 : decode cX12_fitting 87 = .ok (.iaload, 1) := by decide +kernel
theorem dX12_fitting_88 : decode cX12_fitting 88 = .ok (.iload_n 3, 1) := by decide +kernel
theorem dX12_fitting_89 : decode cX12_fitting 89 = .ok (.isub, 1) := by decide +kernel
theorem dX12_fitting_90 : decode cX12_fitting 90 = .ok (.istore 5, 2) := by decide +kernel
theorem dX12_fitting_92 : decode cX12_fitting 92 = .ok (.iload 5, 2) := by decide +kernel
theorem dX12_fitting_94 : decode cX12_fitting 94 = .ok (.ifCond .lt 7, 3) := by decide +kernel
theorem dX12_fitting_97 : decode cX12_fitting 97 = .ok (.iconst 1, 1) := by decide +kernel
theorem dX12_fitting_98 : decode cX12_fitting 98 = .ok (.goto 4, 3) := by decide +kernel
theorem dX12_fitting_101 : decode cX12_fitting 101 = .ok (.iconst 0, 1) := by decide +kernel
theorem dX12_fitting_102 : decode cX12_fitting 102 = .ok (.istore 6, 2) := by decide +kernel
theorem dX12_fitting_104 : decode cX12_fitting 104 = .ok (.iconst 0, 1) := by decide +kernel
theorem dX12_fitting_105 : decode cX12_fitting 105 = .ok (.istore 7, 2) := by decide +kernel
theorem dX12_fitting_107 : decode cX12_fitting 107 = .ok (.iload 7, 2) := by decide +kernel
theorem dX12_fitting_109 : decode cX12_fitting 109 = .ok (.aload_n 0, 1) := by decide +kernel
theorem dX12_fitting_110 : decode cX12_fitting 110 = .ok (.getfield 268, 3) := by decide +kernel
theorem dX12_fitting_113 : decode cX12_fitting 113 = .ok (.iload_n 1, 1) := by decide +kernel
theorem dX12_fitting_114 : decode cX12_fitting 114 = .ok (.iaload, 1) := by decide +kernel
theorem dX12_fitting_115 : decode cX12_fitting 115 = .ok (.if_icmp .ge 53, 3) := by decide +kernel
theorem dX12_fitting_118 : decode cX12_fitting 118 = .ok (.iload 6, 2) := by decide +kernel
theorem dX12_fitting_120 : decode cX12_fitting 120 = .ok (.ifCond .eq 48, 3) := by decide +kernel
theorem dX12_fitting_123 : decode cX12_fitting 123 = .ok (.aload_n 0, 1) := by decide +kernel
theorem dX12_fitting_124 : decode cX12_fitting 124 = .ok (.getfield 271, 3) := by decide +kernel
theorem dX12_fitting_127 : decode cX12_fitting 127 = .ok (.iconst 4, 1) := by decide +kernel
theorem dX12_fitting_128 : decode cX12_fitting 128 = .ok (.iload_n 1, 1) := by decide +kernel
theorem dX12_fitting_129 : decode cX12_fitting 129 = .ok (.imul, 1) := by decide +kernel
theorem dX12_fitting_130 : decode cX12_fitting 130 = .ok (.iload 7, 2) := by decide +kernel
theorem dX12_fitting_132 : decode cX12_fitting 132 = .ok (.iadd, 1) := by decide +kernel
theorem dX12_fitting_133 : decode cX12_fitting 133 = .ok (.baload, 1) := by decide +kernel
theorem dX12_fitting_134 : decode cX12_fitting 134 = .ok (.ifCond .eq 21, 3) := by decide +kernel
theorem dX12_fitting_137 : decode cX12_fitting 137 = .ok (.aload_n 0, 1) := by decide +kernel
theorem dX12_fitting_138 : decode cX12_fitting 138 = .ok (.iconst 4, 1) := by decide +kernel
theorem dX12_fitting_139 : decode cX12_fitting 139 = .ok (.iload_n 1, 1) := by decide +kernel
theorem dX12_fitting_140 : decode cX12_fitting 140 = .ok (.imul, 1) := by decide +kernel
theorem dX12_fitting_141 : decode cX12_fitting 141 = .ok (.iload 7, 2) := by decide +kernel
theorem dX12_fitting_143 : decode cX12_fitting 143 = .ok (.iadd, 1) := by decide +kernel
theorem dX12_fitting_144 : decode cX12_fitting 144 = .ok (.iload 5, 2) := by decide +kernel
theorem dX12_fitting_146 : decode cX12_fitting 146 = .ok (.iload 7, 2) := by decide +kernel
theorem dX12_fitting_148 : decode cX12_fitting 148 = .ok (.iadd, 1) := by decide +kernel
theorem dX12_fitting_149 : decode cX12_fitting 149 = .ok (.invokevirtual 572, 3) := by decide +kernel
theorem dX12_fitting_152 : decode cX12_fitting 152 = .ok (.ifCond .eq 7, 3) := by decide +kernel
theorem dX12_fitting_155 : decode cX12_fitting 155 = .ok (.iconst 1, 1) := by decide +kernel
theorem dX12_fitting_156 : decode cX12_fitting 156 = .ok (.goto 4, 3) := by decide +kernel
theorem dX12_fitting_159 : decode cX12_fitting 159 = .ok (.iconst 0, 1) := by decide +kernel
theorem dX12_fitting_160 : decode cX12_fitting 160 = .ok (.istore 6, 2) := by decide +kernel
theorem dX12_fitting_162 : decode cX12_fitting 162 = .ok (.iinc 7 1, 3) := by decide +kernel
theorem dX12_fitting_165 : decode cX12_fitting 165 = .ok (.goto (-58), 3) := by decide +kernel
theorem dX12_fitting_168 : decode cX12_fitting 168 = .ok (.iload_n 2, 1) := by decide +kernel
theorem dX12_fitting_169 : decode cX12_fitting 169 = .ok (.iload 6, 2) := by decide +kernel
theorem dX12_fitting_171 : decode cX12_fitting 171 = .ok (.ifCond .eq 7, 3) := by decide +kernel
theorem dX12_fitting_174 : decode cX12_fitting 174 = .ok (.iconst 1, 1) := by decide +kernel
theorem dX12_fitting_175 : decode cX12_fitting 175 = .ok (.goto 4, 3) := by decide +kernel
theorem dX12_fitting_178 : decode cX12_fitting 178 = .ok (.iconst 0, 1) := by decide +kernel
theorem dX12_fitting_179 : decode cX12_fitting 179 = .ok (.iadd, 1) := by decide +kernel
theorem dX12_fitting_180 : decode cX12_fitting 180 = .ok (.istore_n 2, 1) := by decide +kernel
theorem dX12_fitting_181 : decode cX12_fitting 181 = .ok (.iinc 4 1, 3) := by decide +kernel
theorem dX12_fitting_184 : decode cX12_fitting 184 = .ok (.goto (-112), 3) := by decide +kernel
theorem dX12_fitting_187 : decode cX12_fitting 187 = .ok (.iload_n 2, 1) := by decide +kernel
theorem dX12_fitting_188 : decode cX12_fitting 188 = .ok (.ireturn, 1) := by decide +kernel
theorem dX12_log_0 : decode cX12_log 0 = .ok (.iconst 0, 1) := by decide +kernel
theorem dX12_log_1 : decode cX12_log 1 = .ok (.istore_n 2, 1) := by decide +kernel
theorem dX12_log_2 : decode cX12_log 2 = .ok (.iload_n 2, 1) := by decide +kernel
theorem dX12_log_3 : decode cX12_log 3 = .ok (.bipush 63, 2) := by decide +kernel
theorem dX12_log_5 : decode cX12_log 5 = .ok (.if_icmp .ge 17, 3) := by decide +kernel
theorem dX12_log_8 : decode cX12_log 8 = .ok (.lload_n 0, 1) := by decide +kernel
theorem dX12_log_9 : decode cX12_log 9 = .ok (.iload_n 2, 1) := by decide +kernel
theorem dX12_log_10 : decode cX12_log 10 = .ok (.lshr, 1) := by decide +kernel
theorem dX12_log_11 : decode cX12_log 11 = .ok (.lconst 0, 1) := by decide +kernel
theorem dX12_log_12 : decode cX12_log 12 = .ok (.lcmp, 1) := by decide +kernel
theorem dX12_log_13 : decode cX12_log 13 = .ok (.ifCond .eq 9, 3) := by decide +kernel
theorem dX12_log_16 : decode cX12_log 16 = .ok (.iinc 2 1, 3) := by decide +kernel
theorem dX12_log_19 : decode cX12_log 19 = .ok (.goto (-17), 3) := by decide +kernel
theorem dX12_log_22 : decode cX12_log 22 = .ok (.iload_n 2, 1) := by decide +kernel
theorem dX12_log_23 : decode cX12_log 23 = .ok (.bipush 7, 2) := by decide +kernel
theorem dX12_log_25 : decode cX12_log 25 = .ok (.if_icmp .le 12, 3) := by decide +kernel
theorem dX12_log_28 : decode cX12_log 28 = .ok (.lload_n 0, 1) := by decide +kernel
theorem dX12_log_29 : decode cX12_log 29 = .ok (.iload_n 2, 1) := by decide +kernel
theorem dX12_log_30 : decode cX12_log 30 = .ok (.bipush 7, 2) := by decide +kernel
theorem dX12_log_32 : decode cX12_log 32 = .ok (.isub, 1) := by decide +kernel
theorem dX12_log_33 : decode cX12_log 33 = .ok (.lshr, 1) := by decide +kernel
theorem dX12_log_34 : decode cX12_log 34 = .ok (.goto 9, 3) := by decide +kernel
theorem dX12_log_37 : decode cX12_log 37 = .ok (.lload_n 0, 1) := by decide +kernel
theorem dX12_log_38 : decode cX12_log 38 = .ok (.bipush 7, 2) := by decide +kernel
theorem dX12_log_40 : decode cX12_log 40 = .ok (.iload_n 2, 1) := by decide +kernel
theorem dX12_log_41 : decode cX12_log 41 = .ok (.isub, 1) := by decide +kernel
theorem dX12_log_42 : decode cX12_log 42 = .ok (.lshl, 1) := by decide +kernel
theorem dX12_log_43 : decode cX12_log 43 = .ok (.lstore_n 3, 1) := by decide +kernel
theorem dX12_log_44 : decode cX12_log 44 = .ok (.bipush 64, 2) := by decide +kernel
theorem dX12_log_46 : decode cX12_log 46 = .ok (.iload_n 2, 1) := by decide +kernel
theorem dX12_log_47 : decode cX12_log 47 = .ok (.iconst 1, 1) := by decide +kernel
theorem dX12_log_48 : decode cX12_log 48 = .ok (.isub, 1) := by decide +kernel
theorem dX12_log_49 : decode cX12_log 49 = .ok (.imul, 1) := by decide +kernel
theorem dX12_log_50 : decode cX12_log 50 = .ok (.lload_n 3, 1) := by decide +kernel
theorem dX12_log_51 : decode cX12_log 51 = .ok (.ldc2_w 575, 3) := by decide +kernel
theorem dX12_log_54 : decode cX12_log 54 = .ok (.land, 1) := by decide +kernel
theorem dX12_log_55 : decode cX12_log 55 = .ok (.l2i, 1) := by decide +kernel
theorem dX12_log_56 : decode cX12_log 56 = .ok (.iadd, 1) := by decide +kernel
theorem dX12_log_57 : decode cX12_log 57 = .ok (.ireturn, 1) := by decide +kernel
theorem dX12_statsOf_0 : decode cX12_statsOf 0 = .ok (.aload_n 0, 1) := by decide +kernel
theorem dX12_statsOf_1 : decode cX12_statsOf 1 = .ok (.iload_n 2, 1) := by decide +kernel
theorem dX12_statsOf_2 : decode cX12_statsOf 2 = .ok (.invokevirtual 577, 3) := by decide +kernel
theorem dX12_statsOf_5 : decode cX12_statsOf 5 = .ok (.iconst 0, 1) := by decide +kernel
theorem dX12_statsOf_6 : decode cX12_statsOf 6 = .ok (.istore_n 3, 1) := by decide +kernel
theorem dX12_statsOf_7 : decode cX12_statsOf 7 = .ok (.iconst 0, 1) := by decide +kernel
theorem dX12_statsOf_8 : decode cX12_statsOf 8 = .ok (.istore 4, 2) := by decide +kernel
theorem dX12_statsOf_10 : decode cX12_statsOf 10 = .ok (.iconst 0, 1) := by decide +kernel
theorem dX12_statsOf_11 : decode cX12_statsOf 11 = .ok (.istore 5, 2) := by decide +kernel
theorem dX12_statsOf_13 : decode cX12_statsOf 13 = .ok (.iload 5, 2) := by decide +kernel
theorem dX12_statsOf_15 : decode cX12_statsOf 15 = .ok (.bipush 24, 2) := by decide +kernel
theorem dX12_statsOf_17 : decode cX12_statsOf 17 = .ok (.if_icmp .ge 17, 3) := by decide +kernel
theorem dX12_statsOf_20 : decode cX12_statsOf 20 = .ok (.aload_n 0, 1) := by decide +kernel
theorem dX12_statsOf_21 : decode cX12_statsOf 21 = .ok (.getfield 286, 3) := by decide +kernel
theorem dX12_statsOf_24 : decode cX12_statsOf 24 = .ok (.iload 5, 2) := by decide +kernel
theorem dX12_statsOf_26 : decode cX12_statsOf 26 = .ok (.iconst 0, 1) := by decide +kernel
theorem dX12_statsOf_27 : decode cX12_statsOf 27 = .ok (.iastore, 1) := by decide +kernel
theorem dX12_statsOf_28 : decode cX12_statsOf 28 = .ok (.iinc 5 1, 3) := by decide +kernel
theorem dX12_statsOf_31 : decode cX12_statsOf 31 = .ok (.goto (-18), 3) := by decide +kernel
theorem dX12_statsOf_34 : decode cX12_statsOf 34 = .ok (.iconst 0, 1) := by decide +kernel
theorem dX12_statsOf_35 : decode cX12_statsOf 35 = .ok (.istore 5, 2) := by decide +kernel
theorem dX12_statsOf_37 : decode cX12_statsOf 37 = .ok (.iload 5, 2) := by decide +kernel
theorem dX12_statsOf_39 : decode cX12_statsOf 39 = .ok (.bipush 100, 2) := by decide +kernel
theorem dX12_statsOf_41 : decode cX12_statsOf 41 = .ok (.if_icmp .ge 57, 3) := by decide +kernel
theorem dX12_statsOf_44 : decode cX12_statsOf 44 = .ok (.aload_n 0, 1) := by decide +kernel
theorem dX12_statsOf_45 : decode cX12_statsOf 45 = .ok (.getfield 240, 3) := by decide +kernel
theorem dX12_statsOf_48 : decode cX12_statsOf 48 = .ok (.bipush 100, 2) := by decide +kernel
theorem dX12_statsOf_50 : decode cX12_statsOf 50 = .ok (.iload_n 1, 1) := by decide +kernel
theorem dX12_statsOf_51 : decode cX12_statsOf 51 = .ok (.imul, 1) := by decide +kernel
theorem dX12_statsOf_52 : decode cX12_statsOf 52 = .ok (.iload 5, 2) := by decide +kernel
theorem dX12_statsOf_54 : decode cX12_statsOf 54 = .ok (.iadd, 1) := by decide +kernel
theorem dX12_statsOf_55 : decode cX12_statsOf 55 = .ok (.iaload, 1) := by decide +kernel
theorem dX12_statsOf_56 : decode cX12_statsOf 56 = .ok (.iconst (-1), 1) := by decide +kernel
theorem dX12_statsOf_57 : decode cX12_statsOf 57 = .ok (.if_icmp .eq 35, 3) := by decide +kernel
theorem dX12_statsOf_60 : decode cX12_statsOf 60 = .ok (.aload_n 0, 1) := by decide +kernel
theorem dX12_statsOf_61 : decode cX12_statsOf 61 = .ok (.aload_n 0, 1) := by decide +kernel
theorem dX12_statsOf_62 : decode cX12_statsOf 62 = .ok (.getfield 240, 3) := by decide +kernel
theorem dX12_statsOf_65 : decode cX12_statsOf 65 = .ok (.bipush 100, 2) := by decide +kernel
theorem dX12_statsOf_67 : decode cX12_statsOf 67 = .ok (.iload_n 1, 1) := by decide +kernel
theorem dX12_statsOf_68 : decode cX12_statsOf 68 = .ok (.imul, 1) := by decide +kernel
theorem dX12_statsOf_69 : decode cX12_statsOf 69 = .ok (.iload 5, 2) := by decide +kernel
theorem dX12_statsOf_71 : decode cX12_statsOf 71 = .ok (.iadd, 1) := by decide +kernel
theorem dX12_statsOf_72 : decode cX12_statsOf 72 = .ok (.iaload, 1) := by decide +kernel
theorem dX12_statsOf_73 : decode cX12_statsOf 73 = .ok (.invokevirtual 580, 3) := by decide +kernel
theorem dX12_statsOf_76 : decode cX12_statsOf 76 = .ok (.iinc 3 1, 3) := by decide +kernel
theorem dX12_statsOf_79 : decode cX12_statsOf 79 = .ok (.iload 4, 2) := by decide +kernel
theorem dX12_statsOf_81 : decode cX12_statsOf 81 = .ok (.aload_n 0, 1) := by decide +kernel
theorem dX12_statsOf_82 : decode cX12_statsOf 82 = .ok (.getfield 518, 3) := by decide +kernel
theorem dX12_statsOf_85 : decode cX12_statsOf 85 = .ok (.iadd, 1) := by decide +kernel
theorem dX12_statsOf_86 : decode cX12_statsOf 86 = .ok (.istore 4, 2) := by decide +kernel
theorem dX12_statsOf_88 : decode cX12_statsOf 88 = .ok (.aload_n 0, 1) := by decide +kernel
theorem dX12_statsOf_89 : decode cX12_statsOf 89 = .ok (.invokevirtual 583, 3) := by decide +kernel
theorem dX12_statsOf_92 : decode cX12_statsOf 92 = .ok (.iinc 5 1, 3) := by decide +kernel
theorem dX12_statsOf_95 : decode cX12_statsOf 95 = .ok (.goto (-58), 3) := by decide +kernel
theorem dX12_statsOf_98 : decode cX12_statsOf 98 = .ok (.aload_n 0, 1) := by decide +kernel
theorem dX12_statsOf_99 : decode cX12_statsOf 99 = .ok (.getfield 219, 3) := by decide +kernel
theorem dX12_statsOf_102 : decode cX12_statsOf 102 = .ok (.iconst 5, 1) := by decide +kernel
theorem dX12_statsOf_103 : decode cX12_statsOf 103 = .ok (.iload_n 3, 1) := by decide +kernel
theorem dX12_statsOf_104 : decode cX12_statsOf 104 = .ok (.iastore, 1) := by decide +kernel
theorem dX12_statsOf_105 : decode cX12_statsOf 105 = .ok (.aload_n 0, 1) := by decide +kernel
theorem dX12_statsOf_106 : decode cX12_statsOf 106 = .ok (.getfield 219, 3) := by decide +kernel
theorem dX12_statsOf_109 : decode cX12_statsOf 109 = .ok (.bipush 6, 2) := by decide +kernel
theorem dX12_statsOf_111 : decode cX12_statsOf 111 = .ok (.iload 4, 2) := by decide +kernel
theorem dX12_statsOf_113 : decode cX12_statsOf 113 = .ok (.iastore, 1) := by decide +kernel
theorem dX12_statsOf_114 : decode cX12_statsOf 114 = .ok (.iconst 0, 1) := by decide +kernel
theorem dX12_statsOf_115 : decode cX12_statsOf 115 = .ok (.istore 5, 2) := by decide +kernel
theorem dX12_statsOf_117 : decode cX12_statsOf 117 = .ok (.iload 5, 2) := by decide +kernel
theorem dX12_statsOf_119 : decode cX12_statsOf 119 = .ok (.aload_n 0, 1) := by decide +kernel
theorem dX12_statsOf_120 : decode cX12_statsOf 120 = .ok (.getfield 586, 3) := by decide +kernel
theorem dX12_statsOf_123 : decode cX12_statsOf 123 = .ok (.if_icmp .ge 26, 3) := by decide +kernel
theorem dX12_statsOf_126 : decode cX12_statsOf 126 = .ok (.aload_n 0, 1) := by decide +kernel
theorem dX12_statsOf_127 : decode cX12_statsOf 127 = .ok (.getfield 219, 3) := by decide +kernel
theorem dX12_statsOf_130 : decode cX12_statsOf 130 = .ok (.bipush 7, 2) := by decide +kernel
theorem dX12_statsOf_132 : decode cX12_statsOf 132 = .ok (.iload 5, 2) := by decide +kernel
theorem dX12_statsOf_134 : decode cX12_statsOf 134 = .ok (.iadd, 1) := by decide +kernel
theorem dX12_statsOf_135 : decode cX12_statsOf 135 = .ok (.aload_n 0, 1) := by decide +kernel
theorem dX12_statsOf_136 : decode cX12_statsOf 136 = .ok (.getfield 286, 3) := by decide +kernel
theorem dX12_statsOf_139 : decode cX12_statsOf 139 = .ok (.iload 5, 2) := by decide +kernel
theorem dX12_statsOf_141 : decode cX12_statsOf 141 = .ok (.iaload, 1) := by decide +kernel
theorem dX12_statsOf_142 : decode cX12_statsOf 142 = .ok (.iastore, 1) := by decide +kernel
theorem dX12_statsOf_143 : decode cX12_statsOf 143 = .ok (.iinc 5 1, 3) := by decide +kernel
theorem dX12_statsOf_146 : decode cX12_statsOf 146 = .ok (.goto (-29), 3) := by decide +kernel
theorem dX12_statsOf_149 : decode cX12_statsOf 149 = .ok (.return_, 1) := by decide +kernel
theorem dX12_countWords_0 : decode cX12_countWords 0 = .ok (.iconst 0, 1) := by decide +kernel
theorem dX12_countWords_1 : decode cX12_countWords 1 = .ok (.istore_n 1, 1) := by decide +kernel
theorem dX12_countWords_2 : decode cX12_countWords 2 = .ok (.iconst 0, 1) := by decide +kernel
theorem dX12_countWords_3 : decode cX12_countWords 3 = .ok (.istore_n 2, 1) := by decide +kernel
theorem dX12_countWords_4 : decode cX12_countWords 4 = .ok (.iload_n 2, 1) := by decide +kernel
theorem dX12_countWords_5 : decode cX12_countWords 5 = .ok (.aload_n 0, 1) := by decide +kernel
theorem dX12_countWords_6 : decode cX12_countWords 6 = .ok (.getfield 547, 3) := by decide +kernel
theorem dX12_countWords_9 : decode cX12_countWords 9 = .ok (.if_icmp .ge 146, 3) := by decide +kernel
theorem dX12_countWords_12 : decode cX12_countWords 12 = .ok (.iconst 0, 1) := by decide +kernel
theorem dX12_countWords_13 : decode cX12_countWords 13 = .ok (.istore_n 3, 1) := by decide +kernel
theorem dX12_countWords_14 : decode cX12_countWords 14 = .ok (.iload_n 3, 1) := by decide +kernel
theorem dX12_countWords_15 : decode cX12_countWords 15 = .ok (.aload_n 0, 1) := by decide +kernel
theorem dX12_countWords_16 : decode cX12_countWords 16 = .ok (.getfield 268, 3) := by decide +kernel
theorem dX12_countWords_19 : decode cX12_countWords 19 = .ok (.iload_n 2, 1) := by decide +kernel
theorem dX12_countWords_20 : decode cX12_countWords 20 = .ok (.iaload, 1) := by decide +kernel
theorem dX12_countWords_21 : decode cX12_countWords 21 = .ok (.if_icmp .ge 128, 3) := by decide +kernel
theorem dX12_countWords_24 : decode cX12_countWords 24 = .ok (.aload_n 0, 1) := by decide +kernel
theorem dX12_countWords_25 : decode cX12_countWords 25 = .ok (.getfield 265, 3) := by decide +kernel
theorem dX12_countWords_28 : decode cX12_countWords 28 = .ok (.iload_n 2, 1) := by decide +kernel
theorem dX12_countWords_29 : decode cX12_countWords 29 = .ok (.baload, 1) := by decide +kernel
theorem dX12_countWords_30 : decode cX12_countWords 30 = .ok (.ifCond .ne 119, 3) := by decide +kernel
theorem dX12_countWords_33 : decode cX12_countWords 33 = .ok (.aload_n 0, 1) := by decide +kernel
theorem dX12_countWords_34 : decode cX12_countWords 34 = .ok (.getfield 271, 3) := by decide +kernel
theorem dX12_countWords_37 : decode cX12_countWords 37 = .ok (.iconst 4, 1) := by decide +kernel
theorem dX12_countWords_38 : decode cX12_countWords 38 = .ok (.iload_n 2, 1) := by decide +kernel
theorem dX12_countWords_39 : decode cX12_countWords 39 = .ok (.imul, 1) := by decide +kernel
theorem dX12_countWords_40 : decode cX12_countWords 40 = .ok (.iload_n 3, 1) := by decide +kernel
theorem dX12_countWords_41 : decode cX12_countWords 41 = .ok (.iadd, 1) := by decide +kernel
theorem dX12_countWords_42 : decode cX12_countWords 42 = .ok (.baload, 1) := by decide +kernel
theorem dX12_countWords_43 : decode cX12_countWords 43 = .ok (.ifCond .eq 100, 3) := by decide +kernel
theorem dX12_countWords_46 : decode cX12_countWords 46 = .ok (.iconst 0, 1) := by decide +kernel
theorem dX12_countWords_47 : decode cX12_countWords 47 = .ok (.istore 4, 2) := by decide +kernel
theorem dX12_countWords_49 : decode cX12_countWords 49 = .ok (.iconst 0, 1) := by decide +kernel
theorem dX12_countWords_50 : decode cX12_countWords 50 = .ok (.istore 5, 2) := by decide +kernel
theorem dX12_countWords_52 : decode cX12_countWords 52 = .ok (.iload 5, 2) := by decide +kernel
theorem dX12_countWords_54 : decode cX12_countWords 54 = .ok (.aload_n 0, 1) := by decide +kernel
theorem dX12_countWords_55 : decode cX12_countWords 55 = .ok (.getfield 518, 3) := by decide +kernel
theorem dX12_countWords_58 : decode cX12_countWords 58 = .ok (.if_icmp .ge 63, 3) := by decide +kernel
theorem dX12_countWords_61 : decode cX12_countWords 61 = .ok (.iload 4, 2) := by decide +kernel
theorem dX12_countWords_63 : decode cX12_countWords 63 = .ok (.ifCond .ne 45, 3) := by decide +kernel
theorem dX12_countWords_66 : decode cX12_countWords 66 = .ok (.aload_n 0, 1) := by decide +kernel
theorem dX12_countWords_67 : decode cX12_countWords 67 = .ok (.getfield 252, 3) := by decide +kernel
theorem dX12_countWords_70 : decode cX12_countWords 70 = .ok (.iload 5, 2) := by decide +kernel
theorem dX12_countWords_72 : decode cX12_countWords 72 = .ok (.laload, 1) := by decide +kernel
theorem dX12_countWords_73 : decode cX12_countWords 73 = .ok (.aload_n 0, 1) := by decide +kernel
theorem dX12_countWords_74 : decode cX12_countWords 74 = .ok (.getfield 274, 3) := by decide +kernel
theorem dX12_countWords_77 : decode cX12_countWords 77 = .ok (.iconst 4, 1) := by decide +kernel
theorem dX12_countWords_78 : decode cX12_countWords 78 = .ok (.iload_n 2, 1) := by decide +kernel
theorem dX12_countWords_79 : decode cX12_countWords 79 = .ok (.imul, 1) := by decide +kernel
theorem dX12_countWords_80 : decode cX12_countWords 80 = .ok (.iload_n 3, 1) := by decide +kernel
theorem dX12_countWords_81 : decode cX12_countWords 81 = .ok (.iadd, 1) := by decide +kernel
theorem dX12_countWords_82 : decode cX12_countWords 82 = .ok (.laload, 1) := by decide +kernel
theorem dX12_countWords_83 : decode cX12_countWords 83 = .ok (.lcmp, 1) := by decide +kernel
theorem dX12_countWords_84 : decode cX12_countWords 84 = .ok (.ifCond .ne 28, 3) := by decide +kernel
theorem dX12_countWords_87 : decode cX12_countWords 87 = .ok (.aload_n 0, 1) := by decide +kernel
theorem dX12_countWords_88 : decode cX12_countWords 88 = .ok (.getfield 256, 3) := by decide +kernel
theorem dX12_countWords_91 : decode cX12_countWords 91 = .ok (.iload 5, 2) := by decide +kernel
theorem dX12_countWords_93 : decode cX12_countWords 93 = .ok (.laload, 1) := by decide +kernel
theorem dX12_countWords_94 : decode cX12_countWords 94 = .ok (.aload_n 0, 1) := by decide +kernel
theorem dX12_countWords_95 : decode cX12_countWords 95 = .ok (.getfield 277, 3) := by decide +kernel
theorem dX12_countWords_98 : decode cX12_countWords 98 = .ok (.iconst 4, 1) := by decide +kernel
theorem dX12_countWords_99 : decode cX12_countWords 99 = .ok (.iload_n 2, 1) := by decide +kernel
theorem dX12_countWords_100 : decode cX12_countWords 100 = .ok (.imul, 1) := by decide +kernel
theorem dX12_countWords_101 : decode cX12_countWords 101 = .ok (.iload_n 3, 1) := by decide +kernel
theorem dX12_countWords_102 : decode cX12_countWords 102 = .ok (.iadd, 1) := by decide +kernel
theorem dX12_countWords_103 : decode cX12_countWords 103 = .ok (.laload, 1) := by decide +kernel
theorem dX12_countWords_104 : decode cX12_countWords 104 = .ok (.lcmp, 1) := by decide +kernel
theorem dX12_countWords_105 : decode cX12_countWords 105 = .ok (.ifCond .ne 7, 3) := by decide +kernel
theorem dX12_countWords_108 : decode cX12_countWords 108 = .ok (.iconst 1, 1) := by decide +kernel
theorem dX12_countWords_109 : decode cX12_countWords 109 = .ok (.goto 4, 3) := by decide +kernel
theorem dX12_countWords_112 : decode cX12_countWords 112 = .ok (.iconst 0, 1) := by decide +kernel
theorem dX12_countWords_113 : decode cX12_countWords 113 = .ok (.istore 4, 2) := by decide +kernel
theorem dX12_countWords_115 : decode cX12_countWords 115 = .ok (.iinc 5 1, 3) := by decide +kernel
theorem dX12_countWords_118 : decode cX12_countWords 118 = .ok (.goto (-66), 3) := by decide +kernel
theorem dX12_countWords_121 : decode cX12_countWords 121 = .ok (.aload_n 0, 1) := by decide +kernel
theorem dX12_countWords_122 : decode cX12_countWords 122 = .ok (.getfield 286, 3) := by decide +kernel
theorem dX12_countWords_125 : decode cX12_countWords 125 = .ok (.iload_n 1, 1) := by decide +kernel
theorem dX12_countWords_126 : decode cX12_countWords 126 = .ok (.dup2, 1) := by decide +kernel
theorem dX12_countWords_127 : decode cX12_countWords 127 = .ok (.iaload, 1) := by decide +kernel
theorem dX12_countWords_128 : decode cX12_countWords 128 = .ok (.iload 4, 2) := by decide +kernel
theorem dX12_countWords_130 : decode cX12_countWords 130 = .ok (.ifCond .eq 7, 3) := by decide +kernel
theorem dX12_countWords_133 : decode cX12_countWords 133 = .ok (.iconst 1, 1) := by decide +kernel
theorem dX12_countWords_134 : decode cX12_countWords 134 = .ok (.goto 4, 3) := by decide +kernel
theorem dX12_countWords_137 : decode cX12_countWords 137 = .ok (.iconst 0, 1) := by decide +kernel
theorem dX12_countWords_138 : decode cX12_countWords 138 = .ok (.iadd, 1) := by decide +kernel
theorem dX12_countWords_139 : decode cX12_countWords 139 = .ok (.iastore, 1) := by decide +kernel
theorem dX12_countWords_140 : decode cX12_countWords 140 = .ok (.iinc 1 1, 3) := by decide +kernel
theorem dX12_countWords_143 : decode cX12_countWords 143 = .ok (.iinc 3 1, 3) := by decide +kernel
theorem dX12_countWords_146 : decode cX12_countWords 146 = .ok (.goto (-132), 3) := by decide +kernel
theorem dX12_countWords_149 : decode cX12_countWords 149 = .ok (.iinc 2 1, 3) := by decide +kernel
theorem dX12_countWords_152 : decode cX12_countWords 152 = .ok (.goto (-148), 3) := by decide +kernel
theorem dX12_countWords_155 : decode cX12_countWords 155 = .ok (.return_, 1) := by decide +kernel
theorem dX12_wordsAsked_0 : decode cX12_wordsAsked 0 = .ok (.iconst 0, 1) := by decide +kernel
theorem dX12_wordsAsked_1 : decode cX12_wordsAsked 1 = .ok (.istore_n 1, 1) := by decide +kernel
theorem dX12_wordsAsked_2 : decode cX12_wordsAsked 2 = .ok (.iconst 0, 1) := by decide +kernel
theorem dX12_wordsAsked_3 : decode cX12_wordsAsked 3 = .ok (.istore_n 2, 1) := by decide +kernel
theorem dX12_wordsAsked_4 : decode cX12_wordsAsked 4 = .ok (.iload_n 2, 1) := by decide +kernel
theorem dX12_wordsAsked_5 : decode cX12_wordsAsked 5 = .ok (.aload_n 0, 1) := by decide +kernel
theorem dX12_wordsAsked_6 : decode cX12_wordsAsked 6 = .ok (.getfield 547, 3) := by decide +kernel
theorem dX12_wordsAsked_9 : decode cX12_wordsAsked 9 = .ok (.if_icmp .ge 57, 3) := by decide +kernel
theorem dX12_wordsAsked_12 : decode cX12_wordsAsked 12 = .ok (.iconst 0, 1) := by decide +kernel
theorem dX12_wordsAsked_13 : decode cX12_wordsAsked 13 = .ok (.istore_n 3, 1) := by decide +kernel
theorem dX12_wordsAsked_14 : decode cX12_wordsAsked 14 = .ok (.iload_n 3, 1) := by decide +kernel
theorem dX12_wordsAsked_15 : decode cX12_wordsAsked 15 = .ok (.aload_n 0, 1) := by decide +kernel
theorem dX12_wordsAsked_16 : decode cX12_wordsAsked 16 = .ok (.getfield 268, 3) := by decide +kernel
theorem dX12_wordsAsked_19 : decode cX12_wordsAsked 19 = .ok (.iload_n 2, 1) := by decide +kernel
theorem dX12_wordsAsked_20 : decode cX12_wordsAsked 20 = .ok (.iaload, 1) := by decide +kernel
theorem dX12_wordsAsked_21 : decode cX12_wordsAsked 21 = .ok (.if_icmp .ge 39, 3) := by decide +kernel
theorem dX12_wordsAsked_24 : decode cX12_wordsAsked 24 = .ok (.aload_n 0, 1) := by decide +kernel
theorem dX12_wordsAsked_25 : decode cX12_wordsAsked 25 = .ok (.getfield 265, 3) := by decide +kernel
theorem dX12_wordsAsked_28 : decode cX12_wordsAsked 28 = .ok (.iload_n 2, 1) := by decide +kernel
theorem dX12_wordsAsked_29 : decode cX12_wordsAsked 29 = .ok (.baload, 1) := by decide +kernel
theorem dX12_wordsAsked_30 : decode cX12_wordsAsked 30 = .ok (.ifCond .ne 30, 3) := by decide +kernel
theorem dX12_wordsAsked_33 : decode cX12_wordsAsked 33 = .ok (.iload_n 1, 1) := by decide +kernel
theorem dX12_wordsAsked_34 : decode cX12_wordsAsked 34 = .ok (.aload_n 0, 1) := by decide +kernel
theorem dX12_wordsAsked_35 : decode cX12_wordsAsked 35 = .ok (.getfield 271, 3) := by decide +kernel
theorem dX12_wordsAsked_38 : decode cX12_wordsAsked 38 = .ok (.iconst 4, 1) := by decide +kernel
theorem dX12_wordsAsked_39 : decode cX12_wordsAsked 39 = .ok (.iload_n 2, 1) := by decide +kernel
theorem dX12_wordsAsked_40 : decode cX12_wordsAsked 40 = .ok (.imul, 1) := by decide +kernel
theorem dX12_wordsAsked_41 : decode cX12_wordsAsked 41 = .ok (.iload_n 3, 1) := by decide +kernel
theorem dX12_wordsAsked_42 : decode cX12_wordsAsked 42 = .ok (.iadd, 1) := by decide +kernel
theorem dX12_wordsAsked_43 : decode cX12_wordsAsked 43 = .ok (.baload, 1) := by decide +kernel
theorem dX12_wordsAsked_44 : decode cX12_wordsAsked 44 = .ok (.ifCond .eq 7, 3) := by decide +kernel
theorem dX12_wordsAsked_47 : decode cX12_wordsAsked 47 = .ok (.iconst 1, 1) := by decide +kernel
theorem dX12_wordsAsked_48 : decode cX12_wordsAsked 48 = .ok (.goto 4, 3) := by decide +kernel
theorem dX12_wordsAsked_51 : decode cX12_wordsAsked 51 = .ok (.iconst 0, 1) := by decide +kernel
theorem dX12_wordsAsked_52 : decode cX12_wordsAsked 52 = .ok (.iadd, 1) := by decide +kernel
theorem dX12_wordsAsked_53 : decode cX12_wordsAsked 53 = .ok (.istore_n 1, 1) := by decide +kernel
theorem dX12_wordsAsked_54 : decode cX12_wordsAsked 54 = .ok (.iinc 3 1, 3) := by decide +kernel
theorem dX12_wordsAsked_57 : decode cX12_wordsAsked 57 = .ok (.goto (-43), 3) := by decide +kernel
theorem dX12_wordsAsked_60 : decode cX12_wordsAsked 60 = .ok (.iinc 2 1, 3) := by decide +kernel
theorem dX12_wordsAsked_63 : decode cX12_wordsAsked 63 = .ok (.goto (-59), 3) := by decide +kernel
theorem dX12_wordsAsked_66 : decode cX12_wordsAsked 66 = .ok (.iload_n 1, 1) := by decide +kernel
theorem dX12_wordsAsked_67 : decode cX12_wordsAsked 67 = .ok (.ireturn, 1) := by decide +kernel
theorem dX12_open_0 : decode cX12_open 0 = .ok (.aload_n 0, 1) := by decide +kernel
theorem dX12_open_1 : decode cX12_open 1 = .ok (.iload_n 1, 1) := by decide +kernel
theorem dX12_open_2 : decode cX12_open 2 = .ok (.iload 5, 2) := by decide +kernel
theorem dX12_open_4 : decode cX12_open 4 = .ok (.invokevirtual 364, 3) := by decide +kernel
theorem dX12_open_7 : decode cX12_open 7 = .ok (.istore 6, 2) := by decide +kernel
theorem dX12_open_9 : decode cX12_open 9 = .ok (.iconst 0, 1) := by decide +kernel
theorem dX12_open_10 : decode cX12_open 10 = .ok (.istore 7, 2) := by decide +kernel
theorem dX12_open_12 : decode cX12_open 12 = .ok (.iload 7, 2) := by decide +kernel
theorem dX12_open_14 : decode cX12_open 14 = .ok (.bipush 8, 2) := by decide +kernel
theorem dX12_open_16 : decode cX12_open 16 = .ok (.if_icmp .ge 24, 3) := by decide +kernel
theorem dX12_open_19 : decode cX12_open 19 = .ok (.aload_n 0, 1) := by decide +kernel
theorem dX12_open_20 : decode cX12_open 20 = .ok (.getfield 225, 3) := by decide +kernel
theorem dX12_open_23 : decode cX12_open 23 = .ok (.bipush 8, 2) := by decide +kernel
theorem dX12_open_25 : decode cX12_open 25 = .ok (.iload_n 1, 1) := by decide +kernel
theorem dX12_open_26 : decode cX12_open 26 = .ok (.imul, 1) := by decide +kernel
theorem dX12_open_27 : decode cX12_open 27 = .ok (.iload 7, 2) := by decide +kernel
theorem dX12_open_29 : decode cX12_open 29 = .ok (.iadd, 1) := by decide +kernel
theorem dX12_open_30 : decode cX12_open 30 = .ok (.baload, 1) := by decide +kernel
theorem dX12_open_31 : decode cX12_open 31 = .ok (.ifCond .eq 9, 3) := by decide +kernel
theorem dX12_open_34 : decode cX12_open 34 = .ok (.iinc 7 1, 3) := by decide +kernel
theorem dX12_open_37 : decode cX12_open 37 = .ok (.goto (-25), 3) := by decide +kernel
theorem dX12_open_40 : decode cX12_open 40 = .ok (.aload_n 0, 1) := by decide +kernel
theorem dX12_open_41 : decode cX12_open 41 = .ok (.iload_n 1, 1) := by decide +kernel
theorem dX12_open_42 : decode cX12_open 42 = .ok (.iload 5, 2) := by decide +kernel
theorem dX12_open_44 : decode cX12_open 44 = .ok (.invokevirtual 352, 3) := by decide +kernel
theorem dX12_open_47 : decode cX12_open 47 = .ok (.ifCond .eq 24, 3) := by decide +kernel
theorem dX12_open_50 : decode cX12_open 50 = .ok (.aload_n 0, 1) := by decide +kernel
theorem dX12_open_51 : decode cX12_open 51 = .ok (.getfield 182, 3) := by decide +kernel
theorem dX12_open_54 : decode cX12_open 54 = .ok (.iload 6, 2) := by decide +kernel
theorem dX12_open_56 : decode cX12_open 56 = .ok (.iaload, 1) := by decide +kernel
theorem dX12_open_57 : decode cX12_open 57 = .ok (.iload_n 1, 1) := by decide +kernel
theorem dX12_open_58 : decode cX12_open 58 = .ok (.ishr, 1) := by decide +kernel
theorem dX12_open_59 : decode cX12_open 59 = .ok (.iconst 1, 1) := by decide +kernel
theorem dX12_open_60 : decode cX12_open 60 = .ok (.iand, 1) := by decide +kernel
theorem dX12_open_61 : decode cX12_open 61 = .ok (.ifCond .eq 10, 3) := by decide +kernel
theorem dX12_open_64 : decode cX12_open 64 = .ok (.iload 7, 2) := by decide +kernel
theorem dX12_open_66 : decode cX12_open 66 = .ok (.bipush 8, 2) := by decide +kernel
theorem dX12_open_68 : decode cX12_open 68 = .ok (.if_icmp .ne 14, 3) := by decide +kernel
theorem dX12_open_71 : decode cX12_open 71 = .ok (.aload_n 0, 1) := by decide +kernel
theorem dX12_open_72 : decode cX12_open 72 = .ok (.iload_n 1, 1) := by decide +kernel
theorem dX12_open_73 : decode cX12_open 73 = .ok (.iload_n 2, 1) := by decide +kernel
theorem dX12_open_74 : decode cX12_open 74 = .ok (.iconst 4, 1) := by decide +kernel
theorem dX12_open_75 : decode cX12_open 75 = .ok (.iload_n 3, 1) := by decide +kernel
theorem dX12_open_76 : decode cX12_open 76 = .ok (.iload 4, 2) := by decide +kernel
theorem dX12_open_78 : decode cX12_open 78 = .ok (.invokevirtual 589, 3) := by decide +kernel
theorem dX12_open_81 : decode cX12_open 81 = .ok (.return_, 1) := by decide +kernel
theorem dX12_open_82 : decode cX12_open 82 = .ok (.bipush 8, 2) := by decide +kernel
theorem dX12_open_84 : decode cX12_open 84 = .ok (.iload_n 1, 1) := by decide +kernel
theorem dX12_open_85 : decode cX12_open 85 = .ok (.imul, 1) := by decide +kernel
theorem dX12_open_86 : decode cX12_open 86 = .ok (.iload 7, 2) := by decide +kernel
theorem dX12_open_88 : decode cX12_open 88 = .ok (.iadd, 1) := by decide +kernel
theorem dX12_open_89 : decode cX12_open 89 = .ok (.istore 8, 2) := by decide +kernel
theorem dX12_open_91 : decode cX12_open 91 = .ok (.aload_n 0, 1) := by decide +kernel
theorem dX12_open_92 : decode cX12_open 92 = .ok (.getfield 225, 3) := by decide +kernel
theorem dX12_open_95 : decode cX12_open 95 = .ok (.iload 8, 2) := by decide +kernel
theorem dX12_open_97 : decode cX12_open 97 = .ok (.iconst 1, 1) := by decide +kernel
theorem dX12_open_98 : decode cX12_open 98 = .ok (.bastore, 1) := by decide +kernel
theorem dX12_open_99 : decode cX12_open 99 = .ok (.aload_n 0, 1) := by decide +kernel
theorem dX12_open_100 : decode cX12_open 100 = .ok (.getfield 228, 3) := by decide +kernel
theorem dX12_open_103 : decode cX12_open 103 = .ok (.iload 8, 2) := by decide +kernel
theorem dX12_open_105 : decode cX12_open 105 = .ok (.iload_n 3, 1) := by decide +kernel
theorem dX12_open_106 : decode cX12_open 106 = .ok (.iastore, 1) := by decide +kernel
theorem dX12_open_107 : decode cX12_open 107 = .ok (.aload_n 0, 1) := by decide +kernel
theorem dX12_open_108 : decode cX12_open 108 = .ok (.getfield 231, 3) := by decide +kernel
theorem dX12_open_111 : decode cX12_open 111 = .ok (.iload 8, 2) := by decide +kernel
theorem dX12_open_113 : decode cX12_open 113 = .ok (.iload 4, 2) := by decide +kernel
theorem dX12_open_115 : decode cX12_open 115 = .ok (.iastore, 1) := by decide +kernel
theorem dX12_open_116 : decode cX12_open 116 = .ok (.aload_n 0, 1) := by decide +kernel
theorem dX12_open_117 : decode cX12_open 117 = .ok (.getfield 234, 3) := by decide +kernel
theorem dX12_open_120 : decode cX12_open 120 = .ok (.iload 8, 2) := by decide +kernel
theorem dX12_open_122 : decode cX12_open 122 = .ok (.iload 5, 2) := by decide +kernel
theorem dX12_open_124 : decode cX12_open 124 = .ok (.iastore, 1) := by decide +kernel
theorem dX12_open_125 : decode cX12_open 125 = .ok (.aload_n 0, 1) := by decide +kernel
theorem dX12_open_126 : decode cX12_open 126 = .ok (.getfield 237, 3) := by decide +kernel
theorem dX12_open_129 : decode cX12_open 129 = .ok (.iload 8, 2) := by decide +kernel
theorem dX12_open_131 : decode cX12_open 131 = .ok (.aload_n 0, 1) := by decide +kernel
theorem dX12_open_132 : decode cX12_open 132 = .ok (.getfield 330, 3) := by decide +kernel
theorem dX12_open_135 : decode cX12_open 135 = .ok (.iastore, 1) := by decide +kernel
theorem dX12_open_136 : decode cX12_open 136 = .ok (.iconst 0, 1) := by decide +kernel
theorem dX12_open_137 : decode cX12_open 137 = .ok (.istore 9, 2) := by decide +kernel
theorem dX12_open_139 : decode cX12_open 139 = .ok (.iload 9, 2) := by decide +kernel
theorem dX12_open_141 : decode cX12_open 141 = .ok (.bipush 100, 2) := by decide +kernel
theorem dX12_open_143 : decode cX12_open 143 = .ok (.if_icmp .ge 46, 3) := by decide +kernel
theorem dX12_open_146 : decode cX12_open 146 = .ok (.aload_n 0, 1) := by decide +kernel
theorem dX12_open_147 : decode cX12_open 147 = .ok (.getfield 240, 3) := by decide +kernel
theorem dX12_open_150 : decode cX12_open 150 = .ok (.bipush 100, 2) := by decide +kernel
theorem dX12_open_152 : decode cX12_open 152 = .ok (.iload 8, 2) := by decide +kernel
theorem dX12_open_154 : decode cX12_open 154 = .ok (.imul, 1) := by decide +kernel
theorem dX12_open_155 : decode cX12_open 155 = .ok (.iload 9, 2) := by decide +kernel
theorem dX12_open_157 : decode cX12_open 157 = .ok (.iadd, 1) := by decide +kernel
theorem dX12_open_158 : decode cX12_open 158 = .ok (.iload 9, 2) := by decide +kernel
theorem dX12_open_160 : decode cX12_open 160 = .ok (.aload_n 0, 1) := by decide +kernel
theorem dX12_open_161 : decode cX12_open 161 = .ok (.getfield 327, 3) := by decide +kernel
theorem dX12_open_164 : decode cX12_open 164 = .ok (.irem, 1) := by decide +kernel
theorem dX12_open_165 : decode cX12_open 165 = .ok (.iload 5, 2) := by decide +kernel
theorem dX12_open_167 : decode cX12_open 167 = .ok (.if_icmp .ne 14, 3) := by decide +kernel
theorem dX12_open_170 : decode cX12_open 170 = .ok (.aload_n 0, 1) := by decide +kernel
theorem dX12_open_171 : decode cX12_open 171 = .ok (.iload 6, 2) := by decide +kernel
theorem dX12_open_173 : decode cX12_open 173 = .ok (.iload 9, 2) := by decide +kernel
theorem dX12_open_175 : decode cX12_open 175 = .ok (.invokevirtual 484, 3) := by decide +kernel
theorem dX12_open_178 : decode cX12_open 178 = .ok (.goto 4, 3) := by decide +kernel
theorem dX12_open_181 : decode cX12_open 181 = .ok (.iconst (-1), 1) := by decide +kernel
theorem dX12_open_182 : decode cX12_open 182 = .ok (.iastore, 1) := by decide +kernel
theorem dX12_open_183 : decode cX12_open 183 = .ok (.iinc 9 1, 3) := by decide +kernel
theorem dX12_open_186 : decode cX12_open 186 = .ok (.goto (-47), 3) := by decide +kernel
theorem dX12_open_189 : decode cX12_open 189 = .ok (.aload_n 0, 1) := by decide +kernel
theorem dX12_open_190 : decode cX12_open 190 = .ok (.iload_n 3, 1) := by decide +kernel
theorem dX12_open_191 : decode cX12_open 191 = .ok (.invokevirtual 577, 3) := by decide +kernel
theorem dX12_open_194 : decode cX12_open 194 = .ok (.aload_n 0, 1) := by decide +kernel
theorem dX12_open_195 : decode cX12_open 195 = .ok (.aload_n 0, 1) := by decide +kernel
theorem dX12_open_196 : decode cX12_open 196 = .ok (.invokevirtual 592, 3) := by decide +kernel
theorem dX12_open_199 : decode cX12_open 199 = .ok (.putfield 586, 3) := by decide +kernel
theorem dX12_open_202 : decode cX12_open 202 = .ok (.aload_n 0, 1) := by decide +kernel
theorem dX12_open_203 : decode cX12_open 203 = .ok (.iload 8, 2) := by decide +kernel
theorem dX12_open_205 : decode cX12_open 205 = .ok (.iload_n 3, 1) := by decide +kernel
theorem dX12_open_206 : decode cX12_open 206 = .ok (.invokevirtual 595, 3) := by decide +kernel
theorem dX12_open_209 : decode cX12_open 209 = .ok (.aload_n 0, 1) := by decide +kernel
theorem dX12_open_210 : decode cX12_open 210 = .ok (.getfield 219, 3) := by decide +kernel
theorem dX12_open_213 : decode cX12_open 213 = .ok (.iconst 0, 1) := by decide +kernel
theorem dX12_open_214 : decode cX12_open 214 = .ok (.bipush 20, 2) := by decide +kernel
theorem dX12_open_216 : decode cX12_open 216 = .ok (.iastore, 1) := by decide +kernel
theorem dX12_open_217 : decode cX12_open 217 = .ok (.aload_n 0, 1) := by decide +kernel
theorem dX12_open_218 : decode cX12_open 218 = .ok (.getfield 219, 3) := by decide +kernel
theorem dX12_open_221 : decode cX12_open 221 = .ok (.iconst 1, 1) := by decide +kernel
theorem dX12_open_222 : decode cX12_open 222 = .ok (.iload_n 3, 1) := by decide +kernel
theorem dX12_open_223 : decode cX12_open 223 = .ok (.iastore, 1) := by decide +kernel
theorem dX12_open_224 : decode cX12_open 224 = .ok (.aload_n 0, 1) := by decide +kernel
theorem dX12_open_225 : decode cX12_open 225 = .ok (.getfield 219, 3) := by decide +kernel
theorem dX12_open_228 : decode cX12_open 228 = .ok (.iconst 2, 1) := by decide +kernel
theorem dX12_open_229 : decode cX12_open 229 = .ok (.iload 4, 2) := by decide +kernel
theorem dX12_open_231 : decode cX12_open 231 = .ok (.iastore, 1) := by decide +kernel
theorem dX12_open_232 : decode cX12_open 232 = .ok (.aload_n 0, 1) := by decide +kernel
theorem dX12_open_233 : decode cX12_open 233 = .ok (.getfield 219, 3) := by decide +kernel
theorem dX12_open_236 : decode cX12_open 236 = .ok (.iconst 3, 1) := by decide +kernel
theorem dX12_open_237 : decode cX12_open 237 = .ok (.iload 5, 2) := by decide +kernel
theorem dX12_open_239 : decode cX12_open 239 = .ok (.iastore, 1) := by decide +kernel
theorem dX12_open_240 : decode cX12_open 240 = .ok (.aload_n 0, 1) := by decide +kernel
theorem dX12_open_241 : decode cX12_open 241 = .ok (.getfield 219, 3) := by decide +kernel
theorem dX12_open_244 : decode cX12_open 244 = .ok (.iconst 4, 1) := by decide +kernel
theorem dX12_open_245 : decode cX12_open 245 = .ok (.iload 7, 2) := by decide +kernel
theorem dX12_open_247 : decode cX12_open 247 = .ok (.iastore, 1) := by decide +kernel
theorem dX12_open_248 : decode cX12_open 248 = .ok (.aload_n 0, 1) := by decide +kernel
theorem dX12_open_249 : decode cX12_open 249 = .ok (.iload_n 1, 1) := by decide +kernel
theorem dX12_open_250 : decode cX12_open 250 = .ok (.iload_n 2, 1) := by decide +kernel
theorem dX12_open_251 : decode cX12_open 251 = .ok (.bipush 7, 2) := by decide +kernel
theorem dX12_open_253 : decode cX12_open 253 = .ok (.aload_n 0, 1) := by decide +kernel
theorem dX12_open_254 : decode cX12_open 254 = .ok (.getfield 586, 3) := by decide +kernel
theorem dX12_open_257 : decode cX12_open 257 = .ok (.iadd, 1) := by decide +kernel
theorem dX12_open_258 : decode cX12_open 258 = .ok (.invokevirtual 446, 3) := by decide +kernel
theorem dX12_open_261 : decode cX12_open 261 = .ok (.return_, 1) := by decide +kernel
theorem dX12_scoreOf_0 : decode cX12_scoreOf 0 = .ok (.iconst 0, 1) := by decide +kernel
theorem dX12_scoreOf_1 : decode cX12_scoreOf 1 = .ok (.istore_n 1, 1) := by decide +kernel
theorem dX12_scoreOf_2 : decode cX12_scoreOf 2 = .ok (.aload_n 0, 1) := by decide +kernel
theorem dX12_scoreOf_3 : decode cX12_scoreOf 3 = .ok (.getfield 222, 3) := by decide +kernel
theorem dX12_scoreOf_6 : decode cX12_scoreOf 6 = .ok (.iconst 5, 1) := by decide +kernel
theorem dX12_scoreOf_7 : decode cX12_scoreOf 7 = .ok (.iaload, 1) := by decide +kernel
theorem dX12_scoreOf_8 : decode cX12_scoreOf 8 = .ok (.i2l, 1) := by decide +kernel
theorem dX12_scoreOf_9 : decode cX12_scoreOf 9 = .ok (.lstore_n 2, 1) := by decide +kernel
theorem dX12_scoreOf_10 : decode cX12_scoreOf 10 = .ok (.aload_n 0, 1) := by decide +kernel
theorem dX12_scoreOf_11 : decode cX12_scoreOf 11 = .ok (.getfield 222, 3) := by decide +kernel
theorem dX12_scoreOf_14 : decode cX12_scoreOf 14 = .ok (.bipush 6, 2) := by decide +kernel
theorem dX12_scoreOf_16 : decode cX12_scoreOf 16 = .ok (.iaload, 1) := by decide +kernel
theorem dX12_scoreOf_17 : decode cX12_scoreOf 17 = .ok (.i2l, 1) := by decide +kernel
theorem dX12_scoreOf_18 : decode cX12_scoreOf 18 = .ok (.lstore 4, 2) := by decide +kernel
theorem dX12_scoreOf_20 : decode cX12_scoreOf 20 = .ok (.bipush 7, 2) := by decide +kernel
theorem dX12_scoreOf_22 : decode cX12_scoreOf 22 = .ok (.istore 6, 2) := by decide +kernel
theorem dX12_scoreOf_24 : decode cX12_scoreOf 24 = .ok (.lconst 0, 1) := by decide +kernel
theorem dX12_scoreOf_25 : decode cX12_scoreOf 25 = .ok (.lstore 7, 2) := by decide +kernel
theorem dX12_scoreOf_27 : decode cX12_scoreOf 27 = .ok (.iconst 0, 1) := by decide +kernel
theorem dX12_scoreOf_28 : decode cX12_scoreOf 28 = .ok (.istore 9, 2) := by decide +kernel
theorem dX12_scoreOf_30 : decode cX12_scoreOf 30 = .ok (.iload 9, 2) := by decide +kernel
theorem dX12_scoreOf_32 : decode cX12_scoreOf 32 = .ok (.aload_n 0, 1) := by decide +kernel
theorem dX12_scoreOf_33 : decode cX12_scoreOf 33 = .ok (.getfield 547, 3) := by decide +kernel
theorem dX12_scoreOf_36 : decode cX12_scoreOf 36 = .ok (.if_icmp .ge 222, 3) := by decide +kernel
theorem dX12_scoreOf_39 : decode cX12_scoreOf 39 = .ok (.aload_n 0, 1) := by decide +kernel
theorem dX12_scoreOf_40 : decode cX12_scoreOf 40 = .ok (.getfield 283, 3) := by decide +kernel
theorem dX12_scoreOf_43 : decode cX12_scoreOf 43 = .ok (.iload 9, 2) := by decide +kernel
theorem dX12_scoreOf_45 : decode cX12_scoreOf 45 = .ok (.baload, 1) := by decide +kernel
theorem dX12_scoreOf_46 : decode cX12_scoreOf 46 = .ok (.ifCond .eq 6, 3) := by decide +kernel
theorem dX12_scoreOf_49 : decode cX12_scoreOf 49 = .ok (.goto 203, 3) := by decide +kernel
theorem dX12_scoreOf_52 : decode cX12_scoreOf 52 = .ok (.aload_n 0, 1) := by decide +kernel
theorem dX12_scoreOf_53 : decode cX12_scoreOf 53 = .ok (.iload 9, 2) := by decide +kernel
theorem dX12_scoreOf_55 : decode cX12_scoreOf 55 = .ok (.invokevirtual 598, 3) := by decide +kernel
theorem dX12_scoreOf_58 : decode cX12_scoreOf 58 = .ok (.istore 10, 2) := by decide +kernel
theorem dX12_scoreOf_60 : decode cX12_scoreOf 60 = .ok (.aload_n 0, 1) := by decide +kernel
theorem dX12_scoreOf_61 : decode cX12_scoreOf 61 = .ok (.getfield 262, 3) := by decide +kernel
theorem dX12_scoreOf_64 : decode cX12_scoreOf 64 = .ok (.iload 9, 2) := by decide +kernel
theorem dX12_scoreOf_66 : decode cX12_scoreOf 66 = .ok (.iaload, 1) := by decide +kernel
theorem dX12_scoreOf_67 : decode cX12_scoreOf 67 = .ok (.istore 11, 2) := by decide +kernel
theorem dX12_scoreOf_69 : decode cX12_scoreOf 69 = .ok (.iload 11, 2) := by decide +kernel
theorem dX12_scoreOf_71 : decode cX12_scoreOf 71 = .ok (.iconst 1, 1) := by decide +kernel
theorem dX12_scoreOf_72 : decode cX12_scoreOf 72 = .ok (.if_icmp .ne 8, 3) := by decide +kernel
theorem dX12_scoreOf_75 : decode cX12_scoreOf 75 = .ok (.iload 10, 2) := by decide +kernel
theorem dX12_scoreOf_77 : decode cX12_scoreOf 77 = .ok (.ifCond .eq 14, 3) := by decide +kernel
theorem dX12_scoreOf_80 : decode cX12_scoreOf 80 = .ok (.iload 11, 2) := by decide +kernel
theorem dX12_scoreOf_82 : decode cX12_scoreOf 82 = .ok (.iconst 2, 1) := by decide +kernel
theorem dX12_scoreOf_83 : decode cX12_scoreOf 83 = .ok (.if_icmp .ne 10, 3) := by decide +kernel
theorem dX12_scoreOf_86 : decode cX12_scoreOf 86 = .ok (.iload 10, 2) := by decide +kernel
theorem dX12_scoreOf_88 : decode cX12_scoreOf 88 = .ok (.ifCond .le 5, 3) := by decide +kernel
theorem dX12_scoreOf_91 : decode cX12_scoreOf 91 = .ok (.iconst (-1), 1) := by decide +kernel
theorem dX12_scoreOf_92 : decode cX12_scoreOf 92 = .ok (.ireturn, 1) := by decide +kernel
theorem dX12_scoreOf_93 : decode cX12_scoreOf 93 = .ok (.lconst 0, 1) := by decide +kernel
theorem dX12_scoreOf_94 : decode cX12_scoreOf 94 = .ok (.lstore 12, 2) := by decide +kernel
theorem dX12_scoreOf_96 : decode cX12_scoreOf 96 = .ok (.iconst 0, 1) := by decide +kernel
theorem dX12_scoreOf_97 : decode cX12_scoreOf 97 = .ok (.istore 14, 2) := by decide +kernel
theorem dX12_scoreOf_99 : decode cX12_scoreOf 99 = .ok (.iload 14, 2) := by decide +kernel
theorem dX12_scoreOf_101 : decode cX12_scoreOf 101 = .ok (.aload_n 0, 1) := by decide +kernel
theorem dX12_scoreOf_102 : decode cX12_scoreOf 102 = .ok (.getfield 268, 3) := by decide +kernel
theorem dX12_scoreOf_105 : decode cX12_scoreOf 105 = .ok (.iload 9, 2) := by decide +kernel
theorem dX12_scoreOf_107 : decode cX12_scoreOf 107 = .ok (.iaload, 1) := by decide +kernel
theorem dX12_scoreOf_108 : decode cX12_scoreOf 108 = .ok (.if_icmp .ge 73, 3) := by decide +kernel
theorem dX12_scoreOf_111 : decode cX12_scoreOf 111 = .ok (.aload_n 0, 1) := by decide +kernel
theorem dX12_scoreOf_112 : decode cX12_scoreOf 112 = .ok (.getfield 265, 3) := by decide +kernel
theorem dX12_scoreOf_115 : decode cX12_scoreOf 115 = .ok (.iload 9, 2) := by decide +kernel
theorem dX12_scoreOf_117 : decode cX12_scoreOf 117 = .ok (.baload, 1) := by decide +kernel
theorem dX12_scoreOf_118 : decode cX12_scoreOf 118 = .ok (.ifCond .ne 63, 3) := by decide +kernel
theorem dX12_scoreOf_121 : decode cX12_scoreOf 121 = .ok (.aload_n 0, 1) := by decide +kernel
theorem dX12_scoreOf_122 : decode cX12_scoreOf 122 = .ok (.getfield 271, 3) := by decide +kernel
theorem dX12_scoreOf_125 : decode cX12_scoreOf 125 = .ok (.iconst 4, 1) := by decide +kernel
theorem dX12_scoreOf_126 : decode cX12_scoreOf 126 = .ok (.iload 9, 2) := by decide +kernel
theorem dX12_scoreOf_128 : decode cX12_scoreOf 128 = .ok (.imul, 1) := by decide +kernel
theorem dX12_scoreOf_129 : decode cX12_scoreOf 129 = .ok (.iload 14, 2) := by decide +kernel
theorem dX12_scoreOf_131 : decode cX12_scoreOf 131 = .ok (.iadd, 1) := by decide +kernel
theorem dX12_scoreOf_132 : decode cX12_scoreOf 132 = .ok (.baload, 1) := by decide +kernel
theorem dX12_scoreOf_133 : decode cX12_scoreOf 133 = .ok (.ifCond .eq 42, 3) := by decide +kernel
theorem dX12_scoreOf_136 : decode cX12_scoreOf 136 = .ok (.lload 12, 2) := by decide +kernel
theorem dX12_scoreOf_138 : decode cX12_scoreOf 138 = .ok (.ldc2_w 601, 3) := by decide +kernel
theorem dX12_scoreOf_141 : decode cX12_scoreOf 141 = .ok (.lload_n 2, 1) := by decide +kernel
theorem dX12_scoreOf_142 : decode cX12_scoreOf 142 = .ok (.lmul, 1) := by decide +kernel
theorem dX12_scoreOf_143 : decode cX12_scoreOf 143 = .ok (.ldc2_w 601, 3) := by decide +kernel
theorem dX12_scoreOf_146 : decode cX12_scoreOf 146 = .ok (.ladd, 1) := by decide +kernel
theorem dX12_scoreOf_147 : decode cX12_scoreOf 147 = .ok (.invokestatic 603, 3) := by decide +kernel
theorem dX12_scoreOf_150 : decode cX12_scoreOf 150 = .ok (.ldc2_w 601, 3) := by decide +kernel
theorem dX12_scoreOf_153 : decode cX12_scoreOf 153 = .ok (.aload_n 0, 1) := by decide +kernel
theorem dX12_scoreOf_154 : decode cX12_scoreOf 154 = .ok (.getfield 222, 3) := by decide +kernel
theorem dX12_scoreOf_157 : decode cX12_scoreOf 157 = .ok (.iload 6, 2) := by decide +kernel
theorem dX12_scoreOf_159 : decode cX12_scoreOf 159 = .ok (.iaload, 1) := by decide +kernel
theorem dX12_scoreOf_160 : decode cX12_scoreOf 160 = .ok (.i2l, 1) := by decide +kernel
theorem dX12_scoreOf_161 : decode cX12_scoreOf 161 = .ok (.lmul, 1) := by decide +kernel
theorem dX12_scoreOf_162 : decode cX12_scoreOf 162 = .ok (.lconst 1, 1) := by decide +kernel
theorem dX12_scoreOf_163 : decode cX12_scoreOf 163 = .ok (.ladd, 1) := by decide +kernel
theorem dX12_scoreOf_164 : decode cX12_scoreOf 164 = .ok (.invokestatic 603, 3) := by decide +kernel
theorem dX12_scoreOf_167 : decode cX12_scoreOf 167 = .ok (.isub, 1) := by decide +kernel
theorem dX12_scoreOf_168 : decode cX12_scoreOf 168 = .ok (.i2l, 1) := by decide +kernel
theorem dX12_scoreOf_169 : decode cX12_scoreOf 169 = .ok (.ladd, 1) := by decide +kernel
theorem dX12_scoreOf_170 : decode cX12_scoreOf 170 = .ok (.lstore 12, 2) := by decide +kernel
theorem dX12_scoreOf_172 : decode cX12_scoreOf 172 = .ok (.iinc 6 1, 3) := by decide +kernel
theorem dX12_scoreOf_175 : decode cX12_scoreOf 175 = .ok (.iinc 14 1, 3) := by decide +kernel
theorem dX12_scoreOf_178 : decode cX12_scoreOf 178 = .ok (.goto (-79), 3) := by decide +kernel
theorem dX12_scoreOf_181 : decode cX12_scoreOf 181 = .ok (.iload 11, 2) := by decide +kernel
theorem dX12_scoreOf_183 : decode cX12_scoreOf 183 = .ok (.iconst 2, 1) := by decide +kernel
theorem dX12_scoreOf_184 : decode cX12_scoreOf 184 = .ok (.if_icmp .eq 68, 3) := by decide +kernel
theorem dX12_scoreOf_187 : decode cX12_scoreOf 187 = .ok (.iload 10, 2) := by decide +kernel
theorem dX12_scoreOf_189 : decode cX12_scoreOf 189 = .ok (.ifCond .le 63, 3) := by decide +kernel
theorem dX12_scoreOf_192 : decode cX12_scoreOf 192 = .ok (.iconst 1, 1) := by decide +kernel
theorem dX12_scoreOf_193 : decode cX12_scoreOf 193 = .ok (.istore_n 1, 1) := by decide +kernel
theorem dX12_scoreOf_194 : decode cX12_scoreOf 194 = .ok (.lload 7, 2) := by decide +kernel
theorem dX12_scoreOf_196 : decode cX12_scoreOf 196 = .ok (.aload_n 0, 1) := by decide +kernel
theorem dX12_scoreOf_197 : decode cX12_scoreOf 197 = .ok (.getfield 265, 3) := by decide +kernel
theorem dX12_scoreOf_200 : decode cX12_scoreOf 200 = .ok (.iload 9, 2) := by decide +kernel
theorem dX12_scoreOf_202 : decode cX12_scoreOf 202 = .ok (.baload, 1) := by decide +kernel
theorem dX12_scoreOf_203 : decode cX12_scoreOf 203 = .ok (.ifCond .eq 9, 3) := by decide +kernel
theorem dX12_scoreOf_206 : decode cX12_scoreOf 206 = .ok (.ldc2_w 607, 3) := by decide +kernel
theorem dX12_scoreOf_209 : decode cX12_scoreOf 209 = .ok (.goto 40, 3) := by decide +kernel
theorem dX12_scoreOf_212 : decode cX12_scoreOf 212 = .ok (.lload 12, 2) := by decide +kernel
theorem dX12_scoreOf_214 : decode cX12_scoreOf 214 = .ok (.ldc2_w 609, 3) := by decide +kernel
theorem dX12_scoreOf_217 : decode cX12_scoreOf 217 = .ok (.lmul, 1) := by decide +kernel
theorem dX12_scoreOf_218 : decode cX12_scoreOf 218 = .ok (.iload 10, 2) := by decide +kernel
theorem dX12_scoreOf_220 : decode cX12_scoreOf 220 = .ok (.i2l, 1) := by decide +kernel
theorem dX12_scoreOf_221 : decode cX12_scoreOf 221 = .ok (.lmul, 1) := by decide +kernel
theorem dX12_scoreOf_222 : decode cX12_scoreOf 222 = .ok (.ldc2_w 611, 3) := by decide +kernel
theorem dX12_scoreOf_225 : decode cX12_scoreOf 225 = .ok (.iload 10, 2) := by decide +kernel
theorem dX12_scoreOf_227 : decode cX12_scoreOf 227 = .ok (.i2l, 1) := by decide +kernel
theorem dX12_scoreOf_228 : decode cX12_scoreOf 228 = .ok (.lmul, 1) := by decide +kernel
theorem dX12_scoreOf_229 : decode cX12_scoreOf 229 = .ok (.ldc2_w 613, 3) := by decide +kernel
theorem dX12_scoreOf_232 : decode cX12_scoreOf 232 = .ok (.ladd, 1) := by decide +kernel
theorem dX12_scoreOf_233 : decode cX12_scoreOf 233 = .ok (.ldc2_w 615, 3) := by decide +kernel
theorem dX12_scoreOf_236 : decode cX12_scoreOf 236 = .ok (.aload_n 0, 1) := by decide +kernel
theorem dX12_scoreOf_237 : decode cX12_scoreOf 237 = .ok (.getfield 518, 3) := by decide +kernel
theorem dX12_scoreOf_240 : decode cX12_scoreOf 240 = .ok (.i2l, 1) := by decide +kernel
theorem dX12_scoreOf_241 : decode cX12_scoreOf 241 = .ok (.lmul, 1) := by decide +kernel
theorem dX12_scoreOf_242 : decode cX12_scoreOf 242 = .ok (.lload_n 2, 1) := by decide +kernel
theorem dX12_scoreOf_243 : decode cX12_scoreOf 243 = .ok (.lmul, 1) := by decide +kernel
theorem dX12_scoreOf_244 : decode cX12_scoreOf 244 = .ok (.lload 4, 2) := by decide +kernel
theorem dX12_scoreOf_246 : decode cX12_scoreOf 246 = .ok (.ldiv, 1) := by decide +kernel
theorem dX12_scoreOf_247 : decode cX12_scoreOf 247 = .ok (.ladd, 1) := by decide +kernel
theorem dX12_scoreOf_248 : decode cX12_scoreOf 248 = .ok (.ldiv, 1) := by decide +kernel
theorem dX12_scoreOf_249 : decode cX12_scoreOf 249 = .ok (.ladd, 1) := by decide +kernel
theorem dX12_scoreOf_250 : decode cX12_scoreOf 250 = .ok (.lstore 7, 2) := by decide +kernel
theorem dX12_scoreOf_252 : decode cX12_scoreOf 252 = .ok (.iinc 9 1, 3) := by decide +kernel
theorem dX12_scoreOf_255 : decode cX12_scoreOf 255 = .ok (.goto (-225), 3) := by decide +kernel
theorem dX12_scoreOf_258 : decode cX12_scoreOf 258 = .ok (.iload_n 1, 1) := by decide +kernel
theorem dX12_scoreOf_259 : decode cX12_scoreOf 259 = .ok (.ifCond .eq 9, 3) := by decide +kernel
theorem dX12_scoreOf_262 : decode cX12_scoreOf 262 = .ok (.lload 7, 2) := by decide +kernel
theorem dX12_scoreOf_264 : decode cX12_scoreOf 264 = .ok (.l2i, 1) := by decide +kernel
theorem dX12_scoreOf_265 : decode cX12_scoreOf 265 = .ok (.goto 4, 3) := by decide +kernel
theorem dX12_scoreOf_268 : decode cX12_scoreOf 268 = .ok (.iconst (-1), 1) := by decide +kernel
theorem dX12_scoreOf_269 : decode cX12_scoreOf 269 = .ok (.ireturn, 1) := by decide +kernel
theorem dX12_addBest_0 : decode cX12_addBest 0 = .ok (.aload_n 0, 1) := by decide +kernel
theorem dX12_addBest_1 : decode cX12_addBest 1 = .ok (.getfield 617, 3) := by decide +kernel
theorem dX12_addBest_4 : decode cX12_addBest 4 = .ok (.istore 4, 2) := by decide +kernel
theorem dX12_addBest_6 : decode cX12_addBest 6 = .ok (.iload 4, 2) := by decide +kernel
theorem dX12_addBest_8 : decode cX12_addBest 8 = .ok (.ifCond .le 80, 3) := by decide +kernel
theorem dX12_addBest_11 : decode cX12_addBest 11 = .ok (.aload_n 0, 1) := by decide +kernel
theorem dX12_addBest_12 : decode cX12_addBest 12 = .ok (.getfield 292, 3) := by decide +kernel
theorem dX12_addBest_15 : decode cX12_addBest 15 = .ok (.iload 4, 2) := by decide +kernel
theorem dX12_addBest_17 : decode cX12_addBest 17 = .ok (.iconst 1, 1) := by decide +kernel
theorem dX12_addBest_18 : decode cX12_addBest 18 = .ok (.isub, 1) := by decide +kernel
theorem dX12_addBest_19 : decode cX12_addBest 19 = .ok (.iaload, 1) := by decide +kernel
theorem dX12_addBest_20 : decode cX12_addBest 20 = .ok (.iload_n 2, 1) := by decide +kernel
theorem dX12_addBest_21 : decode cX12_addBest 21 = .ok (.if_icmp .lt 29, 3) := by decide +kernel
theorem dX12_addBest_24 : decode cX12_addBest 24 = .ok (.aload_n 0, 1) := by decide +kernel
theorem dX12_addBest_25 : decode cX12_addBest 25 = .ok (.getfield 292, 3) := by decide +kernel
theorem dX12_addBest_28 : decode cX12_addBest 28 = .ok (.iload 4, 2) := by decide +kernel
theorem dX12_addBest_30 : decode cX12_addBest 30 = .ok (.iconst 1, 1) := by decide +kernel
theorem dX12_addBest_31 : decode cX12_addBest 31 = .ok (.isub, 1) := by decide +kernel
theorem dX12_addBest_32 : decode cX12_addBest 32 = .ok (.iaload, 1) := by decide +kernel
theorem dX12_addBest_33 : decode cX12_addBest 33 = .ok (.iload_n 2, 1) := by decide +kernel
theorem dX12_addBest_34 : decode cX12_addBest 34 = .ok (.if_icmp .ne 54, 3) := by decide +kernel
theorem dX12_addBest_37 : decode cX12_addBest 37 = .ok (.aload_n 0, 1) := by decide +kernel
theorem dX12_addBest_38 : decode cX12_addBest 38 = .ok (.getfield 289, 3) := by decide +kernel
theorem dX12_addBest_41 : decode cX12_addBest 41 = .ok (.iload 4, 2) := by decide +kernel
theorem dX12_addBest_43 : decode cX12_addBest 43 = .ok (.iconst 1, 1) := by decide +kernel
theorem dX12_addBest_44 : decode cX12_addBest 44 = .ok (.isub, 1) := by decide +kernel
theorem dX12_addBest_45 : decode cX12_addBest 45 = .ok (.iaload, 1) := by decide +kernel
theorem dX12_addBest_46 : decode cX12_addBest 46 = .ok (.iload_n 1, 1) := by decide +kernel
theorem dX12_addBest_47 : decode cX12_addBest 47 = .ok (.if_icmp .le 41, 3) := by decide +kernel
theorem dX12_addBest_50 : decode cX12_addBest 50 = .ok (.aload_n 0, 1) := by decide +kernel
theorem dX12_addBest_51 : decode cX12_addBest 51 = .ok (.getfield 289, 3) := by decide +kernel
theorem dX12_addBest_54 : decode cX12_addBest 54 = .ok (.iload 4, 2) := by decide +kernel
theorem dX12_addBest_56 : decode cX12_addBest 56 = .ok (.aload_n 0, 1) := by decide +kernel
theorem dX12_addBest_57 : decode cX12_addBest 57 = .ok (.getfield 289, 3) := by decide +kernel
theorem dX12_addBest_60 : decode cX12_addBest 60 = .ok (.iload 4, 2) := by decide +kernel
theorem dX12_addBest_62 : decode cX12_addBest 62 = .ok (.iconst 1, 1) := by decide +kernel
theorem dX12_addBest_63 : decode cX12_addBest 63 = .ok (.isub, 1) := by decide +kernel
theorem dX12_addBest_64 : decode cX12_addBest 64 = .ok (.iaload, 1) := by decide +kernel
theorem dX12_addBest_65 : decode cX12_addBest 65 = .ok (.iastore, 1) := by decide +kernel
theorem dX12_addBest_66 : decode cX12_addBest 66 = .ok (.aload_n 0, 1) := by decide +kernel
theorem dX12_addBest_67 : decode cX12_addBest 67 = .ok (.getfield 292, 3) := by decide +kernel
theorem dX12_addBest_70 : decode cX12_addBest 70 = .ok (.iload 4, 2) := by decide +kernel
theorem dX12_addBest_72 : decode cX12_addBest 72 = .ok (.aload_n 0, 1) := by decide +kernel
theorem dX12_addBest_73 : decode cX12_addBest 73 = .ok (.getfield 292, 3) := by decide +kernel
theorem dX12_addBest_76 : decode cX12_addBest 76 = .ok (.iload 4, 2) := by decide +kernel
theorem dX12_addBest_78 : decode cX12_addBest 78 = .ok (.iconst 1, 1) := by decide +kernel
theorem dX12_addBest_79 : decode cX12_addBest 79 = .ok (.isub, 1) := by decide +kernel
theorem dX12_addBest_80 : decode cX12_addBest 80 = .ok (.iaload, 1) := by decide +kernel
theorem dX12_addBest_81 : decode cX12_addBest 81 = .ok (.iastore, 1) := by decide +kernel
theorem dX12_addBest_82 : decode cX12_addBest 82 = .ok (.iinc 4 (-1), 3) := by decide +kernel
theorem dX12_addBest_85 : decode cX12_addBest 85 = .ok (.goto (-79), 3) := by decide +kernel
theorem dX12_addBest_88 : decode cX12_addBest 88 = .ok (.aload_n 0, 1) := by decide +kernel
theorem dX12_addBest_89 : decode cX12_addBest 89 = .ok (.getfield 289, 3) := by decide +kernel
theorem dX12_addBest_92 : decode cX12_addBest 92 = .ok (.iload 4, 2) := by decide +kernel
theorem dX12_addBest_94 : decode cX12_addBest 94 = .ok (.iload_n 1, 1) := by decide +kernel
theorem dX12_addBest_95 : decode cX12_addBest 95 = .ok (.iastore, 1) := by decide +kernel
theorem dX12_addBest_96 : decode cX12_addBest 96 = .ok (.aload_n 0, 1) := by decide +kernel
theorem dX12_addBest_97 : decode cX12_addBest 97 = .ok (.getfield 292, 3) := by decide +kernel
theorem dX12_addBest_100 : decode cX12_addBest 100 = .ok (.iload 4, 2) := by decide +kernel
theorem dX12_addBest_102 : decode cX12_addBest 102 = .ok (.iload_n 2, 1) := by decide +kernel
theorem dX12_addBest_103 : decode cX12_addBest 103 = .ok (.iastore, 1) := by decide +kernel
theorem dX12_addBest_104 : decode cX12_addBest 104 = .ok (.aload_n 0, 1) := by decide +kernel
theorem dX12_addBest_105 : decode cX12_addBest 105 = .ok (.aload_n 0, 1) := by decide +kernel
theorem dX12_addBest_106 : decode cX12_addBest 106 = .ok (.getfield 617, 3) := by decide +kernel
theorem dX12_addBest_109 : decode cX12_addBest 109 = .ok (.iconst 1, 1) := by decide +kernel
theorem dX12_addBest_110 : decode cX12_addBest 110 = .ok (.iadd, 1) := by decide +kernel
theorem dX12_addBest_111 : decode cX12_addBest 111 = .ok (.iload_n 3, 1) := by decide +kernel
theorem dX12_addBest_112 : decode cX12_addBest 112 = .ok (.invokestatic 437, 3) := by decide +kernel
theorem dX12_addBest_115 : decode cX12_addBest 115 = .ok (.putfield 617, 3) := by decide +kernel
theorem dX12_addBest_118 : decode cX12_addBest 118 = .ok (.return_, 1) := by decide +kernel
theorem dX12_score_0 : decode cX12_score 0 = .ok (.aload_n 0, 1) := by decide +kernel
theorem dX12_score_1 : decode cX12_score 1 = .ok (.getfield 222, 3) := by decide +kernel
theorem dX12_score_4 : decode cX12_score 4 = .ok (.iconst 1, 1) := by decide +kernel
theorem dX12_score_5 : decode cX12_score 5 = .ok (.iaload, 1) := by decide +kernel
theorem dX12_score_6 : decode cX12_score 6 = .ok (.istore_n 3, 1) := by decide +kernel
theorem dX12_score_7 : decode cX12_score 7 = .ok (.bipush 8, 2) := by decide +kernel
theorem dX12_score_9 : decode cX12_score 9 = .ok (.iload_n 1, 1) := by decide +kernel
theorem dX12_score_10 : decode cX12_score 10 = .ok (.imul, 1) := by decide +kernel
theorem dX12_score_11 : decode cX12_score 11 = .ok (.aload_n 0, 1) := by decide +kernel
theorem dX12_score_12 : decode cX12_score 12 = .ok (.getfield 222, 3) := by decide +kernel
theorem dX12_score_15 : decode cX12_score 15 = .ok (.iconst 4, 1) := by decide +kernel
theorem dX12_score_16 : decode cX12_score 16 = .ok (.iaload, 1) := by decide +kernel
theorem dX12_score_17 : decode cX12_score 17 = .ok (.iadd, 1) := by decide +kernel
theorem dX12_score_18 : decode cX12_score 18 = .ok (.istore 4, 2) := by decide +kernel
theorem dX12_score_20 : decode cX12_score 20 = .ok (.aload_n 0, 1) := by decide +kernel
theorem dX12_score_21 : decode cX12_score 21 = .ok (.getfield 225, 3) := by decide +kernel
theorem dX12_score_24 : decode cX12_score 24 = .ok (.iload 4, 2) := by decide +kernel
theorem dX12_score_26 : decode cX12_score 26 = .ok (.baload, 1) := by decide +kernel
theorem dX12_score_27 : decode cX12_score 27 = .ok (.ifCond .eq 46, 3) := by decide +kernel
theorem dX12_score_30 : decode cX12_score 30 = .ok (.aload_n 0, 1) := by decide +kernel
theorem dX12_score_31 : decode cX12_score 31 = .ok (.getfield 228, 3) := by decide +kernel
theorem dX12_score_34 : decode cX12_score 34 = .ok (.iload 4, 2) := by decide +kernel
theorem dX12_score_36 : decode cX12_score 36 = .ok (.iaload, 1) := by decide +kernel
theorem dX12_score_37 : decode cX12_score 37 = .ok (.iload_n 3, 1) := by decide +kernel
theorem dX12_score_38 : decode cX12_score 38 = .ok (.if_icmp .ne 35, 3) := by decide +kernel
theorem dX12_score_41 : decode cX12_score 41 = .ok (.aload_n 0, 1) := by decide +kernel
theorem dX12_score_42 : decode cX12_score 42 = .ok (.getfield 231, 3) := by decide +kernel
theorem dX12_score_45 : decode cX12_score 45 = .ok (.iload 4, 2) := by decide +kernel
theorem dX12_score_47 : decode cX12_score 47 = .ok (.iaload, 1) := by decide +kernel
theorem dX12_score_48 : decode cX12_score 48 = .ok (.aload_n 0, 1) := by decide +kernel
theorem dX12_score_49 : decode cX12_score 49 = .ok (.getfield 222, 3) := by decide +kernel
theorem dX12_score_52 : decode cX12_score 52 = .ok (.iconst 2, 1) := by decide +kernel
theorem dX12_score_53 : decode cX12_score 53 = .ok (.iaload, 1) := by decide +kernel
theorem dX12_score_54 : decode cX12_score 54 = .ok (.if_icmp .ne 19, 3) := by decide +kernel
theorem dX12_score_57 : decode cX12_score 57 = .ok (.aload_n 0, 1) := by decide +kernel
theorem dX12_score_58 : decode cX12_score 58 = .ok (.getfield 234, 3) := by decide +kernel
theorem dX12_score_61 : decode cX12_score 61 = .ok (.iload 4, 2) := by decide +kernel
theorem dX12_score_63 : decode cX12_score 63 = .ok (.iaload, 1) := by decide +kernel
theorem dX12_score_64 : decode cX12_score 64 = .ok (.aload_n 0, 1) := by decide +kernel
theorem dX12_score_65 : decode cX12_score 65 = .ok (.getfield 222, 3) := by decide +kernel
theorem dX12_score_68 : decode cX12_score 68 = .ok (.iconst 3, 1) := by decide +kernel
theorem dX12_score_69 : decode cX12_score 69 = .ok (.iaload, 1) := by decide +kernel
theorem dX12_score_70 : decode cX12_score 70 = .ok (.if_icmp .eq 18, 3) := by decide +kernel
theorem dX12_score_73 : decode cX12_score 73 = .ok (.aload_n 0, 1) := by decide +kernel
theorem dX12_score_74 : decode cX12_score 74 = .ok (.iload_n 1, 1) := by decide +kernel
theorem dX12_score_75 : decode cX12_score 75 = .ok (.iload_n 2, 1) := by decide +kernel
theorem dX12_score_76 : decode cX12_score 76 = .ok (.iconst 4, 1) := by decide +kernel
theorem dX12_score_77 : decode cX12_score 77 = .ok (.iload_n 3, 1) := by decide +kernel
theorem dX12_score_78 : decode cX12_score 78 = .ok (.aload_n 0, 1) := by decide +kernel
theorem dX12_score_79 : decode cX12_score 79 = .ok (.getfield 222, 3) := by decide +kernel
theorem dX12_score_82 : decode cX12_score 82 = .ok (.iconst 2, 1) := by decide +kernel
theorem dX12_score_83 : decode cX12_score 83 = .ok (.iaload, 1) := by decide +kernel
theorem dX12_score_84 : decode cX12_score 84 = .ok (.invokevirtual 589, 3) := by decide +kernel
theorem dX12_score_87 : decode cX12_score 87 = .ok (.return_, 1) := by decide +kernel
theorem dX12_score_88 : decode cX12_score 88 = .ok (.aload_n 0, 1) := by decide +kernel
theorem dX12_score_89 : decode cX12_score 89 = .ok (.getfield 225, 3) := by decide +kernel
theorem dX12_score_92 : decode cX12_score 92 = .ok (.iload 4, 2) := by decide +kernel
theorem dX12_score_94 : decode cX12_score 94 = .ok (.iconst 0, 1) := by decide +kernel
theorem dX12_score_95 : decode cX12_score 95 = .ok (.bastore, 1) := by decide +kernel
theorem dX12_score_96 : decode cX12_score 96 = .ok (.aload_n 0, 1) := by decide +kernel
theorem dX12_score_97 : decode cX12_score 97 = .ok (.iload_n 3, 1) := by decide +kernel
theorem dX12_score_98 : decode cX12_score 98 = .ok (.invokevirtual 577, 3) := by decide +kernel
theorem dX12_score_101 : decode cX12_score 101 = .ok (.aload_n 0, 1) := by decide +kernel
theorem dX12_score_102 : decode cX12_score 102 = .ok (.iconst 0, 1) := by decide +kernel
theorem dX12_score_103 : decode cX12_score 103 = .ok (.putfield 617, 3) := by decide +kernel
theorem dX12_score_106 : decode cX12_score 106 = .ok (.iconst 0, 1) := by decide +kernel
theorem dX12_score_107 : decode cX12_score 107 = .ok (.istore 5, 2) := by decide +kernel
theorem dX12_score_109 : decode cX12_score 109 = .ok (.iload 5, 2) := by decide +kernel
theorem dX12_score_111 : decode cX12_score 111 = .ok (.bipush 100, 2) := by decide +kernel
theorem dX12_score_113 : decode cX12_score 113 = .ok (.if_icmp .ge 69, 3) := by decide +kernel
theorem dX12_score_116 : decode cX12_score 116 = .ok (.aload_n 0, 1) := by decide +kernel
theorem dX12_score_117 : decode cX12_score 117 = .ok (.getfield 240, 3) := by decide +kernel
theorem dX12_score_120 : decode cX12_score 120 = .ok (.bipush 100, 2) := by decide +kernel
theorem dX12_score_122 : decode cX12_score 122 = .ok (.iload 4, 2) := by decide +kernel
theorem dX12_score_124 : decode cX12_score 124 = .ok (.imul, 1) := by decide +kernel
theorem dX12_score_125 : decode cX12_score 125 = .ok (.iload 5, 2) := by decide +kernel
theorem dX12_score_127 : decode cX12_score 127 = .ok (.iadd, 1) := by decide +kernel
theorem dX12_score_128 : decode cX12_score 128 = .ok (.iaload, 1) := by decide +kernel
theorem dX12_score_129 : decode cX12_score 129 = .ok (.iconst (-1), 1) := by decide +kernel
theorem dX12_score_130 : decode cX12_score 130 = .ok (.if_icmp .eq 46, 3) := by decide +kernel
theorem dX12_score_133 : decode cX12_score 133 = .ok (.aload_n 0, 1) := by decide +kernel
theorem dX12_score_134 : decode cX12_score 134 = .ok (.aload_n 0, 1) := by decide +kernel
theorem dX12_score_135 : decode cX12_score 135 = .ok (.getfield 240, 3) := by decide +kernel
theorem dX12_score_138 : decode cX12_score 138 = .ok (.bipush 100, 2) := by decide +kernel
theorem dX12_score_140 : decode cX12_score 140 = .ok (.iload 4, 2) := by decide +kernel
theorem dX12_score_142 : decode cX12_score 142 = .ok (.imul, 1) := by decide +kernel
theorem dX12_score_143 : decode cX12_score 143 = .ok (.iload 5, 2) := by decide +kernel
theorem dX12_score_145 : decode cX12_score 145 = .ok (.iadd, 1) := by decide +kernel
theorem dX12_score_146 : decode cX12_score 146 = .ok (.iaload, 1) := by decide +kernel
theorem dX12_score_147 : decode cX12_score 147 = .ok (.invokevirtual 580, 3) := by decide +kernel
theorem dX12_score_150 : decode cX12_score 150 = .ok (.aload_n 0, 1) := by decide +kernel
theorem dX12_score_151 : decode cX12_score 151 = .ok (.invokevirtual 620, 3) := by decide +kernel
theorem dX12_score_154 : decode cX12_score 154 = .ok (.istore 6, 2) := by decide +kernel
theorem dX12_score_156 : decode cX12_score 156 = .ok (.iload 6, 2) := by decide +kernel
theorem dX12_score_158 : decode cX12_score 158 = .ok (.iconst (-1), 1) := by decide +kernel
theorem dX12_score_159 : decode cX12_score 159 = .ok (.if_icmp .eq 17, 3) := by decide +kernel
theorem dX12_score_162 : decode cX12_score 162 = .ok (.aload_n 0, 1) := by decide +kernel
theorem dX12_score_163 : decode cX12_score 163 = .ok (.iload 5, 2) := by decide +kernel
theorem dX12_score_165 : decode cX12_score 165 = .ok (.iload 6, 2) := by decide +kernel
theorem dX12_score_167 : decode cX12_score 167 = .ok (.aload_n 0, 1) := by decide +kernel
theorem dX12_score_168 : decode cX12_score 168 = .ok (.getfield 16, 3) := by decide +kernel
theorem dX12_score_171 : decode cX12_score 171 = .ok (.iload_n 3, 1) := by decide +kernel
theorem dX12_score_172 : decode cX12_score 172 = .ok (.iaload, 1) := by decide +kernel
theorem dX12_score_173 : decode cX12_score 173 = .ok (.invokevirtual 623, 3) := by decide +kernel
theorem dX12_score_176 : decode cX12_score 176 = .ok (.iinc 5 1, 3) := by decide +kernel
theorem dX12_score_179 : decode cX12_score 179 = .ok (.goto (-70), 3) := by decide +kernel
theorem dX12_score_182 : decode cX12_score 182 = .ok (.aload_n 0, 1) := by decide +kernel
theorem dX12_score_183 : decode cX12_score 183 = .ok (.getfield 219, 3) := by decide +kernel
theorem dX12_score_186 : decode cX12_score 186 = .ok (.iconst 0, 1) := by decide +kernel
theorem dX12_score_187 : decode cX12_score 187 = .ok (.bipush 22, 2) := by decide +kernel
theorem dX12_score_189 : decode cX12_score 189 = .ok (.iastore, 1) := by decide +kernel
theorem dX12_score_190 : decode cX12_score 190 = .ok (.aload_n 0, 1) := by decide +kernel
theorem dX12_score_191 : decode cX12_score 191 = .ok (.getfield 219, 3) := by decide +kernel
theorem dX12_score_194 : decode cX12_score 194 = .ok (.iconst 1, 1) := by decide +kernel
theorem dX12_score_195 : decode cX12_score 195 = .ok (.iload_n 3, 1) := by decide +kernel
theorem dX12_score_196 : decode cX12_score 196 = .ok (.iastore, 1) := by decide +kernel
theorem dX12_score_197 : decode cX12_score 197 = .ok (.aload_n 0, 1) := by decide +kernel
theorem dX12_score_198 : decode cX12_score 198 = .ok (.getfield 219, 3) := by decide +kernel
theorem dX12_score_201 : decode cX12_score 201 = .ok (.iconst 2, 1) := by decide +kernel
theorem dX12_score_202 : decode cX12_score 202 = .ok (.aload_n 0, 1) := by decide +kernel
theorem dX12_score_203 : decode cX12_score 203 = .ok (.getfield 222, 3) := by decide +kernel
theorem dX12_score_206 : decode cX12_score 206 = .ok (.iconst 2, 1) := by decide +kernel
theorem dX12_score_207 : decode cX12_score 207 = .ok (.iaload, 1) := by decide +kernel
theorem dX12_score_208 : decode cX12_score 208 = .ok (.iastore, 1) := by decide +kernel
theorem dX12_score_209 : decode cX12_score 209 = .ok (.aload_n 0, 1) := by decide +kernel
theorem dX12_score_210 : decode cX12_score 210 = .ok (.getfield 219, 3) := by decide +kernel
theorem dX12_score_213 : decode cX12_score 213 = .ok (.iconst 3, 1) := by decide +kernel
theorem dX12_score_214 : decode cX12_score 214 = .ok (.aload_n 0, 1) := by decide +kernel
theorem dX12_score_215 : decode cX12_score 215 = .ok (.getfield 222, 3) := by decide +kernel
theorem dX12_score_218 : decode cX12_score 218 = .ok (.iconst 3, 1) := by decide +kernel
theorem dX12_score_219 : decode cX12_score 219 = .ok (.iaload, 1) := by decide +kernel
theorem dX12_score_220 : decode cX12_score 220 = .ok (.iastore, 1) := by decide +kernel
theorem dX12_score_221 : decode cX12_score 221 = .ok (.aload_n 0, 1) := by decide +kernel
theorem dX12_score_222 : decode cX12_score 222 = .ok (.getfield 219, 3) := by decide +kernel
theorem dX12_score_225 : decode cX12_score 225 = .ok (.iconst 4, 1) := by decide +kernel
theorem dX12_score_226 : decode cX12_score 226 = .ok (.aload_n 0, 1) := by decide +kernel
theorem dX12_score_227 : decode cX12_score 227 = .ok (.getfield 617, 3) := by decide +kernel
theorem dX12_score_230 : decode cX12_score 230 = .ok (.iastore, 1) := by decide +kernel
theorem dX12_score_231 : decode cX12_score 231 = .ok (.iconst 0, 1) := by decide +kernel
theorem dX12_score_232 : decode cX12_score 232 = .ok (.istore 5, 2) := by decide +kernel
theorem dX12_score_234 : decode cX12_score 234 = .ok (.iload 5, 2) := by decide +kernel
theorem dX12_score_236 : decode cX12_score 236 = .ok (.aload_n 0, 1) := by decide +kernel
theorem dX12_score_237 : decode cX12_score 237 = .ok (.getfield 617, 3) := by decide +kernel
theorem dX12_score_240 : decode cX12_score 240 = .ok (.if_icmp .ge 47, 3) := by decide +kernel
theorem dX12_score_243 : decode cX12_score 243 = .ok (.aload_n 0, 1) := by decide +kernel
theorem dX12_score_244 : decode cX12_score 244 = .ok (.getfield 219, 3) := by decide +kernel
theorem dX12_score_247 : decode cX12_score 247 = .ok (.bipush 6, 2) := by decide +kernel
theorem dX12_score_249 : decode cX12_score 249 = .ok (.iconst 2, 1) := by decide +kernel
theorem dX12_score_250 : decode cX12_score 250 = .ok (.iload 5, 2) := by decide +kernel
theorem dX12_score_252 : decode cX12_score 252 = .ok (.imul, 1) := by decide +kernel
theorem dX12_score_253 : decode cX12_score 253 = .ok (.iadd, 1) := by decide +kernel
theorem dX12_score_254 : decode cX12_score 254 = .ok (.aload_n 0, 1) := by decide +kernel
theorem dX12_score_255 : decode cX12_score 255 = .ok (.getfield 289, 3) := by decide +kernel
theorem dX12_score_258 : decode cX12_score 258 = .ok (.iload 5, 2) := by decide +kernel
theorem dX12_score_260 : decode cX12_score 260 = .ok (.iaload, 1) := by decide +kernel
theorem dX12_score_261 : decode cX12_score 261 = .ok (.iastore, 1) := by decide +kernel
theorem dX12_score_262 : decode cX12_score 262 = .ok (.aload_n 0, 1) := by decide +kernel
theorem dX12_score_263 : decode cX12_score 263 = .ok (.getfield 219, 3) := by decide +kernel
theorem dX12_score_266 : decode cX12_score 266 = .ok (.bipush 7, 2) := by decide +kernel
theorem dX12_score_268 : decode cX12_score 268 = .ok (.iconst 2, 1) := by decide +kernel
theorem dX12_score_269 : decode cX12_score 269 = .ok (.iload 5, 2) := by decide +kernel
theorem dX12_score_271 : decode cX12_score 271 = .ok (.imul, 1) := by decide +kernel
theorem dX12_score_272 : decode cX12_score 272 = .ok (.iadd, 1) := by decide +kernel
theorem dX12_score_273 : decode cX12_score 273 = .ok (.aload_n 0, 1) := by decide +kernel
theorem dX12_score_274 : decode cX12_score 274 = .ok (.getfield 292, 3) := by decide +kernel
theorem dX12_score_277 : decode cX12_score 277 = .ok (.iload 5, 2) := by decide +kernel
theorem dX12_score_279 : decode cX12_score 279 = .ok (.iaload, 1) := by decide +kernel
theorem dX12_score_280 : decode cX12_score 280 = .ok (.iastore, 1) := by decide +kernel
theorem dX12_score_281 : decode cX12_score 281 = .ok (.iinc 5 1, 3) := by decide +kernel
theorem dX12_score_284 : decode cX12_score 284 = .ok (.goto (-50), 3) := by decide +kernel
theorem dX12_score_287 : decode cX12_score 287 = .ok (.aload_n 0, 1) := by decide +kernel
theorem dX12_score_288 : decode cX12_score 288 = .ok (.getfield 219, 3) := by decide +kernel
theorem dX12_score_291 : decode cX12_score 291 = .ok (.iconst 5, 1) := by decide +kernel
theorem dX12_score_292 : decode cX12_score 292 = .ok (.iconst 0, 1) := by decide +kernel
theorem dX12_score_293 : decode cX12_score 293 = .ok (.iastore, 1) := by decide +kernel
theorem dX12_score_294 : decode cX12_score 294 = .ok (.aload_n 0, 1) := by decide +kernel
theorem dX12_score_295 : decode cX12_score 295 = .ok (.iload_n 1, 1) := by decide +kernel
theorem dX12_score_296 : decode cX12_score 296 = .ok (.iload_n 2, 1) := by decide +kernel
theorem dX12_score_297 : decode cX12_score 297 = .ok (.bipush 6, 2) := by decide +kernel
theorem dX12_score_299 : decode cX12_score 299 = .ok (.iconst 2, 1) := by decide +kernel
theorem dX12_score_300 : decode cX12_score 300 = .ok (.aload_n 0, 1) := by decide +kernel
theorem dX12_score_301 : decode cX12_score 301 = .ok (.getfield 617, 3) := by decide +kernel
theorem dX12_score_304 : decode cX12_score 304 = .ok (.imul, 1) := by decide +kernel
theorem dX12_score_305 : decode cX12_score 305 = .ok (.iadd, 1) := by decide +kernel
theorem dX12_score_306 : decode cX12_score 306 = .ok (.invokevirtual 446, 3) := by decide +kernel
theorem dX12_score_309 : decode cX12_score 309 = .ok (.return_, 1) := by decide +kernel
theorem dX12_isOpenAt_0 : decode cX12_isOpenAt 0 = .ok (.aload_n 0, 1) := by decide +kernel
theorem dX12_isOpenAt_1 : decode cX12_isOpenAt 1 = .ok (.getfield 22, 3) := by decide +kernel
theorem dX12_isOpenAt_4 : decode cX12_isOpenAt 4 = .ok (.iload_n 1, 1) := by decide +kernel
theorem dX12_isOpenAt_5 : decode cX12_isOpenAt 5 = .ok (.iaload, 1) := by decide +kernel
theorem dX12_isOpenAt_6 : decode cX12_isOpenAt 6 = .ok (.ifCond .ne 17, 3) := by decide +kernel
theorem dX12_isOpenAt_9 : decode cX12_isOpenAt 9 = .ok (.aload_n 0, 1) := by decide +kernel
theorem dX12_isOpenAt_10 : decode cX12_isOpenAt 10 = .ok (.getfield 31, 3) := by decide +kernel
theorem dX12_isOpenAt_13 : decode cX12_isOpenAt 13 = .ok (.iload_n 1, 1) := by decide +kernel
theorem dX12_isOpenAt_14 : decode cX12_isOpenAt 14 = .ok (.iaload, 1) := by decide +kernel
theorem dX12_isOpenAt_15 : decode cX12_isOpenAt 15 = .ok (.iload_n 2, 1) := by decide +kernel
theorem dX12_isOpenAt_16 : decode cX12_isOpenAt 16 = .ok (.if_icmp .ne 7, 3) := by decide +kernel
theorem dX12_isOpenAt_19 : decode cX12_isOpenAt 19 = .ok (.iconst 1, 1) := by decide +kernel
theorem dX12_isOpenAt_20 : decode cX12_isOpenAt 20 = .ok (.goto 4, 3) := by decide +kernel
theorem dX12_isOpenAt_23 : decode cX12_isOpenAt 23 = .ok (.iconst 0, 1) := by decide +kernel
theorem dX12_isOpenAt_24 : decode cX12_isOpenAt 24 = .ok (.ireturn, 1) := by decide +kernel
theorem dX12_map_0 : decode cX12_map 0 = .ok (.aload_n 0, 1) := by decide +kernel
theorem dX12_map_1 : decode cX12_map 1 = .ok (.getfield 222, 3) := by decide +kernel
theorem dX12_map_4 : decode cX12_map 4 = .ok (.iconst 1, 1) := by decide +kernel
theorem dX12_map_5 : decode cX12_map 5 = .ok (.iaload, 1) := by decide +kernel
theorem dX12_map_6 : decode cX12_map 6 = .ok (.istore_n 2, 1) := by decide +kernel
theorem dX12_map_7 : decode cX12_map 7 = .ok (.aload_n 0, 1) := by decide +kernel
theorem dX12_map_8 : decode cX12_map 8 = .ok (.getfield 222, 3) := by decide +kernel
theorem dX12_map_11 : decode cX12_map 11 = .ok (.iconst 2, 1) := by decide +kernel
theorem dX12_map_12 : decode cX12_map 12 = .ok (.iaload, 1) := by decide +kernel
theorem dX12_map_13 : decode cX12_map 13 = .ok (.istore_n 3, 1) := by decide +kernel
theorem dX12_map_14 : decode cX12_map 14 = .ok (.aload_n 0, 1) := by decide +kernel
theorem dX12_map_15 : decode cX12_map 15 = .ok (.iload_n 2, 1) := by decide +kernel
theorem dX12_map_16 : decode cX12_map 16 = .ok (.iload_n 3, 1) := by decide +kernel
theorem dX12_map_17 : decode cX12_map 17 = .ok (.invokevirtual 626, 3) := by decide +kernel
theorem dX12_map_20 : decode cX12_map 20 = .ok (.ifCond .ne 4, 3) := by decide +kernel
theorem dX12_map_23 : decode cX12_map 23 = .ok (.return_, 1) := by decide +kernel
theorem dX12_map_24 : decode cX12_map 24 = .ok (.aload_n 0, 1) := by decide +kernel
theorem dX12_map_25 : decode cX12_map 25 = .ok (.getfield 7, 3) := by decide +kernel
theorem dX12_map_28 : decode cX12_map 28 = .ok (.iload_n 2, 1) := by decide +kernel
theorem dX12_map_29 : decode cX12_map 29 = .ok (.iaload, 1) := by decide +kernel
theorem dX12_map_30 : decode cX12_map 30 = .ok (.iconst 3, 1) := by decide +kernel
theorem dX12_map_31 : decode cX12_map 31 = .ok (.if_icmp .eq 71, 3) := by decide +kernel
theorem dX12_map_34 : decode cX12_map 34 = .ok (.aload_n 0, 1) := by decide +kernel
theorem dX12_map_35 : decode cX12_map 35 = .ok (.getfield 7, 3) := by decide +kernel
theorem dX12_map_38 : decode cX12_map 38 = .ok (.iload_n 2, 1) := by decide +kernel
theorem dX12_map_39 : decode cX12_map 39 = .ok (.iaload, 1) := by decide +kernel
theorem dX12_map_40 : decode cX12_map 40 = .ok (.iconst 2, 1) := by decide +kernel
theorem dX12_map_41 : decode cX12_map 41 = .ok (.if_icmp .ne 12, 3) := by decide +kernel
theorem dX12_map_44 : decode cX12_map 44 = .ok (.aload_n 0, 1) := by decide +kernel
theorem dX12_map_45 : decode cX12_map 45 = .ok (.getfield 13, 3) := by decide +kernel
theorem dX12_map_48 : decode cX12_map 48 = .ok (.iload_n 2, 1) := by decide +kernel
theorem dX12_map_49 : decode cX12_map 49 = .ok (.iaload, 1) := by decide +kernel
theorem dX12_map_50 : decode cX12_map 50 = .ok (.goto 14, 3) := by decide +kernel
theorem dX12_map_53 : decode cX12_map 53 = .ok (.aload_n 0, 1) := by decide +kernel
theorem dX12_map_54 : decode cX12_map 54 = .ok (.getfield 13, 3) := by decide +kernel
theorem dX12_map_57 : decode cX12_map 57 = .ok (.iload_n 2, 1) := by decide +kernel
theorem dX12_map_58 : decode cX12_map 58 = .ok (.iaload, 1) := by decide +kernel
theorem dX12_map_59 : decode cX12_map 59 = .ok (.aload_n 0, 1) := by decide +kernel
theorem dX12_map_60 : decode cX12_map 60 = .ok (.getfield 327, 3) := by decide +kernel
theorem dX12_map_63 : decode cX12_map 63 = .ok (.irem, 1) := by decide +kernel
theorem dX12_map_64 : decode cX12_map 64 = .ok (.istore 4, 2) := by decide +kernel
theorem dX12_map_66 : decode cX12_map 66 = .ok (.aload_n 0, 1) := by decide +kernel
theorem dX12_map_67 : decode cX12_map 67 = .ok (.iload_n 1, 1) := by decide +kernel
theorem dX12_map_68 : decode cX12_map 68 = .ok (.aload_n 0, 1) := by decide +kernel
theorem dX12_map_69 : decode cX12_map 69 = .ok (.getfield 222, 3) := by decide +kernel
theorem dX12_map_72 : decode cX12_map 72 = .ok (.bipush 7, 2) := by decide +kernel
theorem dX12_map_74 : decode cX12_map 74 = .ok (.iconst 3, 1) := by decide +kernel
theorem dX12_map_75 : decode cX12_map 75 = .ok (.iload 4, 2) := by decide +kernel
theorem dX12_map_77 : decode cX12_map 77 = .ok (.imul, 1) := by decide +kernel
theorem dX12_map_78 : decode cX12_map 78 = .ok (.iadd, 1) := by decide +kernel
theorem dX12_map_79 : decode cX12_map 79 = .ok (.iaload, 1) := by decide +kernel
theorem dX12_map_80 : decode cX12_map 80 = .ok (.aload_n 0, 1) := by decide +kernel
theorem dX12_map_81 : decode cX12_map 81 = .ok (.getfield 7, 3) := by decide +kernel
theorem dX12_map_84 : decode cX12_map 84 = .ok (.iload_n 2, 1) := by decide +kernel
theorem dX12_map_85 : decode cX12_map 85 = .ok (.iaload, 1) := by decide +kernel
theorem dX12_map_86 : decode cX12_map 86 = .ok (.iconst 2, 1) := by decide +kernel
theorem dX12_map_87 : decode cX12_map 87 = .ok (.if_icmp .ne 8, 3) := by decide +kernel
theorem dX12_map_90 : decode cX12_map 90 = .ok (.bipush 17, 2) := by decide +kernel
theorem dX12_map_92 : decode cX12_map 92 = .ok (.goto 4, 3) := by decide +kernel
theorem dX12_map_95 : decode cX12_map 95 = .ok (.iconst 3, 1) := by decide +kernel
theorem dX12_map_96 : decode cX12_map 96 = .ok (.iload_n 2, 1) := by decide +kernel
theorem dX12_map_97 : decode cX12_map 97 = .ok (.iload_n 3, 1) := by decide +kernel
theorem dX12_map_98 : decode cX12_map 98 = .ok (.invokevirtual 589, 3) := by decide +kernel
theorem dX12_map_101 : decode cX12_map 101 = .ok (.return_, 1) := by decide +kernel
theorem dX12_map_102 : decode cX12_map 102 = .ok (.aload_n 0, 1) := by decide +kernel
theorem dX12_map_103 : decode cX12_map 103 = .ok (.getfield 62, 3) := by decide +kernel
theorem dX12_map_106 : decode cX12_map 106 = .ok (.iload_n 2, 1) := by decide +kernel
theorem dX12_map_107 : decode cX12_map 107 = .ok (.iconst 0, 1) := by decide +kernel
theorem dX12_map_108 : decode cX12_map 108 = .ok (.iastore, 1) := by decide +kernel
theorem dX12_map_109 : decode cX12_map 109 = .ok (.aload_n 0, 1) := by decide +kernel
theorem dX12_map_110 : decode cX12_map 110 = .ok (.getfield 65, 3) := by decide +kernel
theorem dX12_map_113 : decode cX12_map 113 = .ok (.iload_n 2, 1) := by decide +kernel
theorem dX12_map_114 : decode cX12_map 114 = .ok (.iconst 0, 1) := by decide +kernel
theorem dX12_map_115 : decode cX12_map 115 = .ok (.iastore, 1) := by decide +kernel
theorem dX12_map_116 : decode cX12_map 116 = .ok (.aload_n 0, 1) := by decide +kernel
theorem dX12_map_117 : decode cX12_map 117 = .ok (.getfield 68, 3) := by decide +kernel
theorem dX12_map_120 : decode cX12_map 120 = .ok (.iload_n 2, 1) := by decide +kernel
theorem dX12_map_121 : decode cX12_map 121 = .ok (.iconst 0, 1) := by decide +kernel
theorem dX12_map_122 : decode cX12_map 122 = .ok (.iastore, 1) := by decide +kernel
theorem dX12_map_123 : decode cX12_map 123 = .ok (.aload_n 0, 1) := by decide +kernel
theorem dX12_map_124 : decode cX12_map 124 = .ok (.getfield 71, 3) := by decide +kernel
theorem dX12_map_127 : decode cX12_map 127 = .ok (.iload_n 2, 1) := by decide +kernel
theorem dX12_map_128 : decode cX12_map 128 = .ok (.iconst 0, 1) := by decide +kernel
theorem dX12_map_129 : decode cX12_map 129 = .ok (.iastore, 1) := by decide +kernel
theorem dX12_map_130 : decode cX12_map 130 = .ok (.iconst 0, 1) := by decide +kernel
theorem dX12_map_131 : decode cX12_map 131 = .ok (.istore 4, 2) := by decide +kernel
theorem dX12_map_133 : decode cX12_map 133 = .ok (.iload 4, 2) := by decide +kernel
theorem dX12_map_135 : decode cX12_map 135 = .ok (.bipush 24, 2) := by decide +kernel
theorem dX12_map_137 : decode cX12_map 137 = .ok (.if_icmp .ge 22, 3) := by decide +kernel
theorem dX12_map_140 : decode cX12_map 140 = .ok (.aload_n 0, 1) := by decide +kernel
theorem dX12_map_141 : decode cX12_map 141 = .ok (.getfield 74, 3) := by decide +kernel
theorem dX12_map_144 : decode cX12_map 144 = .ok (.bipush 24, 2) := by decide +kernel
theorem dX12_map_146 : decode cX12_map 146 = .ok (.iload_n 2, 1) := by decide +kernel
theorem dX12_map_147 : decode cX12_map 147 = .ok (.imul, 1) := by decide +kernel
theorem dX12_map_148 : decode cX12_map 148 = .ok (.iload 4, 2) := by decide +kernel
theorem dX12_map_150 : decode cX12_map 150 = .ok (.iadd, 1) := by decide +kernel
theorem dX12_map_151 : decode cX12_map 151 = .ok (.iconst 0, 1) := by decide +kernel
theorem dX12_map_152 : decode cX12_map 152 = .ok (.iastore, 1) := by decide +kernel
theorem dX12_map_153 : decode cX12_map 153 = .ok (.iinc 4 1, 3) := by decide +kernel
theorem dX12_map_156 : decode cX12_map 156 = .ok (.goto (-23), 3) := by decide +kernel
theorem dX12_map_159 : decode cX12_map 159 = .ok (.aload_n 0, 1) := by decide +kernel
theorem dX12_map_160 : decode cX12_map 160 = .ok (.getfield 38, 3) := by decide +kernel
theorem dX12_map_163 : decode cX12_map 163 = .ok (.iload_n 2, 1) := by decide +kernel
theorem dX12_map_164 : decode cX12_map 164 = .ok (.iconst 0, 1) := by decide +kernel
theorem dX12_map_165 : decode cX12_map 165 = .ok (.iastore, 1) := by decide +kernel
theorem dX12_map_166 : decode cX12_map 166 = .ok (.iconst 0, 1) := by decide +kernel
theorem dX12_map_167 : decode cX12_map 167 = .ok (.istore 4, 2) := by decide +kernel
theorem dX12_map_169 : decode cX12_map 169 = .ok (.iload 4, 2) := by decide +kernel
theorem dX12_map_171 : decode cX12_map 171 = .ok (.aload_n 0, 1) := by decide +kernel
theorem dX12_map_172 : decode cX12_map 172 = .ok (.getfield 327, 3) := by decide +kernel
theorem dX12_map_175 : decode cX12_map 175 = .ok (.if_icmp .ge 156, 3) := by decide +kernel
theorem dX12_map_178 : decode cX12_map 178 = .ok (.aload_n 0, 1) := by decide +kernel
theorem dX12_map_179 : decode cX12_map 179 = .ok (.getfield 222, 3) := by decide +kernel
theorem dX12_map_182 : decode cX12_map 182 = .ok (.bipush 8, 2) := by decide +kernel
theorem dX12_map_184 : decode cX12_map 184 = .ok (.iconst 3, 1) := by decide +kernel
theorem dX12_map_185 : decode cX12_map 185 = .ok (.iload 4, 2) := by decide +kernel
theorem dX12_map_187 : decode cX12_map 187 = .ok (.imul, 1) := by decide +kernel
theorem dX12_map_188 : decode cX12_map 188 = .ok (.iadd, 1) := by decide +kernel
theorem dX12_map_189 : decode cX12_map 189 = .ok (.iaload, 1) := by decide +kernel
theorem dX12_map_190 : decode cX12_map 190 = .ok (.istore 5, 2) := by decide +kernel
theorem dX12_map_192 : decode cX12_map 192 = .ok (.iconst 0, 1) := by decide +kernel
theorem dX12_map_193 : decode cX12_map 193 = .ok (.istore 6, 2) := by decide +kernel
theorem dX12_map_195 : decode cX12_map 195 = .ok (.iconst 0, 1) := by decide +kernel
theorem dX12_map_196 : decode cX12_map 196 = .ok (.istore 7, 2) := by decide +kernel
theorem dX12_map_198 : decode cX12_map 198 = .ok (.iload 7, 2) := by decide +kernel
theorem dX12_map_200 : decode cX12_map 200 = .ok (.aload_n 0, 1) := by decide +kernel
theorem dX12_map_201 : decode cX12_map 201 = .ok (.getfield 321, 3) := by decide +kernel
theorem dX12_map_204 : decode cX12_map 204 = .ok (.if_icmp .ge 21, 3) := by decide +kernel
theorem dX12_map_207 : decode cX12_map 207 = .ok (.iload 6, 2) := by decide +kernel
theorem dX12_map_209 : decode cX12_map 209 = .ok (.iload 5, 2) := by decide +kernel
theorem dX12_map_211 : decode cX12_map 211 = .ok (.iload 7, 2) := by decide +kernel
theorem dX12_map_213 : decode cX12_map 213 = .ok (.ishr, 1) := by decide +kernel
theorem dX12_map_214 : decode cX12_map 214 = .ok (.iconst 1, 1) := by decide +kernel
theorem dX12_map_215 : decode cX12_map 215 = .ok (.iand, 1) := by decide +kernel
theorem dX12_map_216 : decode cX12_map 216 = .ok (.iadd, 1) := by decide +kernel
theorem dX12_map_217 : decode cX12_map 217 = .ok (.istore 6, 2) := by decide +kernel
theorem dX12_map_219 : decode cX12_map 219 = .ok (.iinc 7 1, 3) := by decide +kernel
theorem dX12_map_222 : decode cX12_map 222 = .ok (.goto (-24), 3) := by decide +kernel
theorem dX12_map_225 : decode cX12_map 225 = .ok (.iload 6, 2) := by decide +kernel
theorem dX12_map_227 : decode cX12_map 227 = .ok (.ifCond .le 98, 3) := by decide +kernel
theorem dX12_map_230 : decode cX12_map 230 = .ok (.iload_n 2, 1) := by decide +kernel
theorem dX12_map_231 : decode cX12_map 231 = .ok (.iload_n 3, 1) := by decide +kernel
theorem dX12_map_232 : decode cX12_map 232 = .ok (.iadd, 1) := by decide +kernel
theorem dX12_map_233 : decode cX12_map 233 = .ok (.iload 6, 2) := by decide +kernel
theorem dX12_map_235 : decode cX12_map 235 = .ok (.irem, 1) := by decide +kernel
theorem dX12_map_236 : decode cX12_map 236 = .ok (.istore 7, 2) := by decide +kernel
theorem dX12_map_238 : decode cX12_map 238 = .ok (.iconst 0, 1) := by decide +kernel
theorem dX12_map_239 : decode cX12_map 239 = .ok (.istore 8, 2) := by decide +kernel
theorem dX12_map_241 : decode cX12_map 241 = .ok (.iconst 0, 1) := by decide +kernel
theorem dX12_map_242 : decode cX12_map 242 = .ok (.istore 9, 2) := by decide +kernel
theorem dX12_map_244 : decode cX12_map 244 = .ok (.iload 9, 2) := by decide +kernel
theorem dX12_map_246 : decode cX12_map 246 = .ok (.aload_n 0, 1) := by decide +kernel
theorem dX12_map_247 : decode cX12_map 247 = .ok (.getfield 321, 3) := by decide +kernel
theorem dX12_map_250 : decode cX12_map 250 = .ok (.if_icmp .ge 37, 3) := by decide +kernel
theorem dX12_map_253 : decode cX12_map 253 = .ok (.iload 5, 2) := by decide +kernel
theorem dX12_map_255 : decode cX12_map 255 = .ok (.iload 9, 2) := by decide +kernel
theorem dX12_map_257 : decode cX12_map 257 = .ok (.ishr, 1) := by decide +kernel
theorem dX12_map_258 : decode cX12_map 258 = .ok (.iconst 1, 1) := by decide +kernel
theorem dX12_map_259 : decode cX12_map 259 = .ok (.iand, 1) := by decide +kernel
theorem dX12_map_260 : decode cX12_map 260 = .ok (.iconst 1, 1) := by decide +kernel
theorem dX12_map_261 : decode cX12_map 261 = .ok (.if_icmp .ne 20, 3) := by decide +kernel
theorem dX12_map_264 : decode cX12_map 264 = .ok (.iload 7, 2) := by decide +kernel
theorem dX12_map_266 : decode cX12_map 266 = .ok (.ifCond .ne 8, 3) := by decide +kernel
theorem dX12_map_269 : decode cX12_map 269 = .ok (.iload 9, 2) := by decide +kernel
theorem dX12_map_271 : decode cX12_map 271 = .ok (.goto 5, 3) := by decide +kernel
theorem dX12_map_274 : decode cX12_map 274 = .ok (.iload 8, 2) := by decide +kernel
theorem dX12_map_276 : decode cX12_map 276 = .ok (.istore 8, 2) := by decide +kernel
theorem dX12_map_278 : decode cX12_map 278 = .ok (.iinc 7 (-1), 3) := by decide +kernel
theorem dX12_map_281 : decode cX12_map 281 = .ok (.iinc 9 1, 3) := by decide +kernel
theorem dX12_map_284 : decode cX12_map 284 = .ok (.goto (-40), 3) := by decide +kernel
theorem dX12_map_287 : decode cX12_map 287 = .ok (.aload_n 0, 1) := by decide +kernel
theorem dX12_map_288 : decode cX12_map 288 = .ok (.getfield 219, 3) := by decide +kernel
theorem dX12_map_291 : decode cX12_map 291 = .ok (.iconst 0, 1) := by decide +kernel
theorem dX12_map_292 : decode cX12_map 292 = .ok (.bipush 19, 2) := by decide +kernel
theorem dX12_map_294 : decode cX12_map 294 = .ok (.iastore, 1) := by decide +kernel
theorem dX12_map_295 : decode cX12_map 295 = .ok (.aload_n 0, 1) := by decide +kernel
theorem dX12_map_296 : decode cX12_map 296 = .ok (.getfield 219, 3) := by decide +kernel
theorem dX12_map_299 : decode cX12_map 299 = .ok (.iconst 1, 1) := by decide +kernel
theorem dX12_map_300 : decode cX12_map 300 = .ok (.iload_n 2, 1) := by decide +kernel
theorem dX12_map_301 : decode cX12_map 301 = .ok (.iastore, 1) := by decide +kernel
theorem dX12_map_302 : decode cX12_map 302 = .ok (.aload_n 0, 1) := by decide +kernel
theorem dX12_map_303 : decode cX12_map 303 = .ok (.getfield 219, 3) := by decide +kernel
theorem dX12_map_306 : decode cX12_map 306 = .ok (.iconst 2, 1) := by decide +kernel
theorem dX12_map_307 : decode cX12_map 307 = .ok (.iload_n 3, 1) := by decide +kernel
theorem dX12_map_308 : decode cX12_map 308 = .ok (.iastore, 1) := by decide +kernel
theorem dX12_map_309 : decode cX12_map 309 = .ok (.aload_n 0, 1) := by decide +kernel
theorem dX12_map_310 : decode cX12_map 310 = .ok (.getfield 219, 3) := by decide +kernel
theorem dX12_map_313 : decode cX12_map 313 = .ok (.iconst 3, 1) := by decide +kernel
theorem dX12_map_314 : decode cX12_map 314 = .ok (.iload 4, 2) := by decide +kernel
theorem dX12_map_316 : decode cX12_map 316 = .ok (.iastore, 1) := by decide +kernel
theorem dX12_map_317 : decode cX12_map 317 = .ok (.aload_n 0, 1) := by decide +kernel
theorem dX12_map_318 : decode cX12_map 318 = .ok (.iload_n 1, 1) := by decide +kernel
theorem dX12_map_319 : decode cX12_map 319 = .ok (.iload 8, 2) := by decide +kernel
theorem dX12_map_321 : decode cX12_map 321 = .ok (.iconst 4, 1) := by decide +kernel
theorem dX12_map_322 : decode cX12_map 322 = .ok (.invokevirtual 446, 3) := by decide +kernel
theorem dX12_map_325 : decode cX12_map 325 = .ok (.iinc 4 1, 3) := by decide +kernel
theorem dX12_map_328 : decode cX12_map 328 = .ok (.goto (-159), 3) := by decide +kernel
theorem dX12_map_331 : decode cX12_map 331 = .ok (.return_, 1) := by decide +kernel
theorem dX12_stats_0 : decode cX12_stats 0 = .ok (.aload_n 0, 1) := by decide +kernel
theorem dX12_stats_1 : decode cX12_stats 1 = .ok (.getfield 222, 3) := by decide +kernel
theorem dX12_stats_4 : decode cX12_stats 4 = .ok (.iconst 1, 1) := by decide +kernel
theorem dX12_stats_5 : decode cX12_stats 5 = .ok (.iaload, 1) := by decide +kernel
theorem dX12_stats_6 : decode cX12_stats 6 = .ok (.istore_n 3, 1) := by decide +kernel
theorem dX12_stats_7 : decode cX12_stats 7 = .ok (.aload_n 0, 1) := by decide +kernel
theorem dX12_stats_8 : decode cX12_stats 8 = .ok (.iload_n 3, 1) := by decide +kernel
theorem dX12_stats_9 : decode cX12_stats 9 = .ok (.aload_n 0, 1) := by decide +kernel
theorem dX12_stats_10 : decode cX12_stats 10 = .ok (.getfield 222, 3) := by decide +kernel
theorem dX12_stats_13 : decode cX12_stats 13 = .ok (.iconst 2, 1) := by decide +kernel
theorem dX12_stats_14 : decode cX12_stats 14 = .ok (.iaload, 1) := by decide +kernel
theorem dX12_stats_15 : decode cX12_stats 15 = .ok (.invokevirtual 626, 3) := by decide +kernel
theorem dX12_stats_18 : decode cX12_stats 18 = .ok (.ifCond .eq 12, 3) := by decide +kernel
theorem dX12_stats_21 : decode cX12_stats 21 = .ok (.aload_n 0, 1) := by decide +kernel
theorem dX12_stats_22 : decode cX12_stats 22 = .ok (.getfield 34, 3) := by decide +kernel
theorem dX12_stats_25 : decode cX12_stats 25 = .ok (.iload_n 3, 1) := by decide +kernel
theorem dX12_stats_26 : decode cX12_stats 26 = .ok (.baload, 1) := by decide +kernel
theorem dX12_stats_27 : decode cX12_stats 27 = .ok (.ifCond .eq 4, 3) := by decide +kernel
theorem dX12_stats_30 : decode cX12_stats 30 = .ok (.return_, 1) := by decide +kernel
theorem dX12_stats_31 : decode cX12_stats 31 = .ok (.aload_n 0, 1) := by decide +kernel
theorem dX12_stats_32 : decode cX12_stats 32 = .ok (.getfield 222, 3) := by decide +kernel
theorem dX12_stats_35 : decode cX12_stats 35 = .ok (.iconst 3, 1) := by decide +kernel
theorem dX12_stats_36 : decode cX12_stats 36 = .ok (.iaload, 1) := by decide +kernel
theorem dX12_stats_37 : decode cX12_stats 37 = .ok (.istore 4, 2) := by decide +kernel
theorem dX12_stats_39 : decode cX12_stats 39 = .ok (.aload_n 0, 1) := by decide +kernel
theorem dX12_stats_40 : decode cX12_stats 40 = .ok (.getfield 62, 3) := by decide +kernel
theorem dX12_stats_43 : decode cX12_stats 43 = .ok (.iload_n 3, 1) := by decide +kernel
theorem dX12_stats_44 : decode cX12_stats 44 = .ok (.dup2, 1) := by decide +kernel
theorem dX12_stats_45 : decode cX12_stats 45 = .ok (.iaload, 1) := by decide +kernel
theorem dX12_stats_46 : decode cX12_stats 46 = .ok (.iconst 1, 1) := by decide +kernel
theorem dX12_stats_47 : decode cX12_stats 47 = .ok (.iload 4, 2) := by decide +kernel
theorem dX12_stats_49 : decode cX12_stats 49 = .ok (.ishl, 1) := by decide +kernel
theorem dX12_stats_50 : decode cX12_stats 50 = .ok (.ior, 1) := by decide +kernel
theorem dX12_stats_51 : decode cX12_stats 51 = .ok (.iastore, 1) := by decide +kernel
theorem dX12_stats_52 : decode cX12_stats 52 = .ok (.aload_n 0, 1) := by decide +kernel
theorem dX12_stats_53 : decode cX12_stats 53 = .ok (.getfield 56, 3) := by decide +kernel
theorem dX12_stats_56 : decode cX12_stats 56 = .ok (.iconst 4, 1) := by decide +kernel
theorem dX12_stats_57 : decode cX12_stats 57 = .ok (.iload_n 3, 1) := by decide +kernel
theorem dX12_stats_58 : decode cX12_stats 58 = .ok (.imul, 1) := by decide +kernel
theorem dX12_stats_59 : decode cX12_stats 59 = .ok (.iload 4, 2) := by decide +kernel
theorem dX12_stats_61 : decode cX12_stats 61 = .ok (.iadd, 1) := by decide +kernel
theorem dX12_stats_62 : decode cX12_stats 62 = .ok (.iload_n 2, 1) := by decide +kernel
theorem dX12_stats_63 : decode cX12_stats 63 = .ok (.iastore, 1) := by decide +kernel
theorem dX12_stats_64 : decode cX12_stats 64 = .ok (.aload_n 0, 1) := by decide +kernel
theorem dX12_stats_65 : decode cX12_stats 65 = .ok (.getfield 59, 3) := by decide +kernel
theorem dX12_stats_68 : decode cX12_stats 68 = .ok (.iconst 4, 1) := by decide +kernel
theorem dX12_stats_69 : decode cX12_stats 69 = .ok (.iload_n 3, 1) := by decide +kernel
theorem dX12_stats_70 : decode cX12_stats 70 = .ok (.imul, 1) := by decide +kernel
theorem dX12_stats_71 : decode cX12_stats 71 = .ok (.iload 4, 2) := by decide +kernel
theorem dX12_stats_73 : decode cX12_stats 73 = .ok (.iadd, 1) := by decide +kernel
theorem dX12_stats_74 : decode cX12_stats 74 = .ok (.aload_n 0, 1) := by decide +kernel
theorem dX12_stats_75 : decode cX12_stats 75 = .ok (.getfield 222, 3) := by decide +kernel
theorem dX12_stats_78 : decode cX12_stats 78 = .ok (.iconst 4, 1) := by decide +kernel
theorem dX12_stats_79 : decode cX12_stats 79 = .ok (.iaload, 1) := by decide +kernel
theorem dX12_stats_80 : decode cX12_stats 80 = .ok (.iastore, 1) := by decide +kernel
theorem dX12_stats_81 : decode cX12_stats 81 = .ok (.aload_n 0, 1) := by decide +kernel
theorem dX12_stats_82 : decode cX12_stats 82 = .ok (.getfield 68, 3) := by decide +kernel
theorem dX12_stats_85 : decode cX12_stats 85 = .ok (.iload_n 3, 1) := by decide +kernel
theorem dX12_stats_86 : decode cX12_stats 86 = .ok (.dup2, 1) := by decide +kernel
theorem dX12_stats_87 : decode cX12_stats 87 = .ok (.iaload, 1) := by decide +kernel
theorem dX12_stats_88 : decode cX12_stats 88 = .ok (.aload_n 0, 1) := by decide +kernel
theorem dX12_stats_89 : decode cX12_stats 89 = .ok (.getfield 222, 3) := by decide +kernel
theorem dX12_stats_92 : decode cX12_stats 92 = .ok (.iconst 5, 1) := by decide +kernel
theorem dX12_stats_93 : decode cX12_stats 93 = .ok (.iaload, 1) := by decide +kernel
theorem dX12_stats_94 : decode cX12_stats 94 = .ok (.iadd, 1) := by decide +kernel
theorem dX12_stats_95 : decode cX12_stats 95 = .ok (.iastore, 1) := by decide +kernel
theorem dX12_stats_96 : decode cX12_stats 96 = .ok (.aload_n 0, 1) := by decide +kernel
theorem dX12_stats_97 : decode cX12_stats 97 = .ok (.getfield 71, 3) := by decide +kernel
theorem dX12_stats_100 : decode cX12_stats 100 = .ok (.iload_n 3, 1) := by decide +kernel
theorem dX12_stats_101 : decode cX12_stats 101 = .ok (.dup2, 1) := by decide +kernel
theorem dX12_stats_102 : decode cX12_stats 102 = .ok (.iaload, 1) := by decide +kernel
theorem dX12_stats_103 : decode cX12_stats 103 = .ok (.aload_n 0, 1) := by decide +kernel
theorem dX12_stats_104 : decode cX12_stats 104 = .ok (.getfield 222, 3) := by decide +kernel
theorem dX12_stats_107 : decode cX12_stats 107 = .ok (.bipush 6, 2) := by decide +kernel
theorem dX12_stats_109 : decode cX12_stats 109 = .ok (.iaload, 1) := by decide +kernel
theorem dX12_stats_110 : decode cX12_stats 110 = .ok (.iadd, 1) := by decide +kernel
theorem dX12_stats_111 : decode cX12_stats 111 = .ok (.iastore, 1) := by decide +kernel
theorem dX12_stats_112 : decode cX12_stats 112 = .ok (.aload_n 0, 1) := by decide +kernel
theorem dX12_stats_113 : decode cX12_stats 113 = .ok (.iload_n 3, 1) := by decide +kernel
theorem dX12_stats_114 : decode cX12_stats 114 = .ok (.invokevirtual 577, 3) := by decide +kernel
theorem dX12_stats_117 : decode cX12_stats 117 = .ok (.aload_n 0, 1) := by decide +kernel
theorem dX12_stats_118 : decode cX12_stats 118 = .ok (.invokevirtual 592, 3) := by decide +kernel
theorem dX12_stats_121 : decode cX12_stats 121 = .ok (.istore 5, 2) := by decide +kernel
theorem dX12_stats_123 : decode cX12_stats 123 = .ok (.iconst 0, 1) := by decide +kernel
theorem dX12_stats_124 : decode cX12_stats 124 = .ok (.istore 6, 2) := by decide +kernel
theorem dX12_stats_126 : decode cX12_stats 126 = .ok (.iload 6, 2) := by decide +kernel
theorem dX12_stats_128 : decode cX12_stats 128 = .ok (.iload 5, 2) := by decide +kernel
theorem dX12_stats_130 : decode cX12_stats 130 = .ok (.if_icmp .ge 34, 3) := by decide +kernel
theorem dX12_stats_133 : decode cX12_stats 133 = .ok (.aload_n 0, 1) := by decide +kernel
theorem dX12_stats_134 : decode cX12_stats 134 = .ok (.getfield 74, 3) := by decide +kernel
theorem dX12_stats_137 : decode cX12_stats 137 = .ok (.bipush 24, 2) := by decide +kernel
theorem dX12_stats_139 : decode cX12_stats 139 = .ok (.iload_n 3, 1) := by decide +kernel
theorem dX12_stats_140 : decode cX12_stats 140 = .ok (.imul, 1) := by decide +kernel
theorem dX12_stats_141 : decode cX12_stats 141 = .ok (.iload 6, 2) := by decide +kernel
theorem dX12_stats_143 : decode cX12_stats 143 = .ok (.iadd, 1) := by decide +kernel
theorem dX12_stats_144 : decode cX12_stats 144 = .ok (.dup2, 1) := by decide +kernel
theorem dX12_stats_145 : decode cX12_stats 145 = .ok (.iaload, 1) := by decide +kernel
theorem dX12_stats_146 : decode cX12_stats 146 = .ok (.aload_n 0, 1) := by decide +kernel
theorem dX12_stats_147 : decode cX12_stats 147 = .ok (.getfield 222, 3) := by decide +kernel
theorem dX12_stats_150 : decode cX12_stats 150 = .ok (.bipush 7, 2) := by decide +kernel
theorem dX12_stats_152 : decode cX12_stats 152 = .ok (.iload 6, 2) := by decide +kernel
theorem dX12_stats_154 : decode cX12_stats 154 = .ok (.iadd, 1) := by decide +kernel
theorem dX12_stats_155 : decode cX12_stats 155 = .ok (.iaload, 1) := by decide +kernel
theorem dX12_stats_156 : decode cX12_stats 156 = .ok (.iadd, 1) := by decide +kernel
theorem dX12_stats_157 : decode cX12_stats 157 = .ok (.iastore, 1) := by decide +kernel
theorem dX12_stats_158 : decode cX12_stats 158 = .ok (.iinc 6 1, 3) := by decide +kernel
theorem dX12_stats_161 : decode cX12_stats 161 = .ok (.goto (-35), 3) := by decide +kernel
theorem dX12_stats_164 : decode cX12_stats 164 = .ok (.iconst 0, 1) := by decide +kernel
theorem dX12_stats_165 : decode cX12_stats 165 = .ok (.istore 6, 2) := by decide +kernel
theorem dX12_stats_167 : decode cX12_stats 167 = .ok (.iload 6, 2) := by decide +kernel
theorem dX12_stats_169 : decode cX12_stats 169 = .ok (.aload_n 0, 1) := by decide +kernel
theorem dX12_stats_170 : decode cX12_stats 170 = .ok (.getfield 327, 3) := by decide +kernel
theorem dX12_stats_173 : decode cX12_stats 173 = .ok (.if_icmp .ge 162, 3) := by decide +kernel
theorem dX12_stats_176 : decode cX12_stats 176 = .ok (.aload_n 0, 1) := by decide +kernel
theorem dX12_stats_177 : decode cX12_stats 177 = .ok (.getfield 62, 3) := by decide +kernel
theorem dX12_stats_180 : decode cX12_stats 180 = .ok (.iload_n 3, 1) := by decide +kernel
theorem dX12_stats_181 : decode cX12_stats 181 = .ok (.iaload, 1) := by decide +kernel
theorem dX12_stats_182 : decode cX12_stats 182 = .ok (.iconst 1, 1) := by decide +kernel
theorem dX12_stats_183 : decode cX12_stats 183 = .ok (.aload_n 0, 1) := by decide +kernel
theorem dX12_stats_184 : decode cX12_stats 184 = .ok (.getfield 327, 3) := by decide +kernel
theorem dX12_stats_187 : decode cX12_stats 187 = .ok (.ishl, 1) := by decide +kernel
theorem dX12_stats_188 : decode cX12_stats 188 = .ok (.iconst 1, 1) := by decide +kernel
theorem dX12_stats_189 : decode cX12_stats 189 = .ok (.isub, 1) := by decide +kernel
theorem dX12_stats_190 : decode cX12_stats 190 = .ok (.if_icmp .ne 145, 3) := by decide +kernel
theorem dX12_stats_193 : decode cX12_stats 193 = .ok (.aload_n 0, 1) := by decide +kernel
theorem dX12_stats_194 : decode cX12_stats 194 = .ok (.getfield 219, 3) := by decide +kernel
theorem dX12_stats_197 : decode cX12_stats 197 = .ok (.iconst 0, 1) := by decide +kernel
theorem dX12_stats_198 : decode cX12_stats 198 = .ok (.bipush 21, 2) := by decide +kernel
theorem dX12_stats_200 : decode cX12_stats 200 = .ok (.iastore, 1) := by decide +kernel
theorem dX12_stats_201 : decode cX12_stats 201 = .ok (.aload_n 0, 1) := by decide +kernel
theorem dX12_stats_202 : decode cX12_stats 202 = .ok (.getfield 219, 3) := by decide +kernel
theorem dX12_stats_205 : decode cX12_stats 205 = .ok (.iconst 1, 1) := by decide +kernel
theorem dX12_stats_206 : decode cX12_stats 206 = .ok (.iload_n 3, 1) := by decide +kernel
theorem dX12_stats_207 : decode cX12_stats 207 = .ok (.iastore, 1) := by decide +kernel
theorem dX12_stats_208 : decode cX12_stats 208 = .ok (.aload_n 0, 1) := by decide +kernel
theorem dX12_stats_209 : decode cX12_stats 209 = .ok (.getfield 219, 3) := by decide +kernel
theorem dX12_stats_212 : decode cX12_stats 212 = .ok (.iconst 2, 1) := by decide +kernel
theorem dX12_stats_213 : decode cX12_stats 213 = .ok (.aload_n 0, 1) := by decide +kernel
theorem dX12_stats_214 : decode cX12_stats 214 = .ok (.getfield 222, 3) := by decide +kernel
theorem dX12_stats_217 : decode cX12_stats 217 = .ok (.iconst 2, 1) := by decide +kernel
theorem dX12_stats_218 : decode cX12_stats 218 = .ok (.iaload, 1) := by decide +kernel
theorem dX12_stats_219 : decode cX12_stats 219 = .ok (.iastore, 1) := by decide +kernel
theorem dX12_stats_220 : decode cX12_stats 220 = .ok (.aload_n 0, 1) := by decide +kernel
theorem dX12_stats_221 : decode cX12_stats 221 = .ok (.getfield 219, 3) := by decide +kernel
theorem dX12_stats_224 : decode cX12_stats 224 = .ok (.iconst 3, 1) := by decide +kernel
theorem dX12_stats_225 : decode cX12_stats 225 = .ok (.iload 6, 2) := by decide +kernel
theorem dX12_stats_227 : decode cX12_stats 227 = .ok (.iastore, 1) := by decide +kernel
theorem dX12_stats_228 : decode cX12_stats 228 = .ok (.aload_n 0, 1) := by decide +kernel
theorem dX12_stats_229 : decode cX12_stats 229 = .ok (.getfield 219, 3) := by decide +kernel
theorem dX12_stats_232 : decode cX12_stats 232 = .ok (.iconst 4, 1) := by decide +kernel
theorem dX12_stats_233 : decode cX12_stats 233 = .ok (.aload_n 0, 1) := by decide +kernel
theorem dX12_stats_234 : decode cX12_stats 234 = .ok (.getfield 59, 3) := by decide +kernel
theorem dX12_stats_237 : decode cX12_stats 237 = .ok (.iconst 4, 1) := by decide +kernel
theorem dX12_stats_238 : decode cX12_stats 238 = .ok (.iload_n 3, 1) := by decide +kernel
theorem dX12_stats_239 : decode cX12_stats 239 = .ok (.imul, 1) := by decide +kernel
theorem dX12_stats_240 : decode cX12_stats 240 = .ok (.iload 6, 2) := by decide +kernel
theorem dX12_stats_242 : decode cX12_stats 242 = .ok (.iadd, 1) := by decide +kernel
theorem dX12_stats_243 : decode cX12_stats 243 = .ok (.iaload, 1) := by decide +kernel
theorem dX12_stats_244 : decode cX12_stats 244 = .ok (.iastore, 1) := by decide +kernel
theorem dX12_stats_245 : decode cX12_stats 245 = .ok (.aload_n 0, 1) := by decide +kernel
theorem dX12_stats_246 : decode cX12_stats 246 = .ok (.getfield 219, 3) := by decide +kernel
theorem dX12_stats_249 : decode cX12_stats 249 = .ok (.iconst 5, 1) := by decide +kernel
theorem dX12_stats_250 : decode cX12_stats 250 = .ok (.aload_n 0, 1) := by decide +kernel
theorem dX12_stats_251 : decode cX12_stats 251 = .ok (.getfield 68, 3) := by decide +kernel
theorem dX12_stats_254 : decode cX12_stats 254 = .ok (.iload_n 3, 1) := by decide +kernel
theorem dX12_stats_255 : decode cX12_stats 255 = .ok (.iaload, 1) := by decide +kernel
theorem dX12_stats_256 : decode cX12_stats 256 = .ok (.iastore, 1) := by decide +kernel
theorem dX12_stats_257 : decode cX12_stats 257 = .ok (.aload_n 0, 1) := by decide +kernel
theorem dX12_stats_258 : decode cX12_stats 258 = .ok (.getfield 219, 3) := by decide +kernel
theorem dX12_stats_261 : decode cX12_stats 261 = .ok (.bipush 6, 2) := by decide +kernel
theorem dX12_stats_263 : decode cX12_stats 263 = .ok (.aload_n 0, 1) := by decide +kernel
theorem dX12_stats_264 : decode cX12_stats 264 = .ok (.getfield 71, 3) := by decide +kernel
theorem dX12_stats_267 : decode cX12_stats 267 = .ok (.iload_n 3, 1) := by decide +kernel
theorem dX12_stats_268 : decode cX12_stats 268 = .ok (.iaload, 1) := by decide +kernel
theorem dX12_stats_269 : decode cX12_stats 269 = .ok (.iastore, 1) := by decide +kernel
theorem dX12_stats_270 : decode cX12_stats 270 = .ok (.iconst 0, 1) := by decide +kernel
theorem dX12_stats_271 : decode cX12_stats 271 = .ok (.istore 7, 2) := by decide +kernel
theorem dX12_stats_273 : decode cX12_stats 273 = .ok (.iload 7, 2) := by decide +kernel
theorem dX12_stats_275 : decode cX12_stats 275 = .ok (.iload 5, 2) := by decide +kernel
theorem dX12_stats_277 : decode cX12_stats 277 = .ok (.if_icmp .ge 31, 3) := by decide +kernel
theorem dX12_stats_280 : decode cX12_stats 280 = .ok (.aload_n 0, 1) := by decide +kernel
theorem dX12_stats_281 : decode cX12_stats 281 = .ok (.getfield 219, 3) := by decide +kernel
theorem dX12_stats_284 : decode cX12_stats 284 = .ok (.bipush 7, 2) := by decide +kernel
theorem dX12_stats_286 : decode cX12_stats 286 = .ok (.iload 7, 2) := by decide +kernel
theorem dX12_stats_288 : decode cX12_stats 288 = .ok (.iadd, 1) := by decide +kernel
theorem dX12_stats_289 : decode cX12_stats 289 = .ok (.aload_n 0, 1) := by decide +kernel
theorem dX12_stats_290 : decode cX12_stats 290 = .ok (.getfield 74, 3) := by decide +kernel
theorem dX12_stats_293 : decode cX12_stats 293 = .ok (.bipush 24, 2) := by decide +kernel
theorem dX12_stats_295 : decode cX12_stats 295 = .ok (.iload_n 3, 1) := by decide +kernel
theorem dX12_stats_296 : decode cX12_stats 296 = .ok (.imul, 1) := by decide +kernel
theorem dX12_stats_297 : decode cX12_stats 297 = .ok (.iload 7, 2) := by decide +kernel
theorem dX12_stats_299 : decode cX12_stats 299 = .ok (.iadd, 1) := by decide +kernel
theorem dX12_stats_300 : decode cX12_stats 300 = .ok (.iaload, 1) := by decide +kernel
theorem dX12_stats_301 : decode cX12_stats 301 = .ok (.iastore, 1) := by decide +kernel
theorem dX12_stats_302 : decode cX12_stats 302 = .ok (.iinc 7 1, 3) := by decide +kernel
theorem dX12_stats_305 : decode cX12_stats 305 = .ok (.goto (-32), 3) := by decide +kernel
theorem dX12_stats_308 : decode cX12_stats 308 = .ok (.aload_n 0, 1) := by decide +kernel
theorem dX12_stats_309 : decode cX12_stats 309 = .ok (.iload_n 1, 1) := by decide +kernel
theorem dX12_stats_310 : decode cX12_stats 310 = .ok (.aload_n 0, 1) := by decide +kernel
theorem dX12_stats_311 : decode cX12_stats 311 = .ok (.getfield 56, 3) := by decide +kernel
theorem dX12_stats_314 : decode cX12_stats 314 = .ok (.iconst 4, 1) := by decide +kernel
theorem dX12_stats_315 : decode cX12_stats 315 = .ok (.iload_n 3, 1) := by decide +kernel
theorem dX12_stats_316 : decode cX12_stats 316 = .ok (.imul, 1) := by decide +kernel
theorem dX12_stats_317 : decode cX12_stats 317 = .ok (.iload 6, 2) := by decide +kernel
theorem dX12_stats_319 : decode cX12_stats 319 = .ok (.iadd, 1) := by decide +kernel
theorem dX12_stats_320 : decode cX12_stats 320 = .ok (.iaload, 1) := by decide +kernel
theorem dX12_stats_321 : decode cX12_stats 321 = .ok (.bipush 7, 2) := by decide +kernel
theorem dX12_stats_323 : decode cX12_stats 323 = .ok (.iload 5, 2) := by decide +kernel
theorem dX12_stats_325 : decode cX12_stats 325 = .ok (.iadd, 1) := by decide +kernel
theorem dX12_stats_326 : decode cX12_stats 326 = .ok (.invokevirtual 446, 3) := by decide +kernel
theorem dX12_stats_329 : decode cX12_stats 329 = .ok (.iinc 6 1, 3) := by decide +kernel
theorem dX12_stats_332 : decode cX12_stats 332 = .ok (.goto (-165), 3) := by decide +kernel
theorem dX12_stats_335 : decode cX12_stats 335 = .ok (.return_, 1) := by decide +kernel
