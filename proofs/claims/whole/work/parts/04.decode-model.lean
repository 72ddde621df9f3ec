theorem dX11_init_0 : decode cX11_init 0 = .ok (.aload_n 0, 1) := by decide +kernel
theorem dX11_init_1 : decode cX11_init 1 = .ok (.invokespecial 1, 3) := by decide +kernel
theorem dX11_init_4 : decode cX11_init 4 = .ok (.aload_n 0, 1) := by decide +kernel
theorem dX11_init_5 : decode cX11_init 5 = .ok (.bipush 14, 2) := by decide +kernel
theorem dX11_init_7 : decode cX11_init 7 = .ok (.newarray .int, 2) := by decide +kernel
theorem dX11_init_9 : decode cX11_init 9 = .ok (.putfield 7, 3) := by decide +kernel
theorem dX11_init_12 : decode cX11_init 12 = .ok (.aload_n 0, 1) := by decide +kernel
theorem dX11_init_13 : decode cX11_init 13 = .ok (.bipush 14, 2) := by decide +kernel
theorem dX11_init_15 : decode cX11_init 15 = .ok (.newarray .int, 2) := by decide +kernel
theorem dX11_init_17 : decode cX11_init 17 = .ok (.putfield 13, 3) := by decide +kernel
theorem dX11_init_20 : decode cX11_init 20 = .ok (.aload_n 0, 1) := by decide +kernel
theorem dX11_init_21 : decode cX11_init 21 = .ok (.bipush 14, 2) := by decide +kernel
theorem dX11_init_23 : decode cX11_init 23 = .ok (.newarray .int, 2) := by decide +kernel
theorem dX11_init_25 : decode cX11_init 25 = .ok (.putfield 16, 3) := by decide +kernel
theorem dX11_init_28 : decode cX11_init 28 = .ok (.aload_n 0, 1) := by decide +kernel
theorem dX11_init_29 : decode cX11_init 29 = .ok (.bipush 14, 2) := by decide +kernel
theorem dX11_init_31 : decode cX11_init 31 = .ok (.newarray .int, 2) := by decide +kernel
theorem dX11_init_33 : decode cX11_init 33 = .ok (.putfield 19, 3) := by decide +kernel
theorem dX11_init_36 : decode cX11_init 36 = .ok (.aload_n 0, 1) := by decide +kernel
theorem dX11_init_37 : decode cX11_init 37 = .ok (.bipush 14, 2) := by decide +kernel
theorem dX11_init_39 : decode cX11_init 39 = .ok (.newarray .int, 2) := by decide +kernel
theorem dX11_init_41 : decode cX11_init 41 = .ok (.putfield 22, 3) := by decide +kernel
theorem dX11_init_44 : decode cX11_init 44 = .ok (.aload_n 0, 1) := by decide +kernel
theorem dX11_init_45 : decode cX11_init 45 = .ok (.bipush 42, 2) := by decide +kernel
theorem dX11_init_47 : decode cX11_init 47 = .ok (.newarray .int, 2) := by decide +kernel
theorem dX11_init_49 : decode cX11_init 49 = .ok (.putfield 25, 3) := by decide +kernel
theorem dX11_init_52 : decode cX11_init 52 = .ok (.aload_n 0, 1) := by decide +kernel
theorem dX11_init_53 : decode cX11_init 53 = .ok (.sipush 196, 3) := by decide +kernel
theorem dX11_init_56 : decode cX11_init 56 = .ok (.newarray .int, 2) := by decide +kernel
theorem dX11_init_58 : decode cX11_init 58 = .ok (.putfield 28, 3) := by decide +kernel
theorem dX11_init_61 : decode cX11_init 61 = .ok (.aload_n 0, 1) := by decide +kernel
theorem dX11_init_62 : decode cX11_init 62 = .ok (.sipush 196, 3) := by decide +kernel
theorem dX11_init_65 : decode cX11_init 65 = .ok (.newarray .boolean, 2) := by decide +kernel
theorem dX11_init_67 : decode cX11_init 67 = .ok (.putfield 31, 3) := by decide +kernel
theorem dX11_init_70 : decode cX11_init 70 = .ok (.aload_n 0, 1) := by decide +kernel
theorem dX11_init_71 : decode cX11_init 71 = .ok (.sipush 196, 3) := by decide +kernel
theorem dX11_init_74 : decode cX11_init 74 = .ok (.newarray .boolean, 2) := by decide +kernel
theorem dX11_init_76 : decode cX11_init 76 = .ok (.putfield 35, 3) := by decide +kernel
theorem dX11_init_79 : decode cX11_init 79 = .ok (.aload_n 0, 1) := by decide +kernel
theorem dX11_init_80 : decode cX11_init 80 = .ok (.bipush 42, 2) := by decide +kernel
theorem dX11_init_82 : decode cX11_init 82 = .ok (.newarray .boolean, 2) := by decide +kernel
theorem dX11_init_84 : decode cX11_init 84 = .ok (.putfield 38, 3) := by decide +kernel
theorem dX11_init_87 : decode cX11_init 87 = .ok (.aload_n 0, 1) := by decide +kernel
theorem dX11_init_88 : decode cX11_init 88 = .ok (.iconst 2, 1) := by decide +kernel
theorem dX11_init_89 : decode cX11_init 89 = .ok (.putfield 41, 3) := by decide +kernel
theorem dX11_init_92 : decode cX11_init 92 = .ok (.aload_n 0, 1) := by decide +kernel
theorem dX11_init_93 : decode cX11_init 93 = .ok (.iconst 3, 1) := by decide +kernel
theorem dX11_init_94 : decode cX11_init 94 = .ok (.newarray .int, 2) := by decide +kernel
theorem dX11_init_96 : decode cX11_init 96 = .ok (.dup, 1) := by decide +kernel
theorem dX11_init_97 : decode cX11_init 97 = .ok (.iconst 0, 1) := by decide +kernel
theorem dX11_init_98 : decode cX11_init 98 = .ok (.bipush 14, 2) := by decide +kernel
theorem dX11_init_100 : decode cX11_init 100 = .ok (.iastore, 1) := by decide +kernel
theorem dX11_init_101 : decode cX11_init 101 = .ok (.dup, 1) := by decide +kernel
theorem dX11_init_102 : decode cX11_init 102 = .ok (.iconst 1, 1) := by decide +kernel
theorem dX11_init_103 : decode cX11_init 103 = .ok (.bipush 14, 2) := by decide +kernel
theorem dX11_init_105 : decode cX11_init 105 = .ok (.iastore, 1) := by decide +kernel
theorem dX11_init_106 : decode cX11_init 106 = .ok (.dup, 1) := by decide +kernel
theorem dX11_init_107 : decode cX11_init 107 = .ok (.iconst 2, 1) := by decide +kernel
theorem dX11_init_108 : decode cX11_init 108 = .ok (.bipush 14, 2) := by decide +kernel
theorem dX11_init_110 : decode cX11_init 110 = .ok (.iastore, 1) := by decide +kernel
theorem dX11_init_111 : decode cX11_init 111 = .ok (.putfield 45, 3) := by decide +kernel
theorem dX11_init_114 : decode cX11_init 114 = .ok (.aload_n 0, 1) := by decide +kernel
theorem dX11_init_115 : decode cX11_init 115 = .ok (.sipush 300, 3) := by decide +kernel
theorem dX11_init_118 : decode cX11_init 118 = .ok (.newarray .int, 2) := by decide +kernel
theorem dX11_init_120 : decode cX11_init 120 = .ok (.putfield 48, 3) := by decide +kernel
theorem dX11_init_123 : decode cX11_init 123 = .ok (.aload_n 0, 1) := by decide +kernel
theorem dX11_init_124 : decode cX11_init 124 = .ok (.sipush 300, 3) := by decide +kernel
theorem dX11_init_127 : decode cX11_init 127 = .ok (.newarray .int, 2) := by decide +kernel
theorem dX11_init_129 : decode cX11_init 129 = .ok (.putfield 51, 3) := by decide +kernel
theorem dX11_init_132 : decode cX11_init 132 = .ok (.aload_n 0, 1) := by decide +kernel
theorem dX11_init_133 : decode cX11_init 133 = .ok (.sipush 300, 3) := by decide +kernel
theorem dX11_init_136 : decode cX11_init 136 = .ok (.newarray .int, 2) := by decide +kernel
theorem dX11_init_138 : decode cX11_init 138 = .ok (.putfield 54, 3) := by decide +kernel
theorem dX11_init_141 : decode cX11_init 141 = .ok (.aload_n 0, 1) := by decide +kernel
theorem dX11_init_142 : decode cX11_init 142 = .ok (.sipush 300, 3) := by decide +kernel
theorem dX11_init_145 : decode cX11_init 145 = .ok (.newarray .int, 2) := by decide +kernel
theorem dX11_init_147 : decode cX11_init 147 = .ok (.putfield 57, 3) := by decide +kernel
theorem dX11_init_150 : decode cX11_init 150 = .ok (.aload_n 0, 1) := by decide +kernel
theorem dX11_init_151 : decode cX11_init 151 = .ok (.sipush 300, 3) := by decide +kernel
theorem dX11_init_154 : decode cX11_init 154 = .ok (.newarray .int, 2) := by decide +kernel
theorem dX11_init_156 : decode cX11_init 156 = .ok (.putfield 60, 3) := by decide +kernel
theorem dX11_init_159 : decode cX11_init 159 = .ok (.aload_n 0, 1) := by decide +kernel
theorem dX11_init_160 : decode cX11_init 160 = .ok (.bipush 32, 2) := by decide +kernel
theorem dX11_init_162 : decode cX11_init 162 = .ok (.newarray .int, 2) := by decide +kernel
theorem dX11_init_164 : decode cX11_init 164 = .ok (.putfield 63, 3) := by decide +kernel
theorem dX11_init_167 : decode cX11_init 167 = .ok (.aload_n 0, 1) := by decide +kernel
theorem dX11_init_168 : decode cX11_init 168 = .ok (.bipush 32, 2) := by decide +kernel
theorem dX11_init_170 : decode cX11_init 170 = .ok (.newarray .int, 2) := by decide +kernel
theorem dX11_init_172 : decode cX11_init 172 = .ok (.putfield 66, 3) := by decide +kernel
theorem dX11_init_175 : decode cX11_init 175 = .ok (.aload_n 0, 1) := by decide +kernel
theorem dX11_init_176 : decode cX11_init 176 = .ok (.bipush 32, 2) := by decide +kernel
theorem dX11_init_178 : decode cX11_init 178 = .ok (.newarray .int, 2) := by decide +kernel
theorem dX11_init_180 : decode cX11_init 180 = .ok (.putfield 69, 3) := by decide +kernel
theorem dX11_init_183 : decode cX11_init 183 = .ok (.aload_n 0, 1) := by decide +kernel
theorem dX11_init_184 : decode cX11_init 184 = .ok (.bipush 64, 2) := by decide +kernel
theorem dX11_init_186 : decode cX11_init 186 = .ok (.newarray .int, 2) := by decide +kernel
theorem dX11_init_188 : decode cX11_init 188 = .ok (.putfield 72, 3) := by decide +kernel
theorem dX11_init_191 : decode cX11_init 191 = .ok (.aload_n 0, 1) := by decide +kernel
theorem dX11_init_192 : decode cX11_init 192 = .ok (.sipush 256, 3) := by decide +kernel
theorem dX11_init_195 : decode cX11_init 195 = .ok (.newarray .boolean, 2) := by decide +kernel
theorem dX11_init_197 : decode cX11_init 197 = .ok (.putfield 75, 3) := by decide +kernel
theorem dX11_init_200 : decode cX11_init 200 = .ok (.aload_n 0, 1) := by decide +kernel
theorem dX11_init_201 : decode cX11_init 201 = .ok (.sipush 256, 3) := by decide +kernel
theorem dX11_init_204 : decode cX11_init 204 = .ok (.newarray .int, 2) := by decide +kernel
theorem dX11_init_206 : decode cX11_init 206 = .ok (.putfield 78, 3) := by decide +kernel
theorem dX11_init_209 : decode cX11_init 209 = .ok (.aload_n 0, 1) := by decide +kernel
theorem dX11_init_210 : decode cX11_init 210 = .ok (.sipush 256, 3) := by decide +kernel
theorem dX11_init_213 : decode cX11_init 213 = .ok (.newarray .int, 2) := by decide +kernel
theorem dX11_init_215 : decode cX11_init 215 = .ok (.putfield 81, 3) := by decide +kernel
theorem dX11_init_218 : decode cX11_init 218 = .ok (.aload_n 0, 1) := by decide +kernel
theorem dX11_init_219 : decode cX11_init 219 = .ok (.sipush 256, 3) := by decide +kernel
theorem dX11_init_222 : decode cX11_init 222 = .ok (.newarray .int, 2) := by decide +kernel
theorem dX11_init_224 : decode cX11_init 224 = .ok (.putfield 84, 3) := by decide +kernel
theorem dX11_init_227 : decode cX11_init 227 = .ok (.aload_n 0, 1) := by decide +kernel
theorem dX11_init_228 : decode cX11_init 228 = .ok (.sipush 400, 3) := by decide +kernel
theorem dX11_init_231 : decode cX11_init 231 = .ok (.newarray .byte, 2) := by decide +kernel
theorem dX11_init_233 : decode cX11_init 233 = .ok (.putfield 87, 3) := by decide +kernel
theorem dX11_init_236 : decode cX11_init 236 = .ok (.aload_n 0, 1) := by decide +kernel
theorem dX11_init_237 : decode cX11_init 237 = .ok (.iconst (-1), 1) := by decide +kernel
theorem dX11_init_238 : decode cX11_init 238 = .ok (.putfield 91, 3) := by decide +kernel
theorem dX11_init_241 : decode cX11_init 241 = .ok (.aload_n 0, 1) := by decide +kernel
theorem dX11_init_242 : decode cX11_init 242 = .ok (.bipush 98, 2) := by decide +kernel
theorem dX11_init_244 : decode cX11_init 244 = .ok (.newarray .int, 2) := by decide +kernel
theorem dX11_init_246 : decode cX11_init 246 = .ok (.putfield 94, 3) := by decide +kernel
theorem dX11_init_249 : decode cX11_init 249 = .ok (.aload_n 0, 1) := by decide +kernel
theorem dX11_init_250 : decode cX11_init 250 = .ok (.sipush 448, 3) := by decide +kernel
theorem dX11_init_253 : decode cX11_init 253 = .ok (.newarray .boolean, 2) := by decide +kernel
theorem dX11_init_255 : decode cX11_init 255 = .ok (.putfield 97, 3) := by decide +kernel
theorem dX11_init_258 : decode cX11_init 258 = .ok (.aload_n 0, 1) := by decide +kernel
theorem dX11_init_259 : decode cX11_init 259 = .ok (.bipush 14, 2) := by decide +kernel
theorem dX11_init_261 : decode cX11_init 261 = .ok (.newarray .int, 2) := by decide +kernel
theorem dX11_init_263 : decode cX11_init 263 = .ok (.putfield 100, 3) := by decide +kernel
theorem dX11_init_266 : decode cX11_init 266 = .ok (.aload_n 0, 1) := by decide +kernel
theorem dX11_init_267 : decode cX11_init 267 = .ok (.bipush 14, 2) := by decide +kernel
theorem dX11_init_269 : decode cX11_init 269 = .ok (.newarray .int, 2) := by decide +kernel
theorem dX11_init_271 : decode cX11_init 271 = .ok (.putfield 103, 3) := by decide +kernel
theorem dX11_init_274 : decode cX11_init 274 = .ok (.aload_n 0, 1) := by decide +kernel
theorem dX11_init_275 : decode cX11_init 275 = .ok (.bipush 14, 2) := by decide +kernel
theorem dX11_init_277 : decode cX11_init 277 = .ok (.newarray .int, 2) := by decide +kernel
theorem dX11_init_279 : decode cX11_init 279 = .ok (.putfield 106, 3) := by decide +kernel
theorem dX11_init_282 : decode cX11_init 282 = .ok (.aload_n 0, 1) := by decide +kernel
theorem dX11_init_283 : decode cX11_init 283 = .ok (.iconst (-1), 1) := by decide +kernel
theorem dX11_init_284 : decode cX11_init 284 = .ok (.putfield 109, 3) := by decide +kernel
theorem dX11_init_287 : decode cX11_init 287 = .ok (.aload_n 0, 1) := by decide +kernel
theorem dX11_init_288 : decode cX11_init 288 = .ok (.bipush 14, 2) := by decide +kernel
theorem dX11_init_290 : decode cX11_init 290 = .ok (.newarray .boolean, 2) := by decide +kernel
theorem dX11_init_292 : decode cX11_init 292 = .ok (.putfield 112, 3) := by decide +kernel
theorem dX11_init_295 : decode cX11_init 295 = .ok (.aload_n 0, 1) := by decide +kernel
theorem dX11_init_296 : decode cX11_init 296 = .ok (.bipush 6, 2) := by decide +kernel
theorem dX11_init_298 : decode cX11_init 298 = .ok (.newarray .int, 2) := by decide +kernel
theorem dX11_init_300 : decode cX11_init 300 = .ok (.putfield 115, 3) := by decide +kernel
theorem dX11_init_303 : decode cX11_init 303 = .ok (.aload_n 0, 1) := by decide +kernel
theorem dX11_init_304 : decode cX11_init 304 = .ok (.bipush 6, 2) := by decide +kernel
theorem dX11_init_306 : decode cX11_init 306 = .ok (.newarray .int, 2) := by decide +kernel
theorem dX11_init_308 : decode cX11_init 308 = .ok (.putfield 118, 3) := by decide +kernel
theorem dX11_init_311 : decode cX11_init 311 = .ok (.aload_n 0, 1) := by decide +kernel
theorem dX11_init_312 : decode cX11_init 312 = .ok (.bipush 14, 2) := by decide +kernel
theorem dX11_init_314 : decode cX11_init 314 = .ok (.newarray .int, 2) := by decide +kernel
theorem dX11_init_316 : decode cX11_init 316 = .ok (.putfield 121, 3) := by decide +kernel
theorem dX11_init_319 : decode cX11_init 319 = .ok (.aload_n 0, 1) := by decide +kernel
theorem dX11_init_320 : decode cX11_init 320 = .ok (.bipush 14, 2) := by decide +kernel
theorem dX11_init_322 : decode cX11_init 322 = .ok (.newarray .int, 2) := by decide +kernel
theorem dX11_init_324 : decode cX11_init 324 = .ok (.putfield 124, 3) := by decide +kernel
theorem dX11_init_327 : decode cX11_init 327 = .ok (.aload_n 0, 1) := by decide +kernel
theorem dX11_init_328 : decode cX11_init 328 = .ok (.sipush 400, 3) := by decide +kernel
theorem dX11_init_331 : decode cX11_init 331 = .ok (.newarray .int, 2) := by decide +kernel
theorem dX11_init_333 : decode cX11_init 333 = .ok (.putfield 127, 3) := by decide +kernel
theorem dX11_init_336 : decode cX11_init 336 = .ok (.aload_n 0, 1) := by decide +kernel
theorem dX11_init_337 : decode cX11_init 337 = .ok (.sipush 400, 3) := by decide +kernel
theorem dX11_init_340 : decode cX11_init 340 = .ok (.newarray .int, 2) := by decide +kernel
theorem dX11_init_342 : decode cX11_init 342 = .ok (.putfield 130, 3) := by decide +kernel
theorem dX11_init_345 : decode cX11_init 345 = .ok (.aload_n 0, 1) := by decide +kernel
theorem dX11_init_346 : decode cX11_init 346 = .ok (.sipush 400, 3) := by decide +kernel
theorem dX11_init_349 : decode cX11_init 349 = .ok (.newarray .int, 2) := by decide +kernel
theorem dX11_init_351 : decode cX11_init 351 = .ok (.putfield 133, 3) := by decide +kernel
theorem dX11_init_354 : decode cX11_init 354 = .ok (.aload_n 0, 1) := by decide +kernel
theorem dX11_init_355 : decode cX11_init 355 = .ok (.bipush 14, 2) := by decide +kernel
theorem dX11_init_357 : decode cX11_init 357 = .ok (.newarray .int, 2) := by decide +kernel
theorem dX11_init_359 : decode cX11_init 359 = .ok (.putfield 136, 3) := by decide +kernel
theorem dX11_init_362 : decode cX11_init 362 = .ok (.iconst 0, 1) := by decide +kernel
theorem dX11_init_363 : decode cX11_init 363 = .ok (.istore_n 1, 1) := by decide +kernel
theorem dX11_init_364 : decode cX11_init 364 = .ok (.iload_n 1, 1) := by decide +kernel
theorem dX11_init_365 : decode cX11_init 365 = .ok (.bipush 42, 2) := by decide +kernel
theorem dX11_init_367 : decode cX11_init 367 = .ok (.if_icmp .ge 16, 3) := by decide +kernel
theorem dX11_init_370 : decode cX11_init 370 = .ok (.aload_n 0, 1) := by decide +kernel
theorem dX11_init_371 : decode cX11_init 371 = .ok (.getfield 25, 3) := by decide +kernel
theorem dX11_init_374 : decode cX11_init 374 = .ok (.iload_n 1, 1) := by decide +kernel
theorem dX11_init_375 : decode cX11_init 375 = .ok (.iconst (-1), 1) := by decide +kernel
theorem dX11_init_376 : decode cX11_init 376 = .ok (.iastore, 1) := by decide +kernel
theorem dX11_init_377 : decode cX11_init 377 = .ok (.iinc 1 1, 3) := by decide +kernel
theorem dX11_init_380 : decode cX11_init 380 = .ok (.goto (-16), 3) := by decide +kernel
theorem dX11_init_383 : decode cX11_init 383 = .ok (.iconst 0, 1) := by decide +kernel
theorem dX11_init_384 : decode cX11_init 384 = .ok (.istore_n 1, 1) := by decide +kernel
theorem dX11_init_385 : decode cX11_init 385 = .ok (.iload_n 1, 1) := by decide +kernel
theorem dX11_init_386 : decode cX11_init 386 = .ok (.bipush 14, 2) := by decide +kernel
theorem dX11_init_388 : decode cX11_init 388 = .ok (.if_icmp .ge 37, 3) := by decide +kernel
theorem dX11_init_391 : decode cX11_init 391 = .ok (.aload_n 0, 1) := by decide +kernel
theorem dX11_init_392 : decode cX11_init 392 = .ok (.getfield 106, 3) := by decide +kernel
theorem dX11_init_395 : decode cX11_init 395 = .ok (.iload_n 1, 1) := by decide +kernel
theorem dX11_init_396 : decode cX11_init 396 = .ok (.iconst (-1), 1) := by decide +kernel
theorem dX11_init_397 : decode cX11_init 397 = .ok (.iastore, 1) := by decide +kernel
theorem dX11_init_398 : decode cX11_init 398 = .ok (.aload_n 0, 1) := by decide +kernel
theorem dX11_init_399 : decode cX11_init 399 = .ok (.getfield 136, 3) := by decide +kernel
theorem dX11_init_402 : decode cX11_init 402 = .ok (.iload_n 1, 1) := by decide +kernel
theorem dX11_init_403 : decode cX11_init 403 = .ok (.iconst (-1), 1) := by decide +kernel
theorem dX11_init_404 : decode cX11_init 404 = .ok (.iastore, 1) := by decide +kernel
theorem dX11_init_405 : decode cX11_init 405 = .ok (.aload_n 0, 1) := by decide +kernel
theorem dX11_init_406 : decode cX11_init 406 = .ok (.getfield 121, 3) := by decide +kernel
theorem dX11_init_409 : decode cX11_init 409 = .ok (.iload_n 1, 1) := by decide +kernel
theorem dX11_init_410 : decode cX11_init 410 = .ok (.iconst (-1), 1) := by decide +kernel
theorem dX11_init_411 : decode cX11_init 411 = .ok (.iastore, 1) := by decide +kernel
theorem dX11_init_412 : decode cX11_init 412 = .ok (.aload_n 0, 1) := by decide +kernel
theorem dX11_init_413 : decode cX11_init 413 = .ok (.getfield 124, 3) := by decide +kernel
theorem dX11_init_416 : decode cX11_init 416 = .ok (.iload_n 1, 1) := by decide +kernel
theorem dX11_init_417 : decode cX11_init 417 = .ok (.iconst (-1), 1) := by decide +kernel
theorem dX11_init_418 : decode cX11_init 418 = .ok (.iastore, 1) := by decide +kernel
theorem dX11_init_419 : decode cX11_init 419 = .ok (.iinc 1 1, 3) := by decide +kernel
theorem dX11_init_422 : decode cX11_init 422 = .ok (.goto (-37), 3) := by decide +kernel
theorem dX11_init_425 : decode cX11_init 425 = .ok (.return_, 1) := by decide +kernel
theorem dX11_thrown_0 : decode cX11_thrown 0 = .ok (.aload_n 0, 1) := by decide +kernel
theorem dX11_thrown_1 : decode cX11_thrown 1 = .ok (.getfield 139, 3) := by decide +kernel
theorem dX11_thrown_4 : decode cX11_thrown 4 = .ok (.ireturn, 1) := by decide +kernel
theorem dX11_within_0 : decode cX11_within 0 = .ok (.iload_n 0, 1) := by decide +kernel
theorem dX11_within_1 : decode cX11_within 1 = .ok (.iload_n 1, 1) := by decide +kernel
theorem dX11_within_2 : decode cX11_within 2 = .ok (.if_icmp .lt 12, 3) := by decide +kernel
theorem dX11_within_5 : decode cX11_within 5 = .ok (.iload_n 0, 1) := by decide +kernel
theorem dX11_within_6 : decode cX11_within 6 = .ok (.iload_n 2, 1) := by decide +kernel
theorem dX11_within_7 : decode cX11_within 7 = .ok (.if_icmp .gt 7, 3) := by decide +kernel
theorem dX11_within_10 : decode cX11_within 10 = .ok (.iconst 1, 1) := by decide +kernel
theorem dX11_within_11 : decode cX11_within 11 = .ok (.goto 4, 3) := by decide +kernel
theorem dX11_within_14 : decode cX11_within 14 = .ok (.iconst 0, 1) := by decide +kernel
theorem dX11_within_15 : decode cX11_within 15 = .ok (.ireturn, 1) := by decide +kernel
theorem dX11_isChild_0 : decode cX11_isChild 0 = .ok (.iload_n 1, 1) := by decide +kernel
theorem dX11_isChild_1 : decode cX11_isChild 1 = .ok (.iconst 0, 1) := by decide +kernel
theorem dX11_isChild_2 : decode cX11_isChild 2 = .ok (.aload_n 0, 1) := by decide +kernel
theorem dX11_isChild_3 : decode cX11_isChild 3 = .ok (.getfield 142, 3) := by decide +kernel
theorem dX11_isChild_6 : decode cX11_isChild 6 = .ok (.iconst 1, 1) := by decide +kernel
theorem dX11_isChild_7 : decode cX11_isChild 7 = .ok (.isub, 1) := by decide +kernel
theorem dX11_isChild_8 : decode cX11_isChild 8 = .ok (.invokestatic 145, 3) := by decide +kernel
theorem dX11_isChild_11 : decode cX11_isChild 11 = .ok (.ireturn, 1) := by decide +kernel
theorem dX11_areTwo_0 : decode cX11_areTwo 0 = .ok (.aload_n 0, 1) := by decide +kernel
theorem dX11_areTwo_1 : decode cX11_areTwo 1 = .ok (.iload_n 1, 1) := by decide +kernel
theorem dX11_areTwo_2 : decode cX11_areTwo 2 = .ok (.invokevirtual 149, 3) := by decide +kernel
theorem dX11_areTwo_5 : decode cX11_areTwo 5 = .ok (.ifCond .eq 20, 3) := by decide +kernel
theorem dX11_areTwo_8 : decode cX11_areTwo 8 = .ok (.aload_n 0, 1) := by decide +kernel
theorem dX11_areTwo_9 : decode cX11_areTwo 9 = .ok (.iload_n 2, 1) := by decide +kernel
theorem dX11_areTwo_10 : decode cX11_areTwo 10 = .ok (.invokevirtual 149, 3) := by decide +kernel
theorem dX11_areTwo_13 : decode cX11_areTwo 13 = .ok (.ifCond .eq 12, 3) := by decide +kernel
theorem dX11_areTwo_16 : decode cX11_areTwo 16 = .ok (.iload_n 1, 1) := by decide +kernel
theorem dX11_areTwo_17 : decode cX11_areTwo 17 = .ok (.iload_n 2, 1) := by decide +kernel
theorem dX11_areTwo_18 : decode cX11_areTwo 18 = .ok (.if_icmp .eq 7, 3) := by decide +kernel
theorem dX11_areTwo_21 : decode cX11_areTwo 21 = .ok (.iconst 1, 1) := by decide +kernel
theorem dX11_areTwo_22 : decode cX11_areTwo 22 = .ok (.goto 4, 3) := by decide +kernel
theorem dX11_areTwo_25 : decode cX11_areTwo 25 = .ok (.iconst 0, 1) := by decide +kernel
theorem dX11_areTwo_26 : decode cX11_areTwo 26 = .ok (.ireturn, 1) := by decide +kernel
theorem dX11_child_0 : decode cX11_child 0 = .ok (.aload_n 0, 1) := by decide +kernel
theorem dX11_child_1 : decode cX11_child 1 = .ok (.iconst 0, 1) := by decide +kernel
theorem dX11_child_2 : decode cX11_child 2 = .ok (.putfield 139, 3) := by decide +kernel
theorem dX11_child_5 : decode cX11_child 5 = .ok (.iload_n 1, 1) := by decide +kernel
theorem dX11_child_6 : decode cX11_child 6 = .ok (.iconst 0, 1) := by decide +kernel
theorem dX11_child_7 : decode cX11_child 7 = .ok (.iconst 1, 1) := by decide +kernel
theorem dX11_child_8 : decode cX11_child 8 = .ok (.invokestatic 145, 3) := by decide +kernel
theorem dX11_child_11 : decode cX11_child 11 = .ok (.ifCond .eq 33, 3) := by decide +kernel
theorem dX11_child_14 : decode cX11_child 14 = .ok (.iload_n 2, 1) := by decide +kernel
theorem dX11_child_15 : decode cX11_child 15 = .ok (.iconst 1, 1) := by decide +kernel
theorem dX11_child_16 : decode cX11_child 16 = .ok (.bipush 12, 2) := by decide +kernel
theorem dX11_child_18 : decode cX11_child 18 = .ok (.invokestatic 145, 3) := by decide +kernel
theorem dX11_child_21 : decode cX11_child 21 = .ok (.ifCond .eq 23, 3) := by decide +kernel
theorem dX11_child_24 : decode cX11_child 24 = .ok (.iload_n 3, 1) := by decide +kernel
theorem dX11_child_25 : decode cX11_child 25 = .ok (.iconst 0, 1) := by decide +kernel
theorem dX11_child_26 : decode cX11_child 26 = .ok (.sipush 255, 3) := by decide +kernel
theorem dX11_child_29 : decode cX11_child 29 = .ok (.invokestatic 145, 3) := by decide +kernel
theorem dX11_child_32 : decode cX11_child 32 = .ok (.ifCond .eq 12, 3) := by decide +kernel
theorem dX11_child_35 : decode cX11_child 35 = .ok (.aload_n 0, 1) := by decide +kernel
theorem dX11_child_36 : decode cX11_child 36 = .ok (.getfield 142, 3) := by decide +kernel
theorem dX11_child_39 : decode cX11_child 39 = .ok (.bipush 14, 2) := by decide +kernel
theorem dX11_child_41 : decode cX11_child 41 = .ok (.if_icmp .ne 5, 3) := by decide +kernel
theorem dX11_child_44 : decode cX11_child 44 = .ok (.iconst (-1), 1) := by decide +kernel
theorem dX11_child_45 : decode cX11_child 45 = .ok (.ireturn, 1) := by decide +kernel
theorem dX11_child_46 : decode cX11_child 46 = .ok (.aload_n 0, 1) := by decide +kernel
theorem dX11_child_47 : decode cX11_child 47 = .ok (.getfield 7, 3) := by decide +kernel
theorem dX11_child_50 : decode cX11_child 50 = .ok (.aload_n 0, 1) := by decide +kernel
theorem dX11_child_51 : decode cX11_child 51 = .ok (.getfield 142, 3) := by decide +kernel
theorem dX11_child_54 : decode cX11_child 54 = .ok (.iload_n 1, 1) := by decide +kernel
theorem dX11_child_55 : decode cX11_child 55 = .ok (.iastore, 1) := by decide +kernel
theorem dX11_child_56 : decode cX11_child 56 = .ok (.aload_n 0, 1) := by decide +kernel
theorem dX11_child_57 : decode cX11_child 57 = .ok (.getfield 13, 3) := by decide +kernel
theorem dX11_child_60 : decode cX11_child 60 = .ok (.aload_n 0, 1) := by decide +kernel
theorem dX11_child_61 : decode cX11_child 61 = .ok (.getfield 142, 3) := by decide +kernel
theorem dX11_child_64 : decode cX11_child 64 = .ok (.iload_n 2, 1) := by decide +kernel
theorem dX11_child_65 : decode cX11_child 65 = .ok (.iastore, 1) := by decide +kernel
theorem dX11_child_66 : decode cX11_child 66 = .ok (.aload_n 0, 1) := by decide +kernel
theorem dX11_child_67 : decode cX11_child 67 = .ok (.getfield 16, 3) := by decide +kernel
theorem dX11_child_70 : decode cX11_child 70 = .ok (.aload_n 0, 1) := by decide +kernel
theorem dX11_child_71 : decode cX11_child 71 = .ok (.getfield 142, 3) := by decide +kernel
theorem dX11_child_74 : decode cX11_child 74 = .ok (.iload_n 3, 1) := by decide +kernel
theorem dX11_child_75 : decode cX11_child 75 = .ok (.iastore, 1) := by decide +kernel
theorem dX11_child_76 : decode cX11_child 76 = .ok (.aload_n 0, 1) := by decide +kernel
theorem dX11_child_77 : decode cX11_child 77 = .ok (.getfield 19, 3) := by decide +kernel
theorem dX11_child_80 : decode cX11_child 80 = .ok (.aload_n 0, 1) := by decide +kernel
theorem dX11_child_81 : decode cX11_child 81 = .ok (.getfield 142, 3) := by decide +kernel
theorem dX11_child_84 : decode cX11_child 84 = .ok (.aload_n 0, 1) := by decide +kernel
theorem dX11_child_85 : decode cX11_child 85 = .ok (.getfield 153, 3) := by decide +kernel
theorem dX11_child_88 : decode cX11_child 88 = .ok (.iastore, 1) := by decide +kernel
theorem dX11_child_89 : decode cX11_child 89 = .ok (.aload_n 0, 1) := by decide +kernel
theorem dX11_child_90 : decode cX11_child 90 = .ok (.iconst 0, 1) := by decide +kernel
theorem dX11_child_91 : decode cX11_child 91 = .ok (.putfield 156, 3) := by decide +kernel
theorem dX11_child_94 : decode cX11_child 94 = .ok (.aload_n 0, 1) := by decide +kernel
theorem dX11_child_95 : decode cX11_child 95 = .ok (.dup, 1) := by decide +kernel
theorem dX11_child_96 : decode cX11_child 96 = .ok (.getfield 142, 3) := by decide +kernel
theorem dX11_child_99 : decode cX11_child 99 = .ok (.iconst 1, 1) := by decide +kernel
theorem dX11_child_100 : decode cX11_child 100 = .ok (.iadd, 1) := by decide +kernel
theorem dX11_child_101 : decode cX11_child 101 = .ok (.putfield 142, 3) := by decide +kernel
theorem dX11_child_104 : decode cX11_child 104 = .ok (.aload_n 0, 1) := by decide +kernel
theorem dX11_child_105 : decode cX11_child 105 = .ok (.getfield 142, 3) := by decide +kernel
theorem dX11_child_108 : decode cX11_child 108 = .ok (.iconst 1, 1) := by decide +kernel
theorem dX11_child_109 : decode cX11_child 109 = .ok (.isub, 1) := by decide +kernel
theorem dX11_child_110 : decode cX11_child 110 = .ok (.ireturn, 1) := by decide +kernel
theorem dX11_wish_0 : decode cX11_wish 0 = .ok (.aload_n 0, 1) := by decide +kernel
theorem dX11_wish_1 : decode cX11_wish 1 = .ok (.iconst 0, 1) := by decide +kernel
theorem dX11_wish_2 : decode cX11_wish 2 = .ok (.putfield 139, 3) := by decide +kernel
theorem dX11_wish_5 : decode cX11_wish 5 = .ok (.aload_n 0, 1) := by decide +kernel
theorem dX11_wish_6 : decode cX11_wish 6 = .ok (.iload_n 1, 1) := by decide +kernel
theorem dX11_wish_7 : decode cX11_wish 7 = .ok (.invokevirtual 149, 3) := by decide +kernel
theorem dX11_wish_10 : decode cX11_wish 10 = .ok (.ifCond .eq 26, 3) := by decide +kernel
theorem dX11_wish_13 : decode cX11_wish 13 = .ok (.iload_n 2, 1) := by decide +kernel
theorem dX11_wish_14 : decode cX11_wish 14 = .ok (.iconst 0, 1) := by decide +kernel
theorem dX11_wish_15 : decode cX11_wish 15 = .ok (.iconst 2, 1) := by decide +kernel
theorem dX11_wish_16 : decode cX11_wish 16 = .ok (.invokestatic 145, 3) := by decide +kernel
theorem dX11_wish_19 : decode cX11_wish 19 = .ok (.ifCond .eq 17, 3) := by decide +kernel
theorem dX11_wish_22 : decode cX11_wish 22 = .ok (.iload_n 3, 1) := by decide +kernel
theorem dX11_wish_23 : decode cX11_wish 23 = .ok (.iconst (-1), 1) := by decide +kernel
theorem dX11_wish_24 : decode cX11_wish 24 = .ok (.if_icmp .eq 14, 3) := by decide +kernel
theorem dX11_wish_27 : decode cX11_wish 27 = .ok (.aload_n 0, 1) := by decide +kernel
theorem dX11_wish_28 : decode cX11_wish 28 = .ok (.iload_n 1, 1) := by decide +kernel
theorem dX11_wish_29 : decode cX11_wish 29 = .ok (.iload_n 3, 1) := by decide +kernel
theorem dX11_wish_30 : decode cX11_wish 30 = .ok (.invokevirtual 160, 3) := by decide +kernel
theorem dX11_wish_33 : decode cX11_wish 33 = .ok (.ifCond .ne 5, 3) := by decide +kernel
theorem dX11_wish_36 : decode cX11_wish 36 = .ok (.iconst 0, 1) := by decide +kernel
theorem dX11_wish_37 : decode cX11_wish 37 = .ok (.ireturn, 1) := by decide +kernel
theorem dX11_wish_38 : decode cX11_wish 38 = .ok (.aload_n 0, 1) := by decide +kernel
theorem dX11_wish_39 : decode cX11_wish 39 = .ok (.getfield 25, 3) := by decide +kernel
theorem dX11_wish_42 : decode cX11_wish 42 = .ok (.iconst 3, 1) := by decide +kernel
theorem dX11_wish_43 : decode cX11_wish 43 = .ok (.iload_n 1, 1) := by decide +kernel
theorem dX11_wish_44 : decode cX11_wish 44 = .ok (.imul, 1) := by decide +kernel
theorem dX11_wish_45 : decode cX11_wish 45 = .ok (.iload_n 2, 1) := by decide +kernel
theorem dX11_wish_46 : decode cX11_wish 46 = .ok (.iadd, 1) := by decide +kernel
theorem dX11_wish_47 : decode cX11_wish 47 = .ok (.iload_n 3, 1) := by decide +kernel
theorem dX11_wish_48 : decode cX11_wish 48 = .ok (.iastore, 1) := by decide +kernel
theorem dX11_wish_49 : decode cX11_wish 49 = .ok (.aload_n 0, 1) := by decide +kernel
theorem dX11_wish_50 : decode cX11_wish 50 = .ok (.iconst 0, 1) := by decide +kernel
theorem dX11_wish_51 : decode cX11_wish 51 = .ok (.putfield 156, 3) := by decide +kernel
theorem dX11_wish_54 : decode cX11_wish 54 = .ok (.iconst 1, 1) := by decide +kernel
theorem dX11_wish_55 : decode cX11_wish 55 = .ok (.ireturn, 1) := by decide +kernel
theorem dX11_turns_0 : decode cX11_turns 0 = .ok (.aload_n 1, 1) := by decide +kernel
theorem dX11_turns_1 : decode cX11_turns 1 = .ok (.bipush 14, 2) := by decide +kernel
theorem dX11_turns_3 : decode cX11_turns 3 = .ok (.iload_n 2, 1) := by decide +kernel
theorem dX11_turns_4 : decode cX11_turns 4 = .ok (.imul, 1) := by decide +kernel
theorem dX11_turns_5 : decode cX11_turns 5 = .ok (.iload_n 3, 1) := by decide +kernel
theorem dX11_turns_6 : decode cX11_turns 6 = .ok (.iadd, 1) := by decide +kernel
theorem dX11_turns_7 : decode cX11_turns 7 = .ok (.baload, 1) := by decide +kernel
theorem dX11_turns_8 : decode cX11_turns 8 = .ok (.iload 4, 2) := by decide +kernel
theorem dX11_turns_10 : decode cX11_turns 10 = .ok (.if_icmp .ne 5, 3) := by decide +kernel
theorem dX11_turns_13 : decode cX11_turns 13 = .ok (.iconst 0, 1) := by decide +kernel
theorem dX11_turns_14 : decode cX11_turns 14 = .ok (.ireturn, 1) := by decide +kernel
theorem dX11_turns_15 : decode cX11_turns 15 = .ok (.aload_n 0, 1) := by decide +kernel
theorem dX11_turns_16 : decode cX11_turns 16 = .ok (.iconst 0, 1) := by decide +kernel
theorem dX11_turns_17 : decode cX11_turns 17 = .ok (.putfield 156, 3) := by decide +kernel
theorem dX11_turns_20 : decode cX11_turns 20 = .ok (.aload_n 1, 1) := by decide +kernel
theorem dX11_turns_21 : decode cX11_turns 21 = .ok (.bipush 14, 2) := by decide +kernel
theorem dX11_turns_23 : decode cX11_turns 23 = .ok (.iload_n 2, 1) := by decide +kernel
theorem dX11_turns_24 : decode cX11_turns 24 = .ok (.imul, 1) := by decide +kernel
theorem dX11_turns_25 : decode cX11_turns 25 = .ok (.iload_n 3, 1) := by decide +kernel
theorem dX11_turns_26 : decode cX11_turns 26 = .ok (.iadd, 1) := by decide +kernel
theorem dX11_turns_27 : decode cX11_turns 27 = .ok (.iload 4, 2) := by decide +kernel
theorem dX11_turns_29 : decode cX11_turns 29 = .ok (.bastore, 1) := by decide +kernel
theorem dX11_turns_30 : decode cX11_turns 30 = .ok (.aload_n 1, 1) := by decide +kernel
theorem dX11_turns_31 : decode cX11_turns 31 = .ok (.bipush 14, 2) := by decide +kernel
theorem dX11_turns_33 : decode cX11_turns 33 = .ok (.iload_n 3, 1) := by decide +kernel
theorem dX11_turns_34 : decode cX11_turns 34 = .ok (.imul, 1) := by decide +kernel
theorem dX11_turns_35 : decode cX11_turns 35 = .ok (.iload_n 2, 1) := by decide +kernel
theorem dX11_turns_36 : decode cX11_turns 36 = .ok (.iadd, 1) := by decide +kernel
theorem dX11_turns_37 : decode cX11_turns 37 = .ok (.iload 4, 2) := by decide +kernel
theorem dX11_turns_39 : decode cX11_turns 39 = .ok (.bastore, 1) := by decide +kernel
theorem dX11_turns_40 : decode cX11_turns 40 = .ok (.iconst 1, 1) := by decide +kernel
theorem dX11_turns_41 : decode cX11_turns 41 = .ok (.ireturn, 1) := by decide +kernel
theorem dX11_bar_0 : decode cX11_bar 0 = .ok (.aload_n 0, 1) := by decide +kernel
theorem dX11_bar_1 : decode cX11_bar 1 = .ok (.iconst 0, 1) := by decide +kernel
theorem dX11_bar_2 : decode cX11_bar 2 = .ok (.putfield 139, 3) := by decide +kernel
theorem dX11_bar_5 : decode cX11_bar 5 = .ok (.aload_n 0, 1) := by decide +kernel
theorem dX11_bar_6 : decode cX11_bar 6 = .ok (.iload_n 1, 1) := by decide +kernel
theorem dX11_bar_7 : decode cX11_bar 7 = .ok (.iload_n 2, 1) := by decide +kernel
theorem dX11_bar_8 : decode cX11_bar 8 = .ok (.invokevirtual 160, 3) := by decide +kernel
theorem dX11_bar_11 : decode cX11_bar 11 = .ok (.ifCond .eq 21, 3) := by decide +kernel
theorem dX11_bar_14 : decode cX11_bar 14 = .ok (.aload_n 0, 1) := by decide +kernel
theorem dX11_bar_15 : decode cX11_bar 15 = .ok (.aload_n 0, 1) := by decide +kernel
theorem dX11_bar_16 : decode cX11_bar 16 = .ok (.getfield 31, 3) := by decide +kernel
theorem dX11_bar_19 : decode cX11_bar 19 = .ok (.iload_n 1, 1) := by decide +kernel
theorem dX11_bar_20 : decode cX11_bar 20 = .ok (.iload_n 2, 1) := by decide +kernel
theorem dX11_bar_21 : decode cX11_bar 21 = .ok (.iload_n 3, 1) := by decide +kernel
theorem dX11_bar_22 : decode cX11_bar 22 = .ok (.invokevirtual 164, 3) := by decide +kernel
theorem dX11_bar_25 : decode cX11_bar 25 = .ok (.ifCond .eq 7, 3) := by decide +kernel
theorem dX11_bar_28 : decode cX11_bar 28 = .ok (.iconst 1, 1) := by decide +kernel
theorem dX11_bar_29 : decode cX11_bar 29 = .ok (.goto 4, 3) := by decide +kernel
theorem dX11_bar_32 : decode cX11_bar 32 = .ok (.iconst 0, 1) := by decide +kernel
theorem dX11_bar_33 : decode cX11_bar 33 = .ok (.ireturn, 1) := by decide +kernel
theorem dX11_twins_0 : decode cX11_twins 0 = .ok (.aload_n 0, 1) := by decide +kernel
theorem dX11_twins_1 : decode cX11_twins 1 = .ok (.iconst 0, 1) := by decide +kernel
theorem dX11_twins_2 : decode cX11_twins 2 = .ok (.putfield 139, 3) := by decide +kernel
theorem dX11_twins_5 : decode cX11_twins 5 = .ok (.aload_n 0, 1) := by decide +kernel
theorem dX11_twins_6 : decode cX11_twins 6 = .ok (.iload_n 1, 1) := by decide +kernel
theorem dX11_twins_7 : decode cX11_twins 7 = .ok (.iload_n 2, 1) := by decide +kernel
theorem dX11_twins_8 : decode cX11_twins 8 = .ok (.invokevirtual 160, 3) := by decide +kernel
theorem dX11_twins_11 : decode cX11_twins 11 = .ok (.ifCond .eq 21, 3) := by decide +kernel
theorem dX11_twins_14 : decode cX11_twins 14 = .ok (.aload_n 0, 1) := by decide +kernel
theorem dX11_twins_15 : decode cX11_twins 15 = .ok (.aload_n 0, 1) := by decide +kernel
theorem dX11_twins_16 : decode cX11_twins 16 = .ok (.getfield 35, 3) := by decide +kernel
theorem dX11_twins_19 : decode cX11_twins 19 = .ok (.iload_n 1, 1) := by decide +kernel
theorem dX11_twins_20 : decode cX11_twins 20 = .ok (.iload_n 2, 1) := by decide +kernel
theorem dX11_twins_21 : decode cX11_twins 21 = .ok (.iload_n 3, 1) := by decide +kernel
theorem dX11_twins_22 : decode cX11_twins 22 = .ok (.invokevirtual 164, 3) := by decide +kernel
theorem dX11_twins_25 : decode cX11_twins 25 = .ok (.ifCond .eq 7, 3) := by decide +kernel
theorem dX11_twins_28 : decode cX11_twins 28 = .ok (.iconst 1, 1) := by decide +kernel
theorem dX11_twins_29 : decode cX11_twins 29 = .ok (.goto 4, 3) := by decide +kernel
theorem dX11_twins_32 : decode cX11_twins 32 = .ok (.iconst 0, 1) := by decide +kernel
theorem dX11_twins_33 : decode cX11_twins 33 = .ok (.ireturn, 1) := by decide +kernel
theorem dX11_not_0 : decode cX11_not 0 = .ok (.aload_n 0, 1) := by decide +kernel
theorem dX11_not_1 : decode cX11_not 1 = .ok (.iconst 0, 1) := by decide +kernel
theorem dX11_not_2 : decode cX11_not 2 = .ok (.putfield 139, 3) := by decide +kernel
theorem dX11_not_5 : decode cX11_not 5 = .ok (.aload_n 0, 1) := by decide +kernel
theorem dX11_not_6 : decode cX11_not 6 = .ok (.iload_n 1, 1) := by decide +kernel
theorem dX11_not_7 : decode cX11_not 7 = .ok (.invokevirtual 149, 3) := by decide +kernel
theorem dX11_not_10 : decode cX11_not 10 = .ok (.ifCond .eq 26, 3) := by decide +kernel
theorem dX11_not_13 : decode cX11_not 13 = .ok (.iload_n 2, 1) := by decide +kernel
theorem dX11_not_14 : decode cX11_not 14 = .ok (.iconst 0, 1) := by decide +kernel
theorem dX11_not_15 : decode cX11_not 15 = .ok (.iconst 2, 1) := by decide +kernel
theorem dX11_not_16 : decode cX11_not 16 = .ok (.invokestatic 145, 3) := by decide +kernel
theorem dX11_not_19 : decode cX11_not 19 = .ok (.ifCond .eq 17, 3) := by decide +kernel
theorem dX11_not_22 : decode cX11_not 22 = .ok (.aload_n 0, 1) := by decide +kernel
theorem dX11_not_23 : decode cX11_not 23 = .ok (.getfield 38, 3) := by decide +kernel
theorem dX11_not_26 : decode cX11_not 26 = .ok (.iconst 3, 1) := by decide +kernel
theorem dX11_not_27 : decode cX11_not 27 = .ok (.iload_n 1, 1) := by decide +kernel
theorem dX11_not_28 : decode cX11_not 28 = .ok (.imul, 1) := by decide +kernel
theorem dX11_not_29 : decode cX11_not 29 = .ok (.iload_n 2, 1) := by decide +kernel
theorem dX11_not_30 : decode cX11_not 30 = .ok (.iadd, 1) := by decide +kernel
theorem dX11_not_31 : decode cX11_not 31 = .ok (.baload, 1) := by decide +kernel
theorem dX11_not_32 : decode cX11_not 32 = .ok (.iload_n 3, 1) := by decide +kernel
theorem dX11_not_33 : decode cX11_not 33 = .ok (.if_icmp .ne 5, 3) := by decide +kernel
theorem dX11_not_36 : decode cX11_not 36 = .ok (.iconst 0, 1) := by decide +kernel
theorem dX11_not_37 : decode cX11_not 37 = .ok (.ireturn, 1) := by decide +kernel
theorem dX11_not_38 : decode cX11_not 38 = .ok (.aload_n 0, 1) := by decide +kernel
theorem dX11_not_39 : decode cX11_not 39 = .ok (.getfield 38, 3) := by decide +kernel
theorem dX11_not_42 : decode cX11_not 42 = .ok (.iconst 3, 1) := by decide +kernel
theorem dX11_not_43 : decode cX11_not 43 = .ok (.iload_n 1, 1) := by decide +kernel
theorem dX11_not_44 : decode cX11_not 44 = .ok (.imul, 1) := by decide +kernel
theorem dX11_not_45 : decode cX11_not 45 = .ok (.iload_n 2, 1) := by decide +kernel
theorem dX11_not_46 : decode cX11_not 46 = .ok (.iadd, 1) := by decide +kernel
theorem dX11_not_47 : decode cX11_not 47 = .ok (.iload_n 3, 1) := by decide +kernel
theorem dX11_not_48 : decode cX11_not 48 = .ok (.bastore, 1) := by decide +kernel
theorem dX11_not_49 : decode cX11_not 49 = .ok (.aload_n 0, 1) := by decide +kernel
theorem dX11_not_50 : decode cX11_not 50 = .ok (.iconst 0, 1) := by decide +kernel
theorem dX11_not_51 : decode cX11_not 51 = .ok (.putfield 156, 3) := by decide +kernel
theorem dX11_not_54 : decode cX11_not 54 = .ok (.iconst 1, 1) := by decide +kernel
theorem dX11_not_55 : decode cX11_not 55 = .ok (.ireturn, 1) := by decide +kernel
theorem dX11_classes_0 : decode cX11_classes 0 = .ok (.aload_n 0, 1) := by decide +kernel
theorem dX11_classes_1 : decode cX11_classes 1 = .ok (.iconst 0, 1) := by decide +kernel
theorem dX11_classes_2 : decode cX11_classes 2 = .ok (.putfield 139, 3) := by decide +kernel
theorem dX11_classes_5 : decode cX11_classes 5 = .ok (.iload_n 1, 1) := by decide +kernel
theorem dX11_classes_6 : decode cX11_classes 6 = .ok (.iconst 2, 1) := by decide +kernel
theorem dX11_classes_7 : decode cX11_classes 7 = .ok (.iconst 3, 1) := by decide +kernel
theorem dX11_classes_8 : decode cX11_classes 8 = .ok (.invokestatic 145, 3) := by decide +kernel
theorem dX11_classes_11 : decode cX11_classes 11 = .ok (.ifCond .ne 5, 3) := by decide +kernel
theorem dX11_classes_14 : decode cX11_classes 14 = .ok (.iconst 0, 1) := by decide +kernel
theorem dX11_classes_15 : decode cX11_classes 15 = .ok (.ireturn, 1) := by decide +kernel
theorem dX11_classes_16 : decode cX11_classes 16 = .ok (.iconst 0, 1) := by decide +kernel
theorem dX11_classes_17 : decode cX11_classes 17 = .ok (.istore_n 2, 1) := by decide +kernel
theorem dX11_classes_18 : decode cX11_classes 18 = .ok (.iload_n 2, 1) := by decide +kernel
theorem dX11_classes_19 : decode cX11_classes 19 = .ok (.aload_n 0, 1) := by decide +kernel
theorem dX11_classes_20 : decode cX11_classes 20 = .ok (.getfield 142, 3) := by decide +kernel
theorem dX11_classes_23 : decode cX11_classes 23 = .ok (.if_icmp .ge 21, 3) := by decide +kernel
theorem dX11_classes_26 : decode cX11_classes 26 = .ok (.aload_n 0, 1) := by decide +kernel
theorem dX11_classes_27 : decode cX11_classes 27 = .ok (.getfield 106, 3) := by decide +kernel
theorem dX11_classes_30 : decode cX11_classes 30 = .ok (.iload_n 2, 1) := by decide +kernel
theorem dX11_classes_31 : decode cX11_classes 31 = .ok (.iaload, 1) := by decide +kernel
theorem dX11_classes_32 : decode cX11_classes 32 = .ok (.iload_n 1, 1) := by decide +kernel
theorem dX11_classes_33 : decode cX11_classes 33 = .ok (.if_icmp .lt 5, 3) := by decide +kernel
theorem dX11_classes_36 : decode cX11_classes 36 = .ok (.iconst 0, 1) := by decide +kernel
theorem dX11_classes_37 : decode cX11_classes 37 = .ok (.ireturn, 1) := by decide +kernel
theorem dX11_classes_38 : decode cX11_classes 38 = .ok (.iinc 2 1, 3) := by decide +kernel
theorem dX11_classes_41 : decode cX11_classes 41 = .ok (.goto (-23), 3) := by decide +kernel
theorem dX11_classes_44 : decode cX11_classes 44 = .ok (.aload_n 0, 1) := by decide +kernel
theorem dX11_classes_45 : decode cX11_classes 45 = .ok (.iload_n 1, 1) := by decide +kernel
theorem dX11_classes_46 : decode cX11_classes 46 = .ok (.putfield 41, 3) := by decide +kernel
theorem dX11_classes_49 : decode cX11_classes 49 = .ok (.aload_n 0, 1) := by decide +kernel
theorem dX11_classes_50 : decode cX11_classes 50 = .ok (.iconst 0, 1) := by decide +kernel
theorem dX11_classes_51 : decode cX11_classes 51 = .ok (.putfield 156, 3) := by decide +kernel
theorem dX11_classes_54 : decode cX11_classes 54 = .ok (.iconst 1, 1) := by decide +kernel
theorem dX11_classes_55 : decode cX11_classes 55 = .ok (.ireturn, 1) := by decide +kernel
theorem dX11_room_0 : decode cX11_room 0 = .ok (.aload_n 0, 1) := by decide +kernel
theorem dX11_room_1 : decode cX11_room 1 = .ok (.iconst 0, 1) := by decide +kernel
theorem dX11_room_2 : decode cX11_room 2 = .ok (.putfield 139, 3) := by decide +kernel
theorem dX11_room_5 : decode cX11_room 5 = .ok (.iload_n 1, 1) := by decide +kernel
theorem dX11_room_6 : decode cX11_room 6 = .ok (.iconst 0, 1) := by decide +kernel
theorem dX11_room_7 : decode cX11_room 7 = .ok (.iconst 2, 1) := by decide +kernel
theorem dX11_room_8 : decode cX11_room 8 = .ok (.invokestatic 145, 3) := by decide +kernel
theorem dX11_room_11 : decode cX11_room 11 = .ok (.ifCond .eq 13, 3) := by decide +kernel
theorem dX11_room_14 : decode cX11_room 14 = .ok (.iload_n 2, 1) := by decide +kernel
theorem dX11_room_15 : decode cX11_room 15 = .ok (.iconst 0, 1) := by decide +kernel
theorem dX11_room_16 : decode cX11_room 16 = .ok (.bipush 14, 2) := by decide +kernel
theorem dX11_room_18 : decode cX11_room 18 = .ok (.invokestatic 145, 3) := by decide +kernel
theorem dX11_room_21 : decode cX11_room 21 = .ok (.ifCond .ne 5, 3) := by decide +kernel
theorem dX11_room_24 : decode cX11_room 24 = .ok (.iconst 0, 1) := by decide +kernel
theorem dX11_room_25 : decode cX11_room 25 = .ok (.ireturn, 1) := by decide +kernel
theorem dX11_room_26 : decode cX11_room 26 = .ok (.aload_n 0, 1) := by decide +kernel
theorem dX11_room_27 : decode cX11_room 27 = .ok (.getfield 45, 3) := by decide +kernel
theorem dX11_room_30 : decode cX11_room 30 = .ok (.iload_n 1, 1) := by decide +kernel
theorem dX11_room_31 : decode cX11_room 31 = .ok (.iload_n 2, 1) := by decide +kernel
theorem dX11_room_32 : decode cX11_room 32 = .ok (.iastore, 1) := by decide +kernel
theorem dX11_room_33 : decode cX11_room 33 = .ok (.aload_n 0, 1) := by decide +kernel
theorem dX11_room_34 : decode cX11_room 34 = .ok (.iconst 0, 1) := by decide +kernel
theorem dX11_room_35 : decode cX11_room 35 = .ok (.putfield 156, 3) := by decide +kernel
theorem dX11_room_38 : decode cX11_room 38 = .ok (.iconst 1, 1) := by decide +kernel
theorem dX11_room_39 : decode cX11_room 39 = .ok (.ireturn, 1) := by decide +kernel
theorem dX11_mark_0 : decode cX11_mark 0 = .ok (.aload_n 0, 1) := by decide +kernel
theorem dX11_mark_1 : decode cX11_mark 1 = .ok (.iconst 0, 1) := by decide +kernel
theorem dX11_mark_2 : decode cX11_mark 2 = .ok (.putfield 139, 3) := by decide +kernel
theorem dX11_mark_5 : decode cX11_mark 5 = .ok (.iload_n 1, 1) := by decide +kernel
theorem dX11_mark_6 : decode cX11_mark 6 = .ok (.iconst 0, 1) := by decide +kernel
theorem dX11_mark_7 : decode cX11_mark 7 = .ok (.iconst 3, 1) := by decide +kernel
theorem dX11_mark_8 : decode cX11_mark 8 = .ok (.invokestatic 145, 3) := by decide +kernel
theorem dX11_mark_11 : decode cX11_mark 11 = .ok (.ifCond .eq 41, 3) := by decide +kernel
theorem dX11_mark_14 : decode cX11_mark 14 = .ok (.aload_n 0, 1) := by decide +kernel
theorem dX11_mark_15 : decode cX11_mark 15 = .ok (.iload_n 2, 1) := by decide +kernel
theorem dX11_mark_16 : decode cX11_mark 16 = .ok (.invokevirtual 149, 3) := by decide +kernel
theorem dX11_mark_19 : decode cX11_mark 19 = .ok (.ifCond .eq 33, 3) := by decide +kernel
theorem dX11_mark_22 : decode cX11_mark 22 = .ok (.iload_n 3, 1) := by decide +kernel
theorem dX11_mark_23 : decode cX11_mark 23 = .ok (.iconst 0, 1) := by decide +kernel
theorem dX11_mark_24 : decode cX11_mark 24 = .ok (.iconst 1, 1) := by decide +kernel
theorem dX11_mark_25 : decode cX11_mark 25 = .ok (.invokestatic 145, 3) := by decide +kernel
theorem dX11_mark_28 : decode cX11_mark 28 = .ok (.ifCond .eq 24, 3) := by decide +kernel
theorem dX11_mark_31 : decode cX11_mark 31 = .ok (.iload 4, 2) := by decide +kernel
theorem dX11_mark_33 : decode cX11_mark 33 = .ok (.iconst 0, 1) := by decide +kernel
theorem dX11_mark_34 : decode cX11_mark 34 = .ok (.bipush 100, 2) := by decide +kernel
theorem dX11_mark_36 : decode cX11_mark 36 = .ok (.invokestatic 145, 3) := by decide +kernel
theorem dX11_mark_39 : decode cX11_mark 39 = .ok (.ifCond .eq 13, 3) := by decide +kernel
theorem dX11_mark_42 : decode cX11_mark 42 = .ok (.aload_n 0, 1) := by decide +kernel
theorem dX11_mark_43 : decode cX11_mark 43 = .ok (.getfield 168, 3) := by decide +kernel
theorem dX11_mark_46 : decode cX11_mark 46 = .ok (.sipush 300, 3) := by decide +kernel
theorem dX11_mark_49 : decode cX11_mark 49 = .ok (.if_icmp .ne 5, 3) := by decide +kernel
theorem dX11_mark_52 : decode cX11_mark 52 = .ok (.iconst 0, 1) := by decide +kernel
theorem dX11_mark_53 : decode cX11_mark 53 = .ok (.ireturn, 1) := by decide +kernel
theorem dX11_mark_54 : decode cX11_mark 54 = .ok (.aload_n 0, 1) := by decide +kernel
theorem dX11_mark_55 : decode cX11_mark 55 = .ok (.getfield 48, 3) := by decide +kernel
theorem dX11_mark_58 : decode cX11_mark 58 = .ok (.aload_n 0, 1) := by decide +kernel
theorem dX11_mark_59 : decode cX11_mark 59 = .ok (.getfield 168, 3) := by decide +kernel
theorem dX11_mark_62 : decode cX11_mark 62 = .ok (.iload_n 1, 1) := by decide +kernel
theorem dX11_mark_63 : decode cX11_mark 63 = .ok (.iastore, 1) := by decide +kernel
theorem dX11_mark_64 : decode cX11_mark 64 = .ok (.aload_n 0, 1) := by decide +kernel
theorem dX11_mark_65 : decode cX11_mark 65 = .ok (.getfield 51, 3) := by decide +kernel
theorem dX11_mark_68 : decode cX11_mark 68 = .ok (.aload_n 0, 1) := by decide +kernel
theorem dX11_mark_69 : decode cX11_mark 69 = .ok (.getfield 168, 3) := by decide +kernel
theorem dX11_mark_72 : decode cX11_mark 72 = .ok (.iload_n 2, 1) := by decide +kernel
theorem dX11_mark_73 : decode cX11_mark 73 = .ok (.iastore, 1) := by decide +kernel
theorem dX11_mark_74 : decode cX11_mark 74 = .ok (.aload_n 0, 1) := by decide +kernel
theorem dX11_mark_75 : decode cX11_mark 75 = .ok (.getfield 54, 3) := by decide +kernel
theorem dX11_mark_78 : decode cX11_mark 78 = .ok (.aload_n 0, 1) := by decide +kernel
theorem dX11_mark_79 : decode cX11_mark 79 = .ok (.getfield 168, 3) := by decide +kernel
theorem dX11_mark_82 : decode cX11_mark 82 = .ok (.iload_n 3, 1) := by decide +kernel
theorem dX11_mark_83 : decode cX11_mark 83 = .ok (.iastore, 1) := by decide +kernel
theorem dX11_mark_84 : decode cX11_mark 84 = .ok (.aload_n 0, 1) := by decide +kernel
theorem dX11_mark_85 : decode cX11_mark 85 = .ok (.getfield 57, 3) := by decide +kernel
theorem dX11_mark_88 : decode cX11_mark 88 = .ok (.aload_n 0, 1) := by decide +kernel
theorem dX11_mark_89 : decode cX11_mark 89 = .ok (.getfield 168, 3) := by decide +kernel
theorem dX11_mark_92 : decode cX11_mark 92 = .ok (.iload 4, 2) := by decide +kernel
theorem dX11_mark_94 : decode cX11_mark 94 = .ok (.iastore, 1) := by decide +kernel
theorem dX11_mark_95 : decode cX11_mark 95 = .ok (.aload_n 0, 1) := by decide +kernel
theorem dX11_mark_96 : decode cX11_mark 96 = .ok (.getfield 60, 3) := by decide +kernel
theorem dX11_mark_99 : decode cX11_mark 99 = .ok (.aload_n 0, 1) := by decide +kernel
theorem dX11_mark_100 : decode cX11_mark 100 = .ok (.getfield 168, 3) := by decide +kernel
theorem dX11_mark_103 : decode cX11_mark 103 = .ok (.aload_n 0, 1) := by decide +kernel
theorem dX11_mark_104 : decode cX11_mark 104 = .ok (.getfield 153, 3) := by decide +kernel
theorem dX11_mark_107 : decode cX11_mark 107 = .ok (.iastore, 1) := by decide +kernel
theorem dX11_mark_108 : decode cX11_mark 108 = .ok (.aload_n 0, 1) := by decide +kernel
theorem dX11_mark_109 : decode cX11_mark 109 = .ok (.iconst 0, 1) := by decide +kernel
theorem dX11_mark_110 : decode cX11_mark 110 = .ok (.putfield 156, 3) := by decide +kernel
theorem dX11_mark_113 : decode cX11_mark 113 = .ok (.aload_n 0, 1) := by decide +kernel
theorem dX11_mark_114 : decode cX11_mark 114 = .ok (.dup, 1) := by decide +kernel
theorem dX11_mark_115 : decode cX11_mark 115 = .ok (.getfield 168, 3) := by decide +kernel
theorem dX11_mark_118 : decode cX11_mark 118 = .ok (.iconst 1, 1) := by decide +kernel
theorem dX11_mark_119 : decode cX11_mark 119 = .ok (.iadd, 1) := by decide +kernel
theorem dX11_mark_120 : decode cX11_mark 120 = .ok (.putfield 168, 3) := by decide +kernel
theorem dX11_mark_123 : decode cX11_mark 123 = .ok (.iconst 1, 1) := by decide +kernel
theorem dX11_mark_124 : decode cX11_mark 124 = .ok (.ireturn, 1) := by decide +kernel
theorem dX11_raw_0 : decode cX11_raw 0 = .ok (.iconst (-1), 1) := by decide +kernel
theorem dX11_raw_1 : decode cX11_raw 1 = .ok (.istore 5, 2) := by decide +kernel
theorem dX11_raw_3 : decode cX11_raw 3 = .ok (.iconst 0, 1) := by decide +kernel
theorem dX11_raw_4 : decode cX11_raw 4 = .ok (.istore 6, 2) := by decide +kernel
theorem dX11_raw_6 : decode cX11_raw 6 = .ok (.iload 6, 2) := by decide +kernel
theorem dX11_raw_8 : decode cX11_raw 8 = .ok (.aload_n 0, 1) := by decide +kernel
theorem dX11_raw_9 : decode cX11_raw 9 = .ok (.getfield 168, 3) := by decide +kernel
theorem dX11_raw_12 : decode cX11_raw 12 = .ok (.if_icmp .ge 63, 3) := by decide +kernel
theorem dX11_raw_15 : decode cX11_raw 15 = .ok (.aload_n 0, 1) := by decide +kernel
theorem dX11_raw_16 : decode cX11_raw 16 = .ok (.getfield 48, 3) := by decide +kernel
theorem dX11_raw_19 : decode cX11_raw 19 = .ok (.iload 6, 2) := by decide +kernel
theorem dX11_raw_21 : decode cX11_raw 21 = .ok (.iaload, 1) := by decide +kernel
theorem dX11_raw_22 : decode cX11_raw 22 = .ok (.iload_n 1, 1) := by decide +kernel
theorem dX11_raw_23 : decode cX11_raw 23 = .ok (.if_icmp .ne 46, 3) := by decide +kernel
theorem dX11_raw_26 : decode cX11_raw 26 = .ok (.aload_n 0, 1) := by decide +kernel
theorem dX11_raw_27 : decode cX11_raw 27 = .ok (.getfield 51, 3) := by decide +kernel
theorem dX11_raw_30 : decode cX11_raw 30 = .ok (.iload 6, 2) := by decide +kernel
theorem dX11_raw_32 : decode cX11_raw 32 = .ok (.iaload, 1) := by decide +kernel
theorem dX11_raw_33 : decode cX11_raw 33 = .ok (.iload_n 2, 1) := by decide +kernel
theorem dX11_raw_34 : decode cX11_raw 34 = .ok (.if_icmp .ne 35, 3) := by decide +kernel
theorem dX11_raw_37 : decode cX11_raw 37 = .ok (.aload_n 0, 1) := by decide +kernel
theorem dX11_raw_38 : decode cX11_raw 38 = .ok (.getfield 54, 3) := by decide +kernel
theorem dX11_raw_41 : decode cX11_raw 41 = .ok (.iload 6, 2) := by decide +kernel
theorem dX11_raw_43 : decode cX11_raw 43 = .ok (.iaload, 1) := by decide +kernel
theorem dX11_raw_44 : decode cX11_raw 44 = .ok (.iload_n 3, 1) := by decide +kernel
theorem dX11_raw_45 : decode cX11_raw 45 = .ok (.if_icmp .ne 24, 3) := by decide +kernel
theorem dX11_raw_48 : decode cX11_raw 48 = .ok (.aload_n 0, 1) := by decide +kernel
theorem dX11_raw_49 : decode cX11_raw 49 = .ok (.getfield 60, 3) := by decide +kernel
theorem dX11_raw_52 : decode cX11_raw 52 = .ok (.iload 6, 2) := by decide +kernel
theorem dX11_raw_54 : decode cX11_raw 54 = .ok (.iaload, 1) := by decide +kernel
theorem dX11_raw_55 : decode cX11_raw 55 = .ok (.iload 4, 2) := by decide +kernel
theorem dX11_raw_57 : decode cX11_raw 57 = .ok (.if_icmp .gt 12, 3) := by decide +kernel
theorem dX11_raw_60 : decode cX11_raw 60 = .ok (.aload_n 0, 1) := by decide +kernel
theorem dX11_raw_61 : decode cX11_raw 61 = .ok (.getfield 57, 3) := by decide +kernel
theorem dX11_raw_64 : decode cX11_raw 64 = .ok (.iload 6, 2) := by decide +kernel
theorem dX11_raw_66 : decode cX11_raw 66 = .ok (.iaload, 1) := by decide +kernel
theorem dX11_raw_67 : decode cX11_raw 67 = .ok (.istore 5, 2) := by decide +kernel
theorem dX11_raw_69 : decode cX11_raw 69 = .ok (.iinc 6 1, 3) := by decide +kernel
theorem dX11_raw_72 : decode cX11_raw 72 = .ok (.goto (-66), 3) := by decide +kernel
theorem dX11_raw_75 : decode cX11_raw 75 = .ok (.iload 5, 2) := by decide +kernel
theorem dX11_raw_77 : decode cX11_raw 77 = .ok (.ireturn, 1) := by decide +kernel
theorem dX11_scaledOf_0 : decode cX11_scaledOf 0 = .ok (.aload_n 0, 1) := by decide +kernel
theorem dX11_scaledOf_1 : decode cX11_scaledOf 1 = .ok (.iload_n 1, 1) := by decide +kernel
theorem dX11_scaledOf_2 : decode cX11_scaledOf 2 = .ok (.iload_n 2, 1) := by decide +kernel
theorem dX11_scaledOf_3 : decode cX11_scaledOf 3 = .ok (.iload_n 3, 1) := by decide +kernel
theorem dX11_scaledOf_4 : decode cX11_scaledOf 4 = .ok (.iload 4, 2) := by decide +kernel
theorem dX11_scaledOf_6 : decode cX11_scaledOf 6 = .ok (.invokevirtual 171, 3) := by decide +kernel
theorem dX11_scaledOf_9 : decode cX11_scaledOf 9 = .ok (.istore 5, 2) := by decide +kernel
theorem dX11_scaledOf_11 : decode cX11_scaledOf 11 = .ok (.iload 5, 2) := by decide +kernel
theorem dX11_scaledOf_13 : decode cX11_scaledOf 13 = .ok (.iconst (-1), 1) := by decide +kernel
theorem dX11_scaledOf_14 : decode cX11_scaledOf 14 = .ok (.if_icmp .ne 5, 3) := by decide +kernel
theorem dX11_scaledOf_17 : decode cX11_scaledOf 17 = .ok (.iconst (-1), 1) := by decide +kernel
theorem dX11_scaledOf_18 : decode cX11_scaledOf 18 = .ok (.ireturn, 1) := by decide +kernel
theorem dX11_scaledOf_19 : decode cX11_scaledOf 19 = .ok (.iconst 0, 1) := by decide +kernel
theorem dX11_scaledOf_20 : decode cX11_scaledOf 20 = .ok (.istore 6, 2) := by decide +kernel
theorem dX11_scaledOf_22 : decode cX11_scaledOf 22 = .ok (.iconst 0, 1) := by decide +kernel
theorem dX11_scaledOf_23 : decode cX11_scaledOf 23 = .ok (.istore 7, 2) := by decide +kernel
theorem dX11_scaledOf_25 : decode cX11_scaledOf 25 = .ok (.iconst 0, 1) := by decide +kernel
theorem dX11_scaledOf_26 : decode cX11_scaledOf 26 = .ok (.istore 8, 2) := by decide +kernel
theorem dX11_scaledOf_28 : decode cX11_scaledOf 28 = .ok (.iload 8, 2) := by decide +kernel
theorem dX11_scaledOf_30 : decode cX11_scaledOf 30 = .ok (.aload_n 0, 1) := by decide +kernel
theorem dX11_scaledOf_31 : decode cX11_scaledOf 31 = .ok (.getfield 142, 3) := by decide +kernel
theorem dX11_scaledOf_34 : decode cX11_scaledOf 34 = .ok (.if_icmp .ge 70, 3) := by decide +kernel
theorem dX11_scaledOf_37 : decode cX11_scaledOf 37 = .ok (.iload 8, 2) := by decide +kernel
theorem dX11_scaledOf_39 : decode cX11_scaledOf 39 = .ok (.iload_n 2, 1) := by decide +kernel
theorem dX11_scaledOf_40 : decode cX11_scaledOf 40 = .ok (.if_icmp .ne 7, 3) := by decide +kernel
theorem dX11_scaledOf_43 : decode cX11_scaledOf 43 = .ok (.iconst (-1), 1) := by decide +kernel
theorem dX11_scaledOf_44 : decode cX11_scaledOf 44 = .ok (.goto 13, 3) := by decide +kernel
theorem dX11_scaledOf_47 : decode cX11_scaledOf 47 = .ok (.aload_n 0, 1) := by decide +kernel
theorem dX11_scaledOf_48 : decode cX11_scaledOf 48 = .ok (.iload_n 1, 1) := by decide +kernel
theorem dX11_scaledOf_49 : decode cX11_scaledOf 49 = .ok (.iload 8, 2) := by decide +kernel
theorem dX11_scaledOf_51 : decode cX11_scaledOf 51 = .ok (.iload_n 3, 1) := by decide +kernel
theorem dX11_scaledOf_52 : decode cX11_scaledOf 52 = .ok (.iload 4, 2) := by decide +kernel
theorem dX11_scaledOf_54 : decode cX11_scaledOf 54 = .ok (.invokevirtual 171, 3) := by decide +kernel
theorem dX11_scaledOf_57 : decode cX11_scaledOf 57 = .ok (.istore 9, 2) := by decide +kernel
theorem dX11_scaledOf_59 : decode cX11_scaledOf 59 = .ok (.iload 7, 2) := by decide +kernel
theorem dX11_scaledOf_61 : decode cX11_scaledOf 61 = .ok (.iload 9, 2) := by decide +kernel
theorem dX11_scaledOf_63 : decode cX11_scaledOf 63 = .ok (.iconst (-1), 1) := by decide +kernel
theorem dX11_scaledOf_64 : decode cX11_scaledOf 64 = .ok (.if_icmp .ne 7, 3) := by decide +kernel
theorem dX11_scaledOf_67 : decode cX11_scaledOf 67 = .ok (.iconst 0, 1) := by decide +kernel
theorem dX11_scaledOf_68 : decode cX11_scaledOf 68 = .ok (.goto 4, 3) := by decide +kernel
theorem dX11_scaledOf_71 : decode cX11_scaledOf 71 = .ok (.iconst 1, 1) := by decide +kernel
theorem dX11_scaledOf_72 : decode cX11_scaledOf 72 = .ok (.iadd, 1) := by decide +kernel
theorem dX11_scaledOf_73 : decode cX11_scaledOf 73 = .ok (.istore 7, 2) := by decide +kernel
theorem dX11_scaledOf_75 : decode cX11_scaledOf 75 = .ok (.iload 6, 2) := by decide +kernel
theorem dX11_scaledOf_77 : decode cX11_scaledOf 77 = .ok (.iload 9, 2) := by decide +kernel
theorem dX11_scaledOf_79 : decode cX11_scaledOf 79 = .ok (.iconst (-1), 1) := by decide +kernel
theorem dX11_scaledOf_80 : decode cX11_scaledOf 80 = .ok (.if_icmp .eq 14, 3) := by decide +kernel
theorem dX11_scaledOf_83 : decode cX11_scaledOf 83 = .ok (.iload 9, 2) := by decide +kernel
theorem dX11_scaledOf_85 : decode cX11_scaledOf 85 = .ok (.iload 5, 2) := by decide +kernel
theorem dX11_scaledOf_87 : decode cX11_scaledOf 87 = .ok (.if_icmp .ge 7, 3) := by decide +kernel
theorem dX11_scaledOf_90 : decode cX11_scaledOf 90 = .ok (.iconst 1, 1) := by decide +kernel
theorem dX11_scaledOf_91 : decode cX11_scaledOf 91 = .ok (.goto 4, 3) := by decide +kernel
theorem dX11_scaledOf_94 : decode cX11_scaledOf 94 = .ok (.iconst 0, 1) := by decide +kernel
theorem dX11_scaledOf_95 : decode cX11_scaledOf 95 = .ok (.iadd, 1) := by decide +kernel
theorem dX11_scaledOf_96 : decode cX11_scaledOf 96 = .ok (.istore 6, 2) := by decide +kernel
theorem dX11_scaledOf_98 : decode cX11_scaledOf 98 = .ok (.iinc 8 1, 3) := by decide +kernel
theorem dX11_scaledOf_101 : decode cX11_scaledOf 101 = .ok (.goto (-73), 3) := by decide +kernel
theorem dX11_scaledOf_104 : decode cX11_scaledOf 104 = .ok (.iload 7, 2) := by decide +kernel
theorem dX11_scaledOf_106 : decode cX11_scaledOf 106 = .ok (.ifCond .ne 7, 3) := by decide +kernel
theorem dX11_scaledOf_109 : decode cX11_scaledOf 109 = .ok (.iconst 5, 1) := by decide +kernel
theorem dX11_scaledOf_110 : decode cX11_scaledOf 110 = .ok (.goto 11, 3) := by decide +kernel
theorem dX11_scaledOf_113 : decode cX11_scaledOf 113 = .ok (.bipush 10, 2) := by decide +kernel
theorem dX11_scaledOf_115 : decode cX11_scaledOf 115 = .ok (.iload 6, 2) := by decide +kernel
theorem dX11_scaledOf_117 : decode cX11_scaledOf 117 = .ok (.imul, 1) := by decide +kernel
theorem dX11_scaledOf_118 : decode cX11_scaledOf 118 = .ok (.iload 7, 2) := by decide +kernel
theorem dX11_scaledOf_120 : decode cX11_scaledOf 120 = .ok (.idiv, 1) := by decide +kernel
theorem dX11_scaledOf_121 : decode cX11_scaledOf 121 = .ok (.ireturn, 1) := by decide +kernel
theorem dX11_together_0 : decode cX11_together 0 = .ok (.iconst 0, 1) := by decide +kernel
theorem dX11_together_1 : decode cX11_together 1 = .ok (.istore 4, 2) := by decide +kernel
theorem dX11_together_3 : decode cX11_together 3 = .ok (.iconst 0, 1) := by decide +kernel
theorem dX11_together_4 : decode cX11_together 4 = .ok (.istore 5, 2) := by decide +kernel
theorem dX11_together_6 : decode cX11_together 6 = .ok (.iconst 0, 1) := by decide +kernel
theorem dX11_together_7 : decode cX11_together 7 = .ok (.istore 6, 2) := by decide +kernel
theorem dX11_together_9 : decode cX11_together 9 = .ok (.iload 6, 2) := by decide +kernel
theorem dX11_together_11 : decode cX11_together 11 = .ok (.iconst 4, 1) := by decide +kernel
theorem dX11_together_12 : decode cX11_together 12 = .ok (.if_icmp .ge 53, 3) := by decide +kernel
theorem dX11_together_15 : decode cX11_together 15 = .ok (.aload_n 0, 1) := by decide +kernel
theorem dX11_together_16 : decode cX11_together 16 = .ok (.iload 6, 2) := by decide +kernel
theorem dX11_together_18 : decode cX11_together 18 = .ok (.iload_n 1, 1) := by decide +kernel
theorem dX11_together_19 : decode cX11_together 19 = .ok (.iload_n 2, 1) := by decide +kernel
theorem dX11_together_20 : decode cX11_together 20 = .ok (.iload_n 3, 1) := by decide +kernel
theorem dX11_together_21 : decode cX11_together 21 = .ok (.invokevirtual 175, 3) := by decide +kernel
theorem dX11_together_24 : decode cX11_together 24 = .ok (.istore 7, 2) := by decide +kernel
theorem dX11_together_26 : decode cX11_together 26 = .ok (.iload 4, 2) := by decide +kernel
theorem dX11_together_28 : decode cX11_together 28 = .ok (.iload 7, 2) := by decide +kernel
theorem dX11_together_30 : decode cX11_together 30 = .ok (.iconst (-1), 1) := by decide +kernel
theorem dX11_together_31 : decode cX11_together 31 = .ok (.if_icmp .ne 7, 3) := by decide +kernel
theorem dX11_together_34 : decode cX11_together 34 = .ok (.iconst 0, 1) := by decide +kernel
theorem dX11_together_35 : decode cX11_together 35 = .ok (.goto 5, 3) := by decide +kernel
theorem dX11_together_38 : decode cX11_together 38 = .ok (.iload 7, 2) := by decide +kernel
theorem dX11_together_40 : decode cX11_together 40 = .ok (.iadd, 1) := by decide +kernel
theorem dX11_together_41 : decode cX11_together 41 = .ok (.istore 4, 2) := by decide +kernel
theorem dX11_together_43 : decode cX11_together 43 = .ok (.iload 5, 2) := by decide +kernel
theorem dX11_together_45 : decode cX11_together 45 = .ok (.iload 7, 2) := by decide +kernel
theorem dX11_together_47 : decode cX11_together 47 = .ok (.iconst (-1), 1) := by decide +kernel
theorem dX11_together_48 : decode cX11_together 48 = .ok (.if_icmp .ne 7, 3) := by decide +kernel
theorem dX11_together_51 : decode cX11_together 51 = .ok (.iconst 0, 1) := by decide +kernel
theorem dX11_together_52 : decode cX11_together 52 = .ok (.goto 4, 3) := by decide +kernel
theorem dX11_together_55 : decode cX11_together 55 = .ok (.iconst 1, 1) := by decide +kernel
theorem dX11_together_56 : decode cX11_together 56 = .ok (.iadd, 1) := by decide +kernel
theorem dX11_together_57 : decode cX11_together 57 = .ok (.istore 5, 2) := by decide +kernel
theorem dX11_together_59 : decode cX11_together 59 = .ok (.iinc 6 1, 3) := by decide +kernel
theorem dX11_together_62 : decode cX11_together 62 = .ok (.goto (-53), 3) := by decide +kernel
theorem dX11_together_65 : decode cX11_together 65 = .ok (.iload 5, 2) := by decide +kernel
theorem dX11_together_67 : decode cX11_together 67 = .ok (.ifCond .ne 7, 3) := by decide +kernel
theorem dX11_together_70 : decode cX11_together 70 = .ok (.iconst (-1), 1) := by decide +kernel
theorem dX11_together_71 : decode cX11_together 71 = .ok (.goto 8, 3) := by decide +kernel
theorem dX11_together_74 : decode cX11_together 74 = .ok (.iload 4, 2) := by decide +kernel
theorem dX11_together_76 : decode cX11_together 76 = .ok (.iload 5, 2) := by decide +kernel
theorem dX11_together_78 : decode cX11_together 78 = .ok (.idiv, 1) := by decide +kernel
theorem dX11_together_79 : decode cX11_together 79 = .ok (.ireturn, 1) := by decide +kernel
theorem dX11_scaled_0 : decode cX11_scaled 0 = .ok (.aload_n 0, 1) := by decide +kernel
theorem dX11_scaled_1 : decode cX11_scaled 1 = .ok (.iconst 0, 1) := by decide +kernel
theorem dX11_scaled_2 : decode cX11_scaled 2 = .ok (.putfield 139, 3) := by decide +kernel
theorem dX11_scaled_5 : decode cX11_scaled 5 = .ok (.iload_n 1, 1) := by decide +kernel
theorem dX11_scaled_6 : decode cX11_scaled 6 = .ok (.iconst (-1), 1) := by decide +kernel
theorem dX11_scaled_7 : decode cX11_scaled 7 = .ok (.iconst 3, 1) := by decide +kernel
theorem dX11_scaled_8 : decode cX11_scaled 8 = .ok (.invokestatic 145, 3) := by decide +kernel
theorem dX11_scaled_11 : decode cX11_scaled 11 = .ok (.ifCond .eq 33, 3) := by decide +kernel
theorem dX11_scaled_14 : decode cX11_scaled 14 = .ok (.aload_n 0, 1) := by decide +kernel
theorem dX11_scaled_15 : decode cX11_scaled 15 = .ok (.iload_n 2, 1) := by decide +kernel
theorem dX11_scaled_16 : decode cX11_scaled 16 = .ok (.invokevirtual 149, 3) := by decide +kernel
theorem dX11_scaled_19 : decode cX11_scaled 19 = .ok (.ifCond .eq 25, 3) := by decide +kernel
theorem dX11_scaled_22 : decode cX11_scaled 22 = .ok (.iload_n 3, 1) := by decide +kernel
theorem dX11_scaled_23 : decode cX11_scaled 23 = .ok (.iconst 0, 1) := by decide +kernel
theorem dX11_scaled_24 : decode cX11_scaled 24 = .ok (.iconst 1, 1) := by decide +kernel
theorem dX11_scaled_25 : decode cX11_scaled 25 = .ok (.invokestatic 145, 3) := by decide +kernel
theorem dX11_scaled_28 : decode cX11_scaled 28 = .ok (.ifCond .eq 16, 3) := by decide +kernel
theorem dX11_scaled_31 : decode cX11_scaled 31 = .ok (.iload 4, 2) := by decide +kernel
theorem dX11_scaled_33 : decode cX11_scaled 33 = .ok (.iconst 0, 1) := by decide +kernel
theorem dX11_scaled_34 : decode cX11_scaled 34 = .ok (.aload_n 0, 1) := by decide +kernel
theorem dX11_scaled_35 : decode cX11_scaled 35 = .ok (.getfield 153, 3) := by decide +kernel
theorem dX11_scaled_38 : decode cX11_scaled 38 = .ok (.invokestatic 145, 3) := by decide +kernel
theorem dX11_scaled_41 : decode cX11_scaled 41 = .ok (.ifCond .ne 5, 3) := by decide +kernel
theorem dX11_scaled_44 : decode cX11_scaled 44 = .ok (.iconst (-1), 1) := by decide +kernel
theorem dX11_scaled_45 : decode cX11_scaled 45 = .ok (.ireturn, 1) := by decide +kernel
theorem dX11_scaled_46 : decode cX11_scaled 46 = .ok (.iload_n 1, 1) := by decide +kernel
theorem dX11_scaled_47 : decode cX11_scaled 47 = .ok (.iconst (-1), 1) := by decide +kernel
theorem dX11_scaled_48 : decode cX11_scaled 48 = .ok (.if_icmp .ne 14, 3) := by decide +kernel
theorem dX11_scaled_51 : decode cX11_scaled 51 = .ok (.aload_n 0, 1) := by decide +kernel
theorem dX11_scaled_52 : decode cX11_scaled 52 = .ok (.iload_n 2, 1) := by decide +kernel
theorem dX11_scaled_53 : decode cX11_scaled 53 = .ok (.iload_n 3, 1) := by decide +kernel
theorem dX11_scaled_54 : decode cX11_scaled 54 = .ok (.iload 4, 2) := by decide +kernel
theorem dX11_scaled_56 : decode cX11_scaled 56 = .ok (.invokevirtual 178, 3) := by decide +kernel
theorem dX11_scaled_59 : decode cX11_scaled 59 = .ok (.goto 12, 3) := by decide +kernel
theorem dX11_scaled_62 : decode cX11_scaled 62 = .ok (.aload_n 0, 1) := by decide +kernel
theorem dX11_scaled_63 : decode cX11_scaled 63 = .ok (.iload_n 1, 1) := by decide +kernel
theorem dX11_scaled_64 : decode cX11_scaled 64 = .ok (.iload_n 2, 1) := by decide +kernel
theorem dX11_scaled_65 : decode cX11_scaled 65 = .ok (.iload_n 3, 1) := by decide +kernel
theorem dX11_scaled_66 : decode cX11_scaled 66 = .ok (.iload 4, 2) := by decide +kernel
theorem dX11_scaled_68 : decode cX11_scaled 68 = .ok (.invokevirtual 175, 3) := by decide +kernel
theorem dX11_scaled_71 : decode cX11_scaled 71 = .ok (.ireturn, 1) := by decide +kernel
theorem dX11_sortWord_0 : decode cX11_sortWord 0 = .ok (.iload_n 0, 1) := by decide +kernel
theorem dX11_sortWord_1 : decode cX11_sortWord 1 = .ok (.tableswitch 71 0 7 #[47, 50, 53, 56, 59, 62, 65, 68], 47) := by decide +kernel
theorem dX11_sortWord_48 : decode cX11_sortWord 48 = .ok (.ldc 182, 2) := by decide +kernel
theorem dX11_sortWord_50 : decode cX11_sortWord 50 = .ok (.areturn, 1) := by decide +kernel
theorem dX11_sortWord_51 : decode cX11_sortWord 51 = .ok (.ldc 184, 2) := by decide +kernel
theorem dX11_sortWord_53 : decode cX11_sortWord 53 = .ok (.areturn, 1) := by decide +kernel
theorem dX11_sortWord_54 : decode cX11_sortWord 54 = .ok (.ldc 186, 2) := by decide +kernel
theorem dX11_sortWord_56 : decode cX11_sortWord 56 = .ok (.areturn, 1) := by decide +kernel
theorem dX11_sortWord_57 : decode cX11_sortWord 57 = .ok (.ldc 188, 2) := by decide +kernel
theorem dX11_sortWord_59 : decode cX11_sortWord 59 = .ok (.areturn, 1) := by decide +kernel
theorem dX11_sortWord_60 : decode cX11_sortWord 60 = .ok (.ldc 190, 2) := by decide +kernel
theorem dX11_sortWord_62 : decode cX11_sortWord 62 = .ok (.areturn, 1) := by decide +kernel
theorem dX11_sortWord_63 : decode cX11_sortWord 63 = .ok (.ldc 192, 2) := by decide +kernel
theorem dX11_sortWord_65 : decode cX11_sortWord 65 = .ok (.areturn, 1) := by decide +kernel
theorem dX11_sortWord_66 : decode cX11_sortWord 66 = .ok (.ldc 194, 2) := by decide +kernel
theorem dX11_sortWord_68 : decode cX11_sortWord 68 = .ok (.areturn, 1) := by decide +kernel
theorem dX11_sortWord_69 : decode cX11_sortWord 69 = .ok (.ldc 196, 2) := by decide +kernel
theorem dX11_sortWord_71 : decode cX11_sortWord 71 = .ok (.areturn, 1) := by decide +kernel
theorem dX11_sortWord_72 : decode cX11_sortWord 72 = .ok (.ldc 198, 2) := by decide +kernel
theorem dX11_sortWord_74 : decode cX11_sortWord 74 = .ok (.areturn, 1) := by decide +kernel
theorem dX11_factWord_0 : decode cX11_factWord 0 = .ok (.iload_n 0, 1) := by decide +kernel
theorem dX11_factWord_1 : decode cX11_factWord 1 = .ok (.tableswitch 57 0 5 #[39, 42, 45, 48, 51, 54], 39) := by decide +kernel
theorem dX11_factWord_40 : decode cX11_factWord 40 = .ok (.ldc 200, 2) := by decide +kernel
theorem dX11_factWord_42 : decode cX11_factWord 42 = .ok (.areturn, 1) := by decide +kernel
theorem dX11_factWord_43 : decode cX11_factWord 43 = .ok (.ldc 201, 2) := by decide +kernel
theorem dX11_factWord_45 : decode cX11_factWord 45 = .ok (.areturn, 1) := by decide +kernel
theorem dX11_factWord_46 : decode cX11_factWord 46 = .ok (.ldc 202, 2) := by decide +kernel
theorem dX11_factWord_48 : decode cX11_factWord 48 = .ok (.areturn, 1) := by decide +kernel
theorem dX11_factWord_49 : decode cX11_factWord 49 = .ok (.ldc 204, 2) := by decide +kernel
theorem dX11_factWord_51 : decode cX11_factWord 51 = .ok (.areturn, 1) := by decide +kernel
theorem dX11_factWord_52 : decode cX11_factWord 52 = .ok (.ldc 206, 2) := by decide +kernel
theorem dX11_factWord_54 : decode cX11_factWord 54 = .ok (.areturn, 1) := by decide +kernel
theorem dX11_factWord_55 : decode cX11_factWord 55 = .ok (.ldc 207, 2) := by decide +kernel
theorem dX11_factWord_57 : decode cX11_factWord 57 = .ok (.areturn, 1) := by decide +kernel
theorem dX11_factWord_58 : decode cX11_factWord 58 = .ok (.ldc 208, 2) := by decide +kernel
theorem dX11_factWord_60 : decode cX11_factWord 60 = .ok (.areturn, 1) := by decide +kernel
theorem dX11_feed_0 : decode cX11_feed 0 = .ok (.aload_n 0, 1) := by decide +kernel
theorem dX11_feed_1 : decode cX11_feed 1 = .ok (.iconst 0, 1) := by decide +kernel
theorem dX11_feed_2 : decode cX11_feed 2 = .ok (.putfield 139, 3) := by decide +kernel
theorem dX11_feed_5 : decode cX11_feed 5 = .ok (.aload_n 0, 1) := by decide +kernel
theorem dX11_feed_6 : decode cX11_feed 6 = .ok (.getfield 210, 3) := by decide +kernel
theorem dX11_feed_9 : decode cX11_feed 9 = .ok (.sipush 380, 3) := by decide +kernel
theorem dX11_feed_12 : decode cX11_feed 12 = .ok (.if_icmp .le 5, 3) := by decide +kernel
theorem dX11_feed_15 : decode cX11_feed 15 = .ok (.iconst (-1), 1) := by decide +kernel
theorem dX11_feed_16 : decode cX11_feed 16 = .ok (.ireturn, 1) := by decide +kernel
theorem dX11_feed_17 : decode cX11_feed 17 = .ok (.iconst 0, 1) := by decide +kernel
theorem dX11_feed_18 : decode cX11_feed 18 = .ok (.istore 6, 2) := by decide +kernel
theorem dX11_feed_20 : decode cX11_feed 20 = .ok (.iload 6, 2) := by decide +kernel
theorem dX11_feed_22 : decode cX11_feed 22 = .ok (.bipush 20, 2) := by decide +kernel
theorem dX11_feed_24 : decode cX11_feed 24 = .ok (.if_icmp .ge 90, 3) := by decide +kernel
theorem dX11_feed_27 : decode cX11_feed 27 = .ok (.iload 6, 2) := by decide +kernel
theorem dX11_feed_29 : decode cX11_feed 29 = .ok (.iconst 4, 1) := by decide +kernel
theorem dX11_feed_30 : decode cX11_feed 30 = .ok (.if_icmp .ge 7, 3) := by decide +kernel
theorem dX11_feed_33 : decode cX11_feed 33 = .ok (.iload_n 1, 1) := by decide +kernel
theorem dX11_feed_34 : decode cX11_feed 34 = .ok (.goto 39, 3) := by decide +kernel
theorem dX11_feed_37 : decode cX11_feed 37 = .ok (.iload 6, 2) := by decide +kernel
theorem dX11_feed_39 : decode cX11_feed 39 = .ok (.bipush 8, 2) := by decide +kernel
theorem dX11_feed_41 : decode cX11_feed 41 = .ok (.if_icmp .ge 7, 3) := by decide +kernel
theorem dX11_feed_44 : decode cX11_feed 44 = .ok (.iload_n 2, 1) := by decide +kernel
theorem dX11_feed_45 : decode cX11_feed 45 = .ok (.goto 28, 3) := by decide +kernel
theorem dX11_feed_48 : decode cX11_feed 48 = .ok (.iload 6, 2) := by decide +kernel
theorem dX11_feed_50 : decode cX11_feed 50 = .ok (.bipush 12, 2) := by decide +kernel
theorem dX11_feed_52 : decode cX11_feed 52 = .ok (.if_icmp .ge 7, 3) := by decide +kernel
theorem dX11_feed_55 : decode cX11_feed 55 = .ok (.iload_n 3, 1) := by decide +kernel
theorem dX11_feed_56 : decode cX11_feed 56 = .ok (.goto 17, 3) := by decide +kernel
theorem dX11_feed_59 : decode cX11_feed 59 = .ok (.iload 6, 2) := by decide +kernel
theorem dX11_feed_61 : decode cX11_feed 61 = .ok (.bipush 16, 2) := by decide +kernel
theorem dX11_feed_63 : decode cX11_feed 63 = .ok (.if_icmp .ge 8, 3) := by decide +kernel
theorem dX11_feed_66 : decode cX11_feed 66 = .ok (.iload 4, 2) := by decide +kernel
theorem dX11_feed_68 : decode cX11_feed 68 = .ok (.goto 5, 3) := by decide +kernel
theorem dX11_feed_71 : decode cX11_feed 71 = .ok (.iload 5, 2) := by decide +kernel
theorem dX11_feed_73 : decode cX11_feed 73 = .ok (.istore 7, 2) := by decide +kernel
theorem dX11_feed_75 : decode cX11_feed 75 = .ok (.aload_n 0, 1) := by decide +kernel
theorem dX11_feed_76 : decode cX11_feed 76 = .ok (.getfield 87, 3) := by decide +kernel
theorem dX11_feed_79 : decode cX11_feed 79 = .ok (.aload_n 0, 1) := by decide +kernel
theorem dX11_feed_80 : decode cX11_feed 80 = .ok (.getfield 210, 3) := by decide +kernel
theorem dX11_feed_83 : decode cX11_feed 83 = .ok (.iload 7, 2) := by decide +kernel
theorem dX11_feed_85 : decode cX11_feed 85 = .ok (.bipush 24, 2) := by decide +kernel
theorem dX11_feed_87 : decode cX11_feed 87 = .ok (.bipush 8, 2) := by decide +kernel
theorem dX11_feed_89 : decode cX11_feed 89 = .ok (.iload 6, 2) := by decide +kernel
theorem dX11_feed_91 : decode cX11_feed 91 = .ok (.iconst 4, 1) := by decide +kernel
theorem dX11_feed_92 : decode cX11_feed 92 = .ok (.irem, 1) := by decide +kernel
theorem dX11_feed_93 : decode cX11_feed 93 = .ok (.imul, 1) := by decide +kernel
theorem dX11_feed_94 : decode cX11_feed 94 = .ok (.isub, 1) := by decide +kernel
theorem dX11_feed_95 : decode cX11_feed 95 = .ok (.ishr, 1) := by decide +kernel
theorem dX11_feed_96 : decode cX11_feed 96 = .ok (.i2b, 1) := by decide +kernel
theorem dX11_feed_97 : decode cX11_feed 97 = .ok (.bastore, 1) := by decide +kernel
theorem dX11_feed_98 : decode cX11_feed 98 = .ok (.aload_n 0, 1) := by decide +kernel
theorem dX11_feed_99 : decode cX11_feed 99 = .ok (.dup, 1) := by decide +kernel
theorem dX11_feed_100 : decode cX11_feed 100 = .ok (.getfield 210, 3) := by decide +kernel
theorem dX11_feed_103 : decode cX11_feed 103 = .ok (.iconst 1, 1) := by decide +kernel
theorem dX11_feed_104 : decode cX11_feed 104 = .ok (.iadd, 1) := by decide +kernel
theorem dX11_feed_105 : decode cX11_feed 105 = .ok (.putfield 210, 3) := by decide +kernel
theorem dX11_feed_108 : decode cX11_feed 108 = .ok (.iinc 6 1, 3) := by decide +kernel
theorem dX11_feed_111 : decode cX11_feed 111 = .ok (.goto (-91), 3) := by decide +kernel
theorem dX11_feed_114 : decode cX11_feed 114 = .ok (.aload_n 0, 1) := by decide +kernel
theorem dX11_feed_115 : decode cX11_feed 115 = .ok (.getfield 210, 3) := by decide +kernel
theorem dX11_feed_118 : decode cX11_feed 118 = .ok (.ireturn, 1) := by decide +kernel
theorem dX11_end_0 : decode cX11_end 0 = .ok (.aload_n 0, 1) := by decide +kernel
theorem dX11_end_1 : decode cX11_end 1 = .ok (.iconst 0, 1) := by decide +kernel
theorem dX11_end_2 : decode cX11_end 2 = .ok (.putfield 139, 3) := by decide +kernel
theorem dX11_end_5 : decode cX11_end 5 = .ok (.iload_n 1, 1) := by decide +kernel
theorem dX11_end_6 : decode cX11_end 6 = .ok (.iconst 0, 1) := by decide +kernel
theorem dX11_end_7 : decode cX11_end 7 = .ok (.aload_n 0, 1) := by decide +kernel
theorem dX11_end_8 : decode cX11_end 8 = .ok (.getfield 210, 3) := by decide +kernel
theorem dX11_end_11 : decode cX11_end 11 = .ok (.invokestatic 145, 3) := by decide +kernel
theorem dX11_end_14 : decode cX11_end 14 = .ok (.ifCond .ne 5, 3) := by decide +kernel
theorem dX11_end_17 : decode cX11_end 17 = .ok (.iconst (-1), 1) := by decide +kernel
theorem dX11_end_18 : decode cX11_end 18 = .ok (.ireturn, 1) := by decide +kernel
theorem dX11_end_19 : decode cX11_end 19 = .ok (.aload_n 0, 1) := by decide +kernel
theorem dX11_end_20 : decode cX11_end 20 = .ok (.iload_n 1, 1) := by decide +kernel
theorem dX11_end_21 : decode cX11_end 21 = .ok (.putfield 210, 3) := by decide +kernel
theorem dX11_end_24 : decode cX11_end 24 = .ok (.iload_n 1, 1) := by decide +kernel
theorem dX11_end_25 : decode cX11_end 25 = .ok (.ireturn, 1) := by decide +kernel
theorem dX11_byteAt_0 : decode cX11_byteAt 0 = .ok (.iload_n 1, 1) := by decide +kernel
theorem dX11_byteAt_1 : decode cX11_byteAt 1 = .ok (.aload_n 0, 1) := by decide +kernel
theorem dX11_byteAt_2 : decode cX11_byteAt 2 = .ok (.getfield 210, 3) := by decide +kernel
theorem dX11_byteAt_5 : decode cX11_byteAt 5 = .ok (.if_icmp .ge 16, 3) := by decide +kernel
theorem dX11_byteAt_8 : decode cX11_byteAt 8 = .ok (.aload_n 0, 1) := by decide +kernel
theorem dX11_byteAt_9 : decode cX11_byteAt 9 = .ok (.getfield 87, 3) := by decide +kernel
theorem dX11_byteAt_12 : decode cX11_byteAt 12 = .ok (.iload_n 1, 1) := by decide +kernel
theorem dX11_byteAt_13 : decode cX11_byteAt 13 = .ok (.baload, 1) := by decide +kernel
theorem dX11_byteAt_14 : decode cX11_byteAt 14 = .ok (.sipush 255, 3) := by decide +kernel
theorem dX11_byteAt_17 : decode cX11_byteAt 17 = .ok (.iand, 1) := by decide +kernel
theorem dX11_byteAt_18 : decode cX11_byteAt 18 = .ok (.goto 4, 3) := by decide +kernel
theorem dX11_byteAt_21 : decode cX11_byteAt 21 = .ok (.iconst 0, 1) := by decide +kernel
theorem dX11_byteAt_22 : decode cX11_byteAt 22 = .ok (.ireturn, 1) := by decide +kernel
theorem dX11_isSmall_0 : decode cX11_isSmall 0 = .ok (.iload_n 0, 1) := by decide +kernel
theorem dX11_isSmall_1 : decode cX11_isSmall 1 = .ok (.bipush 97, 2) := by decide +kernel
theorem dX11_isSmall_3 : decode cX11_isSmall 3 = .ok (.if_icmp .lt 13, 3) := by decide +kernel
theorem dX11_isSmall_6 : decode cX11_isSmall 6 = .ok (.iload_n 0, 1) := by decide +kernel
theorem dX11_isSmall_7 : decode cX11_isSmall 7 = .ok (.bipush 122, 2) := by decide +kernel
theorem dX11_isSmall_9 : decode cX11_isSmall 9 = .ok (.if_icmp .gt 7, 3) := by decide +kernel
theorem dX11_isSmall_12 : decode cX11_isSmall 12 = .ok (.iconst 1, 1) := by decide +kernel
theorem dX11_isSmall_13 : decode cX11_isSmall 13 = .ok (.goto 4, 3) := by decide +kernel
theorem dX11_isSmall_16 : decode cX11_isSmall 16 = .ok (.iconst 0, 1) := by decide +kernel
theorem dX11_isSmall_17 : decode cX11_isSmall 17 = .ok (.ireturn, 1) := by decide +kernel
theorem dX11_isDigit_0 : decode cX11_isDigit 0 = .ok (.iload_n 0, 1) := by decide +kernel
theorem dX11_isDigit_1 : decode cX11_isDigit 1 = .ok (.bipush 48, 2) := by decide +kernel
theorem dX11_isDigit_3 : decode cX11_isDigit 3 = .ok (.if_icmp .lt 13, 3) := by decide +kernel
theorem dX11_isDigit_6 : decode cX11_isDigit 6 = .ok (.iload_n 0, 1) := by decide +kernel
theorem dX11_isDigit_7 : decode cX11_isDigit 7 = .ok (.bipush 57, 2) := by decide +kernel
theorem dX11_isDigit_9 : decode cX11_isDigit 9 = .ok (.if_icmp .gt 7, 3) := by decide +kernel
theorem dX11_isDigit_12 : decode cX11_isDigit 12 = .ok (.iconst 1, 1) := by decide +kernel
theorem dX11_isDigit_13 : decode cX11_isDigit 13 = .ok (.goto 4, 3) := by decide +kernel
theorem dX11_isDigit_16 : decode cX11_isDigit 16 = .ok (.iconst 0, 1) := by decide +kernel
theorem dX11_isDigit_17 : decode cX11_isDigit 17 = .ok (.ireturn, 1) := by decide +kernel
theorem dX11_next_0 : decode cX11_next 0 = .ok (.aload_n 0, 1) := by decide +kernel
theorem dX11_next_1 : decode cX11_next 1 = .ok (.aload_n 0, 1) := by decide +kernel
theorem dX11_next_2 : decode cX11_next 2 = .ok (.getfield 213, 3) := by decide +kernel
theorem dX11_next_5 : decode cX11_next 5 = .ok (.putfield 216, 3) := by decide +kernel
theorem dX11_next_8 : decode cX11_next 8 = .ok (.aload_n 0, 1) := by decide +kernel
theorem dX11_next_9 : decode cX11_next 9 = .ok (.aload_n 0, 1) := by decide +kernel
theorem dX11_next_10 : decode cX11_next 10 = .ok (.getfield 216, 3) := by decide +kernel
theorem dX11_next_13 : decode cX11_next 13 = .ok (.invokevirtual 219, 3) := by decide +kernel
theorem dX11_next_16 : decode cX11_next 16 = .ok (.bipush 32, 2) := by decide +kernel
theorem dX11_next_18 : decode cX11_next 18 = .ok (.if_icmp .eq 16, 3) := by decide +kernel
theorem dX11_next_21 : decode cX11_next 21 = .ok (.aload_n 0, 1) := by decide +kernel
theorem dX11_next_22 : decode cX11_next 22 = .ok (.aload_n 0, 1) := by decide +kernel
theorem dX11_next_23 : decode cX11_next 23 = .ok (.getfield 216, 3) := by decide +kernel
theorem dX11_next_26 : decode cX11_next 26 = .ok (.invokevirtual 219, 3) := by decide +kernel
theorem dX11_next_29 : decode cX11_next 29 = .ok (.bipush 10, 2) := by decide +kernel
theorem dX11_next_31 : decode cX11_next 31 = .ok (.if_icmp .ne 16, 3) := by decide +kernel
theorem dX11_next_34 : decode cX11_next 34 = .ok (.aload_n 0, 1) := by decide +kernel
theorem dX11_next_35 : decode cX11_next 35 = .ok (.dup, 1) := by decide +kernel
theorem dX11_next_36 : decode cX11_next 36 = .ok (.getfield 216, 3) := by decide +kernel
theorem dX11_next_39 : decode cX11_next 39 = .ok (.iconst 1, 1) := by decide +kernel
theorem dX11_next_40 : decode cX11_next 40 = .ok (.iadd, 1) := by decide +kernel
theorem dX11_next_41 : decode cX11_next 41 = .ok (.putfield 216, 3) := by decide +kernel
theorem dX11_next_44 : decode cX11_next 44 = .ok (.goto (-36), 3) := by decide +kernel
theorem dX11_next_47 : decode cX11_next 47 = .ok (.aload_n 0, 1) := by decide +kernel
theorem dX11_next_48 : decode cX11_next 48 = .ok (.aload_n 0, 1) := by decide +kernel
theorem dX11_next_49 : decode cX11_next 49 = .ok (.getfield 216, 3) := by decide +kernel
theorem dX11_next_52 : decode cX11_next 52 = .ok (.putfield 213, 3) := by decide +kernel
theorem dX11_next_55 : decode cX11_next 55 = .ok (.aload_n 0, 1) := by decide +kernel
theorem dX11_next_56 : decode cX11_next 56 = .ok (.aload_n 0, 1) := by decide +kernel
theorem dX11_next_57 : decode cX11_next 57 = .ok (.getfield 216, 3) := by decide +kernel
theorem dX11_next_60 : decode cX11_next 60 = .ok (.invokevirtual 219, 3) := by decide +kernel
theorem dX11_next_63 : decode cX11_next 63 = .ok (.istore_n 1, 1) := by decide +kernel
theorem dX11_next_64 : decode cX11_next 64 = .ok (.aload_n 0, 1) := by decide +kernel
theorem dX11_next_65 : decode cX11_next 65 = .ok (.getfield 216, 3) := by decide +kernel
theorem dX11_next_68 : decode cX11_next 68 = .ok (.aload_n 0, 1) := by decide +kernel
theorem dX11_next_69 : decode cX11_next 69 = .ok (.getfield 210, 3) := by decide +kernel
theorem dX11_next_72 : decode cX11_next 72 = .ok (.if_icmp .lt 11, 3) := by decide +kernel
theorem dX11_next_75 : decode cX11_next 75 = .ok (.aload_n 0, 1) := by decide +kernel
theorem dX11_next_76 : decode cX11_next 76 = .ok (.iconst 0, 1) := by decide +kernel
theorem dX11_next_77 : decode cX11_next 77 = .ok (.putfield 223, 3) := by decide +kernel
theorem dX11_next_80 : decode cX11_next 80 = .ok (.goto 194, 3) := by decide +kernel
theorem dX11_next_83 : decode cX11_next 83 = .ok (.iload_n 1, 1) := by decide +kernel
theorem dX11_next_84 : decode cX11_next 84 = .ok (.invokestatic 226, 3) := by decide +kernel
theorem dX11_next_87 : decode cX11_next 87 = .ok (.ifCond .eq 38, 3) := by decide +kernel
theorem dX11_next_90 : decode cX11_next 90 = .ok (.aload_n 0, 1) := by decide +kernel
theorem dX11_next_91 : decode cX11_next 91 = .ok (.aload_n 0, 1) := by decide +kernel
theorem dX11_next_92 : decode cX11_next 92 = .ok (.getfield 213, 3) := by decide +kernel
theorem dX11_next_95 : decode cX11_next 95 = .ok (.invokevirtual 219, 3) := by decide +kernel
theorem dX11_next_98 : decode cX11_next 98 = .ok (.invokestatic 226, 3) := by decide +kernel
theorem dX11_next_101 : decode cX11_next 101 = .ok (.ifCond .eq 16, 3) := by decide +kernel
theorem dX11_next_104 : decode cX11_next 104 = .ok (.aload_n 0, 1) := by decide +kernel
theorem dX11_next_105 : decode cX11_next 105 = .ok (.dup, 1) := by decide +kernel
theorem dX11_next_106 : decode cX11_next 106 = .ok (.getfield 213, 3) := by decide +kernel
theorem dX11_next_109 : decode cX11_next 109 = .ok (.iconst 1, 1) := by decide +kernel
theorem dX11_next_110 : decode cX11_next 110 = .ok (.iadd, 1) := by decide +kernel
theorem dX11_next_111 : decode cX11_next 111 = .ok (.putfield 213, 3) := by decide +kernel
theorem dX11_next_114 : decode cX11_next 114 = .ok (.goto (-24), 3) := by decide +kernel
theorem dX11_next_117 : decode cX11_next 117 = .ok (.aload_n 0, 1) := by decide +kernel
theorem dX11_next_118 : decode cX11_next 118 = .ok (.iconst 1, 1) := by decide +kernel
theorem dX11_next_119 : decode cX11_next 119 = .ok (.putfield 223, 3) := by decide +kernel
theorem dX11_next_122 : decode cX11_next 122 = .ok (.goto 152, 3) := by decide +kernel
theorem dX11_next_125 : decode cX11_next 125 = .ok (.iload_n 1, 1) := by decide +kernel
theorem dX11_next_126 : decode cX11_next 126 = .ok (.invokestatic 229, 3) := by decide +kernel
theorem dX11_next_129 : decode cX11_next 129 = .ok (.ifCond .eq 96, 3) := by decide +kernel
theorem dX11_next_132 : decode cX11_next 132 = .ok (.aload_n 0, 1) := by decide +kernel
theorem dX11_next_133 : decode cX11_next 133 = .ok (.iconst 0, 1) := by decide +kernel
theorem dX11_next_134 : decode cX11_next 134 = .ok (.putfield 232, 3) := by decide +kernel
theorem dX11_next_137 : decode cX11_next 137 = .ok (.aload_n 0, 1) := by decide +kernel
theorem dX11_next_138 : decode cX11_next 138 = .ok (.aload_n 0, 1) := by decide +kernel
theorem dX11_next_139 : decode cX11_next 139 = .ok (.getfield 213, 3) := by decide +kernel
theorem dX11_next_142 : decode cX11_next 142 = .ok (.invokevirtual 219, 3) := by decide +kernel
theorem dX11_next_145 : decode cX11_next 145 = .ok (.invokestatic 229, 3) := by decide +kernel
theorem dX11_next_148 : decode cX11_next 148 = .ok (.ifCond .eq 52, 3) := by decide +kernel
theorem dX11_next_151 : decode cX11_next 151 = .ok (.aload_n 0, 1) := by decide +kernel
theorem dX11_next_152 : decode cX11_next 152 = .ok (.getfield 213, 3) := by decide +kernel
theorem dX11_next_155 : decode cX11_next 155 = .ok (.aload_n 0, 1) := by decide +kernel
theorem dX11_next_156 : decode cX11_next 156 = .ok (.getfield 216, 3) := by decide +kernel
theorem dX11_next_159 : decode cX11_next 159 = .ok (.isub, 1) := by decide +kernel
theorem dX11_next_160 : decode cX11_next 160 = .ok (.iconst 2, 1) := by decide +kernel
theorem dX11_next_161 : decode cX11_next 161 = .ok (.if_icmp .ge 26, 3) := by decide +kernel
theorem dX11_next_164 : decode cX11_next 164 = .ok (.aload_n 0, 1) := by decide +kernel
theorem dX11_next_165 : decode cX11_next 165 = .ok (.bipush 10, 2) := by decide +kernel
theorem dX11_next_167 : decode cX11_next 167 = .ok (.aload_n 0, 1) := by decide +kernel
theorem dX11_next_168 : decode cX11_next 168 = .ok (.getfield 232, 3) := by decide +kernel
theorem dX11_next_171 : decode cX11_next 171 = .ok (.imul, 1) := by decide +kernel
theorem dX11_next_172 : decode cX11_next 172 = .ok (.aload_n 0, 1) := by decide +kernel
theorem dX11_next_173 : decode cX11_next 173 = .ok (.aload_n 0, 1) := by decide +kernel
theorem dX11_next_174 : decode cX11_next 174 = .ok (.getfield 213, 3) := by decide +kernel
theorem dX11_next_177 : decode cX11_next 177 = .ok (.invokevirtual 219, 3) := by decide +kernel
theorem dX11_next_180 : decode cX11_next 180 = .ok (.iadd, 1) := by decide +kernel
theorem dX11_next_181 : decode cX11_next 181 = .ok (.bipush 48, 2) := by decide +kernel
theorem dX11_next_183 : decode cX11_next 183 = .ok (.isub, 1) := by decide +kernel
theorem dX11_next_184 : decode cX11_next 184 = .ok (.putfield 232, 3) := by decide +kernel
theorem dX11_next_187 : decode cX11_next 187 = .ok (.aload_n 0, 1) := by decide +kernel
theorem dX11_next_188 : decode cX11_next 188 = .ok (.dup, 1) := by decide +kernel
theorem dX11_next_189 : decode cX11_next 189 = .ok (.getfield 213, 3) := by decide +kernel
theorem dX11_next_192 : decode cX11_next 192 = .ok (.iconst 1, 1) := by decide +kernel
theorem dX11_next_193 : decode cX11_next 193 = .ok (.iadd, 1) := by decide +kernel
theorem dX11_next_194 : decode cX11_next 194 = .ok (.putfield 213, 3) := by decide +kernel
theorem dX11_next_197 : decode cX11_next 197 = .ok (.goto (-60), 3) := by decide +kernel
theorem dX11_next_200 : decode cX11_next 200 = .ok (.aload_n 0, 1) := by decide +kernel
theorem dX11_next_201 : decode cX11_next 201 = .ok (.aload_n 0, 1) := by decide +kernel
theorem dX11_next_202 : decode cX11_next 202 = .ok (.getfield 213, 3) := by decide +kernel
theorem dX11_next_205 : decode cX11_next 205 = .ok (.aload_n 0, 1) := by decide +kernel
theorem dX11_next_206 : decode cX11_next 206 = .ok (.getfield 216, 3) := by decide +kernel
theorem dX11_next_209 : decode cX11_next 209 = .ok (.isub, 1) := by decide +kernel
theorem dX11_next_210 : decode cX11_next 210 = .ok (.iconst 2, 1) := by decide +kernel
theorem dX11_next_211 : decode cX11_next 211 = .ok (.if_icmp .le 7, 3) := by decide +kernel
theorem dX11_next_214 : decode cX11_next 214 = .ok (.iconst 4, 1) := by decide +kernel
theorem dX11_next_215 : decode cX11_next 215 = .ok (.goto 4, 3) := by decide +kernel
theorem dX11_next_218 : decode cX11_next 218 = .ok (.iconst 2, 1) := by decide +kernel
theorem dX11_next_219 : decode cX11_next 219 = .ok (.putfield 223, 3) := by decide +kernel
theorem dX11_next_222 : decode cX11_next 222 = .ok (.goto 52, 3) := by decide +kernel
theorem dX11_next_225 : decode cX11_next 225 = .ok (.aload_n 0, 1) := by decide +kernel
theorem dX11_next_226 : decode cX11_next 226 = .ok (.dup, 1) := by decide +kernel
theorem dX11_next_227 : decode cX11_next 227 = .ok (.getfield 213, 3) := by decide +kernel
theorem dX11_next_230 : decode cX11_next 230 = .ok (.iconst 1, 1) := by decide +kernel
theorem dX11_next_231 : decode cX11_next 231 = .ok (.iadd, 1) := by decide +kernel
theorem dX11_next_232 : decode cX11_next 232 = .ok (.putfield 213, 3) := by decide +kernel
theorem dX11_next_235 : decode cX11_next 235 = .ok (.aload_n 0, 1) := by decide +kernel
theorem dX11_next_236 : decode cX11_next 236 = .ok (.iload_n 1, 1) := by decide +kernel
theorem dX11_next_237 : decode cX11_next 237 = .ok (.bipush 59, 2) := by decide +kernel
theorem dX11_next_239 : decode cX11_next 239 = .ok (.if_icmp .eq 27, 3) := by decide +kernel
theorem dX11_next_242 : decode cX11_next 242 = .ok (.iload_n 1, 1) := by decide +kernel
theorem dX11_next_243 : decode cX11_next 243 = .ok (.bipush 58, 2) := by decide +kernel
theorem dX11_next_245 : decode cX11_next 245 = .ok (.if_icmp .eq 21, 3) := by decide +kernel
theorem dX11_next_248 : decode cX11_next 248 = .ok (.iload_n 1, 1) := by decide +kernel
theorem dX11_next_249 : decode cX11_next 249 = .ok (.bipush 60, 2) := by decide +kernel
theorem dX11_next_251 : decode cX11_next 251 = .ok (.if_icmp .eq 15, 3) := by decide +kernel
theorem dX11_next_254 : decode cX11_next 254 = .ok (.iload_n 1, 1) := by decide +kernel
theorem dX11_next_255 : decode cX11_next 255 = .ok (.bipush 61, 2) := by decide +kernel
theorem dX11_next_257 : decode cX11_next 257 = .ok (.if_icmp .eq 9, 3) := by decide +kernel
theorem dX11_next_260 : decode cX11_next 260 = .ok (.iload_n 1, 1) := by decide +kernel
theorem dX11_next_261 : decode cX11_next 261 = .ok (.bipush 62, 2) := by decide +kernel
theorem dX11_next_263 : decode cX11_next 263 = .ok (.if_icmp .ne 7, 3) := by decide +kernel
theorem dX11_next_266 : decode cX11_next 266 = .ok (.iconst 3, 1) := by decide +kernel
theorem dX11_next_267 : decode cX11_next 267 = .ok (.goto 4, 3) := by decide +kernel
theorem dX11_next_270 : decode cX11_next 270 = .ok (.iconst 4, 1) := by decide +kernel
theorem dX11_next_271 : decode cX11_next 271 = .ok (.putfield 223, 3) := by decide +kernel
theorem dX11_next_274 : decode cX11_next 274 = .ok (.return_, 1) := by decide +kernel
theorem dX11_isWord_0 : decode cX11_isWord 0 = .ok (.aload_n 0, 1) := by decide +kernel
theorem dX11_isWord_1 : decode cX11_isWord 1 = .ok (.getfield 223, 3) := by decide +kernel
theorem dX11_isWord_4 : decode cX11_isWord 4 = .ok (.iconst 1, 1) := by decide +kernel
theorem dX11_isWord_5 : decode cX11_isWord 5 = .ok (.if_icmp .ne 23, 3) := by decide +kernel
theorem dX11_isWord_8 : decode cX11_isWord 8 = .ok (.aload_n 0, 1) := by decide +kernel
theorem dX11_isWord_9 : decode cX11_isWord 9 = .ok (.getfield 213, 3) := by decide +kernel
theorem dX11_isWord_12 : decode cX11_isWord 12 = .ok (.aload_n 0, 1) := by decide +kernel
theorem dX11_isWord_13 : decode cX11_isWord 13 = .ok (.getfield 216, 3) := by decide +kernel
theorem dX11_isWord_16 : decode cX11_isWord 16 = .ok (.isub, 1) := by decide +kernel
theorem dX11_isWord_17 : decode cX11_isWord 17 = .ok (.aload_n 1, 1) := by decide +kernel
theorem dX11_isWord_18 : decode cX11_isWord 18 = .ok (.invokevirtual 235, 3) := by decide +kernel
theorem dX11_isWord_21 : decode cX11_isWord 21 = .ok (.if_icmp .ne 7, 3) := by decide +kernel
theorem dX11_isWord_24 : decode cX11_isWord 24 = .ok (.iconst 1, 1) := by decide +kernel
theorem dX11_isWord_25 : decode cX11_isWord 25 = .ok (.goto 4, 3) := by decide +kernel
theorem dX11_isWord_28 : decode cX11_isWord 28 = .ok (.iconst 0, 1) := by decide +kernel
theorem dX11_isWord_29 : decode cX11_isWord 29 = .ok (.istore_n 2, 1) := by decide +kernel
theorem dX11_isWord_30 : decode cX11_isWord 30 = .ok (.iconst 0, 1) := by decide +kernel
theorem dX11_isWord_31 : decode cX11_isWord 31 = .ok (.istore_n 3, 1) := by decide +kernel
theorem dX11_isWord_32 : decode cX11_isWord 32 = .ok (.iload_n 3, 1) := by decide +kernel
theorem dX11_isWord_33 : decode cX11_isWord 33 = .ok (.aload_n 1, 1) := by decide +kernel
theorem dX11_isWord_34 : decode cX11_isWord 34 = .ok (.invokevirtual 235, 3) := by decide +kernel
theorem dX11_isWord_37 : decode cX11_isWord 37 = .ok (.if_icmp .ge 37, 3) := by decide +kernel
theorem dX11_isWord_40 : decode cX11_isWord 40 = .ok (.iload_n 2, 1) := by decide +kernel
theorem dX11_isWord_41 : decode cX11_isWord 41 = .ok (.ifCond .eq 33, 3) := by decide +kernel
theorem dX11_isWord_44 : decode cX11_isWord 44 = .ok (.aload_n 0, 1) := by decide +kernel
theorem dX11_isWord_45 : decode cX11_isWord 45 = .ok (.aload_n 0, 1) := by decide +kernel
theorem dX11_isWord_46 : decode cX11_isWord 46 = .ok (.getfield 216, 3) := by decide +kernel
theorem dX11_isWord_49 : decode cX11_isWord 49 = .ok (.iload_n 3, 1) := by decide +kernel
theorem dX11_isWord_50 : decode cX11_isWord 50 = .ok (.iadd, 1) := by decide +kernel
theorem dX11_isWord_51 : decode cX11_isWord 51 = .ok (.invokevirtual 219, 3) := by decide +kernel
theorem dX11_isWord_54 : decode cX11_isWord 54 = .ok (.aload_n 1, 1) := by decide +kernel
theorem dX11_isWord_55 : decode cX11_isWord 55 = .ok (.iload_n 3, 1) := by decide +kernel
theorem dX11_isWord_56 : decode cX11_isWord 56 = .ok (.invokevirtual 241, 3) := by decide +kernel
theorem dX11_isWord_59 : decode cX11_isWord 59 = .ok (.if_icmp .ne 7, 3) := by decide +kernel
theorem dX11_isWord_62 : decode cX11_isWord 62 = .ok (.iconst 1, 1) := by decide +kernel
theorem dX11_isWord_63 : decode cX11_isWord 63 = .ok (.goto 4, 3) := by decide +kernel
theorem dX11_isWord_66 : decode cX11_isWord 66 = .ok (.iconst 0, 1) := by decide +kernel
theorem dX11_isWord_67 : decode cX11_isWord 67 = .ok (.istore_n 2, 1) := by decide +kernel
theorem dX11_isWord_68 : decode cX11_isWord 68 = .ok (.iinc 3 1, 3) := by decide +kernel
theorem dX11_isWord_71 : decode cX11_isWord 71 = .ok (.goto (-39), 3) := by decide +kernel
theorem dX11_isWord_74 : decode cX11_isWord 74 = .ok (.iload_n 2, 1) := by decide +kernel
theorem dX11_isWord_75 : decode cX11_isWord 75 = .ok (.ireturn, 1) := by decide +kernel
theorem dX11_isSign_0 : decode cX11_isSign 0 = .ok (.aload_n 0, 1) := by decide +kernel
theorem dX11_isSign_1 : decode cX11_isSign 1 = .ok (.getfield 223, 3) := by decide +kernel
theorem dX11_isSign_4 : decode cX11_isSign 4 = .ok (.iconst 3, 1) := by decide +kernel
theorem dX11_isSign_5 : decode cX11_isSign 5 = .ok (.if_icmp .ne 19, 3) := by decide +kernel
theorem dX11_isSign_8 : decode cX11_isSign 8 = .ok (.aload_n 0, 1) := by decide +kernel
theorem dX11_isSign_9 : decode cX11_isSign 9 = .ok (.aload_n 0, 1) := by decide +kernel
theorem dX11_isSign_10 : decode cX11_isSign 10 = .ok (.getfield 216, 3) := by decide +kernel
theorem dX11_isSign_13 : decode cX11_isSign 13 = .ok (.invokevirtual 219, 3) := by decide +kernel
theorem dX11_isSign_16 : decode cX11_isSign 16 = .ok (.iload_n 1, 1) := by decide +kernel
theorem dX11_isSign_17 : decode cX11_isSign 17 = .ok (.if_icmp .ne 7, 3) := by decide +kernel
theorem dX11_isSign_20 : decode cX11_isSign 20 = .ok (.iconst 1, 1) := by decide +kernel
theorem dX11_isSign_21 : decode cX11_isSign 21 = .ok (.goto 4, 3) := by decide +kernel
theorem dX11_isSign_24 : decode cX11_isSign 24 = .ok (.iconst 0, 1) := by decide +kernel
theorem dX11_isSign_25 : decode cX11_isSign 25 = .ok (.ireturn, 1) := by decide +kernel
theorem dX11_wrong_0 : decode cX11_wrong 0 = .ok (.aload_n 0, 1) := by decide +kernel
theorem dX11_wrong_1 : decode cX11_wrong 1 = .ok (.getfield 245, 3) := by decide +kernel
theorem dX11_wrong_4 : decode cX11_wrong 4 = .ok (.ifCond .ne 16, 3) := by decide +kernel
theorem dX11_wrong_7 : decode cX11_wrong 7 = .ok (.aload_n 0, 1) := by decide +kernel
theorem dX11_wrong_8 : decode cX11_wrong 8 = .ok (.iload_n 1, 1) := by decide +kernel
theorem dX11_wrong_9 : decode cX11_wrong 9 = .ok (.putfield 245, 3) := by decide +kernel
theorem dX11_wrong_12 : decode cX11_wrong 12 = .ok (.aload_n 0, 1) := by decide +kernel
theorem dX11_wrong_13 : decode cX11_wrong 13 = .ok (.aload_n 0, 1) := by decide +kernel
theorem dX11_wrong_14 : decode cX11_wrong 14 = .ok (.getfield 216, 3) := by decide +kernel
theorem dX11_wrong_17 : decode cX11_wrong 17 = .ok (.putfield 91, 3) := by decide +kernel
theorem dX11_wrong_20 : decode cX11_wrong 20 = .ok (.iconst 0, 1) := by decide +kernel
theorem dX11_wrong_21 : decode cX11_wrong 21 = .ok (.ireturn, 1) := by decide +kernel
theorem dX11_factHere_0 : decode cX11_factHere 0 = .ok (.iconst 0, 1) := by decide +kernel
theorem dX11_factHere_1 : decode cX11_factHere 1 = .ok (.istore_n 1, 1) := by decide +kernel
theorem dX11_factHere_2 : decode cX11_factHere 2 = .ok (.iload_n 1, 1) := by decide +kernel
theorem dX11_factHere_3 : decode cX11_factHere 3 = .ok (.bipush 7, 2) := by decide +kernel
theorem dX11_factHere_5 : decode cX11_factHere 5 = .ok (.if_icmp .ge 22, 3) := by decide +kernel
theorem dX11_factHere_8 : decode cX11_factHere 8 = .ok (.aload_n 0, 1) := by decide +kernel
theorem dX11_factHere_9 : decode cX11_factHere 9 = .ok (.iload_n 1, 1) := by decide +kernel
theorem dX11_factHere_10 : decode cX11_factHere 10 = .ok (.invokestatic 248, 3) := by decide +kernel
theorem dX11_factHere_13 : decode cX11_factHere 13 = .ok (.invokevirtual 252, 3) := by decide +kernel
theorem dX11_factHere_16 : decode cX11_factHere 16 = .ok (.ifCond .eq 5, 3) := by decide +kernel
theorem dX11_factHere_19 : decode cX11_factHere 19 = .ok (.iload_n 1, 1) := by decide +kernel
theorem dX11_factHere_20 : decode cX11_factHere 20 = .ok (.ireturn, 1) := by decide +kernel
theorem dX11_factHere_21 : decode cX11_factHere 21 = .ok (.iinc 1 1, 3) := by decide +kernel
theorem dX11_factHere_24 : decode cX11_factHere 24 = .ok (.goto (-22), 3) := by decide +kernel
theorem dX11_factHere_27 : decode cX11_factHere 27 = .ok (.iconst (-1), 1) := by decide +kernel
theorem dX11_factHere_28 : decode cX11_factHere 28 = .ok (.ireturn, 1) := by decide +kernel
theorem dX11_sortHere_0 : decode cX11_sortHere 0 = .ok (.iconst 0, 1) := by decide +kernel
theorem dX11_sortHere_1 : decode cX11_sortHere 1 = .ok (.istore_n 1, 1) := by decide +kernel
theorem dX11_sortHere_2 : decode cX11_sortHere 2 = .ok (.iload_n 1, 1) := by decide +kernel
theorem dX11_sortHere_3 : decode cX11_sortHere 3 = .ok (.bipush 9, 2) := by decide +kernel
theorem dX11_sortHere_5 : decode cX11_sortHere 5 = .ok (.if_icmp .ge 22, 3) := by decide +kernel
theorem dX11_sortHere_8 : decode cX11_sortHere 8 = .ok (.aload_n 0, 1) := by decide +kernel
theorem dX11_sortHere_9 : decode cX11_sortHere 9 = .ok (.iload_n 1, 1) := by decide +kernel
theorem dX11_sortHere_10 : decode cX11_sortHere 10 = .ok (.invokestatic 256, 3) := by decide +kernel
theorem dX11_sortHere_13 : decode cX11_sortHere 13 = .ok (.invokevirtual 252, 3) := by decide +kernel
theorem dX11_sortHere_16 : decode cX11_sortHere 16 = .ok (.ifCond .eq 5, 3) := by decide +kernel
theorem dX11_sortHere_19 : decode cX11_sortHere 19 = .ok (.iload_n 1, 1) := by decide +kernel
theorem dX11_sortHere_20 : decode cX11_sortHere 20 = .ok (.ireturn, 1) := by decide +kernel
theorem dX11_sortHere_21 : decode cX11_sortHere 21 = .ok (.iinc 1 1, 3) := by decide +kernel
theorem dX11_sortHere_24 : decode cX11_sortHere 24 = .ok (.goto (-22), 3) := by decide +kernel
theorem dX11_sortHere_27 : decode cX11_sortHere 27 = .ok (.iconst (-1), 1) := by decide +kernel
theorem dX11_sortHere_28 : decode cX11_sortHere 28 = .ok (.ireturn, 1) := by decide +kernel
theorem dX11_takesNumber_0 : decode cX11_takesNumber 0 = .ok (.aload_n 0, 1) := by decide +kernel
theorem dX11_takesNumber_1 : decode cX11_takesNumber 1 = .ok (.getfield 223, 3) := by decide +kernel
theorem dX11_takesNumber_4 : decode cX11_takesNumber 4 = .ok (.iconst 2, 1) := by decide +kernel
theorem dX11_takesNumber_5 : decode cX11_takesNumber 5 = .ok (.if_icmp .eq 9, 3) := by decide +kernel
theorem dX11_takesNumber_8 : decode cX11_takesNumber 8 = .ok (.aload_n 0, 1) := by decide +kernel
theorem dX11_takesNumber_9 : decode cX11_takesNumber 9 = .ok (.iconst 1, 1) := by decide +kernel
theorem dX11_takesNumber_10 : decode cX11_takesNumber 10 = .ok (.invokevirtual 259, 3) := by decide +kernel
theorem dX11_takesNumber_13 : decode cX11_takesNumber 13 = .ok (.ireturn, 1) := by decide +kernel
theorem dX11_takesNumber_14 : decode cX11_takesNumber 14 = .ok (.aload_n 0, 1) := by decide +kernel
theorem dX11_takesNumber_15 : decode cX11_takesNumber 15 = .ok (.getfield 66, 3) := by decide +kernel
theorem dX11_takesNumber_18 : decode cX11_takesNumber 18 = .ok (.iload_n 1, 1) := by decide +kernel
theorem dX11_takesNumber_19 : decode cX11_takesNumber 19 = .ok (.aload_n 0, 1) := by decide +kernel
theorem dX11_takesNumber_20 : decode cX11_takesNumber 20 = .ok (.getfield 232, 3) := by decide +kernel
theorem dX11_takesNumber_23 : decode cX11_takesNumber 23 = .ok (.iastore, 1) := by decide +kernel
theorem dX11_takesNumber_24 : decode cX11_takesNumber 24 = .ok (.aload_n 0, 1) := by decide +kernel
theorem dX11_takesNumber_25 : decode cX11_takesNumber 25 = .ok (.invokevirtual 262, 3) := by decide +kernel
theorem dX11_takesNumber_28 : decode cX11_takesNumber 28 = .ok (.iconst 1, 1) := by decide +kernel
theorem dX11_takesNumber_29 : decode cX11_takesNumber 29 = .ok (.ireturn, 1) := by decide +kernel
theorem dX11_takesSign_0 : decode cX11_takesSign 0 = .ok (.aload_n 0, 1) := by decide +kernel
theorem dX11_takesSign_1 : decode cX11_takesSign 1 = .ok (.iload_n 1, 1) := by decide +kernel
theorem dX11_takesSign_2 : decode cX11_takesSign 2 = .ok (.invokevirtual 265, 3) := by decide +kernel
theorem dX11_takesSign_5 : decode cX11_takesSign 5 = .ok (.ifCond .ne 9, 3) := by decide +kernel
theorem dX11_takesSign_8 : decode cX11_takesSign 8 = .ok (.aload_n 0, 1) := by decide +kernel
theorem dX11_takesSign_9 : decode cX11_takesSign 9 = .ok (.iconst 1, 1) := by decide +kernel
theorem dX11_takesSign_10 : decode cX11_takesSign 10 = .ok (.invokevirtual 259, 3) := by decide +kernel
theorem dX11_takesSign_13 : decode cX11_takesSign 13 = .ok (.ireturn, 1) := by decide +kernel
theorem dX11_takesSign_14 : decode cX11_takesSign 14 = .ok (.aload_n 0, 1) := by decide +kernel
theorem dX11_takesSign_15 : decode cX11_takesSign 15 = .ok (.invokevirtual 262, 3) := by decide +kernel
theorem dX11_takesSign_18 : decode cX11_takesSign 18 = .ok (.iconst 1, 1) := by decide +kernel
theorem dX11_takesSign_19 : decode cX11_takesSign 19 = .ok (.ireturn, 1) := by decide +kernel
theorem dX11_takesTerms_0 : decode cX11_takesTerms 0 = .ok (.aload_n 0, 1) := by decide +kernel
theorem dX11_takesTerms_1 : decode cX11_takesTerms 1 = .ok (.getfield 72, 3) := by decide +kernel
theorem dX11_takesTerms_4 : decode cX11_takesTerms 4 = .ok (.iload_n 1, 1) := by decide +kernel
theorem dX11_takesTerms_5 : decode cX11_takesTerms 5 = .ok (.iconst 0, 1) := by decide +kernel
theorem dX11_takesTerms_6 : decode cX11_takesTerms 6 = .ok (.iastore, 1) := by decide +kernel
theorem dX11_takesTerms_7 : decode cX11_takesTerms 7 = .ok (.iconst 1, 1) := by decide +kernel
theorem dX11_takesTerms_8 : decode cX11_takesTerms 8 = .ok (.istore_n 2, 1) := by decide +kernel
theorem dX11_takesTerms_9 : decode cX11_takesTerms 9 = .ok (.iload_n 2, 1) := by decide +kernel
theorem dX11_takesTerms_10 : decode cX11_takesTerms 10 = .ok (.ifCond .eq 111, 3) := by decide +kernel
theorem dX11_takesTerms_13 : decode cX11_takesTerms 13 = .ok (.aload_n 0, 1) := by decide +kernel
theorem dX11_takesTerms_14 : decode cX11_takesTerms 14 = .ok (.ldc_w 268, 3) := by decide +kernel
theorem dX11_takesTerms_17 : decode cX11_takesTerms 17 = .ok (.invokevirtual 252, 3) := by decide +kernel
theorem dX11_takesTerms_20 : decode cX11_takesTerms 20 = .ok (.ifCond .ne 21, 3) := by decide +kernel
theorem dX11_takesTerms_23 : decode cX11_takesTerms 23 = .ok (.aload_n 0, 1) := by decide +kernel
theorem dX11_takesTerms_24 : decode cX11_takesTerms 24 = .ok (.ldc_w 270, 3) := by decide +kernel
theorem dX11_takesTerms_27 : decode cX11_takesTerms 27 = .ok (.invokevirtual 252, 3) := by decide +kernel
theorem dX11_takesTerms_30 : decode cX11_takesTerms 30 = .ok (.ifCond .ne 11, 3) := by decide +kernel
theorem dX11_takesTerms_33 : decode cX11_takesTerms 33 = .ok (.aload_n 0, 1) := by decide +kernel
theorem dX11_takesTerms_34 : decode cX11_takesTerms 34 = .ok (.invokevirtual 272, 3) := by decide +kernel
theorem dX11_takesTerms_37 : decode cX11_takesTerms 37 = .ok (.iconst (-1), 1) := by decide +kernel
theorem dX11_takesTerms_38 : decode cX11_takesTerms 38 = .ok (.if_icmp .eq 7, 3) := by decide +kernel
theorem dX11_takesTerms_41 : decode cX11_takesTerms 41 = .ok (.iconst 1, 1) := by decide +kernel
theorem dX11_takesTerms_42 : decode cX11_takesTerms 42 = .ok (.goto 4, 3) := by decide +kernel
theorem dX11_takesTerms_45 : decode cX11_takesTerms 45 = .ok (.iconst 0, 1) := by decide +kernel
theorem dX11_takesTerms_46 : decode cX11_takesTerms 46 = .ok (.istore_n 3, 1) := by decide +kernel
theorem dX11_takesTerms_47 : decode cX11_takesTerms 47 = .ok (.iload_n 3, 1) := by decide +kernel
theorem dX11_takesTerms_48 : decode cX11_takesTerms 48 = .ok (.ifCond .ne 9, 3) := by decide +kernel
theorem dX11_takesTerms_51 : decode cX11_takesTerms 51 = .ok (.aload_n 0, 1) := by decide +kernel
theorem dX11_takesTerms_52 : decode cX11_takesTerms 52 = .ok (.iconst 1, 1) := by decide +kernel
theorem dX11_takesTerms_53 : decode cX11_takesTerms 53 = .ok (.invokevirtual 259, 3) := by decide +kernel
theorem dX11_takesTerms_56 : decode cX11_takesTerms 56 = .ok (.ireturn, 1) := by decide +kernel
theorem dX11_takesTerms_57 : decode cX11_takesTerms 57 = .ok (.aload_n 0, 1) := by decide +kernel
theorem dX11_takesTerms_58 : decode cX11_takesTerms 58 = .ok (.getfield 72, 3) := by decide +kernel
theorem dX11_takesTerms_61 : decode cX11_takesTerms 61 = .ok (.iload_n 1, 1) := by decide +kernel
theorem dX11_takesTerms_62 : decode cX11_takesTerms 62 = .ok (.iaload, 1) := by decide +kernel
theorem dX11_takesTerms_63 : decode cX11_takesTerms 63 = .ok (.iconst 4, 1) := by decide +kernel
theorem dX11_takesTerms_64 : decode cX11_takesTerms 64 = .ok (.if_icmp .ne 9, 3) := by decide +kernel
theorem dX11_takesTerms_67 : decode cX11_takesTerms 67 = .ok (.aload_n 0, 1) := by decide +kernel
theorem dX11_takesTerms_68 : decode cX11_takesTerms 68 = .ok (.iconst 3, 1) := by decide +kernel
theorem dX11_takesTerms_69 : decode cX11_takesTerms 69 = .ok (.invokevirtual 259, 3) := by decide +kernel
theorem dX11_takesTerms_72 : decode cX11_takesTerms 72 = .ok (.ireturn, 1) := by decide +kernel
theorem dX11_takesTerms_73 : decode cX11_takesTerms 73 = .ok (.aload_n 0, 1) := by decide +kernel
theorem dX11_takesTerms_74 : decode cX11_takesTerms 74 = .ok (.iconst 4, 1) := by decide +kernel
theorem dX11_takesTerms_75 : decode cX11_takesTerms 75 = .ok (.iload_n 1, 1) := by decide +kernel
theorem dX11_takesTerms_76 : decode cX11_takesTerms 76 = .ok (.imul, 1) := by decide +kernel
theorem dX11_takesTerms_77 : decode cX11_takesTerms 77 = .ok (.aload_n 0, 1) := by decide +kernel
theorem dX11_takesTerms_78 : decode cX11_takesTerms 78 = .ok (.getfield 72, 3) := by decide +kernel
theorem dX11_takesTerms_81 : decode cX11_takesTerms 81 = .ok (.iload_n 1, 1) := by decide +kernel
theorem dX11_takesTerms_82 : decode cX11_takesTerms 82 = .ok (.iaload, 1) := by decide +kernel
theorem dX11_takesTerms_83 : decode cX11_takesTerms 83 = .ok (.iadd, 1) := by decide +kernel
theorem dX11_takesTerms_84 : decode cX11_takesTerms 84 = .ok (.invokevirtual 275, 3) := by decide +kernel
theorem dX11_takesTerms_87 : decode cX11_takesTerms 87 = .ok (.ifCond .ne 5, 3) := by decide +kernel
theorem dX11_takesTerms_90 : decode cX11_takesTerms 90 = .ok (.iconst 0, 1) := by decide +kernel
theorem dX11_takesTerms_91 : decode cX11_takesTerms 91 = .ok (.ireturn, 1) := by decide +kernel
theorem dX11_takesTerms_92 : decode cX11_takesTerms 92 = .ok (.aload_n 0, 1) := by decide +kernel
theorem dX11_takesTerms_93 : decode cX11_takesTerms 93 = .ok (.getfield 72, 3) := by decide +kernel
theorem dX11_takesTerms_96 : decode cX11_takesTerms 96 = .ok (.iload_n 1, 1) := by decide +kernel
theorem dX11_takesTerms_97 : decode cX11_takesTerms 97 = .ok (.dup2, 1) := by decide +kernel
theorem dX11_takesTerms_98 : decode cX11_takesTerms 98 = .ok (.iaload, 1) := by decide +kernel
theorem dX11_takesTerms_99 : decode cX11_takesTerms 99 = .ok (.iconst 1, 1) := by decide +kernel
theorem dX11_takesTerms_100 : decode cX11_takesTerms 100 = .ok (.iadd, 1) := by decide +kernel
theorem dX11_takesTerms_101 : decode cX11_takesTerms 101 = .ok (.iastore, 1) := by decide +kernel
theorem dX11_takesTerms_102 : decode cX11_takesTerms 102 = .ok (.aload_n 0, 1) := by decide +kernel
theorem dX11_takesTerms_103 : decode cX11_takesTerms 103 = .ok (.ldc_w 278, 3) := by decide +kernel
theorem dX11_takesTerms_106 : decode cX11_takesTerms 106 = .ok (.invokevirtual 252, 3) := by decide +kernel
theorem dX11_takesTerms_109 : decode cX11_takesTerms 109 = .ok (.istore_n 2, 1) := by decide +kernel
theorem dX11_takesTerms_110 : decode cX11_takesTerms 110 = .ok (.iload_n 2, 1) := by decide +kernel
theorem dX11_takesTerms_111 : decode cX11_takesTerms 111 = .ok (.ifCond .eq 7, 3) := by decide +kernel
theorem dX11_takesTerms_114 : decode cX11_takesTerms 114 = .ok (.aload_n 0, 1) := by decide +kernel
theorem dX11_takesTerms_115 : decode cX11_takesTerms 115 = .ok (.invokevirtual 262, 3) := by decide +kernel
theorem dX11_takesTerms_118 : decode cX11_takesTerms 118 = .ok (.goto (-109), 3) := by decide +kernel
theorem dX11_takesTerms_121 : decode cX11_takesTerms 121 = .ok (.iconst 1, 1) := by decide +kernel
theorem dX11_takesTerms_122 : decode cX11_takesTerms 122 = .ok (.ireturn, 1) := by decide +kernel
theorem dX11_takesTerm_0 : decode cX11_takesTerm 0 = .ok (.aload_n 0, 1) := by decide +kernel
theorem dX11_takesTerm_1 : decode cX11_takesTerm 1 = .ok (.getfield 75, 3) := by decide +kernel
theorem dX11_takesTerm_4 : decode cX11_takesTerm 4 = .ok (.iload_n 1, 1) := by decide +kernel
theorem dX11_takesTerm_5 : decode cX11_takesTerm 5 = .ok (.aload_n 0, 1) := by decide +kernel
theorem dX11_takesTerm_6 : decode cX11_takesTerm 6 = .ok (.ldc_w 268, 3) := by decide +kernel
theorem dX11_takesTerm_9 : decode cX11_takesTerm 9 = .ok (.invokevirtual 252, 3) := by decide +kernel
theorem dX11_takesTerm_12 : decode cX11_takesTerm 12 = .ok (.bastore, 1) := by decide +kernel
theorem dX11_takesTerm_13 : decode cX11_takesTerm 13 = .ok (.aload_n 0, 1) := by decide +kernel
theorem dX11_takesTerm_14 : decode cX11_takesTerm 14 = .ok (.getfield 75, 3) := by decide +kernel
theorem dX11_takesTerm_17 : decode cX11_takesTerm 17 = .ok (.iload_n 1, 1) := by decide +kernel
theorem dX11_takesTerm_18 : decode cX11_takesTerm 18 = .ok (.baload, 1) := by decide +kernel
theorem dX11_takesTerm_19 : decode cX11_takesTerm 19 = .ok (.ifCond .eq 7, 3) := by decide +kernel
theorem dX11_takesTerm_22 : decode cX11_takesTerm 22 = .ok (.aload_n 0, 1) := by decide +kernel
theorem dX11_takesTerm_23 : decode cX11_takesTerm 23 = .ok (.invokevirtual 262, 3) := by decide +kernel
theorem dX11_takesTerm_26 : decode cX11_takesTerm 26 = .ok (.aload_n 0, 1) := by decide +kernel
theorem dX11_takesTerm_27 : decode cX11_takesTerm 27 = .ok (.ldc_w 270, 3) := by decide +kernel
theorem dX11_takesTerm_30 : decode cX11_takesTerm 30 = .ok (.invokevirtual 252, 3) := by decide +kernel
theorem dX11_takesTerm_33 : decode cX11_takesTerm 33 = .ok (.ifCond .eq 60, 3) := by decide +kernel
theorem dX11_takesTerm_36 : decode cX11_takesTerm 36 = .ok (.aload_n 0, 1) := by decide +kernel
theorem dX11_takesTerm_37 : decode cX11_takesTerm 37 = .ok (.invokevirtual 262, 3) := by decide +kernel
theorem dX11_takesTerm_40 : decode cX11_takesTerm 40 = .ok (.aload_n 0, 1) := by decide +kernel
theorem dX11_takesTerm_41 : decode cX11_takesTerm 41 = .ok (.getfield 223, 3) := by decide +kernel
theorem dX11_takesTerm_44 : decode cX11_takesTerm 44 = .ok (.iconst 2, 1) := by decide +kernel
theorem dX11_takesTerm_45 : decode cX11_takesTerm 45 = .ok (.if_icmp .eq 9, 3) := by decide +kernel
theorem dX11_takesTerm_48 : decode cX11_takesTerm 48 = .ok (.aload_n 0, 1) := by decide +kernel
theorem dX11_takesTerm_49 : decode cX11_takesTerm 49 = .ok (.iconst 1, 1) := by decide +kernel
theorem dX11_takesTerm_50 : decode cX11_takesTerm 50 = .ok (.invokevirtual 259, 3) := by decide +kernel
theorem dX11_takesTerm_53 : decode cX11_takesTerm 53 = .ok (.ireturn, 1) := by decide +kernel
theorem dX11_takesTerm_54 : decode cX11_takesTerm 54 = .ok (.aload_n 0, 1) := by decide +kernel
theorem dX11_takesTerm_55 : decode cX11_takesTerm 55 = .ok (.getfield 232, 3) := by decide +kernel
theorem dX11_takesTerm_58 : decode cX11_takesTerm 58 = .ok (.bipush 7, 2) := by decide +kernel
theorem dX11_takesTerm_60 : decode cX11_takesTerm 60 = .ok (.if_icmp .le 9, 3) := by decide +kernel
theorem dX11_takesTerm_63 : decode cX11_takesTerm 63 = .ok (.aload_n 0, 1) := by decide +kernel
theorem dX11_takesTerm_64 : decode cX11_takesTerm 64 = .ok (.iconst 2, 1) := by decide +kernel
theorem dX11_takesTerm_65 : decode cX11_takesTerm 65 = .ok (.invokevirtual 259, 3) := by decide +kernel
theorem dX11_takesTerm_68 : decode cX11_takesTerm 68 = .ok (.ireturn, 1) := by decide +kernel
theorem dX11_takesTerm_69 : decode cX11_takesTerm 69 = .ok (.aload_n 0, 1) := by decide +kernel
theorem dX11_takesTerm_70 : decode cX11_takesTerm 70 = .ok (.getfield 78, 3) := by decide +kernel
theorem dX11_takesTerm_73 : decode cX11_takesTerm 73 = .ok (.iload_n 1, 1) := by decide +kernel
theorem dX11_takesTerm_74 : decode cX11_takesTerm 74 = .ok (.bipush 7, 2) := by decide +kernel
theorem dX11_takesTerm_76 : decode cX11_takesTerm 76 = .ok (.iastore, 1) := by decide +kernel
theorem dX11_takesTerm_77 : decode cX11_takesTerm 77 = .ok (.aload_n 0, 1) := by decide +kernel
theorem dX11_takesTerm_78 : decode cX11_takesTerm 78 = .ok (.getfield 84, 3) := by decide +kernel
theorem dX11_takesTerm_81 : decode cX11_takesTerm 81 = .ok (.iload_n 1, 1) := by decide +kernel
theorem dX11_takesTerm_82 : decode cX11_takesTerm 82 = .ok (.aload_n 0, 1) := by decide +kernel
theorem dX11_takesTerm_83 : decode cX11_takesTerm 83 = .ok (.getfield 232, 3) := by decide +kernel
theorem dX11_takesTerm_86 : decode cX11_takesTerm 86 = .ok (.iastore, 1) := by decide +kernel
theorem dX11_takesTerm_87 : decode cX11_takesTerm 87 = .ok (.aload_n 0, 1) := by decide +kernel
theorem dX11_takesTerm_88 : decode cX11_takesTerm 88 = .ok (.invokevirtual 262, 3) := by decide +kernel
theorem dX11_takesTerm_91 : decode cX11_takesTerm 91 = .ok (.iconst 1, 1) := by decide +kernel
theorem dX11_takesTerm_92 : decode cX11_takesTerm 92 = .ok (.ireturn, 1) := by decide +kernel
theorem dX11_takesTerm_93 : decode cX11_takesTerm 93 = .ok (.aload_n 0, 1) := by decide +kernel
theorem dX11_takesTerm_94 : decode cX11_takesTerm 94 = .ok (.getfield 78, 3) := by decide +kernel
theorem dX11_takesTerm_97 : decode cX11_takesTerm 97 = .ok (.iload_n 1, 1) := by decide +kernel
theorem dX11_takesTerm_98 : decode cX11_takesTerm 98 = .ok (.aload_n 0, 1) := by decide +kernel
theorem dX11_takesTerm_99 : decode cX11_takesTerm 99 = .ok (.invokevirtual 272, 3) := by decide +kernel
theorem dX11_takesTerm_102 : decode cX11_takesTerm 102 = .ok (.iastore, 1) := by decide +kernel
theorem dX11_takesTerm_103 : decode cX11_takesTerm 103 = .ok (.aload_n 0, 1) := by decide +kernel
theorem dX11_takesTerm_104 : decode cX11_takesTerm 104 = .ok (.getfield 78, 3) := by decide +kernel
theorem dX11_takesTerm_107 : decode cX11_takesTerm 107 = .ok (.iload_n 1, 1) := by decide +kernel
theorem dX11_takesTerm_108 : decode cX11_takesTerm 108 = .ok (.iaload, 1) := by decide +kernel
theorem dX11_takesTerm_109 : decode cX11_takesTerm 109 = .ok (.iconst (-1), 1) := by decide +kernel
theorem dX11_takesTerm_110 : decode cX11_takesTerm 110 = .ok (.if_icmp .ne 9, 3) := by decide +kernel
theorem dX11_takesTerm_113 : decode cX11_takesTerm 113 = .ok (.aload_n 0, 1) := by decide +kernel
theorem dX11_takesTerm_114 : decode cX11_takesTerm 114 = .ok (.iconst 1, 1) := by decide +kernel
theorem dX11_takesTerm_115 : decode cX11_takesTerm 115 = .ok (.invokevirtual 259, 3) := by decide +kernel
theorem dX11_takesTerm_118 : decode cX11_takesTerm 118 = .ok (.ireturn, 1) := by decide +kernel
theorem dX11_takesTerm_119 : decode cX11_takesTerm 119 = .ok (.aload_n 0, 1) := by decide +kernel
theorem dX11_takesTerm_120 : decode cX11_takesTerm 120 = .ok (.invokevirtual 262, 3) := by decide +kernel
theorem dX11_takesTerm_123 : decode cX11_takesTerm 123 = .ok (.aload_n 0, 1) := by decide +kernel
theorem dX11_takesTerm_124 : decode cX11_takesTerm 124 = .ok (.bipush 60, 2) := by decide +kernel
theorem dX11_takesTerm_126 : decode cX11_takesTerm 126 = .ok (.invokevirtual 265, 3) := by decide +kernel
theorem dX11_takesTerm_129 : decode cX11_takesTerm 129 = .ok (.ifCond .ne 27, 3) := by decide +kernel
theorem dX11_takesTerm_132 : decode cX11_takesTerm 132 = .ok (.aload_n 0, 1) := by decide +kernel
theorem dX11_takesTerm_133 : decode cX11_takesTerm 133 = .ok (.bipush 61, 2) := by decide +kernel
theorem dX11_takesTerm_135 : decode cX11_takesTerm 135 = .ok (.invokevirtual 265, 3) := by decide +kernel
theorem dX11_takesTerm_138 : decode cX11_takesTerm 138 = .ok (.ifCond .ne 18, 3) := by decide +kernel
theorem dX11_takesTerm_141 : decode cX11_takesTerm 141 = .ok (.aload_n 0, 1) := by decide +kernel
theorem dX11_takesTerm_142 : decode cX11_takesTerm 142 = .ok (.bipush 62, 2) := by decide +kernel
theorem dX11_takesTerm_144 : decode cX11_takesTerm 144 = .ok (.invokevirtual 265, 3) := by decide +kernel
theorem dX11_takesTerm_147 : decode cX11_takesTerm 147 = .ok (.ifCond .ne 9, 3) := by decide +kernel
theorem dX11_takesTerm_150 : decode cX11_takesTerm 150 = .ok (.aload_n 0, 1) := by decide +kernel
theorem dX11_takesTerm_151 : decode cX11_takesTerm 151 = .ok (.iconst 1, 1) := by decide +kernel
theorem dX11_takesTerm_152 : decode cX11_takesTerm 152 = .ok (.invokevirtual 259, 3) := by decide +kernel
theorem dX11_takesTerm_155 : decode cX11_takesTerm 155 = .ok (.ireturn, 1) := by decide +kernel
theorem dX11_takesTerm_156 : decode cX11_takesTerm 156 = .ok (.aload_n 0, 1) := by decide +kernel
theorem dX11_takesTerm_157 : decode cX11_takesTerm 157 = .ok (.getfield 81, 3) := by decide +kernel
theorem dX11_takesTerm_160 : decode cX11_takesTerm 160 = .ok (.iload_n 1, 1) := by decide +kernel
theorem dX11_takesTerm_161 : decode cX11_takesTerm 161 = .ok (.aload_n 0, 1) := by decide +kernel
theorem dX11_takesTerm_162 : decode cX11_takesTerm 162 = .ok (.bipush 60, 2) := by decide +kernel
theorem dX11_takesTerm_164 : decode cX11_takesTerm 164 = .ok (.invokevirtual 265, 3) := by decide +kernel
theorem dX11_takesTerm_167 : decode cX11_takesTerm 167 = .ok (.ifCond .eq 7, 3) := by decide +kernel
theorem dX11_takesTerm_170 : decode cX11_takesTerm 170 = .ok (.iconst 0, 1) := by decide +kernel
theorem dX11_takesTerm_171 : decode cX11_takesTerm 171 = .ok (.goto 17, 3) := by decide +kernel
theorem dX11_takesTerm_174 : decode cX11_takesTerm 174 = .ok (.aload_n 0, 1) := by decide +kernel
theorem dX11_takesTerm_175 : decode cX11_takesTerm 175 = .ok (.bipush 61, 2) := by decide +kernel
theorem dX11_takesTerm_177 : decode cX11_takesTerm 177 = .ok (.invokevirtual 265, 3) := by decide +kernel
theorem dX11_takesTerm_180 : decode cX11_takesTerm 180 = .ok (.ifCond .eq 7, 3) := by decide +kernel
theorem dX11_takesTerm_183 : decode cX11_takesTerm 183 = .ok (.iconst 1, 1) := by decide +kernel
theorem dX11_takesTerm_184 : decode cX11_takesTerm 184 = .ok (.goto 4, 3) := by decide +kernel
theorem dX11_takesTerm_187 : decode cX11_takesTerm 187 = .ok (.iconst 2, 1) := by decide +kernel
theorem dX11_takesTerm_188 : decode cX11_takesTerm 188 = .ok (.iastore, 1) := by decide +kernel
theorem dX11_takesTerm_189 : decode cX11_takesTerm 189 = .ok (.aload_n 0, 1) := by decide +kernel
theorem dX11_takesTerm_190 : decode cX11_takesTerm 190 = .ok (.invokevirtual 262, 3) := by decide +kernel
theorem dX11_takesTerm_193 : decode cX11_takesTerm 193 = .ok (.aload_n 0, 1) := by decide +kernel
theorem dX11_takesTerm_194 : decode cX11_takesTerm 194 = .ok (.getfield 223, 3) := by decide +kernel
theorem dX11_takesTerm_197 : decode cX11_takesTerm 197 = .ok (.iconst 2, 1) := by decide +kernel
theorem dX11_takesTerm_198 : decode cX11_takesTerm 198 = .ok (.if_icmp .eq 9, 3) := by decide +kernel
theorem dX11_takesTerm_201 : decode cX11_takesTerm 201 = .ok (.aload_n 0, 1) := by decide +kernel
theorem dX11_takesTerm_202 : decode cX11_takesTerm 202 = .ok (.iconst 1, 1) := by decide +kernel
theorem dX11_takesTerm_203 : decode cX11_takesTerm 203 = .ok (.invokevirtual 259, 3) := by decide +kernel
theorem dX11_takesTerm_206 : decode cX11_takesTerm 206 = .ok (.ireturn, 1) := by decide +kernel
theorem dX11_takesTerm_207 : decode cX11_takesTerm 207 = .ok (.aload_n 0, 1) := by decide +kernel
theorem dX11_takesTerm_208 : decode cX11_takesTerm 208 = .ok (.getfield 84, 3) := by decide +kernel
theorem dX11_takesTerm_211 : decode cX11_takesTerm 211 = .ok (.iload_n 1, 1) := by decide +kernel
theorem dX11_takesTerm_212 : decode cX11_takesTerm 212 = .ok (.aload_n 0, 1) := by decide +kernel
theorem dX11_takesTerm_213 : decode cX11_takesTerm 213 = .ok (.getfield 232, 3) := by decide +kernel
theorem dX11_takesTerm_216 : decode cX11_takesTerm 216 = .ok (.iastore, 1) := by decide +kernel
theorem dX11_takesTerm_217 : decode cX11_takesTerm 217 = .ok (.aload_n 0, 1) := by decide +kernel
theorem dX11_takesTerm_218 : decode cX11_takesTerm 218 = .ok (.invokevirtual 262, 3) := by decide +kernel
theorem dX11_takesTerm_221 : decode cX11_takesTerm 221 = .ok (.iconst 1, 1) := by decide +kernel
theorem dX11_takesTerm_222 : decode cX11_takesTerm 222 = .ok (.ireturn, 1) := by decide +kernel
theorem dX11_statement_0 : decode cX11_statement 0 = .ok (.aload_n 0, 1) := by decide +kernel
theorem dX11_statement_1 : decode cX11_statement 1 = .ok (.invokevirtual 280, 3) := by decide +kernel
theorem dX11_statement_4 : decode cX11_statement 4 = .ok (.istore_n 1, 1) := by decide +kernel
theorem dX11_statement_5 : decode cX11_statement 5 = .ok (.iload_n 1, 1) := by decide +kernel
theorem dX11_statement_6 : decode cX11_statement 6 = .ok (.iconst (-1), 1) := by decide +kernel
theorem dX11_statement_7 : decode cX11_statement 7 = .ok (.if_icmp .ne 9, 3) := by decide +kernel
theorem dX11_statement_10 : decode cX11_statement 10 = .ok (.aload_n 0, 1) := by decide +kernel
theorem dX11_statement_11 : decode cX11_statement 11 = .ok (.iconst 1, 1) := by decide +kernel
theorem dX11_statement_12 : decode cX11_statement 12 = .ok (.invokevirtual 259, 3) := by decide +kernel
theorem dX11_statement_15 : decode cX11_statement 15 = .ok (.ireturn, 1) := by decide +kernel
theorem dX11_statement_16 : decode cX11_statement 16 = .ok (.aload_n 0, 1) := by decide +kernel
theorem dX11_statement_17 : decode cX11_statement 17 = .ok (.getfield 283, 3) := by decide +kernel
theorem dX11_statement_20 : decode cX11_statement 20 = .ok (.bipush 16, 2) := by decide +kernel
theorem dX11_statement_22 : decode cX11_statement 22 = .ok (.if_icmp .ne 9, 3) := by decide +kernel
theorem dX11_statement_25 : decode cX11_statement 25 = .ok (.aload_n 0, 1) := by decide +kernel
theorem dX11_statement_26 : decode cX11_statement 26 = .ok (.iconst 3, 1) := by decide +kernel
theorem dX11_statement_27 : decode cX11_statement 27 = .ok (.invokevirtual 259, 3) := by decide +kernel
theorem dX11_statement_30 : decode cX11_statement 30 = .ok (.ireturn, 1) := by decide +kernel
theorem dX11_statement_31 : decode cX11_statement 31 = .ok (.bipush 16, 2) := by decide +kernel
theorem dX11_statement_33 : decode cX11_statement 33 = .ok (.aload_n 0, 1) := by decide +kernel
theorem dX11_statement_34 : decode cX11_statement 34 = .ok (.getfield 283, 3) := by decide +kernel
theorem dX11_statement_37 : decode cX11_statement 37 = .ok (.iadd, 1) := by decide +kernel
theorem dX11_statement_38 : decode cX11_statement 38 = .ok (.istore_n 2, 1) := by decide +kernel
theorem dX11_statement_39 : decode cX11_statement 39 = .ok (.aload_n 0, 1) := by decide +kernel
theorem dX11_statement_40 : decode cX11_statement 40 = .ok (.getfield 63, 3) := by decide +kernel
theorem dX11_statement_43 : decode cX11_statement 43 = .ok (.iload_n 2, 1) := by decide +kernel
theorem dX11_statement_44 : decode cX11_statement 44 = .ok (.iload_n 1, 1) := by decide +kernel
theorem dX11_statement_45 : decode cX11_statement 45 = .ok (.iastore, 1) := by decide +kernel
theorem dX11_statement_46 : decode cX11_statement 46 = .ok (.aload_n 0, 1) := by decide +kernel
theorem dX11_statement_47 : decode cX11_statement 47 = .ok (.getfield 66, 3) := by decide +kernel
theorem dX11_statement_50 : decode cX11_statement 50 = .ok (.iload_n 2, 1) := by decide +kernel
theorem dX11_statement_51 : decode cX11_statement 51 = .ok (.iconst 0, 1) := by decide +kernel
theorem dX11_statement_52 : decode cX11_statement 52 = .ok (.iastore, 1) := by decide +kernel
theorem dX11_statement_53 : decode cX11_statement 53 = .ok (.aload_n 0, 1) := by decide +kernel
theorem dX11_statement_54 : decode cX11_statement 54 = .ok (.getfield 69, 3) := by decide +kernel
theorem dX11_statement_57 : decode cX11_statement 57 = .ok (.iload_n 2, 1) := by decide +kernel
theorem dX11_statement_58 : decode cX11_statement 58 = .ok (.iconst (-1), 1) := by decide +kernel
theorem dX11_statement_59 : decode cX11_statement 59 = .ok (.iastore, 1) := by decide +kernel
theorem dX11_statement_60 : decode cX11_statement 60 = .ok (.aload_n 0, 1) := by decide +kernel
theorem dX11_statement_61 : decode cX11_statement 61 = .ok (.getfield 72, 3) := by decide +kernel
theorem dX11_statement_64 : decode cX11_statement 64 = .ok (.iconst 2, 1) := by decide +kernel
theorem dX11_statement_65 : decode cX11_statement 65 = .ok (.iload_n 2, 1) := by decide +kernel
theorem dX11_statement_66 : decode cX11_statement 66 = .ok (.imul, 1) := by decide +kernel
theorem dX11_statement_67 : decode cX11_statement 67 = .ok (.iconst (-1), 1) := by decide +kernel
theorem dX11_statement_68 : decode cX11_statement 68 = .ok (.iastore, 1) := by decide +kernel
theorem dX11_statement_69 : decode cX11_statement 69 = .ok (.aload_n 0, 1) := by decide +kernel
theorem dX11_statement_70 : decode cX11_statement 70 = .ok (.getfield 72, 3) := by decide +kernel
theorem dX11_statement_73 : decode cX11_statement 73 = .ok (.iconst 2, 1) := by decide +kernel
theorem dX11_statement_74 : decode cX11_statement 74 = .ok (.iload_n 2, 1) := by decide +kernel
theorem dX11_statement_75 : decode cX11_statement 75 = .ok (.imul, 1) := by decide +kernel
theorem dX11_statement_76 : decode cX11_statement 76 = .ok (.iconst 1, 1) := by decide +kernel
theorem dX11_statement_77 : decode cX11_statement 77 = .ok (.iadd, 1) := by decide +kernel
theorem dX11_statement_78 : decode cX11_statement 78 = .ok (.iconst (-1), 1) := by decide +kernel
theorem dX11_statement_79 : decode cX11_statement 79 = .ok (.iastore, 1) := by decide +kernel
theorem dX11_statement_80 : decode cX11_statement 80 = .ok (.aload_n 0, 1) := by decide +kernel
theorem dX11_statement_81 : decode cX11_statement 81 = .ok (.invokevirtual 262, 3) := by decide +kernel
theorem dX11_statement_84 : decode cX11_statement 84 = .ok (.aload_n 0, 1) := by decide +kernel
theorem dX11_statement_85 : decode cX11_statement 85 = .ok (.iload_n 2, 1) := by decide +kernel
theorem dX11_statement_86 : decode cX11_statement 86 = .ok (.iload_n 1, 1) := by decide +kernel
theorem dX11_statement_87 : decode cX11_statement 87 = .ok (.invokevirtual 286, 3) := by decide +kernel
theorem dX11_statement_90 : decode cX11_statement 90 = .ok (.ifCond .ne 5, 3) := by decide +kernel
theorem dX11_statement_93 : decode cX11_statement 93 = .ok (.iconst 0, 1) := by decide +kernel
theorem dX11_statement_94 : decode cX11_statement 94 = .ok (.ireturn, 1) := by decide +kernel
theorem dX11_statement_95 : decode cX11_statement 95 = .ok (.aload_n 0, 1) := by decide +kernel
theorem dX11_statement_96 : decode cX11_statement 96 = .ok (.bipush 59, 2) := by decide +kernel
theorem dX11_statement_98 : decode cX11_statement 98 = .ok (.invokevirtual 289, 3) := by decide +kernel
theorem dX11_statement_101 : decode cX11_statement 101 = .ok (.ifCond .ne 5, 3) := by decide +kernel
theorem dX11_statement_104 : decode cX11_statement 104 = .ok (.iconst 0, 1) := by decide +kernel
theorem dX11_statement_105 : decode cX11_statement 105 = .ok (.ireturn, 1) := by decide +kernel
theorem dX11_statement_106 : decode cX11_statement 106 = .ok (.aload_n 0, 1) := by decide +kernel
theorem dX11_statement_107 : decode cX11_statement 107 = .ok (.dup, 1) := by decide +kernel
theorem dX11_statement_108 : decode cX11_statement 108 = .ok (.getfield 283, 3) := by decide +kernel
theorem dX11_statement_111 : decode cX11_statement 111 = .ok (.iconst 1, 1) := by decide +kernel
theorem dX11_statement_112 : decode cX11_statement 112 = .ok (.iadd, 1) := by decide +kernel
theorem dX11_statement_113 : decode cX11_statement 113 = .ok (.putfield 283, 3) := by decide +kernel
theorem dX11_statement_116 : decode cX11_statement 116 = .ok (.iconst 1, 1) := by decide +kernel
theorem dX11_statement_117 : decode cX11_statement 117 = .ok (.ireturn, 1) := by decide +kernel
theorem dX11_isBody_0 : decode cX11_isBody 0 = .ok (.iload_n 2, 1) := by decide +kernel
theorem dX11_isBody_1 : decode cX11_isBody 1 = .ok (.tableswitch 275 0 7 #[47, 100, 153, 176, 153, 209, 251, 251], 47) := by decide +kernel
theorem dX11_isBody_48 : decode cX11_isBody 48 = .ok (.aload_n 0, 1) := by decide +kernel
theorem dX11_isBody_49 : decode cX11_isBody 49 = .ok (.getfield 72, 3) := by decide +kernel
theorem dX11_isBody_52 : decode cX11_isBody 52 = .ok (.iconst 2, 1) := by decide +kernel
theorem dX11_isBody_53 : decode cX11_isBody 53 = .ok (.iload_n 1, 1) := by decide +kernel
theorem dX11_isBody_54 : decode cX11_isBody 54 = .ok (.imul, 1) := by decide +kernel
theorem dX11_isBody_55 : decode cX11_isBody 55 = .ok (.iconst 0, 1) := by decide +kernel
theorem dX11_isBody_56 : decode cX11_isBody 56 = .ok (.iastore, 1) := by decide +kernel
theorem dX11_isBody_57 : decode cX11_isBody 57 = .ok (.aload_n 0, 1) := by decide +kernel
theorem dX11_isBody_58 : decode cX11_isBody 58 = .ok (.bipush 58, 2) := by decide +kernel
theorem dX11_isBody_60 : decode cX11_isBody 60 = .ok (.invokevirtual 265, 3) := by decide +kernel
theorem dX11_isBody_63 : decode cX11_isBody 63 = .ok (.ifCond .ne 15, 3) := by decide +kernel
theorem dX11_isBody_66 : decode cX11_isBody 66 = .ok (.aload_n 0, 1) := by decide +kernel
theorem dX11_isBody_67 : decode cX11_isBody 67 = .ok (.iconst 2, 1) := by decide +kernel
theorem dX11_isBody_68 : decode cX11_isBody 68 = .ok (.iload_n 1, 1) := by decide +kernel
theorem dX11_isBody_69 : decode cX11_isBody 69 = .ok (.imul, 1) := by decide +kernel
theorem dX11_isBody_70 : decode cX11_isBody 70 = .ok (.invokevirtual 292, 3) := by decide +kernel
theorem dX11_isBody_73 : decode cX11_isBody 73 = .ok (.ifCond .ne 5, 3) := by decide +kernel
theorem dX11_isBody_76 : decode cX11_isBody 76 = .ok (.iconst 0, 1) := by decide +kernel
theorem dX11_isBody_77 : decode cX11_isBody 77 = .ok (.ireturn, 1) := by decide +kernel
theorem dX11_isBody_78 : decode cX11_isBody 78 = .ok (.aload_n 0, 1) := by decide +kernel
theorem dX11_isBody_79 : decode cX11_isBody 79 = .ok (.bipush 58, 2) := by decide +kernel
theorem dX11_isBody_81 : decode cX11_isBody 81 = .ok (.invokevirtual 289, 3) := by decide +kernel
theorem dX11_isBody_84 : decode cX11_isBody 84 = .ok (.ifCond .eq 15, 3) := by decide +kernel
theorem dX11_isBody_87 : decode cX11_isBody 87 = .ok (.aload_n 0, 1) := by decide +kernel
theorem dX11_isBody_88 : decode cX11_isBody 88 = .ok (.iload_n 1, 1) := by decide +kernel
theorem dX11_isBody_89 : decode cX11_isBody 89 = .ok (.invokevirtual 295, 3) := by decide +kernel
theorem dX11_isBody_92 : decode cX11_isBody 92 = .ok (.ifCond .eq 7, 3) := by decide +kernel
theorem dX11_isBody_95 : decode cX11_isBody 95 = .ok (.iconst 1, 1) := by decide +kernel
theorem dX11_isBody_96 : decode cX11_isBody 96 = .ok (.goto 4, 3) := by decide +kernel
theorem dX11_isBody_99 : decode cX11_isBody 99 = .ok (.iconst 0, 1) := by decide +kernel
theorem dX11_isBody_100 : decode cX11_isBody 100 = .ok (.ireturn, 1) := by decide +kernel
theorem dX11_isBody_101 : decode cX11_isBody 101 = .ok (.aload_n 0, 1) := by decide +kernel
theorem dX11_isBody_102 : decode cX11_isBody 102 = .ok (.getfield 69, 3) := by decide +kernel
theorem dX11_isBody_105 : decode cX11_isBody 105 = .ok (.iload_n 1, 1) := by decide +kernel
theorem dX11_isBody_106 : decode cX11_isBody 106 = .ok (.aload_n 0, 1) := by decide +kernel
theorem dX11_isBody_107 : decode cX11_isBody 107 = .ok (.invokevirtual 272, 3) := by decide +kernel
theorem dX11_isBody_110 : decode cX11_isBody 110 = .ok (.iastore, 1) := by decide +kernel
theorem dX11_isBody_111 : decode cX11_isBody 111 = .ok (.aload_n 0, 1) := by decide +kernel
theorem dX11_isBody_112 : decode cX11_isBody 112 = .ok (.getfield 69, 3) := by decide +kernel
theorem dX11_isBody_115 : decode cX11_isBody 115 = .ok (.iload_n 1, 1) := by decide +kernel
theorem dX11_isBody_116 : decode cX11_isBody 116 = .ok (.iaload, 1) := by decide +kernel
theorem dX11_isBody_117 : decode cX11_isBody 117 = .ok (.iconst (-1), 1) := by decide +kernel
theorem dX11_isBody_118 : decode cX11_isBody 118 = .ok (.if_icmp .ne 9, 3) := by decide +kernel
theorem dX11_isBody_121 : decode cX11_isBody 121 = .ok (.aload_n 0, 1) := by decide +kernel
theorem dX11_isBody_122 : decode cX11_isBody 122 = .ok (.iconst 1, 1) := by decide +kernel
theorem dX11_isBody_123 : decode cX11_isBody 123 = .ok (.invokevirtual 259, 3) := by decide +kernel
theorem dX11_isBody_126 : decode cX11_isBody 126 = .ok (.ireturn, 1) := by decide +kernel
theorem dX11_isBody_127 : decode cX11_isBody 127 = .ok (.aload_n 0, 1) := by decide +kernel
theorem dX11_isBody_128 : decode cX11_isBody 128 = .ok (.invokevirtual 262, 3) := by decide +kernel
theorem dX11_isBody_131 : decode cX11_isBody 131 = .ok (.aload_n 0, 1) := by decide +kernel
theorem dX11_isBody_132 : decode cX11_isBody 132 = .ok (.bipush 58, 2) := by decide +kernel
theorem dX11_isBody_134 : decode cX11_isBody 134 = .ok (.invokevirtual 289, 3) := by decide +kernel
theorem dX11_isBody_137 : decode cX11_isBody 137 = .ok (.ifCond .eq 15, 3) := by decide +kernel
theorem dX11_isBody_140 : decode cX11_isBody 140 = .ok (.aload_n 0, 1) := by decide +kernel
theorem dX11_isBody_141 : decode cX11_isBody 141 = .ok (.iload_n 1, 1) := by decide +kernel
theorem dX11_isBody_142 : decode cX11_isBody 142 = .ok (.invokevirtual 295, 3) := by decide +kernel
theorem dX11_isBody_145 : decode cX11_isBody 145 = .ok (.ifCond .eq 7, 3) := by decide +kernel
theorem dX11_isBody_148 : decode cX11_isBody 148 = .ok (.iconst 1, 1) := by decide +kernel
theorem dX11_isBody_149 : decode cX11_isBody 149 = .ok (.goto 4, 3) := by decide +kernel
theorem dX11_isBody_152 : decode cX11_isBody 152 = .ok (.iconst 0, 1) := by decide +kernel
theorem dX11_isBody_153 : decode cX11_isBody 153 = .ok (.ireturn, 1) := by decide +kernel
theorem dX11_isBody_154 : decode cX11_isBody 154 = .ok (.aload_n 0, 1) := by decide +kernel
theorem dX11_isBody_155 : decode cX11_isBody 155 = .ok (.bipush 58, 2) := by decide +kernel
theorem dX11_isBody_157 : decode cX11_isBody 157 = .ok (.invokevirtual 289, 3) := by decide +kernel
theorem dX11_isBody_160 : decode cX11_isBody 160 = .ok (.ifCond .eq 15, 3) := by decide +kernel
theorem dX11_isBody_163 : decode cX11_isBody 163 = .ok (.aload_n 0, 1) := by decide +kernel
theorem dX11_isBody_164 : decode cX11_isBody 164 = .ok (.iload_n 1, 1) := by decide +kernel
theorem dX11_isBody_165 : decode cX11_isBody 165 = .ok (.invokevirtual 295, 3) := by decide +kernel
theorem dX11_isBody_168 : decode cX11_isBody 168 = .ok (.ifCond .eq 7, 3) := by decide +kernel
theorem dX11_isBody_171 : decode cX11_isBody 171 = .ok (.iconst 1, 1) := by decide +kernel
theorem dX11_isBody_172 : decode cX11_isBody 172 = .ok (.goto 4, 3) := by decide +kernel
theorem dX11_isBody_175 : decode cX11_isBody 175 = .ok (.iconst 0, 1) := by decide +kernel
theorem dX11_isBody_176 : decode cX11_isBody 176 = .ok (.ireturn, 1) := by decide +kernel
theorem dX11_isBody_177 : decode cX11_isBody 177 = .ok (.aload_n 0, 1) := by decide +kernel
theorem dX11_isBody_178 : decode cX11_isBody 178 = .ok (.iconst 2, 1) := by decide +kernel
theorem dX11_isBody_179 : decode cX11_isBody 179 = .ok (.iload_n 1, 1) := by decide +kernel
theorem dX11_isBody_180 : decode cX11_isBody 180 = .ok (.imul, 1) := by decide +kernel
theorem dX11_isBody_181 : decode cX11_isBody 181 = .ok (.invokevirtual 292, 3) := by decide +kernel
theorem dX11_isBody_184 : decode cX11_isBody 184 = .ok (.ifCond .eq 24, 3) := by decide +kernel
theorem dX11_isBody_187 : decode cX11_isBody 187 = .ok (.aload_n 0, 1) := by decide +kernel
theorem dX11_isBody_188 : decode cX11_isBody 188 = .ok (.bipush 58, 2) := by decide +kernel
theorem dX11_isBody_190 : decode cX11_isBody 190 = .ok (.invokevirtual 289, 3) := by decide +kernel
theorem dX11_isBody_193 : decode cX11_isBody 193 = .ok (.ifCond .eq 15, 3) := by decide +kernel
theorem dX11_isBody_196 : decode cX11_isBody 196 = .ok (.aload_n 0, 1) := by decide +kernel
theorem dX11_isBody_197 : decode cX11_isBody 197 = .ok (.iload_n 1, 1) := by decide +kernel
theorem dX11_isBody_198 : decode cX11_isBody 198 = .ok (.invokevirtual 295, 3) := by decide +kernel
theorem dX11_isBody_201 : decode cX11_isBody 201 = .ok (.ifCond .eq 7, 3) := by decide +kernel
theorem dX11_isBody_204 : decode cX11_isBody 204 = .ok (.iconst 1, 1) := by decide +kernel
theorem dX11_isBody_205 : decode cX11_isBody 205 = .ok (.goto 4, 3) := by decide +kernel
theorem dX11_isBody_208 : decode cX11_isBody 208 = .ok (.iconst 0, 1) := by decide +kernel
theorem dX11_isBody_209 : decode cX11_isBody 209 = .ok (.ireturn, 1) := by decide +kernel
theorem dX11_isBody_210 : decode cX11_isBody 210 = .ok (.aload_n 0, 1) := by decide +kernel
theorem dX11_isBody_211 : decode cX11_isBody 211 = .ok (.iconst 2, 1) := by decide +kernel
theorem dX11_isBody_212 : decode cX11_isBody 212 = .ok (.iload_n 1, 1) := by decide +kernel
theorem dX11_isBody_213 : decode cX11_isBody 213 = .ok (.imul, 1) := by decide +kernel
theorem dX11_isBody_214 : decode cX11_isBody 214 = .ok (.invokevirtual 292, 3) := by decide +kernel
theorem dX11_isBody_217 : decode cX11_isBody 217 = .ok (.ifCond .ne 5, 3) := by decide +kernel
theorem dX11_isBody_220 : decode cX11_isBody 220 = .ok (.iconst 0, 1) := by decide +kernel
theorem dX11_isBody_221 : decode cX11_isBody 221 = .ok (.ireturn, 1) := by decide +kernel
theorem dX11_isBody_222 : decode cX11_isBody 222 = .ok (.aload_n 0, 1) := by decide +kernel
theorem dX11_isBody_223 : decode cX11_isBody 223 = .ok (.ldc_w 298, 3) := by decide +kernel
theorem dX11_isBody_226 : decode cX11_isBody 226 = .ok (.invokevirtual 252, 3) := by decide +kernel
theorem dX11_isBody_229 : decode cX11_isBody 229 = .ok (.ifCond .ne 9, 3) := by decide +kernel
theorem dX11_isBody_232 : decode cX11_isBody 232 = .ok (.aload_n 0, 1) := by decide +kernel
theorem dX11_isBody_233 : decode cX11_isBody 233 = .ok (.iconst 1, 1) := by decide +kernel
theorem dX11_isBody_234 : decode cX11_isBody 234 = .ok (.invokevirtual 259, 3) := by decide +kernel
theorem dX11_isBody_237 : decode cX11_isBody 237 = .ok (.ireturn, 1) := by decide +kernel
theorem dX11_isBody_238 : decode cX11_isBody 238 = .ok (.aload_n 0, 1) := by decide +kernel
theorem dX11_isBody_239 : decode cX11_isBody 239 = .ok (.invokevirtual 262, 3) := by decide +kernel
theorem dX11_isBody_242 : decode cX11_isBody 242 = .ok (.aload_n 0, 1) := by decide +kernel
theorem dX11_isBody_243 : decode cX11_isBody 243 = .ok (.iconst 2, 1) := by decide +kernel
theorem dX11_isBody_244 : decode cX11_isBody 244 = .ok (.iload_n 1, 1) := by decide +kernel
theorem dX11_isBody_245 : decode cX11_isBody 245 = .ok (.imul, 1) := by decide +kernel
theorem dX11_isBody_246 : decode cX11_isBody 246 = .ok (.iconst 1, 1) := by decide +kernel
theorem dX11_isBody_247 : decode cX11_isBody 247 = .ok (.iadd, 1) := by decide +kernel
theorem dX11_isBody_248 : decode cX11_isBody 248 = .ok (.invokevirtual 292, 3) := by decide +kernel
theorem dX11_isBody_251 : decode cX11_isBody 251 = .ok (.ireturn, 1) := by decide +kernel
theorem dX11_isBody_252 : decode cX11_isBody 252 = .ok (.aload_n 0, 1) := by decide +kernel
theorem dX11_isBody_253 : decode cX11_isBody 253 = .ok (.iload_n 1, 1) := by decide +kernel
theorem dX11_isBody_254 : decode cX11_isBody 254 = .ok (.invokevirtual 295, 3) := by decide +kernel
theorem dX11_isBody_257 : decode cX11_isBody 257 = .ok (.ifCond .eq 17, 3) := by decide +kernel
theorem dX11_isBody_260 : decode cX11_isBody 260 = .ok (.aload_n 0, 1) := by decide +kernel
theorem dX11_isBody_261 : decode cX11_isBody 261 = .ok (.iconst 2, 1) := by decide +kernel
theorem dX11_isBody_262 : decode cX11_isBody 262 = .ok (.iload_n 1, 1) := by decide +kernel
theorem dX11_isBody_263 : decode cX11_isBody 263 = .ok (.imul, 1) := by decide +kernel
theorem dX11_isBody_264 : decode cX11_isBody 264 = .ok (.invokevirtual 292, 3) := by decide +kernel
theorem dX11_isBody_267 : decode cX11_isBody 267 = .ok (.ifCond .eq 7, 3) := by decide +kernel
theorem dX11_isBody_270 : decode cX11_isBody 270 = .ok (.iconst 1, 1) := by decide +kernel
theorem dX11_isBody_271 : decode cX11_isBody 271 = .ok (.goto 4, 3) := by decide +kernel
theorem dX11_isBody_274 : decode cX11_isBody 274 = .ok (.iconst 0, 1) := by decide +kernel
theorem dX11_isBody_275 : decode cX11_isBody 275 = .ok (.ireturn, 1) := by decide +kernel
theorem dX11_isBody_276 : decode cX11_isBody 276 = .ok (.aload_n 0, 1) := by decide +kernel
theorem dX11_isBody_277 : decode cX11_isBody 277 = .ok (.getfield 66, 3) := by decide +kernel
theorem dX11_isBody_280 : decode cX11_isBody 280 = .ok (.iload_n 1, 1) := by decide +kernel
theorem dX11_isBody_281 : decode cX11_isBody 281 = .ok (.aload_n 0, 1) := by decide +kernel
theorem dX11_isBody_282 : decode cX11_isBody 282 = .ok (.ldc 192, 2) := by decide +kernel
theorem dX11_isBody_284 : decode cX11_isBody 284 = .ok (.invokevirtual 252, 3) := by decide +kernel
theorem dX11_isBody_287 : decode cX11_isBody 287 = .ok (.ifCond .eq 7, 3) := by decide +kernel
theorem dX11_isBody_290 : decode cX11_isBody 290 = .ok (.iconst 1, 1) := by decide +kernel
theorem dX11_isBody_291 : decode cX11_isBody 291 = .ok (.goto 32, 3) := by decide +kernel
theorem dX11_isBody_294 : decode cX11_isBody 294 = .ok (.aload_n 0, 1) := by decide +kernel
theorem dX11_isBody_295 : decode cX11_isBody 295 = .ok (.ldc_w 299, 3) := by decide +kernel
theorem dX11_isBody_298 : decode cX11_isBody 298 = .ok (.invokevirtual 252, 3) := by decide +kernel
theorem dX11_isBody_301 : decode cX11_isBody 301 = .ok (.ifCond .eq 7, 3) := by decide +kernel
theorem dX11_isBody_304 : decode cX11_isBody 304 = .ok (.iconst 2, 1) := by decide +kernel
theorem dX11_isBody_305 : decode cX11_isBody 305 = .ok (.goto 18, 3) := by decide +kernel
theorem dX11_isBody_308 : decode cX11_isBody 308 = .ok (.aload_n 0, 1) := by decide +kernel
theorem dX11_isBody_309 : decode cX11_isBody 309 = .ok (.ldc_w 301, 3) := by decide +kernel
theorem dX11_isBody_312 : decode cX11_isBody 312 = .ok (.invokevirtual 252, 3) := by decide +kernel
theorem dX11_isBody_315 : decode cX11_isBody 315 = .ok (.ifCond .eq 7, 3) := by decide +kernel
theorem dX11_isBody_318 : decode cX11_isBody 318 = .ok (.iconst 0, 1) := by decide +kernel
theorem dX11_isBody_319 : decode cX11_isBody 319 = .ok (.goto 4, 3) := by decide +kernel
theorem dX11_isBody_322 : decode cX11_isBody 322 = .ok (.iconst (-1), 1) := by decide +kernel
theorem dX11_isBody_323 : decode cX11_isBody 323 = .ok (.iastore, 1) := by decide +kernel
theorem dX11_isBody_324 : decode cX11_isBody 324 = .ok (.aload_n 0, 1) := by decide +kernel
theorem dX11_isBody_325 : decode cX11_isBody 325 = .ok (.getfield 66, 3) := by decide +kernel
theorem dX11_isBody_328 : decode cX11_isBody 328 = .ok (.iload_n 1, 1) := by decide +kernel
theorem dX11_isBody_329 : decode cX11_isBody 329 = .ok (.iaload, 1) := by decide +kernel
theorem dX11_isBody_330 : decode cX11_isBody 330 = .ok (.iconst (-1), 1) := by decide +kernel
theorem dX11_isBody_331 : decode cX11_isBody 331 = .ok (.if_icmp .ne 9, 3) := by decide +kernel
theorem dX11_isBody_334 : decode cX11_isBody 334 = .ok (.aload_n 0, 1) := by decide +kernel
theorem dX11_isBody_335 : decode cX11_isBody 335 = .ok (.iconst 1, 1) := by decide +kernel
theorem dX11_isBody_336 : decode cX11_isBody 336 = .ok (.invokevirtual 259, 3) := by decide +kernel
theorem dX11_isBody_339 : decode cX11_isBody 339 = .ok (.ireturn, 1) := by decide +kernel
theorem dX11_isBody_340 : decode cX11_isBody 340 = .ok (.aload_n 0, 1) := by decide +kernel
theorem dX11_isBody_341 : decode cX11_isBody 341 = .ok (.invokevirtual 262, 3) := by decide +kernel
theorem dX11_isBody_344 : decode cX11_isBody 344 = .ok (.iconst 1, 1) := by decide +kernel
theorem dX11_isBody_345 : decode cX11_isBody 345 = .ok (.ireturn, 1) := by decide +kernel
theorem dX11_rule_0 : decode cX11_rule 0 = .ok (.aload_n 0, 1) := by decide +kernel
theorem dX11_rule_1 : decode cX11_rule 1 = .ok (.iconst 0, 1) := by decide +kernel
theorem dX11_rule_2 : decode cX11_rule 2 = .ok (.putfield 139, 3) := by decide +kernel
theorem dX11_rule_5 : decode cX11_rule 5 = .ok (.aload_n 0, 1) := by decide +kernel
theorem dX11_rule_6 : decode cX11_rule 6 = .ok (.iconst 0, 1) := by decide +kernel
theorem dX11_rule_7 : decode cX11_rule 7 = .ok (.putfield 245, 3) := by decide +kernel
theorem dX11_rule_10 : decode cX11_rule 10 = .ok (.aload_n 0, 1) := by decide +kernel
theorem dX11_rule_11 : decode cX11_rule 11 = .ok (.iconst (-1), 1) := by decide +kernel
theorem dX11_rule_12 : decode cX11_rule 12 = .ok (.putfield 91, 3) := by decide +kernel
theorem dX11_rule_15 : decode cX11_rule 15 = .ok (.aload_n 0, 1) := by decide +kernel
theorem dX11_rule_16 : decode cX11_rule 16 = .ok (.iconst 0, 1) := by decide +kernel
theorem dX11_rule_17 : decode cX11_rule 17 = .ok (.putfield 283, 3) := by decide +kernel
theorem dX11_rule_20 : decode cX11_rule 20 = .ok (.aload_n 0, 1) := by decide +kernel
theorem dX11_rule_21 : decode cX11_rule 21 = .ok (.iconst 0, 1) := by decide +kernel
theorem dX11_rule_22 : decode cX11_rule 22 = .ok (.putfield 213, 3) := by decide +kernel
theorem dX11_rule_25 : decode cX11_rule 25 = .ok (.aload_n 0, 1) := by decide +kernel
theorem dX11_rule_26 : decode cX11_rule 26 = .ok (.invokevirtual 262, 3) := by decide +kernel
theorem dX11_rule_29 : decode cX11_rule 29 = .ok (.iconst 1, 1) := by decide +kernel
theorem dX11_rule_30 : decode cX11_rule 30 = .ok (.istore_n 1, 1) := by decide +kernel
theorem dX11_rule_31 : decode cX11_rule 31 = .ok (.iload_n 1, 1) := by decide +kernel
theorem dX11_rule_32 : decode cX11_rule 32 = .ok (.ifCond .eq 18, 3) := by decide +kernel
theorem dX11_rule_35 : decode cX11_rule 35 = .ok (.aload_n 0, 1) := by decide +kernel
theorem dX11_rule_36 : decode cX11_rule 36 = .ok (.getfield 223, 3) := by decide +kernel
theorem dX11_rule_39 : decode cX11_rule 39 = .ok (.ifCond .eq 11, 3) := by decide +kernel
theorem dX11_rule_42 : decode cX11_rule 42 = .ok (.aload_n 0, 1) := by decide +kernel
theorem dX11_rule_43 : decode cX11_rule 43 = .ok (.invokevirtual 303, 3) := by decide +kernel
theorem dX11_rule_46 : decode cX11_rule 46 = .ok (.istore_n 1, 1) := by decide +kernel
theorem dX11_rule_47 : decode cX11_rule 47 = .ok (.goto (-16), 3) := by decide +kernel
theorem dX11_rule_50 : decode cX11_rule 50 = .ok (.aload_n 0, 1) := by decide +kernel
theorem dX11_rule_51 : decode cX11_rule 51 = .ok (.iconst 0, 1) := by decide +kernel
theorem dX11_rule_52 : decode cX11_rule 52 = .ok (.putfield 210, 3) := by decide +kernel
theorem dX11_rule_55 : decode cX11_rule 55 = .ok (.aload_n 0, 1) := by decide +kernel
theorem dX11_rule_56 : decode cX11_rule 56 = .ok (.getfield 245, 3) := by decide +kernel
theorem dX11_rule_59 : decode cX11_rule 59 = .ok (.ifCond .le 10, 3) := by decide +kernel
theorem dX11_rule_62 : decode cX11_rule 62 = .ok (.iconst (-1), 1) := by decide +kernel
theorem dX11_rule_63 : decode cX11_rule 63 = .ok (.aload_n 0, 1) := by decide +kernel
theorem dX11_rule_64 : decode cX11_rule 64 = .ok (.getfield 245, 3) := by decide +kernel
theorem dX11_rule_67 : decode cX11_rule 67 = .ok (.isub, 1) := by decide +kernel
theorem dX11_rule_68 : decode cX11_rule 68 = .ok (.ireturn, 1) := by decide +kernel
theorem dX11_rule_69 : decode cX11_rule 69 = .ok (.aload_n 0, 1) := by decide +kernel
theorem dX11_rule_70 : decode cX11_rule 70 = .ok (.aload_n 0, 1) := by decide +kernel
theorem dX11_rule_71 : decode cX11_rule 71 = .ok (.getfield 283, 3) := by decide +kernel
theorem dX11_rule_74 : decode cX11_rule 74 = .ok (.putfield 307, 3) := by decide +kernel
theorem dX11_rule_77 : decode cX11_rule 77 = .ok (.aload_n 0, 1) := by decide +kernel
theorem dX11_rule_78 : decode cX11_rule 78 = .ok (.iconst 0, 1) := by decide +kernel
theorem dX11_rule_79 : decode cX11_rule 79 = .ok (.putfield 156, 3) := by decide +kernel
theorem dX11_rule_82 : decode cX11_rule 82 = .ok (.iconst 0, 1) := by decide +kernel
theorem dX11_rule_83 : decode cX11_rule 83 = .ok (.istore_n 2, 1) := by decide +kernel
theorem dX11_rule_84 : decode cX11_rule 84 = .ok (.iload_n 2, 1) := by decide +kernel
theorem dX11_rule_85 : decode cX11_rule 85 = .ok (.bipush 16, 2) := by decide +kernel
theorem dX11_rule_87 : decode cX11_rule 87 = .ok (.if_icmp .ge 54, 3) := by decide +kernel
theorem dX11_rule_90 : decode cX11_rule 90 = .ok (.aload_n 0, 1) := by decide +kernel
theorem dX11_rule_91 : decode cX11_rule 91 = .ok (.getfield 63, 3) := by decide +kernel
theorem dX11_rule_94 : decode cX11_rule 94 = .ok (.iload_n 2, 1) := by decide +kernel
theorem dX11_rule_95 : decode cX11_rule 95 = .ok (.aload_n 0, 1) := by decide +kernel
theorem dX11_rule_96 : decode cX11_rule 96 = .ok (.getfield 63, 3) := by decide +kernel
theorem dX11_rule_99 : decode cX11_rule 99 = .ok (.bipush 16, 2) := by decide +kernel
theorem dX11_rule_101 : decode cX11_rule 101 = .ok (.iload_n 2, 1) := by decide +kernel
theorem dX11_rule_102 : decode cX11_rule 102 = .ok (.iadd, 1) := by decide +kernel
theorem dX11_rule_103 : decode cX11_rule 103 = .ok (.iaload, 1) := by decide +kernel
theorem dX11_rule_104 : decode cX11_rule 104 = .ok (.iastore, 1) := by decide +kernel
theorem dX11_rule_105 : decode cX11_rule 105 = .ok (.aload_n 0, 1) := by decide +kernel
theorem dX11_rule_106 : decode cX11_rule 106 = .ok (.getfield 66, 3) := by decide +kernel
theorem dX11_rule_109 : decode cX11_rule 109 = .ok (.iload_n 2, 1) := by decide +kernel
theorem dX11_rule_110 : decode cX11_rule 110 = .ok (.aload_n 0, 1) := by decide +kernel
theorem dX11_rule_111 : decode cX11_rule 111 = .ok (.getfield 66, 3) := by decide +kernel
theorem dX11_rule_114 : decode cX11_rule 114 = .ok (.bipush 16, 2) := by decide +kernel
theorem dX11_rule_116 : decode cX11_rule 116 = .ok (.iload_n 2, 1) := by decide +kernel
theorem dX11_rule_117 : decode cX11_rule 117 = .ok (.iadd, 1) := by decide +kernel
theorem dX11_rule_118 : decode cX11_rule 118 = .ok (.iaload, 1) := by decide +kernel
theorem dX11_rule_119 : decode cX11_rule 119 = .ok (.iastore, 1) := by decide +kernel
theorem dX11_rule_120 : decode cX11_rule 120 = .ok (.aload_n 0, 1) := by decide +kernel
theorem dX11_rule_121 : decode cX11_rule 121 = .ok (.getfield 69, 3) := by decide +kernel
theorem dX11_rule_124 : decode cX11_rule 124 = .ok (.iload_n 2, 1) := by decide +kernel
theorem dX11_rule_125 : decode cX11_rule 125 = .ok (.aload_n 0, 1) := by decide +kernel
theorem dX11_rule_126 : decode cX11_rule 126 = .ok (.getfield 69, 3) := by decide +kernel
theorem dX11_rule_129 : decode cX11_rule 129 = .ok (.bipush 16, 2) := by decide +kernel
theorem dX11_rule_131 : decode cX11_rule 131 = .ok (.iload_n 2, 1) := by decide +kernel
theorem dX11_rule_132 : decode cX11_rule 132 = .ok (.iadd, 1) := by decide +kernel
theorem dX11_rule_133 : decode cX11_rule 133 = .ok (.iaload, 1) := by decide +kernel
theorem dX11_rule_134 : decode cX11_rule 134 = .ok (.iastore, 1) := by decide +kernel
theorem dX11_rule_135 : decode cX11_rule 135 = .ok (.iinc 2 1, 3) := by decide +kernel
theorem dX11_rule_138 : decode cX11_rule 138 = .ok (.goto (-54), 3) := by decide +kernel
theorem dX11_rule_141 : decode cX11_rule 141 = .ok (.iconst 0, 1) := by decide +kernel
theorem dX11_rule_142 : decode cX11_rule 142 = .ok (.istore_n 2, 1) := by decide +kernel
theorem dX11_rule_143 : decode cX11_rule 143 = .ok (.iload_n 2, 1) := by decide +kernel
theorem dX11_rule_144 : decode cX11_rule 144 = .ok (.bipush 32, 2) := by decide +kernel
theorem dX11_rule_146 : decode cX11_rule 146 = .ok (.if_icmp .ge 24, 3) := by decide +kernel
theorem dX11_rule_149 : decode cX11_rule 149 = .ok (.aload_n 0, 1) := by decide +kernel
theorem dX11_rule_150 : decode cX11_rule 150 = .ok (.getfield 72, 3) := by decide +kernel
theorem dX11_rule_153 : decode cX11_rule 153 = .ok (.iload_n 2, 1) := by decide +kernel
theorem dX11_rule_154 : decode cX11_rule 154 = .ok (.aload_n 0, 1) := by decide +kernel
theorem dX11_rule_155 : decode cX11_rule 155 = .ok (.getfield 72, 3) := by decide +kernel
theorem dX11_rule_158 : decode cX11_rule 158 = .ok (.bipush 32, 2) := by decide +kernel
theorem dX11_rule_160 : decode cX11_rule 160 = .ok (.iload_n 2, 1) := by decide +kernel
theorem dX11_rule_161 : decode cX11_rule 161 = .ok (.iadd, 1) := by decide +kernel
theorem dX11_rule_162 : decode cX11_rule 162 = .ok (.iaload, 1) := by decide +kernel
theorem dX11_rule_163 : decode cX11_rule 163 = .ok (.iastore, 1) := by decide +kernel
theorem dX11_rule_164 : decode cX11_rule 164 = .ok (.iinc 2 1, 3) := by decide +kernel
theorem dX11_rule_167 : decode cX11_rule 167 = .ok (.goto (-24), 3) := by decide +kernel
theorem dX11_rule_170 : decode cX11_rule 170 = .ok (.iconst 0, 1) := by decide +kernel
theorem dX11_rule_171 : decode cX11_rule 171 = .ok (.istore_n 2, 1) := by decide +kernel
theorem dX11_rule_172 : decode cX11_rule 172 = .ok (.iload_n 2, 1) := by decide +kernel
theorem dX11_rule_173 : decode cX11_rule 173 = .ok (.sipush 128, 3) := by decide +kernel
theorem dX11_rule_176 : decode cX11_rule 176 = .ok (.if_icmp .ge 73, 3) := by decide +kernel
theorem dX11_rule_179 : decode cX11_rule 179 = .ok (.aload_n 0, 1) := by decide +kernel
theorem dX11_rule_180 : decode cX11_rule 180 = .ok (.getfield 75, 3) := by decide +kernel
theorem dX11_rule_183 : decode cX11_rule 183 = .ok (.iload_n 2, 1) := by decide +kernel
theorem dX11_rule_184 : decode cX11_rule 184 = .ok (.aload_n 0, 1) := by decide +kernel
theorem dX11_rule_185 : decode cX11_rule 185 = .ok (.getfield 75, 3) := by decide +kernel
theorem dX11_rule_188 : decode cX11_rule 188 = .ok (.sipush 128, 3) := by decide +kernel
theorem dX11_rule_191 : decode cX11_rule 191 = .ok (.iload_n 2, 1) := by decide +kernel
theorem dX11_rule_192 : decode cX11_rule 192 = .ok (.iadd, 1) := by decide +kernel
theorem dX11_rule_193 : decode cX11_rule 193 = .ok (.baload, 1) := by decide +kernel
theorem dX11_rule_194 : decode cX11_rule 194 = .ok (.bastore, 1) := by decide +kernel
theorem dX11_rule_195 : decode cX11_rule 195 = .ok (.aload_n 0, 1) := by decide +kernel
theorem dX11_rule_196 : decode cX11_rule 196 = .ok (.getfield 78, 3) := by decide +kernel
theorem dX11_rule_199 : decode cX11_rule 199 = .ok (.iload_n 2, 1) := by decide +kernel
theorem dX11_rule_200 : decode cX11_rule 200 = .ok (.aload_n 0, 1) := by decide +kernel
theorem dX11_rule_201 : decode cX11_rule 201 = .ok (.getfield 78, 3) := by decide +kernel
theorem dX11_rule_204 : decode cX11_rule 204 = .ok (.sipush 128, 3) := by decide +kernel
theorem dX11_rule_207 : decode cX11_rule 207 = .ok (.iload_n 2, 1) := by decide +kernel
theorem dX11_rule_208 : decode cX11_rule 208 = .ok (.iadd, 1) := by decide +kernel
theorem dX11_rule_209 : decode cX11_rule 209 = .ok (.iaload, 1) := by decide +kernel
theorem dX11_rule_210 : decode cX11_rule 210 = .ok (.iastore, 1) := by decide +kernel
theorem dX11_rule_211 : decode cX11_rule 211 = .ok (.aload_n 0, 1) := by decide +kernel
theorem dX11_rule_212 : decode cX11_rule 212 = .ok (.getfield 81, 3) := by decide +kernel
theorem dX11_rule_215 : decode cX11_rule 215 = .ok (.iload_n 2, 1) := by decide +kernel
theorem dX11_rule_216 : decode cX11_rule 216 = .ok (.aload_n 0, 1) := by decide +kernel
theorem dX11_rule_217 : decode cX11_rule 217 = .ok (.getfield 81, 3) := by decide +kernel
theorem dX11_rule_220 : decode cX11_rule 220 = .ok (.sipush 128, 3) := by decide +kernel
theorem dX11_rule_223 : decode cX11_rule 223 = .ok (.iload_n 2, 1) := by decide +kernel
theorem dX11_rule_224 : decode cX11_rule 224 = .ok (.iadd, 1) := by decide +kernel
theorem dX11_rule_225 : decode cX11_rule 225 = .ok (.iaload, 1) := by decide +kernel
theorem dX11_rule_226 : decode cX11_rule 226 = .ok (.iastore, 1) := by decide +kernel
theorem dX11_rule_227 : decode cX11_rule 227 = .ok (.aload_n 0, 1) := by decide +kernel
theorem dX11_rule_228 : decode cX11_rule 228 = .ok (.getfield 84, 3) := by decide +kernel
theorem dX11_rule_231 : decode cX11_rule 231 = .ok (.iload_n 2, 1) := by decide +kernel
theorem dX11_rule_232 : decode cX11_rule 232 = .ok (.aload_n 0, 1) := by decide +kernel
theorem dX11_rule_233 : decode cX11_rule 233 = .ok (.getfield 84, 3) := by decide +kernel
theorem dX11_rule_236 : decode cX11_rule 236 = .ok (.sipush 128, 3) := by decide +kernel
theorem dX11_rule_239 : decode cX11_rule 239 = .ok (.iload_n 2, 1) := by decide +kernel
theorem dX11_rule_240 : decode cX11_rule 240 = .ok (.iadd, 1) := by decide +kernel
theorem dX11_rule_241 : decode cX11_rule 241 = .ok (.iaload, 1) := by decide +kernel
theorem dX11_rule_242 : decode cX11_rule 242 = .ok (.iastore, 1) := by decide +kernel
theorem dX11_rule_243 : decode cX11_rule 243 = .ok (.iinc 2 1, 3) := by decide +kernel
theorem dX11_rule_246 : decode cX11_rule 246 = .ok (.goto (-74), 3) := by decide +kernel
theorem dX11_rule_249 : decode cX11_rule 249 = .ok (.aload_n 0, 1) := by decide +kernel
theorem dX11_rule_250 : decode cX11_rule 250 = .ok (.getfield 307, 3) := by decide +kernel
theorem dX11_rule_253 : decode cX11_rule 253 = .ok (.ireturn, 1) := by decide +kernel
theorem dX11_place_0 : decode cX11_place 0 = .ok (.aload_n 0, 1) := by decide +kernel
theorem dX11_place_1 : decode cX11_place 1 = .ok (.iconst 0, 1) := by decide +kernel
theorem dX11_place_2 : decode cX11_place 2 = .ok (.putfield 139, 3) := by decide +kernel
theorem dX11_place_5 : decode cX11_place 5 = .ok (.aload_n 0, 1) := by decide +kernel
theorem dX11_place_6 : decode cX11_place 6 = .ok (.getfield 91, 3) := by decide +kernel
theorem dX11_place_9 : decode cX11_place 9 = .ok (.ireturn, 1) := by decide +kernel
theorem dX11_namedBy_0 : decode cX11_namedBy 0 = .ok (.iconst 0, 1) := by decide +kernel
theorem dX11_namedBy_1 : decode cX11_namedBy 1 = .ok (.istore_n 2, 1) := by decide +kernel
theorem dX11_namedBy_2 : decode cX11_namedBy 2 = .ok (.iconst 0, 1) := by decide +kernel
theorem dX11_namedBy_3 : decode cX11_namedBy 3 = .ok (.istore_n 3, 1) := by decide +kernel
theorem dX11_namedBy_4 : decode cX11_namedBy 4 = .ok (.iload_n 3, 1) := by decide +kernel
theorem dX11_namedBy_5 : decode cX11_namedBy 5 = .ok (.iconst 3, 1) := by decide +kernel
theorem dX11_namedBy_6 : decode cX11_namedBy 6 = .ok (.aload_n 0, 1) := by decide +kernel
theorem dX11_namedBy_7 : decode cX11_namedBy 7 = .ok (.getfield 142, 3) := by decide +kernel
theorem dX11_namedBy_10 : decode cX11_namedBy 10 = .ok (.imul, 1) := by decide +kernel
theorem dX11_namedBy_11 : decode cX11_namedBy 11 = .ok (.if_icmp .ge 27, 3) := by decide +kernel
theorem dX11_namedBy_14 : decode cX11_namedBy 14 = .ok (.iload_n 2, 1) := by decide +kernel
theorem dX11_namedBy_15 : decode cX11_namedBy 15 = .ok (.aload_n 0, 1) := by decide +kernel
theorem dX11_namedBy_16 : decode cX11_namedBy 16 = .ok (.getfield 25, 3) := by decide +kernel
theorem dX11_namedBy_19 : decode cX11_namedBy 19 = .ok (.iload_n 3, 1) := by decide +kernel
theorem dX11_namedBy_20 : decode cX11_namedBy 20 = .ok (.iaload, 1) := by decide +kernel
theorem dX11_namedBy_21 : decode cX11_namedBy 21 = .ok (.iload_n 1, 1) := by decide +kernel
theorem dX11_namedBy_22 : decode cX11_namedBy 22 = .ok (.if_icmp .ne 7, 3) := by decide +kernel
theorem dX11_namedBy_25 : decode cX11_namedBy 25 = .ok (.iconst 1, 1) := by decide +kernel
theorem dX11_namedBy_26 : decode cX11_namedBy 26 = .ok (.goto 4, 3) := by decide +kernel
theorem dX11_namedBy_29 : decode cX11_namedBy 29 = .ok (.iconst 0, 1) := by decide +kernel
theorem dX11_namedBy_30 : decode cX11_namedBy 30 = .ok (.iadd, 1) := by decide +kernel
theorem dX11_namedBy_31 : decode cX11_namedBy 31 = .ok (.istore_n 2, 1) := by decide +kernel
theorem dX11_namedBy_32 : decode cX11_namedBy 32 = .ok (.iinc 3 1, 3) := by decide +kernel
theorem dX11_namedBy_35 : decode cX11_namedBy 35 = .ok (.goto (-31), 3) := by decide +kernel
theorem dX11_namedBy_38 : decode cX11_namedBy 38 = .ok (.iload_n 2, 1) := by decide +kernel
theorem dX11_namedBy_39 : decode cX11_namedBy 39 = .ok (.ireturn, 1) := by decide +kernel
theorem dX11_wishesOf_0 : decode cX11_wishesOf 0 = .ok (.iconst 0, 1) := by decide +kernel
theorem dX11_wishesOf_1 : decode cX11_wishesOf 1 = .ok (.istore_n 2, 1) := by decide +kernel
theorem dX11_wishesOf_2 : decode cX11_wishesOf 2 = .ok (.iconst 0, 1) := by decide +kernel
theorem dX11_wishesOf_3 : decode cX11_wishesOf 3 = .ok (.istore_n 3, 1) := by decide +kernel
theorem dX11_wishesOf_4 : decode cX11_wishesOf 4 = .ok (.iload_n 3, 1) := by decide +kernel
theorem dX11_wishesOf_5 : decode cX11_wishesOf 5 = .ok (.iconst 3, 1) := by decide +kernel
theorem dX11_wishesOf_6 : decode cX11_wishesOf 6 = .ok (.if_icmp .ge 31, 3) := by decide +kernel
theorem dX11_wishesOf_9 : decode cX11_wishesOf 9 = .ok (.iload_n 2, 1) := by decide +kernel
theorem dX11_wishesOf_10 : decode cX11_wishesOf 10 = .ok (.aload_n 0, 1) := by decide +kernel
theorem dX11_wishesOf_11 : decode cX11_wishesOf 11 = .ok (.getfield 25, 3) := by decide +kernel
theorem dX11_wishesOf_14 : decode cX11_wishesOf 14 = .ok (.iconst 3, 1) := by decide +kernel
theorem dX11_wishesOf_15 : decode cX11_wishesOf 15 = .ok (.iload_n 1, 1) := by decide +kernel
theorem dX11_wishesOf_16 : decode cX11_wishesOf 16 = .ok (.imul, 1) := by decide +kernel
theorem dX11_wishesOf_17 : decode cX11_wishesOf 17 = .ok (.iload_n 3, 1) := by decide +kernel
theorem dX11_wishesOf_18 : decode cX11_wishesOf 18 = .ok (.iadd, 1) := by decide +kernel
theorem dX11_wishesOf_19 : decode cX11_wishesOf 19 = .ok (.iaload, 1) := by decide +kernel
theorem dX11_wishesOf_20 : decode cX11_wishesOf 20 = .ok (.iconst (-1), 1) := by decide +kernel
theorem dX11_wishesOf_21 : decode cX11_wishesOf 21 = .ok (.if_icmp .ne 7, 3) := by decide +kernel
theorem dX11_wishesOf_24 : decode cX11_wishesOf 24 = .ok (.iconst 0, 1) := by decide +kernel
theorem dX11_wishesOf_25 : decode cX11_wishesOf 25 = .ok (.goto 4, 3) := by decide +kernel
theorem dX11_wishesOf_28 : decode cX11_wishesOf 28 = .ok (.iconst 1, 1) := by decide +kernel
theorem dX11_wishesOf_29 : decode cX11_wishesOf 29 = .ok (.iadd, 1) := by decide +kernel
theorem dX11_wishesOf_30 : decode cX11_wishesOf 30 = .ok (.istore_n 2, 1) := by decide +kernel
theorem dX11_wishesOf_31 : decode cX11_wishesOf 31 = .ok (.iinc 3 1, 3) := by decide +kernel
theorem dX11_wishesOf_34 : decode cX11_wishesOf 34 = .ok (.goto (-30), 3) := by decide +kernel
theorem dX11_wishesOf_37 : decode cX11_wishesOf 37 = .ok (.iload_n 2, 1) := by decide +kernel
theorem dX11_wishesOf_38 : decode cX11_wishesOf 38 = .ok (.ireturn, 1) := by decide +kernel
theorem dX11_orFive_0 : decode cX11_orFive 0 = .ok (.iload_n 0, 1) := by decide +kernel
theorem dX11_orFive_1 : decode cX11_orFive 1 = .ok (.iconst (-1), 1) := by decide +kernel
theorem dX11_orFive_2 : decode cX11_orFive 2 = .ok (.if_icmp .ne 7, 3) := by decide +kernel
theorem dX11_orFive_5 : decode cX11_orFive 5 = .ok (.iconst 5, 1) := by decide +kernel
theorem dX11_orFive_6 : decode cX11_orFive 6 = .ok (.goto 4, 3) := by decide +kernel
theorem dX11_orFive_9 : decode cX11_orFive 9 = .ok (.iload_n 0, 1) := by decide +kernel
theorem dX11_orFive_10 : decode cX11_orFive 10 = .ok (.ireturn, 1) := by decide +kernel
theorem dX11_learns_0 : decode cX11_learns 0 = .ok (.iconst 0, 1) := by decide +kernel
theorem dX11_learns_1 : decode cX11_learns 1 = .ok (.istore_n 2, 1) := by decide +kernel
theorem dX11_learns_2 : decode cX11_learns 2 = .ok (.iload_n 2, 1) := by decide +kernel
theorem dX11_learns_3 : decode cX11_learns 3 = .ok (.aload_n 0, 1) := by decide +kernel
theorem dX11_learns_4 : decode cX11_learns 4 = .ok (.getfield 142, 3) := by decide +kernel
theorem dX11_learns_7 : decode cX11_learns 7 = .ok (.if_icmp .ge 133, 3) := by decide +kernel
theorem dX11_learns_10 : decode cX11_learns 10 = .ok (.aload_n 0, 1) := by decide +kernel
theorem dX11_learns_11 : decode cX11_learns 11 = .ok (.getfield 94, 3) := by decide +kernel
theorem dX11_learns_14 : decode cX11_learns 14 = .ok (.bipush 7, 2) := by decide +kernel
theorem dX11_learns_16 : decode cX11_learns 16 = .ok (.iload_n 2, 1) := by decide +kernel
theorem dX11_learns_17 : decode cX11_learns 17 = .ok (.imul, 1) := by decide +kernel
theorem dX11_learns_18 : decode cX11_learns 18 = .ok (.aload_n 0, 1) := by decide +kernel
theorem dX11_learns_19 : decode cX11_learns 19 = .ok (.getfield 7, 3) := by decide +kernel
theorem dX11_learns_22 : decode cX11_learns 22 = .ok (.iload_n 2, 1) := by decide +kernel
theorem dX11_learns_23 : decode cX11_learns 23 = .ok (.iaload, 1) := by decide +kernel
theorem dX11_learns_24 : decode cX11_learns 24 = .ok (.iastore, 1) := by decide +kernel
theorem dX11_learns_25 : decode cX11_learns 25 = .ok (.aload_n 0, 1) := by decide +kernel
theorem dX11_learns_26 : decode cX11_learns 26 = .ok (.getfield 94, 3) := by decide +kernel
theorem dX11_learns_29 : decode cX11_learns 29 = .ok (.bipush 7, 2) := by decide +kernel
theorem dX11_learns_31 : decode cX11_learns 31 = .ok (.iload_n 2, 1) := by decide +kernel
theorem dX11_learns_32 : decode cX11_learns 32 = .ok (.imul, 1) := by decide +kernel
theorem dX11_learns_33 : decode cX11_learns 33 = .ok (.iconst 1, 1) := by decide +kernel
theorem dX11_learns_34 : decode cX11_learns 34 = .ok (.iadd, 1) := by decide +kernel
theorem dX11_learns_35 : decode cX11_learns 35 = .ok (.aload_n 0, 1) := by decide +kernel
theorem dX11_learns_36 : decode cX11_learns 36 = .ok (.getfield 13, 3) := by decide +kernel
theorem dX11_learns_39 : decode cX11_learns 39 = .ok (.iload_n 2, 1) := by decide +kernel
theorem dX11_learns_40 : decode cX11_learns 40 = .ok (.iaload, 1) := by decide +kernel
theorem dX11_learns_41 : decode cX11_learns 41 = .ok (.iastore, 1) := by decide +kernel
theorem dX11_learns_42 : decode cX11_learns 42 = .ok (.aload_n 0, 1) := by decide +kernel
theorem dX11_learns_43 : decode cX11_learns 43 = .ok (.getfield 94, 3) := by decide +kernel
theorem dX11_learns_46 : decode cX11_learns 46 = .ok (.bipush 7, 2) := by decide +kernel
theorem dX11_learns_48 : decode cX11_learns 48 = .ok (.iload_n 2, 1) := by decide +kernel
theorem dX11_learns_49 : decode cX11_learns 49 = .ok (.imul, 1) := by decide +kernel
theorem dX11_learns_50 : decode cX11_learns 50 = .ok (.iconst 2, 1) := by decide +kernel
theorem dX11_learns_51 : decode cX11_learns 51 = .ok (.iadd, 1) := by decide +kernel
theorem dX11_learns_52 : decode cX11_learns 52 = .ok (.aload_n 0, 1) := by decide +kernel
theorem dX11_learns_53 : decode cX11_learns 53 = .ok (.iload_n 2, 1) := by decide +kernel
theorem dX11_learns_54 : decode cX11_learns 54 = .ok (.iconst 0, 1) := by decide +kernel
theorem dX11_learns_55 : decode cX11_learns 55 = .ok (.iload_n 1, 1) := by decide +kernel
theorem dX11_learns_56 : decode cX11_learns 56 = .ok (.invokevirtual 178, 3) := by decide +kernel
theorem dX11_learns_59 : decode cX11_learns 59 = .ok (.invokestatic 310, 3) := by decide +kernel
theorem dX11_learns_62 : decode cX11_learns 62 = .ok (.iastore, 1) := by decide +kernel
theorem dX11_learns_63 : decode cX11_learns 63 = .ok (.aload_n 0, 1) := by decide +kernel
theorem dX11_learns_64 : decode cX11_learns 64 = .ok (.getfield 94, 3) := by decide +kernel
theorem dX11_learns_67 : decode cX11_learns 67 = .ok (.bipush 7, 2) := by decide +kernel
theorem dX11_learns_69 : decode cX11_learns 69 = .ok (.iload_n 2, 1) := by decide +kernel
theorem dX11_learns_70 : decode cX11_learns 70 = .ok (.imul, 1) := by decide +kernel
theorem dX11_learns_71 : decode cX11_learns 71 = .ok (.iconst 3, 1) := by decide +kernel
theorem dX11_learns_72 : decode cX11_learns 72 = .ok (.iadd, 1) := by decide +kernel
theorem dX11_learns_73 : decode cX11_learns 73 = .ok (.aload_n 0, 1) := by decide +kernel
theorem dX11_learns_74 : decode cX11_learns 74 = .ok (.iload_n 2, 1) := by decide +kernel
theorem dX11_learns_75 : decode cX11_learns 75 = .ok (.iconst 1, 1) := by decide +kernel
theorem dX11_learns_76 : decode cX11_learns 76 = .ok (.iload_n 1, 1) := by decide +kernel
theorem dX11_learns_77 : decode cX11_learns 77 = .ok (.invokevirtual 178, 3) := by decide +kernel
theorem dX11_learns_80 : decode cX11_learns 80 = .ok (.invokestatic 310, 3) := by decide +kernel
theorem dX11_learns_83 : decode cX11_learns 83 = .ok (.iastore, 1) := by decide +kernel
theorem dX11_learns_84 : decode cX11_learns 84 = .ok (.aload_n 0, 1) := by decide +kernel
theorem dX11_learns_85 : decode cX11_learns 85 = .ok (.getfield 94, 3) := by decide +kernel
theorem dX11_learns_88 : decode cX11_learns 88 = .ok (.bipush 7, 2) := by decide +kernel
theorem dX11_learns_90 : decode cX11_learns 90 = .ok (.iload_n 2, 1) := by decide +kernel
theorem dX11_learns_91 : decode cX11_learns 91 = .ok (.imul, 1) := by decide +kernel
theorem dX11_learns_92 : decode cX11_learns 92 = .ok (.iconst 4, 1) := by decide +kernel
theorem dX11_learns_93 : decode cX11_learns 93 = .ok (.iadd, 1) := by decide +kernel
theorem dX11_learns_94 : decode cX11_learns 94 = .ok (.aload_n 0, 1) := by decide +kernel
theorem dX11_learns_95 : decode cX11_learns 95 = .ok (.getfield 22, 3) := by decide +kernel
theorem dX11_learns_98 : decode cX11_learns 98 = .ok (.iload_n 2, 1) := by decide +kernel
theorem dX11_learns_99 : decode cX11_learns 99 = .ok (.iaload, 1) := by decide +kernel
theorem dX11_learns_100 : decode cX11_learns 100 = .ok (.iastore, 1) := by decide +kernel
theorem dX11_learns_101 : decode cX11_learns 101 = .ok (.aload_n 0, 1) := by decide +kernel
theorem dX11_learns_102 : decode cX11_learns 102 = .ok (.getfield 94, 3) := by decide +kernel
theorem dX11_learns_105 : decode cX11_learns 105 = .ok (.bipush 7, 2) := by decide +kernel
theorem dX11_learns_107 : decode cX11_learns 107 = .ok (.iload_n 2, 1) := by decide +kernel
theorem dX11_learns_108 : decode cX11_learns 108 = .ok (.imul, 1) := by decide +kernel
theorem dX11_learns_109 : decode cX11_learns 109 = .ok (.iconst 5, 1) := by decide +kernel
theorem dX11_learns_110 : decode cX11_learns 110 = .ok (.iadd, 1) := by decide +kernel
theorem dX11_learns_111 : decode cX11_learns 111 = .ok (.aload_n 0, 1) := by decide +kernel
theorem dX11_learns_112 : decode cX11_learns 112 = .ok (.iload_n 2, 1) := by decide +kernel
theorem dX11_learns_113 : decode cX11_learns 113 = .ok (.invokevirtual 313, 3) := by decide +kernel
theorem dX11_learns_116 : decode cX11_learns 116 = .ok (.iastore, 1) := by decide +kernel
theorem dX11_learns_117 : decode cX11_learns 117 = .ok (.aload_n 0, 1) := by decide +kernel
theorem dX11_learns_118 : decode cX11_learns 118 = .ok (.getfield 94, 3) := by decide +kernel
theorem dX11_learns_121 : decode cX11_learns 121 = .ok (.bipush 7, 2) := by decide +kernel
theorem dX11_learns_123 : decode cX11_learns 123 = .ok (.iload_n 2, 1) := by decide +kernel
theorem dX11_learns_124 : decode cX11_learns 124 = .ok (.imul, 1) := by decide +kernel
theorem dX11_learns_125 : decode cX11_learns 125 = .ok (.bipush 6, 2) := by decide +kernel
theorem dX11_learns_127 : decode cX11_learns 127 = .ok (.iadd, 1) := by decide +kernel
theorem dX11_learns_128 : decode cX11_learns 128 = .ok (.aload_n 0, 1) := by decide +kernel
theorem dX11_learns_129 : decode cX11_learns 129 = .ok (.iload_n 2, 1) := by decide +kernel
theorem dX11_learns_130 : decode cX11_learns 130 = .ok (.invokevirtual 316, 3) := by decide +kernel
theorem dX11_learns_133 : decode cX11_learns 133 = .ok (.iastore, 1) := by decide +kernel
theorem dX11_learns_134 : decode cX11_learns 134 = .ok (.iinc 2 1, 3) := by decide +kernel
theorem dX11_learns_137 : decode cX11_learns 137 = .ok (.goto (-135), 3) := by decide +kernel
theorem dX11_learns_140 : decode cX11_learns 140 = .ok (.iconst 0, 1) := by decide +kernel
theorem dX11_learns_141 : decode cX11_learns 141 = .ok (.istore_n 2, 1) := by decide +kernel
theorem dX11_learns_142 : decode cX11_learns 142 = .ok (.iload_n 2, 1) := by decide +kernel
theorem dX11_learns_143 : decode cX11_learns 143 = .ok (.iconst 2, 1) := by decide +kernel
theorem dX11_learns_144 : decode cX11_learns 144 = .ok (.aload_n 0, 1) := by decide +kernel
theorem dX11_learns_145 : decode cX11_learns 145 = .ok (.getfield 307, 3) := by decide +kernel
theorem dX11_learns_148 : decode cX11_learns 148 = .ok (.imul, 1) := by decide +kernel
theorem dX11_learns_149 : decode cX11_learns 149 = .ok (.if_icmp .ge 60, 3) := by decide +kernel
theorem dX11_learns_152 : decode cX11_learns 152 = .ok (.iconst 0, 1) := by decide +kernel
theorem dX11_learns_153 : decode cX11_learns 153 = .ok (.istore_n 3, 1) := by decide +kernel
theorem dX11_learns_154 : decode cX11_learns 154 = .ok (.iload_n 3, 1) := by decide +kernel
theorem dX11_learns_155 : decode cX11_learns 155 = .ok (.aload_n 0, 1) := by decide +kernel
theorem dX11_learns_156 : decode cX11_learns 156 = .ok (.getfield 142, 3) := by decide +kernel
theorem dX11_learns_159 : decode cX11_learns 159 = .ok (.if_icmp .ge 44, 3) := by decide +kernel
theorem dX11_learns_162 : decode cX11_learns 162 = .ok (.aload_n 0, 1) := by decide +kernel
theorem dX11_learns_163 : decode cX11_learns 163 = .ok (.getfield 97, 3) := by decide +kernel
theorem dX11_learns_166 : decode cX11_learns 166 = .ok (.bipush 14, 2) := by decide +kernel
theorem dX11_learns_168 : decode cX11_learns 168 = .ok (.iload_n 2, 1) := by decide +kernel
theorem dX11_learns_169 : decode cX11_learns 169 = .ok (.imul, 1) := by decide +kernel
theorem dX11_learns_170 : decode cX11_learns 170 = .ok (.iload_n 3, 1) := by decide +kernel
theorem dX11_learns_171 : decode cX11_learns 171 = .ok (.iadd, 1) := by decide +kernel
theorem dX11_learns_172 : decode cX11_learns 172 = .ok (.aload_n 0, 1) := by decide +kernel
theorem dX11_learns_173 : decode cX11_learns 173 = .ok (.getfield 72, 3) := by decide +kernel
theorem dX11_learns_176 : decode cX11_learns 176 = .ok (.iload_n 2, 1) := by decide +kernel
theorem dX11_learns_177 : decode cX11_learns 177 = .ok (.iaload, 1) := by decide +kernel
theorem dX11_learns_178 : decode cX11_learns 178 = .ok (.iconst (-1), 1) := by decide +kernel
theorem dX11_learns_179 : decode cX11_learns 179 = .ok (.if_icmp .eq 16, 3) := by decide +kernel
theorem dX11_learns_182 : decode cX11_learns 182 = .ok (.aload_n 0, 1) := by decide +kernel
theorem dX11_learns_183 : decode cX11_learns 183 = .ok (.iload_n 2, 1) := by decide +kernel
theorem dX11_learns_184 : decode cX11_learns 184 = .ok (.iload_n 3, 1) := by decide +kernel
theorem dX11_learns_185 : decode cX11_learns 185 = .ok (.invokevirtual 319, 3) := by decide +kernel
theorem dX11_learns_188 : decode cX11_learns 188 = .ok (.ifCond .eq 7, 3) := by decide +kernel
theorem dX11_learns_191 : decode cX11_learns 191 = .ok (.iconst 1, 1) := by decide +kernel
theorem dX11_learns_192 : decode cX11_learns 192 = .ok (.goto 4, 3) := by decide +kernel
theorem dX11_learns_195 : decode cX11_learns 195 = .ok (.iconst 0, 1) := by decide +kernel
theorem dX11_learns_196 : decode cX11_learns 196 = .ok (.bastore, 1) := by decide +kernel
theorem dX11_learns_197 : decode cX11_learns 197 = .ok (.iinc 3 1, 3) := by decide +kernel
theorem dX11_learns_200 : decode cX11_learns 200 = .ok (.goto (-46), 3) := by decide +kernel
theorem dX11_learns_203 : decode cX11_learns 203 = .ok (.iinc 2 1, 3) := by decide +kernel
theorem dX11_learns_206 : decode cX11_learns 206 = .ok (.goto (-64), 3) := by decide +kernel
theorem dX11_learns_209 : decode cX11_learns 209 = .ok (.return_, 1) := by decide +kernel
theorem dX11_allHold_0 : decode cX11_allHold 0 = .ok (.iconst 0, 1) := by decide +kernel
theorem dX11_allHold_1 : decode cX11_allHold 1 = .ok (.istore_n 3, 1) := by decide +kernel
theorem dX11_allHold_2 : decode cX11_allHold 2 = .ok (.iload_n 3, 1) := by decide +kernel
theorem dX11_allHold_3 : decode cX11_allHold 3 = .ok (.aload_n 0, 1) := by decide +kernel
theorem dX11_allHold_4 : decode cX11_allHold 4 = .ok (.getfield 72, 3) := by decide +kernel
theorem dX11_allHold_7 : decode cX11_allHold 7 = .ok (.iload_n 1, 1) := by decide +kernel
theorem dX11_allHold_8 : decode cX11_allHold 8 = .ok (.iaload, 1) := by decide +kernel
theorem dX11_allHold_9 : decode cX11_allHold 9 = .ok (.if_icmp .ge 185, 3) := by decide +kernel
theorem dX11_allHold_12 : decode cX11_allHold 12 = .ok (.iconst 4, 1) := by decide +kernel
theorem dX11_allHold_13 : decode cX11_allHold 13 = .ok (.iload_n 1, 1) := by decide +kernel
theorem dX11_allHold_14 : decode cX11_allHold 14 = .ok (.imul, 1) := by decide +kernel
theorem dX11_allHold_15 : decode cX11_allHold 15 = .ok (.iload_n 3, 1) := by decide +kernel
theorem dX11_allHold_16 : decode cX11_allHold 16 = .ok (.iadd, 1) := by decide +kernel
theorem dX11_allHold_17 : decode cX11_allHold 17 = .ok (.istore 4, 2) := by decide +kernel
theorem dX11_allHold_19 : decode cX11_allHold 19 = .ok (.aload_n 0, 1) := by decide +kernel
theorem dX11_allHold_20 : decode cX11_allHold 20 = .ok (.getfield 78, 3) := by decide +kernel
theorem dX11_allHold_23 : decode cX11_allHold 23 = .ok (.iload 4, 2) := by decide +kernel
theorem dX11_allHold_25 : decode cX11_allHold 25 = .ok (.iaload, 1) := by decide +kernel
theorem dX11_allHold_26 : decode cX11_allHold 26 = .ok (.bipush 7, 2) := by decide +kernel
theorem dX11_allHold_28 : decode cX11_allHold 28 = .ok (.if_icmp .ne 7, 3) := by decide +kernel
theorem dX11_allHold_31 : decode cX11_allHold 31 = .ok (.iconst 0, 1) := by decide +kernel
theorem dX11_allHold_32 : decode cX11_allHold 32 = .ok (.goto 20, 3) := by decide +kernel
theorem dX11_allHold_35 : decode cX11_allHold 35 = .ok (.aload_n 0, 1) := by decide +kernel
theorem dX11_allHold_36 : decode cX11_allHold 36 = .ok (.getfield 94, 3) := by decide +kernel
theorem dX11_allHold_39 : decode cX11_allHold 39 = .ok (.bipush 7, 2) := by decide +kernel
theorem dX11_allHold_41 : decode cX11_allHold 41 = .ok (.iload_n 2, 1) := by decide +kernel
theorem dX11_allHold_42 : decode cX11_allHold 42 = .ok (.imul, 1) := by decide +kernel
theorem dX11_allHold_43 : decode cX11_allHold 43 = .ok (.aload_n 0, 1) := by decide +kernel
theorem dX11_allHold_44 : decode cX11_allHold 44 = .ok (.getfield 78, 3) := by decide +kernel
theorem dX11_allHold_47 : decode cX11_allHold 47 = .ok (.iload 4, 2) := by decide +kernel
theorem dX11_allHold_49 : decode cX11_allHold 49 = .ok (.iaload, 1) := by decide +kernel
theorem dX11_allHold_50 : decode cX11_allHold 50 = .ok (.iadd, 1) := by decide +kernel
theorem dX11_allHold_51 : decode cX11_allHold 51 = .ok (.iaload, 1) := by decide +kernel
theorem dX11_allHold_52 : decode cX11_allHold 52 = .ok (.istore 5, 2) := by decide +kernel
theorem dX11_allHold_54 : decode cX11_allHold 54 = .ok (.aload_n 0, 1) := by decide +kernel
theorem dX11_allHold_55 : decode cX11_allHold 55 = .ok (.getfield 78, 3) := by decide +kernel
theorem dX11_allHold_58 : decode cX11_allHold 58 = .ok (.iload 4, 2) := by decide +kernel
theorem dX11_allHold_60 : decode cX11_allHold 60 = .ok (.iaload, 1) := by decide +kernel
theorem dX11_allHold_61 : decode cX11_allHold 61 = .ok (.bipush 7, 2) := by decide +kernel
theorem dX11_allHold_63 : decode cX11_allHold 63 = .ok (.if_icmp .ne 31, 3) := by decide +kernel
theorem dX11_allHold_66 : decode cX11_allHold 66 = .ok (.aload_n 0, 1) := by decide +kernel
theorem dX11_allHold_67 : decode cX11_allHold 67 = .ok (.getfield 16, 3) := by decide +kernel
theorem dX11_allHold_70 : decode cX11_allHold 70 = .ok (.iload_n 2, 1) := by decide +kernel
theorem dX11_allHold_71 : decode cX11_allHold 71 = .ok (.iaload, 1) := by decide +kernel
theorem dX11_allHold_72 : decode cX11_allHold 72 = .ok (.aload_n 0, 1) := by decide +kernel
theorem dX11_allHold_73 : decode cX11_allHold 73 = .ok (.getfield 84, 3) := by decide +kernel
theorem dX11_allHold_76 : decode cX11_allHold 76 = .ok (.iload 4, 2) := by decide +kernel
theorem dX11_allHold_78 : decode cX11_allHold 78 = .ok (.iaload, 1) := by decide +kernel
theorem dX11_allHold_79 : decode cX11_allHold 79 = .ok (.ishr, 1) := by decide +kernel
theorem dX11_allHold_80 : decode cX11_allHold 80 = .ok (.iconst 1, 1) := by decide +kernel
theorem dX11_allHold_81 : decode cX11_allHold 81 = .ok (.iand, 1) := by decide +kernel
theorem dX11_allHold_82 : decode cX11_allHold 82 = .ok (.iconst 1, 1) := by decide +kernel
theorem dX11_allHold_83 : decode cX11_allHold 83 = .ok (.if_icmp .ne 7, 3) := by decide +kernel
theorem dX11_allHold_86 : decode cX11_allHold 86 = .ok (.iconst 1, 1) := by decide +kernel
theorem dX11_allHold_87 : decode cX11_allHold 87 = .ok (.goto 85, 3) := by decide +kernel
theorem dX11_allHold_90 : decode cX11_allHold 90 = .ok (.iconst 0, 1) := by decide +kernel
theorem dX11_allHold_91 : decode cX11_allHold 91 = .ok (.goto 81, 3) := by decide +kernel
theorem dX11_allHold_94 : decode cX11_allHold 94 = .ok (.aload_n 0, 1) := by decide +kernel
theorem dX11_allHold_95 : decode cX11_allHold 95 = .ok (.getfield 81, 3) := by decide +kernel
theorem dX11_allHold_98 : decode cX11_allHold 98 = .ok (.iload 4, 2) := by decide +kernel
theorem dX11_allHold_100 : decode cX11_allHold 100 = .ok (.iaload, 1) := by decide +kernel
theorem dX11_allHold_101 : decode cX11_allHold 101 = .ok (.ifCond .ne 23, 3) := by decide +kernel
theorem dX11_allHold_104 : decode cX11_allHold 104 = .ok (.iload 5, 2) := by decide +kernel
theorem dX11_allHold_106 : decode cX11_allHold 106 = .ok (.aload_n 0, 1) := by decide +kernel
theorem dX11_allHold_107 : decode cX11_allHold 107 = .ok (.getfield 84, 3) := by decide +kernel
theorem dX11_allHold_110 : decode cX11_allHold 110 = .ok (.iload 4, 2) := by decide +kernel
theorem dX11_allHold_112 : decode cX11_allHold 112 = .ok (.iaload, 1) := by decide +kernel
theorem dX11_allHold_113 : decode cX11_allHold 113 = .ok (.if_icmp .ge 7, 3) := by decide +kernel
theorem dX11_allHold_116 : decode cX11_allHold 116 = .ok (.iconst 1, 1) := by decide +kernel
theorem dX11_allHold_117 : decode cX11_allHold 117 = .ok (.goto 55, 3) := by decide +kernel
theorem dX11_allHold_120 : decode cX11_allHold 120 = .ok (.iconst 0, 1) := by decide +kernel
theorem dX11_allHold_121 : decode cX11_allHold 121 = .ok (.goto 51, 3) := by decide +kernel
theorem dX11_allHold_124 : decode cX11_allHold 124 = .ok (.aload_n 0, 1) := by decide +kernel
theorem dX11_allHold_125 : decode cX11_allHold 125 = .ok (.getfield 81, 3) := by decide +kernel
theorem dX11_allHold_128 : decode cX11_allHold 128 = .ok (.iload 4, 2) := by decide +kernel
theorem dX11_allHold_130 : decode cX11_allHold 130 = .ok (.iaload, 1) := by decide +kernel
theorem dX11_allHold_131 : decode cX11_allHold 131 = .ok (.iconst 1, 1) := by decide +kernel
theorem dX11_allHold_132 : decode cX11_allHold 132 = .ok (.if_icmp .ne 23, 3) := by decide +kernel
theorem dX11_allHold_135 : decode cX11_allHold 135 = .ok (.iload 5, 2) := by decide +kernel
theorem dX11_allHold_137 : decode cX11_allHold 137 = .ok (.aload_n 0, 1) := by decide +kernel
theorem dX11_allHold_138 : decode cX11_allHold 138 = .ok (.getfield 84, 3) := by decide +kernel
theorem dX11_allHold_141 : decode cX11_allHold 141 = .ok (.iload 4, 2) := by decide +kernel
theorem dX11_allHold_143 : decode cX11_allHold 143 = .ok (.iaload, 1) := by decide +kernel
theorem dX11_allHold_144 : decode cX11_allHold 144 = .ok (.if_icmp .ne 7, 3) := by decide +kernel
theorem dX11_allHold_147 : decode cX11_allHold 147 = .ok (.iconst 1, 1) := by decide +kernel
theorem dX11_allHold_148 : decode cX11_allHold 148 = .ok (.goto 24, 3) := by decide +kernel
theorem dX11_allHold_151 : decode cX11_allHold 151 = .ok (.iconst 0, 1) := by decide +kernel
theorem dX11_allHold_152 : decode cX11_allHold 152 = .ok (.goto 20, 3) := by decide +kernel
theorem dX11_allHold_155 : decode cX11_allHold 155 = .ok (.iload 5, 2) := by decide +kernel
theorem dX11_allHold_157 : decode cX11_allHold 157 = .ok (.aload_n 0, 1) := by decide +kernel
theorem dX11_allHold_158 : decode cX11_allHold 158 = .ok (.getfield 84, 3) := by decide +kernel
theorem dX11_allHold_161 : decode cX11_allHold 161 = .ok (.iload 4, 2) := by decide +kernel
theorem dX11_allHold_163 : decode cX11_allHold 163 = .ok (.iaload, 1) := by decide +kernel
theorem dX11_allHold_164 : decode cX11_allHold 164 = .ok (.if_icmp .le 7, 3) := by decide +kernel
theorem dX11_allHold_167 : decode cX11_allHold 167 = .ok (.iconst 1, 1) := by decide +kernel
theorem dX11_allHold_168 : decode cX11_allHold 168 = .ok (.goto 4, 3) := by decide +kernel
theorem dX11_allHold_171 : decode cX11_allHold 171 = .ok (.iconst 0, 1) := by decide +kernel
theorem dX11_allHold_172 : decode cX11_allHold 172 = .ok (.istore 6, 2) := by decide +kernel
theorem dX11_allHold_174 : decode cX11_allHold 174 = .ok (.iload 6, 2) := by decide +kernel
theorem dX11_allHold_176 : decode cX11_allHold 176 = .ok (.aload_n 0, 1) := by decide +kernel
theorem dX11_allHold_177 : decode cX11_allHold 177 = .ok (.getfield 75, 3) := by decide +kernel
theorem dX11_allHold_180 : decode cX11_allHold 180 = .ok (.iload 4, 2) := by decide +kernel
theorem dX11_allHold_182 : decode cX11_allHold 182 = .ok (.baload, 1) := by decide +kernel
theorem dX11_allHold_183 : decode cX11_allHold 183 = .ok (.if_icmp .ne 5, 3) := by decide +kernel
theorem dX11_allHold_186 : decode cX11_allHold 186 = .ok (.iconst 0, 1) := by decide +kernel
theorem dX11_allHold_187 : decode cX11_allHold 187 = .ok (.ireturn, 1) := by decide +kernel
theorem dX11_allHold_188 : decode cX11_allHold 188 = .ok (.iinc 3 1, 3) := by decide +kernel
theorem dX11_allHold_191 : decode cX11_allHold 191 = .ok (.goto (-189), 3) := by decide +kernel
theorem dX11_allHold_194 : decode cX11_allHold 194 = .ok (.iconst 1, 1) := by decide +kernel
theorem dX11_allHold_195 : decode cX11_allHold 195 = .ok (.ireturn, 1) := by decide +kernel
theorem dX11_holds_0 : decode cX11_holds 0 = .ok (.aload_n 0, 1) := by decide +kernel
theorem dX11_holds_1 : decode cX11_holds 1 = .ok (.iconst 0, 1) := by decide +kernel
theorem dX11_holds_2 : decode cX11_holds 2 = .ok (.putfield 139, 3) := by decide +kernel
theorem dX11_holds_5 : decode cX11_holds 5 = .ok (.iload_n 1, 1) := by decide +kernel
theorem dX11_holds_6 : decode cX11_holds 6 = .ok (.iconst 0, 1) := by decide +kernel
theorem dX11_holds_7 : decode cX11_holds 7 = .ok (.aload_n 0, 1) := by decide +kernel
theorem dX11_holds_8 : decode cX11_holds 8 = .ok (.getfield 307, 3) := by decide +kernel
theorem dX11_holds_11 : decode cX11_holds 11 = .ok (.iconst 1, 1) := by decide +kernel
theorem dX11_holds_12 : decode cX11_holds 12 = .ok (.isub, 1) := by decide +kernel
theorem dX11_holds_13 : decode cX11_holds 13 = .ok (.invokestatic 145, 3) := by decide +kernel
theorem dX11_holds_16 : decode cX11_holds 16 = .ok (.ifCond .eq 47, 3) := by decide +kernel
theorem dX11_holds_19 : decode cX11_holds 19 = .ok (.iload_n 2, 1) := by decide +kernel
theorem dX11_holds_20 : decode cX11_holds 20 = .ok (.iconst 0, 1) := by decide +kernel
theorem dX11_holds_21 : decode cX11_holds 21 = .ok (.iconst 1, 1) := by decide +kernel
theorem dX11_holds_22 : decode cX11_holds 22 = .ok (.invokestatic 145, 3) := by decide +kernel
theorem dX11_holds_25 : decode cX11_holds 25 = .ok (.ifCond .eq 38, 3) := by decide +kernel
theorem dX11_holds_28 : decode cX11_holds 28 = .ok (.aload_n 0, 1) := by decide +kernel
theorem dX11_holds_29 : decode cX11_holds 29 = .ok (.iload_n 3, 1) := by decide +kernel
theorem dX11_holds_30 : decode cX11_holds 30 = .ok (.invokevirtual 149, 3) := by decide +kernel
theorem dX11_holds_33 : decode cX11_holds 33 = .ok (.ifCond .eq 30, 3) := by decide +kernel
theorem dX11_holds_36 : decode cX11_holds 36 = .ok (.iload 4, 2) := by decide +kernel
theorem dX11_holds_38 : decode cX11_holds 38 = .ok (.iconst 0, 1) := by decide +kernel
theorem dX11_holds_39 : decode cX11_holds 39 = .ok (.aload_n 0, 1) := by decide +kernel
theorem dX11_holds_40 : decode cX11_holds 40 = .ok (.getfield 153, 3) := by decide +kernel
theorem dX11_holds_43 : decode cX11_holds 43 = .ok (.invokestatic 145, 3) := by decide +kernel
theorem dX11_holds_46 : decode cX11_holds 46 = .ok (.ifCond .eq 17, 3) := by decide +kernel
theorem dX11_holds_49 : decode cX11_holds 49 = .ok (.aload_n 0, 1) := by decide +kernel
theorem dX11_holds_50 : decode cX11_holds 50 = .ok (.getfield 72, 3) := by decide +kernel
theorem dX11_holds_53 : decode cX11_holds 53 = .ok (.iconst 2, 1) := by decide +kernel
theorem dX11_holds_54 : decode cX11_holds 54 = .ok (.iload_n 1, 1) := by decide +kernel
theorem dX11_holds_55 : decode cX11_holds 55 = .ok (.imul, 1) := by decide +kernel
theorem dX11_holds_56 : decode cX11_holds 56 = .ok (.iload_n 2, 1) := by decide +kernel
theorem dX11_holds_57 : decode cX11_holds 57 = .ok (.iadd, 1) := by decide +kernel
theorem dX11_holds_58 : decode cX11_holds 58 = .ok (.iaload, 1) := by decide +kernel
theorem dX11_holds_59 : decode cX11_holds 59 = .ok (.iconst (-1), 1) := by decide +kernel
theorem dX11_holds_60 : decode cX11_holds 60 = .ok (.if_icmp .ne 5, 3) := by decide +kernel
theorem dX11_holds_63 : decode cX11_holds 63 = .ok (.iconst (-1), 1) := by decide +kernel
theorem dX11_holds_64 : decode cX11_holds 64 = .ok (.ireturn, 1) := by decide +kernel
theorem dX11_holds_65 : decode cX11_holds 65 = .ok (.aload_n 0, 1) := by decide +kernel
theorem dX11_holds_66 : decode cX11_holds 66 = .ok (.iload 4, 2) := by decide +kernel
theorem dX11_holds_68 : decode cX11_holds 68 = .ok (.invokevirtual 322, 3) := by decide +kernel
theorem dX11_holds_71 : decode cX11_holds 71 = .ok (.aload_n 0, 1) := by decide +kernel
theorem dX11_holds_72 : decode cX11_holds 72 = .ok (.getfield 97, 3) := by decide +kernel
theorem dX11_holds_75 : decode cX11_holds 75 = .ok (.bipush 14, 2) := by decide +kernel
theorem dX11_holds_77 : decode cX11_holds 77 = .ok (.iconst 2, 1) := by decide +kernel
theorem dX11_holds_78 : decode cX11_holds 78 = .ok (.iload_n 1, 1) := by decide +kernel
theorem dX11_holds_79 : decode cX11_holds 79 = .ok (.imul, 1) := by decide +kernel
theorem dX11_holds_80 : decode cX11_holds 80 = .ok (.iload_n 2, 1) := by decide +kernel
theorem dX11_holds_81 : decode cX11_holds 81 = .ok (.iadd, 1) := by decide +kernel
theorem dX11_holds_82 : decode cX11_holds 82 = .ok (.imul, 1) := by decide +kernel
theorem dX11_holds_83 : decode cX11_holds 83 = .ok (.iload_n 3, 1) := by decide +kernel
theorem dX11_holds_84 : decode cX11_holds 84 = .ok (.iadd, 1) := by decide +kernel
theorem dX11_holds_85 : decode cX11_holds 85 = .ok (.baload, 1) := by decide +kernel
theorem dX11_holds_86 : decode cX11_holds 86 = .ok (.ifCond .eq 7, 3) := by decide +kernel
theorem dX11_holds_89 : decode cX11_holds 89 = .ok (.iconst 1, 1) := by decide +kernel
theorem dX11_holds_90 : decode cX11_holds 90 = .ok (.goto 4, 3) := by decide +kernel
theorem dX11_holds_93 : decode cX11_holds 93 = .ok (.iconst 0, 1) := by decide +kernel
theorem dX11_holds_94 : decode cX11_holds 94 = .ok (.ireturn, 1) := by decide +kernel
theorem dX11_inClass_0 : decode cX11_inClass 0 = .ok (.iconst 0, 1) := by decide +kernel
theorem dX11_inClass_1 : decode cX11_inClass 1 = .ok (.istore_n 2, 1) := by decide +kernel
theorem dX11_inClass_2 : decode cX11_inClass 2 = .ok (.iconst 0, 1) := by decide +kernel
theorem dX11_inClass_3 : decode cX11_inClass 3 = .ok (.istore_n 3, 1) := by decide +kernel
theorem dX11_inClass_4 : decode cX11_inClass 4 = .ok (.iload_n 3, 1) := by decide +kernel
theorem dX11_inClass_5 : decode cX11_inClass 5 = .ok (.aload_n 0, 1) := by decide +kernel
theorem dX11_inClass_6 : decode cX11_inClass 6 = .ok (.getfield 142, 3) := by decide +kernel
theorem dX11_inClass_9 : decode cX11_inClass 9 = .ok (.if_icmp .ge 27, 3) := by decide +kernel
theorem dX11_inClass_12 : decode cX11_inClass 12 = .ok (.iload_n 2, 1) := by decide +kernel
theorem dX11_inClass_13 : decode cX11_inClass 13 = .ok (.aload_n 0, 1) := by decide +kernel
theorem dX11_inClass_14 : decode cX11_inClass 14 = .ok (.getfield 100, 3) := by decide +kernel
theorem dX11_inClass_17 : decode cX11_inClass 17 = .ok (.iload_n 3, 1) := by decide +kernel
theorem dX11_inClass_18 : decode cX11_inClass 18 = .ok (.iaload, 1) := by decide +kernel
theorem dX11_inClass_19 : decode cX11_inClass 19 = .ok (.iload_n 1, 1) := by decide +kernel
theorem dX11_inClass_20 : decode cX11_inClass 20 = .ok (.if_icmp .ne 7, 3) := by decide +kernel
theorem dX11_inClass_23 : decode cX11_inClass 23 = .ok (.iconst 1, 1) := by decide +kernel
theorem dX11_inClass_24 : decode cX11_inClass 24 = .ok (.goto 4, 3) := by decide +kernel
theorem dX11_inClass_27 : decode cX11_inClass 27 = .ok (.iconst 0, 1) := by decide +kernel
theorem dX11_inClass_28 : decode cX11_inClass 28 = .ok (.iadd, 1) := by decide +kernel
theorem dX11_inClass_29 : decode cX11_inClass 29 = .ok (.istore_n 2, 1) := by decide +kernel
theorem dX11_inClass_30 : decode cX11_inClass 30 = .ok (.iinc 3 1, 3) := by decide +kernel
theorem dX11_inClass_33 : decode cX11_inClass 33 = .ok (.goto (-29), 3) := by decide +kernel
theorem dX11_inClass_36 : decode cX11_inClass 36 = .ok (.iload_n 2, 1) := by decide +kernel
theorem dX11_inClass_37 : decode cX11_inClass 37 = .ok (.ireturn, 1) := by decide +kernel
theorem dX11_holdIn_0 : decode cX11_holdIn 0 = .ok (.iconst 0, 1) := by decide +kernel
theorem dX11_holdIn_1 : decode cX11_holdIn 1 = .ok (.istore_n 3, 1) := by decide +kernel
theorem dX11_holdIn_2 : decode cX11_holdIn 2 = .ok (.iconst 0, 1) := by decide +kernel
theorem dX11_holdIn_3 : decode cX11_holdIn 3 = .ok (.istore 4, 2) := by decide +kernel
theorem dX11_holdIn_5 : decode cX11_holdIn 5 = .ok (.iload 4, 2) := by decide +kernel
theorem dX11_holdIn_7 : decode cX11_holdIn 7 = .ok (.aload_n 0, 1) := by decide +kernel
theorem dX11_holdIn_8 : decode cX11_holdIn 8 = .ok (.getfield 142, 3) := by decide +kernel
theorem dX11_holdIn_11 : decode cX11_holdIn 11 = .ok (.if_icmp .ge 43, 3) := by decide +kernel
theorem dX11_holdIn_14 : decode cX11_holdIn 14 = .ok (.iload_n 3, 1) := by decide +kernel
theorem dX11_holdIn_15 : decode cX11_holdIn 15 = .ok (.aload_n 0, 1) := by decide +kernel
theorem dX11_holdIn_16 : decode cX11_holdIn 16 = .ok (.getfield 100, 3) := by decide +kernel
theorem dX11_holdIn_19 : decode cX11_holdIn 19 = .ok (.iload 4, 2) := by decide +kernel
theorem dX11_holdIn_21 : decode cX11_holdIn 21 = .ok (.iaload, 1) := by decide +kernel
theorem dX11_holdIn_22 : decode cX11_holdIn 22 = .ok (.iload_n 2, 1) := by decide +kernel
theorem dX11_holdIn_23 : decode cX11_holdIn 23 = .ok (.if_icmp .ne 22, 3) := by decide +kernel
theorem dX11_holdIn_26 : decode cX11_holdIn 26 = .ok (.aload_n 0, 1) := by decide +kernel
theorem dX11_holdIn_27 : decode cX11_holdIn 27 = .ok (.getfield 97, 3) := by decide +kernel
theorem dX11_holdIn_30 : decode cX11_holdIn 30 = .ok (.bipush 14, 2) := by decide +kernel
theorem dX11_holdIn_32 : decode cX11_holdIn 32 = .ok (.iload_n 1, 1) := by decide +kernel
theorem dX11_holdIn_33 : decode cX11_holdIn 33 = .ok (.imul, 1) := by decide +kernel
theorem dX11_holdIn_34 : decode cX11_holdIn 34 = .ok (.iload 4, 2) := by decide +kernel
theorem dX11_holdIn_36 : decode cX11_holdIn 36 = .ok (.iadd, 1) := by decide +kernel
theorem dX11_holdIn_37 : decode cX11_holdIn 37 = .ok (.baload, 1) := by decide +kernel
theorem dX11_holdIn_38 : decode cX11_holdIn 38 = .ok (.ifCond .eq 7, 3) := by decide +kernel
theorem dX11_holdIn_41 : decode cX11_holdIn 41 = .ok (.iconst 1, 1) := by decide +kernel
theorem dX11_holdIn_42 : decode cX11_holdIn 42 = .ok (.goto 4, 3) := by decide +kernel
theorem dX11_holdIn_45 : decode cX11_holdIn 45 = .ok (.iconst 0, 1) := by decide +kernel
theorem dX11_holdIn_46 : decode cX11_holdIn 46 = .ok (.iadd, 1) := by decide +kernel
theorem dX11_holdIn_47 : decode cX11_holdIn 47 = .ok (.istore_n 3, 1) := by decide +kernel
theorem dX11_holdIn_48 : decode cX11_holdIn 48 = .ok (.iinc 4 1, 3) := by decide +kernel
theorem dX11_holdIn_51 : decode cX11_holdIn 51 = .ok (.goto (-46), 3) := by decide +kernel
theorem dX11_holdIn_54 : decode cX11_holdIn 54 = .ok (.iload_n 3, 1) := by decide +kernel
theorem dX11_holdIn_55 : decode cX11_holdIn 55 = .ok (.ireturn, 1) := by decide +kernel
theorem dX11_isSound_0 : decode cX11_isSound 0 = .ok (.iconst 0, 1) := by decide +kernel
theorem dX11_isSound_1 : decode cX11_isSound 1 = .ok (.istore_n 1, 1) := by decide +kernel
theorem dX11_isSound_2 : decode cX11_isSound 2 = .ok (.iconst 0, 1) := by decide +kernel
theorem dX11_isSound_3 : decode cX11_isSound 3 = .ok (.istore_n 2, 1) := by decide +kernel
theorem dX11_isSound_4 : decode cX11_isSound 4 = .ok (.iload_n 2, 1) := by decide +kernel
theorem dX11_isSound_5 : decode cX11_isSound 5 = .ok (.aload_n 0, 1) := by decide +kernel
theorem dX11_isSound_6 : decode cX11_isSound 6 = .ok (.getfield 307, 3) := by decide +kernel
theorem dX11_isSound_9 : decode cX11_isSound 9 = .ok (.if_icmp .ge 31, 3) := by decide +kernel
theorem dX11_isSound_12 : decode cX11_isSound 12 = .ok (.aload_n 0, 1) := by decide +kernel
theorem dX11_isSound_13 : decode cX11_isSound 13 = .ok (.getfield 63, 3) := by decide +kernel
theorem dX11_isSound_16 : decode cX11_isSound 16 = .ok (.iload_n 2, 1) := by decide +kernel
theorem dX11_isSound_17 : decode cX11_isSound 17 = .ok (.iaload, 1) := by decide +kernel
theorem dX11_isSound_18 : decode cX11_isSound 18 = .ok (.bipush 8, 2) := by decide +kernel
theorem dX11_isSound_20 : decode cX11_isSound 20 = .ok (.if_icmp .ne 12, 3) := by decide +kernel
theorem dX11_isSound_23 : decode cX11_isSound 23 = .ok (.aload_n 0, 1) := by decide +kernel
theorem dX11_isSound_24 : decode cX11_isSound 24 = .ok (.getfield 66, 3) := by decide +kernel
theorem dX11_isSound_27 : decode cX11_isSound 27 = .ok (.iload_n 2, 1) := by decide +kernel
theorem dX11_isSound_28 : decode cX11_isSound 28 = .ok (.iaload, 1) := by decide +kernel
theorem dX11_isSound_29 : decode cX11_isSound 29 = .ok (.goto 4, 3) := by decide +kernel
theorem dX11_isSound_32 : decode cX11_isSound 32 = .ok (.iload_n 1, 1) := by decide +kernel
theorem dX11_isSound_33 : decode cX11_isSound 33 = .ok (.istore_n 1, 1) := by decide +kernel
theorem dX11_isSound_34 : decode cX11_isSound 34 = .ok (.iinc 2 1, 3) := by decide +kernel
theorem dX11_isSound_37 : decode cX11_isSound 37 = .ok (.goto (-33), 3) := by decide +kernel
theorem dX11_isSound_40 : decode cX11_isSound 40 = .ok (.iconst 0, 1) := by decide +kernel
theorem dX11_isSound_41 : decode cX11_isSound 41 = .ok (.istore_n 2, 1) := by decide +kernel
theorem dX11_isSound_42 : decode cX11_isSound 42 = .ok (.iload_n 2, 1) := by decide +kernel
theorem dX11_isSound_43 : decode cX11_isSound 43 = .ok (.aload_n 0, 1) := by decide +kernel
theorem dX11_isSound_44 : decode cX11_isSound 44 = .ok (.getfield 41, 3) := by decide +kernel
theorem dX11_isSound_47 : decode cX11_isSound 47 = .ok (.if_icmp .ge 25, 3) := by decide +kernel
theorem dX11_isSound_50 : decode cX11_isSound 50 = .ok (.aload_n 0, 1) := by decide +kernel
theorem dX11_isSound_51 : decode cX11_isSound 51 = .ok (.iload_n 2, 1) := by decide +kernel
theorem dX11_isSound_52 : decode cX11_isSound 52 = .ok (.invokevirtual 326, 3) := by decide +kernel
theorem dX11_isSound_55 : decode cX11_isSound 55 = .ok (.aload_n 0, 1) := by decide +kernel
theorem dX11_isSound_56 : decode cX11_isSound 56 = .ok (.getfield 45, 3) := by decide +kernel
theorem dX11_isSound_59 : decode cX11_isSound 59 = .ok (.iload_n 2, 1) := by decide +kernel
theorem dX11_isSound_60 : decode cX11_isSound 60 = .ok (.iaload, 1) := by decide +kernel
theorem dX11_isSound_61 : decode cX11_isSound 61 = .ok (.if_icmp .le 5, 3) := by decide +kernel
theorem dX11_isSound_64 : decode cX11_isSound 64 = .ok (.iconst 0, 1) := by decide +kernel
theorem dX11_isSound_65 : decode cX11_isSound 65 = .ok (.ireturn, 1) := by decide +kernel
theorem dX11_isSound_66 : decode cX11_isSound 66 = .ok (.iinc 2 1, 3) := by decide +kernel
theorem dX11_isSound_69 : decode cX11_isSound 69 = .ok (.goto (-27), 3) := by decide +kernel
theorem dX11_isSound_72 : decode cX11_isSound 72 = .ok (.iconst 0, 1) := by decide +kernel
theorem dX11_isSound_73 : decode cX11_isSound 73 = .ok (.istore_n 2, 1) := by decide +kernel
theorem dX11_isSound_74 : decode cX11_isSound 74 = .ok (.iload_n 2, 1) := by decide +kernel
theorem dX11_isSound_75 : decode cX11_isSound 75 = .ok (.aload_n 0, 1) := by decide +kernel
theorem dX11_isSound_76 : decode cX11_isSound 76 = .ok (.getfield 142, 3) := by decide +kernel
theorem dX11_isSound_79 : decode cX11_isSound 79 = .ok (.if_icmp .ge 145, 3) := by decide +kernel
theorem dX11_isSound_82 : decode cX11_isSound 82 = .ok (.aload_n 0, 1) := by decide +kernel
theorem dX11_isSound_83 : decode cX11_isSound 83 = .ok (.getfield 100, 3) := by decide +kernel
theorem dX11_isSound_86 : decode cX11_isSound 86 = .ok (.iload_n 2, 1) := by decide +kernel
theorem dX11_isSound_87 : decode cX11_isSound 87 = .ok (.iaload, 1) := by decide +kernel
theorem dX11_isSound_88 : decode cX11_isSound 88 = .ok (.iconst (-1), 1) := by decide +kernel
theorem dX11_isSound_89 : decode cX11_isSound 89 = .ok (.if_icmp .ne 6, 3) := by decide +kernel
theorem dX11_isSound_92 : decode cX11_isSound 92 = .ok (.goto 126, 3) := by decide +kernel
theorem dX11_isSound_95 : decode cX11_isSound 95 = .ok (.aload_n 0, 1) := by decide +kernel
theorem dX11_isSound_96 : decode cX11_isSound 96 = .ok (.getfield 38, 3) := by decide +kernel
theorem dX11_isSound_99 : decode cX11_isSound 99 = .ok (.iconst 3, 1) := by decide +kernel
theorem dX11_isSound_100 : decode cX11_isSound 100 = .ok (.iload_n 2, 1) := by decide +kernel
theorem dX11_isSound_101 : decode cX11_isSound 101 = .ok (.imul, 1) := by decide +kernel
theorem dX11_isSound_102 : decode cX11_isSound 102 = .ok (.aload_n 0, 1) := by decide +kernel
theorem dX11_isSound_103 : decode cX11_isSound 103 = .ok (.getfield 100, 3) := by decide +kernel
theorem dX11_isSound_106 : decode cX11_isSound 106 = .ok (.iload_n 2, 1) := by decide +kernel
theorem dX11_isSound_107 : decode cX11_isSound 107 = .ok (.iaload, 1) := by decide +kernel
theorem dX11_isSound_108 : decode cX11_isSound 108 = .ok (.iadd, 1) := by decide +kernel
theorem dX11_isSound_109 : decode cX11_isSound 109 = .ok (.baload, 1) := by decide +kernel
theorem dX11_isSound_110 : decode cX11_isSound 110 = .ok (.ifCond .eq 5, 3) := by decide +kernel
theorem dX11_isSound_113 : decode cX11_isSound 113 = .ok (.iconst 0, 1) := by decide +kernel
theorem dX11_isSound_114 : decode cX11_isSound 114 = .ok (.ireturn, 1) := by decide +kernel
theorem dX11_isSound_115 : decode cX11_isSound 115 = .ok (.iconst 0, 1) := by decide +kernel
theorem dX11_isSound_116 : decode cX11_isSound 116 = .ok (.istore_n 3, 1) := by decide +kernel
theorem dX11_isSound_117 : decode cX11_isSound 117 = .ok (.iload_n 3, 1) := by decide +kernel
theorem dX11_isSound_118 : decode cX11_isSound 118 = .ok (.iload_n 2, 1) := by decide +kernel
theorem dX11_isSound_119 : decode cX11_isSound 119 = .ok (.if_icmp .ge 99, 3) := by decide +kernel
theorem dX11_isSound_122 : decode cX11_isSound 122 = .ok (.aload_n 0, 1) := by decide +kernel
theorem dX11_isSound_123 : decode cX11_isSound 123 = .ok (.getfield 100, 3) := by decide +kernel
theorem dX11_isSound_126 : decode cX11_isSound 126 = .ok (.iload_n 3, 1) := by decide +kernel
theorem dX11_isSound_127 : decode cX11_isSound 127 = .ok (.iaload, 1) := by decide +kernel
theorem dX11_isSound_128 : decode cX11_isSound 128 = .ok (.iconst (-1), 1) := by decide +kernel
theorem dX11_isSound_129 : decode cX11_isSound 129 = .ok (.if_icmp .ne 6, 3) := by decide +kernel
theorem dX11_isSound_132 : decode cX11_isSound 132 = .ok (.goto 80, 3) := by decide +kernel
theorem dX11_isSound_135 : decode cX11_isSound 135 = .ok (.aload_n 0, 1) := by decide +kernel
theorem dX11_isSound_136 : decode cX11_isSound 136 = .ok (.getfield 100, 3) := by decide +kernel
theorem dX11_isSound_139 : decode cX11_isSound 139 = .ok (.iload_n 2, 1) := by decide +kernel
theorem dX11_isSound_140 : decode cX11_isSound 140 = .ok (.iaload, 1) := by decide +kernel
theorem dX11_isSound_141 : decode cX11_isSound 141 = .ok (.aload_n 0, 1) := by decide +kernel
theorem dX11_isSound_142 : decode cX11_isSound 142 = .ok (.getfield 100, 3) := by decide +kernel
theorem dX11_isSound_145 : decode cX11_isSound 145 = .ok (.iload_n 3, 1) := by decide +kernel
theorem dX11_isSound_146 : decode cX11_isSound 146 = .ok (.iaload, 1) := by decide +kernel
theorem dX11_isSound_147 : decode cX11_isSound 147 = .ok (.if_icmp .ne 7, 3) := by decide +kernel
theorem dX11_isSound_150 : decode cX11_isSound 150 = .ok (.iconst 1, 1) := by decide +kernel
theorem dX11_isSound_151 : decode cX11_isSound 151 = .ok (.goto 4, 3) := by decide +kernel
theorem dX11_isSound_154 : decode cX11_isSound 154 = .ok (.iconst 0, 1) := by decide +kernel
theorem dX11_isSound_155 : decode cX11_isSound 155 = .ok (.istore 4, 2) := by decide +kernel
theorem dX11_isSound_157 : decode cX11_isSound 157 = .ok (.iload 4, 2) := by decide +kernel
theorem dX11_isSound_159 : decode cX11_isSound 159 = .ok (.ifCond .eq 17, 3) := by decide +kernel
theorem dX11_isSound_162 : decode cX11_isSound 162 = .ok (.aload_n 0, 1) := by decide +kernel
theorem dX11_isSound_163 : decode cX11_isSound 163 = .ok (.getfield 31, 3) := by decide +kernel
theorem dX11_isSound_166 : decode cX11_isSound 166 = .ok (.bipush 14, 2) := by decide +kernel
theorem dX11_isSound_168 : decode cX11_isSound 168 = .ok (.iload_n 2, 1) := by decide +kernel
theorem dX11_isSound_169 : decode cX11_isSound 169 = .ok (.imul, 1) := by decide +kernel
theorem dX11_isSound_170 : decode cX11_isSound 170 = .ok (.iload_n 3, 1) := by decide +kernel
theorem dX11_isSound_171 : decode cX11_isSound 171 = .ok (.iadd, 1) := by decide +kernel
theorem dX11_isSound_172 : decode cX11_isSound 172 = .ok (.baload, 1) := by decide +kernel
theorem dX11_isSound_173 : decode cX11_isSound 173 = .ok (.ifCond .ne 37, 3) := by decide +kernel
theorem dX11_isSound_176 : decode cX11_isSound 176 = .ok (.aload_n 0, 1) := by decide +kernel
theorem dX11_isSound_177 : decode cX11_isSound 177 = .ok (.getfield 35, 3) := by decide +kernel
theorem dX11_isSound_180 : decode cX11_isSound 180 = .ok (.bipush 14, 2) := by decide +kernel
theorem dX11_isSound_182 : decode cX11_isSound 182 = .ok (.iload_n 2, 1) := by decide +kernel
theorem dX11_isSound_183 : decode cX11_isSound 183 = .ok (.imul, 1) := by decide +kernel
theorem dX11_isSound_184 : decode cX11_isSound 184 = .ok (.iload_n 3, 1) := by decide +kernel
theorem dX11_isSound_185 : decode cX11_isSound 185 = .ok (.iadd, 1) := by decide +kernel
theorem dX11_isSound_186 : decode cX11_isSound 186 = .ok (.baload, 1) := by decide +kernel
theorem dX11_isSound_187 : decode cX11_isSound 187 = .ok (.ifCond .eq 25, 3) := by decide +kernel
theorem dX11_isSound_190 : decode cX11_isSound 190 = .ok (.iload_n 1, 1) := by decide +kernel
theorem dX11_isSound_191 : decode cX11_isSound 191 = .ok (.iconst 1, 1) := by decide +kernel
theorem dX11_isSound_192 : decode cX11_isSound 192 = .ok (.if_icmp .ne 8, 3) := by decide +kernel
theorem dX11_isSound_195 : decode cX11_isSound 195 = .ok (.iload 4, 2) := by decide +kernel
theorem dX11_isSound_197 : decode cX11_isSound 197 = .ok (.ifCond .ne 13, 3) := by decide +kernel
theorem dX11_isSound_200 : decode cX11_isSound 200 = .ok (.iload_n 1, 1) := by decide +kernel
theorem dX11_isSound_201 : decode cX11_isSound 201 = .ok (.iconst 2, 1) := by decide +kernel
theorem dX11_isSound_202 : decode cX11_isSound 202 = .ok (.if_icmp .ne 10, 3) := by decide +kernel
theorem dX11_isSound_205 : decode cX11_isSound 205 = .ok (.iload 4, 2) := by decide +kernel
theorem dX11_isSound_207 : decode cX11_isSound 207 = .ok (.ifCond .ne 5, 3) := by decide +kernel
theorem dX11_isSound_210 : decode cX11_isSound 210 = .ok (.iconst 0, 1) := by decide +kernel
theorem dX11_isSound_211 : decode cX11_isSound 211 = .ok (.ireturn, 1) := by decide +kernel
theorem dX11_isSound_212 : decode cX11_isSound 212 = .ok (.iinc 3 1, 3) := by decide +kernel
theorem dX11_isSound_215 : decode cX11_isSound 215 = .ok (.goto (-98), 3) := by decide +kernel
theorem dX11_isSound_218 : decode cX11_isSound 218 = .ok (.iinc 2 1, 3) := by decide +kernel
theorem dX11_isSound_221 : decode cX11_isSound 221 = .ok (.goto (-147), 3) := by decide +kernel
theorem dX11_isSound_224 : decode cX11_isSound 224 = .ok (.iconst 0, 1) := by decide +kernel
theorem dX11_isSound_225 : decode cX11_isSound 225 = .ok (.istore_n 2, 1) := by decide +kernel
theorem dX11_isSound_226 : decode cX11_isSound 226 = .ok (.iload_n 2, 1) := by decide +kernel
theorem dX11_isSound_227 : decode cX11_isSound 227 = .ok (.aload_n 0, 1) := by decide +kernel
theorem dX11_isSound_228 : decode cX11_isSound 228 = .ok (.getfield 307, 3) := by decide +kernel
theorem dX11_isSound_231 : decode cX11_isSound 231 = .ok (.if_icmp .ge 19, 3) := by decide +kernel
theorem dX11_isSound_234 : decode cX11_isSound 234 = .ok (.aload_n 0, 1) := by decide +kernel
theorem dX11_isSound_235 : decode cX11_isSound 235 = .ok (.iload_n 2, 1) := by decide +kernel
theorem dX11_isSound_236 : decode cX11_isSound 236 = .ok (.invokevirtual 329, 3) := by decide +kernel
theorem dX11_isSound_239 : decode cX11_isSound 239 = .ok (.ifCond .ne 5, 3) := by decide +kernel
theorem dX11_isSound_242 : decode cX11_isSound 242 = .ok (.iconst 0, 1) := by decide +kernel
theorem dX11_isSound_243 : decode cX11_isSound 243 = .ok (.ireturn, 1) := by decide +kernel
theorem dX11_isSound_244 : decode cX11_isSound 244 = .ok (.iinc 2 1, 3) := by decide +kernel
theorem dX11_isSound_247 : decode cX11_isSound 247 = .ok (.goto (-21), 3) := by decide +kernel
theorem dX11_isSound_250 : decode cX11_isSound 250 = .ok (.iconst 1, 1) := by decide +kernel
theorem dX11_isSound_251 : decode cX11_isSound 251 = .ok (.ireturn, 1) := by decide +kernel
theorem dX11_isMet_0 : decode cX11_isMet 0 = .ok (.aload_n 0, 1) := by decide +kernel
theorem dX11_isMet_1 : decode cX11_isMet 1 = .ok (.getfield 63, 3) := by decide +kernel
theorem dX11_isMet_4 : decode cX11_isMet 4 = .ok (.iload_n 1, 1) := by decide +kernel
theorem dX11_isMet_5 : decode cX11_isMet 5 = .ok (.iaload, 1) := by decide +kernel
theorem dX11_isMet_6 : decode cX11_isMet 6 = .ok (.bipush 6, 2) := by decide +kernel
theorem dX11_isMet_8 : decode cX11_isMet 8 = .ok (.if_icmp .ne 38, 3) := by decide +kernel
theorem dX11_isMet_11 : decode cX11_isMet 11 = .ok (.iconst 0, 1) := by decide +kernel
theorem dX11_isMet_12 : decode cX11_isMet 12 = .ok (.istore_n 2, 1) := by decide +kernel
theorem dX11_isMet_13 : decode cX11_isMet 13 = .ok (.iload_n 2, 1) := by decide +kernel
theorem dX11_isMet_14 : decode cX11_isMet 14 = .ok (.aload_n 0, 1) := by decide +kernel
theorem dX11_isMet_15 : decode cX11_isMet 15 = .ok (.getfield 41, 3) := by decide +kernel
theorem dX11_isMet_18 : decode cX11_isMet 18 = .ok (.if_icmp .ge 28, 3) := by decide +kernel
theorem dX11_isMet_21 : decode cX11_isMet 21 = .ok (.aload_n 0, 1) := by decide +kernel
theorem dX11_isMet_22 : decode cX11_isMet 22 = .ok (.iconst 2, 1) := by decide +kernel
theorem dX11_isMet_23 : decode cX11_isMet 23 = .ok (.iload_n 1, 1) := by decide +kernel
theorem dX11_isMet_24 : decode cX11_isMet 24 = .ok (.imul, 1) := by decide +kernel
theorem dX11_isMet_25 : decode cX11_isMet 25 = .ok (.iload_n 2, 1) := by decide +kernel
theorem dX11_isMet_26 : decode cX11_isMet 26 = .ok (.invokevirtual 332, 3) := by decide +kernel
theorem dX11_isMet_29 : decode cX11_isMet 29 = .ok (.aload_n 0, 1) := by decide +kernel
theorem dX11_isMet_30 : decode cX11_isMet 30 = .ok (.getfield 66, 3) := by decide +kernel
theorem dX11_isMet_33 : decode cX11_isMet 33 = .ok (.iload_n 1, 1) := by decide +kernel
theorem dX11_isMet_34 : decode cX11_isMet 34 = .ok (.iaload, 1) := by decide +kernel
theorem dX11_isMet_35 : decode cX11_isMet 35 = .ok (.if_icmp .le 5, 3) := by decide +kernel
theorem dX11_isMet_38 : decode cX11_isMet 38 = .ok (.iconst 0, 1) := by decide +kernel
theorem dX11_isMet_39 : decode cX11_isMet 39 = .ok (.ireturn, 1) := by decide +kernel
theorem dX11_isMet_40 : decode cX11_isMet 40 = .ok (.iinc 2 1, 3) := by decide +kernel
theorem dX11_isMet_43 : decode cX11_isMet 43 = .ok (.goto (-30), 3) := by decide +kernel
theorem dX11_isMet_46 : decode cX11_isMet 46 = .ok (.iconst 0, 1) := by decide +kernel
theorem dX11_isMet_47 : decode cX11_isMet 47 = .ok (.istore_n 2, 1) := by decide +kernel
theorem dX11_isMet_48 : decode cX11_isMet 48 = .ok (.iload_n 2, 1) := by decide +kernel
theorem dX11_isMet_49 : decode cX11_isMet 49 = .ok (.aload_n 0, 1) := by decide +kernel
theorem dX11_isMet_50 : decode cX11_isMet 50 = .ok (.getfield 142, 3) := by decide +kernel
theorem dX11_isMet_53 : decode cX11_isMet 53 = .ok (.if_icmp .ge 102, 3) := by decide +kernel
theorem dX11_isMet_56 : decode cX11_isMet 56 = .ok (.aload_n 0, 1) := by decide +kernel
theorem dX11_isMet_57 : decode cX11_isMet 57 = .ok (.getfield 63, 3) := by decide +kernel
theorem dX11_isMet_60 : decode cX11_isMet 60 = .ok (.iload_n 1, 1) := by decide +kernel
theorem dX11_isMet_61 : decode cX11_isMet 61 = .ok (.iaload, 1) := by decide +kernel
theorem dX11_isMet_62 : decode cX11_isMet 62 = .ok (.iconst 5, 1) := by decide +kernel
theorem dX11_isMet_63 : decode cX11_isMet 63 = .ok (.if_icmp .ne 92, 3) := by decide +kernel
theorem dX11_isMet_66 : decode cX11_isMet 66 = .ok (.aload_n 0, 1) := by decide +kernel
theorem dX11_isMet_67 : decode cX11_isMet 67 = .ok (.getfield 100, 3) := by decide +kernel
theorem dX11_isMet_70 : decode cX11_isMet 70 = .ok (.iload_n 2, 1) := by decide +kernel
theorem dX11_isMet_71 : decode cX11_isMet 71 = .ok (.iaload, 1) := by decide +kernel
theorem dX11_isMet_72 : decode cX11_isMet 72 = .ok (.iconst (-1), 1) := by decide +kernel
theorem dX11_isMet_73 : decode cX11_isMet 73 = .ok (.if_icmp .eq 76, 3) := by decide +kernel
theorem dX11_isMet_76 : decode cX11_isMet 76 = .ok (.aload_n 0, 1) := by decide +kernel
theorem dX11_isMet_77 : decode cX11_isMet 77 = .ok (.getfield 97, 3) := by decide +kernel
theorem dX11_isMet_80 : decode cX11_isMet 80 = .ok (.bipush 28, 2) := by decide +kernel
theorem dX11_isMet_82 : decode cX11_isMet 82 = .ok (.iload_n 1, 1) := by decide +kernel
theorem dX11_isMet_83 : decode cX11_isMet 83 = .ok (.imul, 1) := by decide +kernel
theorem dX11_isMet_84 : decode cX11_isMet 84 = .ok (.iload_n 2, 1) := by decide +kernel
theorem dX11_isMet_85 : decode cX11_isMet 85 = .ok (.iadd, 1) := by decide +kernel
theorem dX11_isMet_86 : decode cX11_isMet 86 = .ok (.baload, 1) := by decide +kernel
theorem dX11_isMet_87 : decode cX11_isMet 87 = .ok (.ifCond .ne 6, 3) := by decide +kernel
theorem dX11_isMet_90 : decode cX11_isMet 90 = .ok (.goto 59, 3) := by decide +kernel
theorem dX11_isMet_93 : decode cX11_isMet 93 = .ok (.iconst 0, 1) := by decide +kernel
theorem dX11_isMet_94 : decode cX11_isMet 94 = .ok (.istore_n 3, 1) := by decide +kernel
theorem dX11_isMet_95 : decode cX11_isMet 95 = .ok (.iload_n 3, 1) := by decide +kernel
theorem dX11_isMet_96 : decode cX11_isMet 96 = .ok (.aload_n 0, 1) := by decide +kernel
theorem dX11_isMet_97 : decode cX11_isMet 97 = .ok (.getfield 142, 3) := by decide +kernel
theorem dX11_isMet_100 : decode cX11_isMet 100 = .ok (.if_icmp .ge 49, 3) := by decide +kernel
theorem dX11_isMet_103 : decode cX11_isMet 103 = .ok (.iload_n 3, 1) := by decide +kernel
theorem dX11_isMet_104 : decode cX11_isMet 104 = .ok (.iload_n 2, 1) := by decide +kernel
theorem dX11_isMet_105 : decode cX11_isMet 105 = .ok (.if_icmp .eq 38, 3) := by decide +kernel
theorem dX11_isMet_108 : decode cX11_isMet 108 = .ok (.aload_n 0, 1) := by decide +kernel
theorem dX11_isMet_109 : decode cX11_isMet 109 = .ok (.getfield 100, 3) := by decide +kernel
theorem dX11_isMet_112 : decode cX11_isMet 112 = .ok (.iload_n 3, 1) := by decide +kernel
theorem dX11_isMet_113 : decode cX11_isMet 113 = .ok (.iaload, 1) := by decide +kernel
theorem dX11_isMet_114 : decode cX11_isMet 114 = .ok (.aload_n 0, 1) := by decide +kernel
theorem dX11_isMet_115 : decode cX11_isMet 115 = .ok (.getfield 100, 3) := by decide +kernel
theorem dX11_isMet_118 : decode cX11_isMet 118 = .ok (.iload_n 2, 1) := by decide +kernel
theorem dX11_isMet_119 : decode cX11_isMet 119 = .ok (.iaload, 1) := by decide +kernel
theorem dX11_isMet_120 : decode cX11_isMet 120 = .ok (.if_icmp .ne 23, 3) := by decide +kernel
theorem dX11_isMet_123 : decode cX11_isMet 123 = .ok (.aload_n 0, 1) := by decide +kernel
theorem dX11_isMet_124 : decode cX11_isMet 124 = .ok (.getfield 97, 3) := by decide +kernel
theorem dX11_isMet_127 : decode cX11_isMet 127 = .ok (.bipush 14, 2) := by decide +kernel
theorem dX11_isMet_129 : decode cX11_isMet 129 = .ok (.iconst 2, 1) := by decide +kernel
theorem dX11_isMet_130 : decode cX11_isMet 130 = .ok (.iload_n 1, 1) := by decide +kernel
theorem dX11_isMet_131 : decode cX11_isMet 131 = .ok (.imul, 1) := by decide +kernel
theorem dX11_isMet_132 : decode cX11_isMet 132 = .ok (.iconst 1, 1) := by decide +kernel
theorem dX11_isMet_133 : decode cX11_isMet 133 = .ok (.iadd, 1) := by decide +kernel
theorem dX11_isMet_134 : decode cX11_isMet 134 = .ok (.imul, 1) := by decide +kernel
theorem dX11_isMet_135 : decode cX11_isMet 135 = .ok (.iload_n 3, 1) := by decide +kernel
theorem dX11_isMet_136 : decode cX11_isMet 136 = .ok (.iadd, 1) := by decide +kernel
theorem dX11_isMet_137 : decode cX11_isMet 137 = .ok (.baload, 1) := by decide +kernel
theorem dX11_isMet_138 : decode cX11_isMet 138 = .ok (.ifCond .eq 5, 3) := by decide +kernel
theorem dX11_isMet_141 : decode cX11_isMet 141 = .ok (.iconst 0, 1) := by decide +kernel
theorem dX11_isMet_142 : decode cX11_isMet 142 = .ok (.ireturn, 1) := by decide +kernel
theorem dX11_isMet_143 : decode cX11_isMet 143 = .ok (.iinc 3 1, 3) := by decide +kernel
theorem dX11_isMet_146 : decode cX11_isMet 146 = .ok (.goto (-51), 3) := by decide +kernel
theorem dX11_isMet_149 : decode cX11_isMet 149 = .ok (.iinc 2 1, 3) := by decide +kernel
theorem dX11_isMet_152 : decode cX11_isMet 152 = .ok (.goto (-104), 3) := by decide +kernel
theorem dX11_isMet_155 : decode cX11_isMet 155 = .ok (.iconst 1, 1) := by decide +kernel
theorem dX11_isMet_156 : decode cX11_isMet 156 = .ok (.ireturn, 1) := by decide +kernel
theorem dX11_lack_0 : decode cX11_lack 0 = .ok (.iconst 0, 1) := by decide +kernel
theorem dX11_lack_1 : decode cX11_lack 1 = .ok (.istore_n 1, 1) := by decide +kernel
theorem dX11_lack_2 : decode cX11_lack 2 = .ok (.iconst 0, 1) := by decide +kernel
theorem dX11_lack_3 : decode cX11_lack 3 = .ok (.istore_n 2, 1) := by decide +kernel
theorem dX11_lack_4 : decode cX11_lack 4 = .ok (.iload_n 2, 1) := by decide +kernel
theorem dX11_lack_5 : decode cX11_lack 5 = .ok (.aload_n 0, 1) := by decide +kernel
theorem dX11_lack_6 : decode cX11_lack 6 = .ok (.getfield 307, 3) := by decide +kernel
theorem dX11_lack_9 : decode cX11_lack 9 = .ok (.if_icmp .ge 67, 3) := by decide +kernel
theorem dX11_lack_12 : decode cX11_lack 12 = .ok (.iconst 0, 1) := by decide +kernel
theorem dX11_lack_13 : decode cX11_lack 13 = .ok (.istore_n 3, 1) := by decide +kernel
theorem dX11_lack_14 : decode cX11_lack 14 = .ok (.iload_n 3, 1) := by decide +kernel
theorem dX11_lack_15 : decode cX11_lack 15 = .ok (.aload_n 0, 1) := by decide +kernel
theorem dX11_lack_16 : decode cX11_lack 16 = .ok (.getfield 41, 3) := by decide +kernel
theorem dX11_lack_19 : decode cX11_lack 19 = .ok (.if_icmp .ge 51, 3) := by decide +kernel
theorem dX11_lack_22 : decode cX11_lack 22 = .ok (.aload_n 0, 1) := by decide +kernel
theorem dX11_lack_23 : decode cX11_lack 23 = .ok (.getfield 63, 3) := by decide +kernel
theorem dX11_lack_26 : decode cX11_lack 26 = .ok (.iload_n 2, 1) := by decide +kernel
theorem dX11_lack_27 : decode cX11_lack 27 = .ok (.iaload, 1) := by decide +kernel
theorem dX11_lack_28 : decode cX11_lack 28 = .ok (.bipush 7, 2) := by decide +kernel
theorem dX11_lack_30 : decode cX11_lack 30 = .ok (.if_icmp .ne 40, 3) := by decide +kernel
theorem dX11_lack_33 : decode cX11_lack 33 = .ok (.aload_n 0, 1) := by decide +kernel
theorem dX11_lack_34 : decode cX11_lack 34 = .ok (.getfield 66, 3) := by decide +kernel
theorem dX11_lack_37 : decode cX11_lack 37 = .ok (.iload_n 2, 1) := by decide +kernel
theorem dX11_lack_38 : decode cX11_lack 38 = .ok (.iaload, 1) := by decide +kernel
theorem dX11_lack_39 : decode cX11_lack 39 = .ok (.aload_n 0, 1) := by decide +kernel
theorem dX11_lack_40 : decode cX11_lack 40 = .ok (.iconst 2, 1) := by decide +kernel
theorem dX11_lack_41 : decode cX11_lack 41 = .ok (.iload_n 2, 1) := by decide +kernel
theorem dX11_lack_42 : decode cX11_lack 42 = .ok (.imul, 1) := by decide +kernel
theorem dX11_lack_43 : decode cX11_lack 43 = .ok (.iload_n 3, 1) := by decide +kernel
theorem dX11_lack_44 : decode cX11_lack 44 = .ok (.invokevirtual 332, 3) := by decide +kernel
theorem dX11_lack_47 : decode cX11_lack 47 = .ok (.isub, 1) := by decide +kernel
theorem dX11_lack_48 : decode cX11_lack 48 = .ok (.istore 4, 2) := by decide +kernel
theorem dX11_lack_50 : decode cX11_lack 50 = .ok (.iload_n 1, 1) := by decide +kernel
theorem dX11_lack_51 : decode cX11_lack 51 = .ok (.iload 4, 2) := by decide +kernel
theorem dX11_lack_53 : decode cX11_lack 53 = .ok (.ifCond .le 8, 3) := by decide +kernel
theorem dX11_lack_56 : decode cX11_lack 56 = .ok (.iload 4, 2) := by decide +kernel
theorem dX11_lack_58 : decode cX11_lack 58 = .ok (.goto 4, 3) := by decide +kernel
theorem dX11_lack_61 : decode cX11_lack 61 = .ok (.iconst 0, 1) := by decide +kernel
theorem dX11_lack_62 : decode cX11_lack 62 = .ok (.iadd, 1) := by decide +kernel
theorem dX11_lack_63 : decode cX11_lack 63 = .ok (.istore_n 1, 1) := by decide +kernel
theorem dX11_lack_64 : decode cX11_lack 64 = .ok (.iinc 3 1, 3) := by decide +kernel
theorem dX11_lack_67 : decode cX11_lack 67 = .ok (.goto (-53), 3) := by decide +kernel
theorem dX11_lack_70 : decode cX11_lack 70 = .ok (.iinc 2 1, 3) := by decide +kernel
theorem dX11_lack_73 : decode cX11_lack 73 = .ok (.goto (-69), 3) := by decide +kernel
theorem dX11_lack_76 : decode cX11_lack 76 = .ok (.iload_n 1, 1) := by decide +kernel
theorem dX11_lack_77 : decode cX11_lack 77 = .ok (.ireturn, 1) := by decide +kernel
theorem dX11_servedIn_0 : decode cX11_servedIn 0 = .ok (.iconst 0, 1) := by decide +kernel
theorem dX11_servedIn_1 : decode cX11_servedIn 1 = .ok (.istore_n 2, 1) := by decide +kernel
theorem dX11_servedIn_2 : decode cX11_servedIn 2 = .ok (.iload_n 2, 1) := by decide +kernel
theorem dX11_servedIn_3 : decode cX11_servedIn 3 = .ok (.iconst 3, 1) := by decide +kernel
theorem dX11_servedIn_4 : decode cX11_servedIn 4 = .ok (.if_icmp .ge 42, 3) := by decide +kernel
theorem dX11_servedIn_7 : decode cX11_servedIn 7 = .ok (.aload_n 0, 1) := by decide +kernel
theorem dX11_servedIn_8 : decode cX11_servedIn 8 = .ok (.getfield 25, 3) := by decide +kernel
theorem dX11_servedIn_11 : decode cX11_servedIn 11 = .ok (.iconst 3, 1) := by decide +kernel
theorem dX11_servedIn_12 : decode cX11_servedIn 12 = .ok (.iload_n 1, 1) := by decide +kernel
theorem dX11_servedIn_13 : decode cX11_servedIn 13 = .ok (.imul, 1) := by decide +kernel
theorem dX11_servedIn_14 : decode cX11_servedIn 14 = .ok (.iload_n 2, 1) := by decide +kernel
theorem dX11_servedIn_15 : decode cX11_servedIn 15 = .ok (.iadd, 1) := by decide +kernel
theorem dX11_servedIn_16 : decode cX11_servedIn 16 = .ok (.iaload, 1) := by decide +kernel
theorem dX11_servedIn_17 : decode cX11_servedIn 17 = .ok (.istore_n 3, 1) := by decide +kernel
theorem dX11_servedIn_18 : decode cX11_servedIn 18 = .ok (.iload_n 3, 1) := by decide +kernel
theorem dX11_servedIn_19 : decode cX11_servedIn 19 = .ok (.iconst (-1), 1) := by decide +kernel
theorem dX11_servedIn_20 : decode cX11_servedIn 20 = .ok (.if_icmp .eq 20, 3) := by decide +kernel
theorem dX11_servedIn_23 : decode cX11_servedIn 23 = .ok (.aload_n 0, 1) := by decide +kernel
theorem dX11_servedIn_24 : decode cX11_servedIn 24 = .ok (.getfield 100, 3) := by decide +kernel
theorem dX11_servedIn_27 : decode cX11_servedIn 27 = .ok (.iload_n 3, 1) := by decide +kernel
theorem dX11_servedIn_28 : decode cX11_servedIn 28 = .ok (.iaload, 1) := by decide +kernel
theorem dX11_servedIn_29 : decode cX11_servedIn 29 = .ok (.aload_n 0, 1) := by decide +kernel
theorem dX11_servedIn_30 : decode cX11_servedIn 30 = .ok (.getfield 100, 3) := by decide +kernel
theorem dX11_servedIn_33 : decode cX11_servedIn 33 = .ok (.iload_n 1, 1) := by decide +kernel
theorem dX11_servedIn_34 : decode cX11_servedIn 34 = .ok (.iaload, 1) := by decide +kernel
theorem dX11_servedIn_35 : decode cX11_servedIn 35 = .ok (.if_icmp .ne 5, 3) := by decide +kernel
theorem dX11_servedIn_38 : decode cX11_servedIn 38 = .ok (.iload_n 2, 1) := by decide +kernel
theorem dX11_servedIn_39 : decode cX11_servedIn 39 = .ok (.ireturn, 1) := by decide +kernel
theorem dX11_servedIn_40 : decode cX11_servedIn 40 = .ok (.iinc 2 1, 3) := by decide +kernel
theorem dX11_servedIn_43 : decode cX11_servedIn 43 = .ok (.goto (-41), 3) := by decide +kernel
theorem dX11_servedIn_46 : decode cX11_servedIn 46 = .ok (.iconst 3, 1) := by decide +kernel
theorem dX11_servedIn_47 : decode cX11_servedIn 47 = .ok (.ireturn, 1) := by decide +kernel
theorem dX11_harmOf_0 : decode cX11_harmOf 0 = .ok (.ldc_w 336, 3) := by decide +kernel
theorem dX11_harmOf_3 : decode cX11_harmOf 3 = .ok (.istore_n 2, 1) := by decide +kernel
theorem dX11_harmOf_4 : decode cX11_harmOf 4 = .ok (.iconst 0, 1) := by decide +kernel
theorem dX11_harmOf_5 : decode cX11_harmOf 5 = .ok (.istore_n 3, 1) := by decide +kernel
theorem dX11_harmOf_6 : decode cX11_harmOf 6 = .ok (.iconst 0, 1) := by decide +kernel
theorem dX11_harmOf_7 : decode cX11_harmOf 7 = .ok (.istore 4, 2) := by decide +kernel
theorem dX11_harmOf_9 : decode cX11_harmOf 9 = .ok (.aload_n 0, 1) := by decide +kernel
theorem dX11_harmOf_10 : decode cX11_harmOf 10 = .ok (.getfield 63, 3) := by decide +kernel
theorem dX11_harmOf_13 : decode cX11_harmOf 13 = .ok (.iload_n 1, 1) := by decide +kernel
theorem dX11_harmOf_14 : decode cX11_harmOf 14 = .ok (.iaload, 1) := by decide +kernel
theorem dX11_harmOf_15 : decode cX11_harmOf 15 = .ok (.tableswitch 421 0 4 #[33, 33, 178, 245, 327], 33) := by decide +kernel
theorem dX11_harmOf_48 : decode cX11_harmOf 48 = .ok (.iconst 0, 1) := by decide +kernel
theorem dX11_harmOf_49 : decode cX11_harmOf 49 = .ok (.istore 5, 2) := by decide +kernel
theorem dX11_harmOf_51 : decode cX11_harmOf 51 = .ok (.iload 5, 2) := by decide +kernel
theorem dX11_harmOf_53 : decode cX11_harmOf 53 = .ok (.aload_n 0, 1) := by decide +kernel
theorem dX11_harmOf_54 : decode cX11_harmOf 54 = .ok (.getfield 41, 3) := by decide +kernel
theorem dX11_harmOf_57 : decode cX11_harmOf 57 = .ok (.if_icmp .ge 125, 3) := by decide +kernel
theorem dX11_harmOf_60 : decode cX11_harmOf 60 = .ok (.aload_n 0, 1) := by decide +kernel
theorem dX11_harmOf_61 : decode cX11_harmOf 61 = .ok (.getfield 63, 3) := by decide +kernel
theorem dX11_harmOf_64 : decode cX11_harmOf 64 = .ok (.iload_n 1, 1) := by decide +kernel
theorem dX11_harmOf_65 : decode cX11_harmOf 65 = .ok (.iaload, 1) := by decide +kernel
theorem dX11_harmOf_66 : decode cX11_harmOf 66 = .ok (.ifCond .ne 15, 3) := by decide +kernel
theorem dX11_harmOf_69 : decode cX11_harmOf 69 = .ok (.aload_n 0, 1) := by decide +kernel
theorem dX11_harmOf_70 : decode cX11_harmOf 70 = .ok (.iconst 2, 1) := by decide +kernel
theorem dX11_harmOf_71 : decode cX11_harmOf 71 = .ok (.iload_n 1, 1) := by decide +kernel
theorem dX11_harmOf_72 : decode cX11_harmOf 72 = .ok (.imul, 1) := by decide +kernel
theorem dX11_harmOf_73 : decode cX11_harmOf 73 = .ok (.iload 5, 2) := by decide +kernel
theorem dX11_harmOf_75 : decode cX11_harmOf 75 = .ok (.invokevirtual 332, 3) := by decide +kernel
theorem dX11_harmOf_78 : decode cX11_harmOf 78 = .ok (.goto 4, 3) := by decide +kernel
theorem dX11_harmOf_81 : decode cX11_harmOf 81 = .ok (.iconst 0, 1) := by decide +kernel
theorem dX11_harmOf_82 : decode cX11_harmOf 82 = .ok (.istore 6, 2) := by decide +kernel
theorem dX11_harmOf_84 : decode cX11_harmOf 84 = .ok (.iconst 0, 1) := by decide +kernel
theorem dX11_harmOf_85 : decode cX11_harmOf 85 = .ok (.istore 7, 2) := by decide +kernel
theorem dX11_harmOf_87 : decode cX11_harmOf 87 = .ok (.iload 7, 2) := by decide +kernel
theorem dX11_harmOf_89 : decode cX11_harmOf 89 = .ok (.aload_n 0, 1) := by decide +kernel
theorem dX11_harmOf_90 : decode cX11_harmOf 90 = .ok (.getfield 142, 3) := by decide +kernel
theorem dX11_harmOf_93 : decode cX11_harmOf 93 = .ok (.if_icmp .ge 57, 3) := by decide +kernel
theorem dX11_harmOf_96 : decode cX11_harmOf 96 = .ok (.aload_n 0, 1) := by decide +kernel
theorem dX11_harmOf_97 : decode cX11_harmOf 97 = .ok (.getfield 63, 3) := by decide +kernel
theorem dX11_harmOf_100 : decode cX11_harmOf 100 = .ok (.iload_n 1, 1) := by decide +kernel
theorem dX11_harmOf_101 : decode cX11_harmOf 101 = .ok (.iaload, 1) := by decide +kernel
theorem dX11_harmOf_102 : decode cX11_harmOf 102 = .ok (.iconst 1, 1) := by decide +kernel
theorem dX11_harmOf_103 : decode cX11_harmOf 103 = .ok (.if_icmp .ne 47, 3) := by decide +kernel
theorem dX11_harmOf_106 : decode cX11_harmOf 106 = .ok (.iload 6, 2) := by decide +kernel
theorem dX11_harmOf_108 : decode cX11_harmOf 108 = .ok (.aload_n 0, 1) := by decide +kernel
theorem dX11_harmOf_109 : decode cX11_harmOf 109 = .ok (.getfield 100, 3) := by decide +kernel
theorem dX11_harmOf_112 : decode cX11_harmOf 112 = .ok (.iload 7, 2) := by decide +kernel
theorem dX11_harmOf_114 : decode cX11_harmOf 114 = .ok (.iaload, 1) := by decide +kernel
theorem dX11_harmOf_115 : decode cX11_harmOf 115 = .ok (.iload 5, 2) := by decide +kernel
theorem dX11_harmOf_117 : decode cX11_harmOf 117 = .ok (.if_icmp .ne 23, 3) := by decide +kernel
theorem dX11_harmOf_120 : decode cX11_harmOf 120 = .ok (.aload_n 0, 1) := by decide +kernel
theorem dX11_harmOf_121 : decode cX11_harmOf 121 = .ok (.getfield 94, 3) := by decide +kernel
theorem dX11_harmOf_124 : decode cX11_harmOf 124 = .ok (.bipush 7, 2) := by decide +kernel
theorem dX11_harmOf_126 : decode cX11_harmOf 126 = .ok (.iload 7, 2) := by decide +kernel
theorem dX11_harmOf_128 : decode cX11_harmOf 128 = .ok (.imul, 1) := by decide +kernel
theorem dX11_harmOf_129 : decode cX11_harmOf 129 = .ok (.aload_n 0, 1) := by decide +kernel
theorem dX11_harmOf_130 : decode cX11_harmOf 130 = .ok (.getfield 69, 3) := by decide +kernel
theorem dX11_harmOf_133 : decode cX11_harmOf 133 = .ok (.iload_n 1, 1) := by decide +kernel
theorem dX11_harmOf_134 : decode cX11_harmOf 134 = .ok (.iaload, 1) := by decide +kernel
theorem dX11_harmOf_135 : decode cX11_harmOf 135 = .ok (.iadd, 1) := by decide +kernel
theorem dX11_harmOf_136 : decode cX11_harmOf 136 = .ok (.iaload, 1) := by decide +kernel
theorem dX11_harmOf_137 : decode cX11_harmOf 137 = .ok (.goto 4, 3) := by decide +kernel
theorem dX11_harmOf_140 : decode cX11_harmOf 140 = .ok (.iconst 0, 1) := by decide +kernel
theorem dX11_harmOf_141 : decode cX11_harmOf 141 = .ok (.iadd, 1) := by decide +kernel
theorem dX11_harmOf_142 : decode cX11_harmOf 142 = .ok (.istore 6, 2) := by decide +kernel
theorem dX11_harmOf_144 : decode cX11_harmOf 144 = .ok (.iinc 7 1, 3) := by decide +kernel
theorem dX11_harmOf_147 : decode cX11_harmOf 147 = .ok (.goto (-60), 3) := by decide +kernel
theorem dX11_harmOf_150 : decode cX11_harmOf 150 = .ok (.iload 6, 2) := by decide +kernel
theorem dX11_harmOf_152 : decode cX11_harmOf 152 = .ok (.iload_n 2, 1) := by decide +kernel
theorem dX11_harmOf_153 : decode cX11_harmOf 153 = .ok (.if_icmp .ge 8, 3) := by decide +kernel
theorem dX11_harmOf_156 : decode cX11_harmOf 156 = .ok (.iload 6, 2) := by decide +kernel
theorem dX11_harmOf_158 : decode cX11_harmOf 158 = .ok (.goto 4, 3) := by decide +kernel
theorem dX11_harmOf_161 : decode cX11_harmOf 161 = .ok (.iload_n 2, 1) := by decide +kernel
theorem dX11_harmOf_162 : decode cX11_harmOf 162 = .ok (.istore_n 2, 1) := by decide +kernel
theorem dX11_harmOf_163 : decode cX11_harmOf 163 = .ok (.iload 6, 2) := by decide +kernel
theorem dX11_harmOf_165 : decode cX11_harmOf 165 = .ok (.iload_n 3, 1) := by decide +kernel
theorem dX11_harmOf_166 : decode cX11_harmOf 166 = .ok (.if_icmp .le 8, 3) := by decide +kernel
theorem dX11_harmOf_169 : decode cX11_harmOf 169 = .ok (.iload 6, 2) := by decide +kernel
theorem dX11_harmOf_171 : decode cX11_harmOf 171 = .ok (.goto 4, 3) := by decide +kernel
theorem dX11_harmOf_174 : decode cX11_harmOf 174 = .ok (.iload_n 3, 1) := by decide +kernel
theorem dX11_harmOf_175 : decode cX11_harmOf 175 = .ok (.istore_n 3, 1) := by decide +kernel
theorem dX11_harmOf_176 : decode cX11_harmOf 176 = .ok (.iinc 5 1, 3) := by decide +kernel
theorem dX11_harmOf_179 : decode cX11_harmOf 179 = .ok (.goto (-128), 3) := by decide +kernel
theorem dX11_harmOf_182 : decode cX11_harmOf 182 = .ok (.aload_n 0, 1) := by decide +kernel
theorem dX11_harmOf_183 : decode cX11_harmOf 183 = .ok (.getfield 66, 3) := by decide +kernel
theorem dX11_harmOf_186 : decode cX11_harmOf 186 = .ok (.iload_n 1, 1) := by decide +kernel
theorem dX11_harmOf_187 : decode cX11_harmOf 187 = .ok (.iaload, 1) := by decide +kernel
theorem dX11_harmOf_188 : decode cX11_harmOf 188 = .ok (.iload_n 3, 1) := by decide +kernel
theorem dX11_harmOf_189 : decode cX11_harmOf 189 = .ok (.iload_n 2, 1) := by decide +kernel
theorem dX11_harmOf_190 : decode cX11_harmOf 190 = .ok (.isub, 1) := by decide +kernel
theorem dX11_harmOf_191 : decode cX11_harmOf 191 = .ok (.imul, 1) := by decide +kernel
theorem dX11_harmOf_192 : decode cX11_harmOf 192 = .ok (.ireturn, 1) := by decide +kernel
theorem dX11_harmOf_193 : decode cX11_harmOf 193 = .ok (.iconst 0, 1) := by decide +kernel
theorem dX11_harmOf_194 : decode cX11_harmOf 194 = .ok (.istore 5, 2) := by decide +kernel
theorem dX11_harmOf_196 : decode cX11_harmOf 196 = .ok (.iload 5, 2) := by decide +kernel
theorem dX11_harmOf_198 : decode cX11_harmOf 198 = .ok (.aload_n 0, 1) := by decide +kernel
theorem dX11_harmOf_199 : decode cX11_harmOf 199 = .ok (.getfield 142, 3) := by decide +kernel
theorem dX11_harmOf_202 : decode cX11_harmOf 202 = .ok (.if_icmp .ge 48, 3) := by decide +kernel
theorem dX11_harmOf_205 : decode cX11_harmOf 205 = .ok (.iload 4, 2) := by decide +kernel
theorem dX11_harmOf_207 : decode cX11_harmOf 207 = .ok (.aload_n 0, 1) := by decide +kernel
theorem dX11_harmOf_208 : decode cX11_harmOf 208 = .ok (.getfield 100, 3) := by decide +kernel
theorem dX11_harmOf_211 : decode cX11_harmOf 211 = .ok (.iload 5, 2) := by decide +kernel
theorem dX11_harmOf_213 : decode cX11_harmOf 213 = .ok (.iaload, 1) := by decide +kernel
theorem dX11_harmOf_214 : decode cX11_harmOf 214 = .ok (.iconst (-1), 1) := by decide +kernel
theorem dX11_harmOf_215 : decode cX11_harmOf 215 = .ok (.if_icmp .eq 25, 3) := by decide +kernel
theorem dX11_harmOf_218 : decode cX11_harmOf 218 = .ok (.aload_n 0, 1) := by decide +kernel
theorem dX11_harmOf_219 : decode cX11_harmOf 219 = .ok (.iload 5, 2) := by decide +kernel
theorem dX11_harmOf_221 : decode cX11_harmOf 221 = .ok (.invokevirtual 337, 3) := by decide +kernel
theorem dX11_harmOf_224 : decode cX11_harmOf 224 = .ok (.iconst 3, 1) := by decide +kernel
theorem dX11_harmOf_225 : decode cX11_harmOf 225 = .ok (.if_icmp .ne 15, 3) := by decide +kernel
theorem dX11_harmOf_228 : decode cX11_harmOf 228 = .ok (.iconst 1, 1) := by decide +kernel
theorem dX11_harmOf_229 : decode cX11_harmOf 229 = .ok (.aload_n 0, 1) := by decide +kernel
theorem dX11_harmOf_230 : decode cX11_harmOf 230 = .ok (.getfield 22, 3) := by decide +kernel
theorem dX11_harmOf_233 : decode cX11_harmOf 233 = .ok (.iload 5, 2) := by decide +kernel
theorem dX11_harmOf_235 : decode cX11_harmOf 235 = .ok (.iaload, 1) := by decide +kernel
theorem dX11_harmOf_236 : decode cX11_harmOf 236 = .ok (.iadd, 1) := by decide +kernel
theorem dX11_harmOf_237 : decode cX11_harmOf 237 = .ok (.goto 4, 3) := by decide +kernel
theorem dX11_harmOf_240 : decode cX11_harmOf 240 = .ok (.iconst 0, 1) := by decide +kernel
theorem dX11_harmOf_241 : decode cX11_harmOf 241 = .ok (.iadd, 1) := by decide +kernel
theorem dX11_harmOf_242 : decode cX11_harmOf 242 = .ok (.istore 4, 2) := by decide +kernel
theorem dX11_harmOf_244 : decode cX11_harmOf 244 = .ok (.iinc 5 1, 3) := by decide +kernel
theorem dX11_harmOf_247 : decode cX11_harmOf 247 = .ok (.goto (-51), 3) := by decide +kernel
theorem dX11_harmOf_250 : decode cX11_harmOf 250 = .ok (.aload_n 0, 1) := by decide +kernel
theorem dX11_harmOf_251 : decode cX11_harmOf 251 = .ok (.getfield 66, 3) := by decide +kernel
theorem dX11_harmOf_254 : decode cX11_harmOf 254 = .ok (.iload_n 1, 1) := by decide +kernel
theorem dX11_harmOf_255 : decode cX11_harmOf 255 = .ok (.iaload, 1) := by decide +kernel
theorem dX11_harmOf_256 : decode cX11_harmOf 256 = .ok (.iload 4, 2) := by decide +kernel
theorem dX11_harmOf_258 : decode cX11_harmOf 258 = .ok (.imul, 1) := by decide +kernel
theorem dX11_harmOf_259 : decode cX11_harmOf 259 = .ok (.ireturn, 1) := by decide +kernel
theorem dX11_harmOf_260 : decode cX11_harmOf 260 = .ok (.iconst 0, 1) := by decide +kernel
theorem dX11_harmOf_261 : decode cX11_harmOf 261 = .ok (.istore 5, 2) := by decide +kernel
theorem dX11_harmOf_263 : decode cX11_harmOf 263 = .ok (.iload 5, 2) := by decide +kernel
theorem dX11_harmOf_265 : decode cX11_harmOf 265 = .ok (.aload_n 0, 1) := by decide +kernel
theorem dX11_harmOf_266 : decode cX11_harmOf 266 = .ok (.getfield 142, 3) := by decide +kernel
theorem dX11_harmOf_269 : decode cX11_harmOf 269 = .ok (.if_icmp .ge 63, 3) := by decide +kernel
theorem dX11_harmOf_272 : decode cX11_harmOf 272 = .ok (.iload 4, 2) := by decide +kernel
theorem dX11_harmOf_274 : decode cX11_harmOf 274 = .ok (.aload_n 0, 1) := by decide +kernel
theorem dX11_harmOf_275 : decode cX11_harmOf 275 = .ok (.getfield 100, 3) := by decide +kernel
theorem dX11_harmOf_278 : decode cX11_harmOf 278 = .ok (.iload 5, 2) := by decide +kernel
theorem dX11_harmOf_280 : decode cX11_harmOf 280 = .ok (.iaload, 1) := by decide +kernel
theorem dX11_harmOf_281 : decode cX11_harmOf 281 = .ok (.iconst (-1), 1) := by decide +kernel
theorem dX11_harmOf_282 : decode cX11_harmOf 282 = .ok (.if_icmp .eq 40, 3) := by decide +kernel
theorem dX11_harmOf_285 : decode cX11_harmOf 285 = .ok (.aload_n 0, 1) := by decide +kernel
theorem dX11_harmOf_286 : decode cX11_harmOf 286 = .ok (.getfield 97, 3) := by decide +kernel
theorem dX11_harmOf_289 : decode cX11_harmOf 289 = .ok (.bipush 28, 2) := by decide +kernel
theorem dX11_harmOf_291 : decode cX11_harmOf 291 = .ok (.iload_n 1, 1) := by decide +kernel
theorem dX11_harmOf_292 : decode cX11_harmOf 292 = .ok (.imul, 1) := by decide +kernel
theorem dX11_harmOf_293 : decode cX11_harmOf 293 = .ok (.iload 5, 2) := by decide +kernel
theorem dX11_harmOf_295 : decode cX11_harmOf 295 = .ok (.iadd, 1) := by decide +kernel
theorem dX11_harmOf_296 : decode cX11_harmOf 296 = .ok (.baload, 1) := by decide +kernel
theorem dX11_harmOf_297 : decode cX11_harmOf 297 = .ok (.ifCond .eq 25, 3) := by decide +kernel
theorem dX11_harmOf_300 : decode cX11_harmOf 300 = .ok (.aload_n 0, 1) := by decide +kernel
theorem dX11_harmOf_301 : decode cX11_harmOf 301 = .ok (.iconst 2, 1) := by decide +kernel
theorem dX11_harmOf_302 : decode cX11_harmOf 302 = .ok (.iload_n 1, 1) := by decide +kernel
theorem dX11_harmOf_303 : decode cX11_harmOf 303 = .ok (.imul, 1) := by decide +kernel
theorem dX11_harmOf_304 : decode cX11_harmOf 304 = .ok (.aload_n 0, 1) := by decide +kernel
theorem dX11_harmOf_305 : decode cX11_harmOf 305 = .ok (.getfield 100, 3) := by decide +kernel
theorem dX11_harmOf_308 : decode cX11_harmOf 308 = .ok (.iload 5, 2) := by decide +kernel
theorem dX11_harmOf_310 : decode cX11_harmOf 310 = .ok (.iaload, 1) := by decide +kernel
theorem dX11_harmOf_311 : decode cX11_harmOf 311 = .ok (.invokevirtual 332, 3) := by decide +kernel
theorem dX11_harmOf_314 : decode cX11_harmOf 314 = .ok (.iconst 1, 1) := by decide +kernel
theorem dX11_harmOf_315 : decode cX11_harmOf 315 = .ok (.if_icmp .ne 7, 3) := by decide +kernel
theorem dX11_harmOf_318 : decode cX11_harmOf 318 = .ok (.iconst 1, 1) := by decide +kernel
theorem dX11_harmOf_319 : decode cX11_harmOf 319 = .ok (.goto 4, 3) := by decide +kernel
theorem dX11_harmOf_322 : decode cX11_harmOf 322 = .ok (.iconst 0, 1) := by decide +kernel
theorem dX11_harmOf_323 : decode cX11_harmOf 323 = .ok (.iadd, 1) := by decide +kernel
theorem dX11_harmOf_324 : decode cX11_harmOf 324 = .ok (.istore 4, 2) := by decide +kernel
theorem dX11_harmOf_326 : decode cX11_harmOf 326 = .ok (.iinc 5 1, 3) := by decide +kernel
theorem dX11_harmOf_329 : decode cX11_harmOf 329 = .ok (.goto (-66), 3) := by decide +kernel
theorem dX11_harmOf_332 : decode cX11_harmOf 332 = .ok (.aload_n 0, 1) := by decide +kernel
theorem dX11_harmOf_333 : decode cX11_harmOf 333 = .ok (.getfield 66, 3) := by decide +kernel
theorem dX11_harmOf_336 : decode cX11_harmOf 336 = .ok (.iload_n 1, 1) := by decide +kernel
theorem dX11_harmOf_337 : decode cX11_harmOf 337 = .ok (.iaload, 1) := by decide +kernel
theorem dX11_harmOf_338 : decode cX11_harmOf 338 = .ok (.iload 4, 2) := by decide +kernel
theorem dX11_harmOf_340 : decode cX11_harmOf 340 = .ok (.imul, 1) := by decide +kernel
theorem dX11_harmOf_341 : decode cX11_harmOf 341 = .ok (.ireturn, 1) := by decide +kernel
theorem dX11_harmOf_342 : decode cX11_harmOf 342 = .ok (.iconst 0, 1) := by decide +kernel
theorem dX11_harmOf_343 : decode cX11_harmOf 343 = .ok (.istore 5, 2) := by decide +kernel
theorem dX11_harmOf_345 : decode cX11_harmOf 345 = .ok (.iload 5, 2) := by decide +kernel
theorem dX11_harmOf_347 : decode cX11_harmOf 347 = .ok (.aload_n 0, 1) := by decide +kernel
theorem dX11_harmOf_348 : decode cX11_harmOf 348 = .ok (.getfield 142, 3) := by decide +kernel
theorem dX11_harmOf_351 : decode cX11_harmOf 351 = .ok (.if_icmp .ge 75, 3) := by decide +kernel
theorem dX11_harmOf_354 : decode cX11_harmOf 354 = .ok (.iconst 0, 1) := by decide +kernel
theorem dX11_harmOf_355 : decode cX11_harmOf 355 = .ok (.istore 6, 2) := by decide +kernel
theorem dX11_harmOf_357 : decode cX11_harmOf 357 = .ok (.iload 6, 2) := by decide +kernel
theorem dX11_harmOf_359 : decode cX11_harmOf 359 = .ok (.iload 5, 2) := by decide +kernel
theorem dX11_harmOf_361 : decode cX11_harmOf 361 = .ok (.if_icmp .ge 59, 3) := by decide +kernel
theorem dX11_harmOf_364 : decode cX11_harmOf 364 = .ok (.iload 4, 2) := by decide +kernel
theorem dX11_harmOf_366 : decode cX11_harmOf 366 = .ok (.aload_n 0, 1) := by decide +kernel
theorem dX11_harmOf_367 : decode cX11_harmOf 367 = .ok (.getfield 100, 3) := by decide +kernel
theorem dX11_harmOf_370 : decode cX11_harmOf 370 = .ok (.iload 5, 2) := by decide +kernel
theorem dX11_harmOf_372 : decode cX11_harmOf 372 = .ok (.iaload, 1) := by decide +kernel
theorem dX11_harmOf_373 : decode cX11_harmOf 373 = .ok (.iconst (-1), 1) := by decide +kernel
theorem dX11_harmOf_374 : decode cX11_harmOf 374 = .ok (.if_icmp .eq 36, 3) := by decide +kernel
theorem dX11_harmOf_377 : decode cX11_harmOf 377 = .ok (.aload_n 0, 1) := by decide +kernel
theorem dX11_harmOf_378 : decode cX11_harmOf 378 = .ok (.getfield 100, 3) := by decide +kernel
theorem dX11_harmOf_381 : decode cX11_harmOf 381 = .ok (.iload 5, 2) := by decide +kernel
theorem dX11_harmOf_383 : decode cX11_harmOf 383 = .ok (.iaload, 1) := by decide +kernel
theorem dX11_harmOf_384 : decode cX11_harmOf 384 = .ok (.aload_n 0, 1) := by decide +kernel
theorem dX11_harmOf_385 : decode cX11_harmOf 385 = .ok (.getfield 100, 3) := by decide +kernel
theorem dX11_harmOf_388 : decode cX11_harmOf 388 = .ok (.iload 6, 2) := by decide +kernel
theorem dX11_harmOf_390 : decode cX11_harmOf 390 = .ok (.iaload, 1) := by decide +kernel
theorem dX11_harmOf_391 : decode cX11_harmOf 391 = .ok (.if_icmp .ne 19, 3) := by decide +kernel
theorem dX11_harmOf_394 : decode cX11_harmOf 394 = .ok (.aload_n 0, 1) := by decide +kernel
theorem dX11_harmOf_395 : decode cX11_harmOf 395 = .ok (.getfield 28, 3) := by decide +kernel
theorem dX11_harmOf_398 : decode cX11_harmOf 398 = .ok (.bipush 14, 2) := by decide +kernel
theorem dX11_harmOf_400 : decode cX11_harmOf 400 = .ok (.iload 5, 2) := by decide +kernel
theorem dX11_harmOf_402 : decode cX11_harmOf 402 = .ok (.imul, 1) := by decide +kernel
theorem dX11_harmOf_403 : decode cX11_harmOf 403 = .ok (.iload 6, 2) := by decide +kernel
theorem dX11_harmOf_405 : decode cX11_harmOf 405 = .ok (.iadd, 1) := by decide +kernel
theorem dX11_harmOf_406 : decode cX11_harmOf 406 = .ok (.iaload, 1) := by decide +kernel
theorem dX11_harmOf_407 : decode cX11_harmOf 407 = .ok (.goto 4, 3) := by decide +kernel
theorem dX11_harmOf_410 : decode cX11_harmOf 410 = .ok (.iconst 0, 1) := by decide +kernel
theorem dX11_harmOf_411 : decode cX11_harmOf 411 = .ok (.iadd, 1) := by decide +kernel
theorem dX11_harmOf_412 : decode cX11_harmOf 412 = .ok (.istore 4, 2) := by decide +kernel
theorem dX11_harmOf_414 : decode cX11_harmOf 414 = .ok (.iinc 6 1, 3) := by decide +kernel
theorem dX11_harmOf_417 : decode cX11_harmOf 417 = .ok (.goto (-60), 3) := by decide +kernel
theorem dX11_harmOf_420 : decode cX11_harmOf 420 = .ok (.iinc 5 1, 3) := by decide +kernel
theorem dX11_harmOf_423 : decode cX11_harmOf 423 = .ok (.goto (-78), 3) := by decide +kernel
theorem dX11_harmOf_426 : decode cX11_harmOf 426 = .ok (.aload_n 0, 1) := by decide +kernel
theorem dX11_harmOf_427 : decode cX11_harmOf 427 = .ok (.getfield 66, 3) := by decide +kernel
theorem dX11_harmOf_430 : decode cX11_harmOf 430 = .ok (.iload_n 1, 1) := by decide +kernel
theorem dX11_harmOf_431 : decode cX11_harmOf 431 = .ok (.iaload, 1) := by decide +kernel
theorem dX11_harmOf_432 : decode cX11_harmOf 432 = .ok (.iload 4, 2) := by decide +kernel
theorem dX11_harmOf_434 : decode cX11_harmOf 434 = .ok (.imul, 1) := by decide +kernel
theorem dX11_harmOf_435 : decode cX11_harmOf 435 = .ok (.ireturn, 1) := by decide +kernel
theorem dX11_harmOf_436 : decode cX11_harmOf 436 = .ok (.iconst 0, 1) := by decide +kernel
theorem dX11_harmOf_437 : decode cX11_harmOf 437 = .ok (.ireturn, 1) := by decide +kernel
theorem dX11_allHarm_0 : decode cX11_allHarm 0 = .ok (.iconst 0, 1) := by decide +kernel
theorem dX11_allHarm_1 : decode cX11_allHarm 1 = .ok (.istore_n 1, 1) := by decide +kernel
theorem dX11_allHarm_2 : decode cX11_allHarm 2 = .ok (.iconst 0, 1) := by decide +kernel
theorem dX11_allHarm_3 : decode cX11_allHarm 3 = .ok (.istore_n 2, 1) := by decide +kernel
theorem dX11_allHarm_4 : decode cX11_allHarm 4 = .ok (.iload_n 2, 1) := by decide +kernel
theorem dX11_allHarm_5 : decode cX11_allHarm 5 = .ok (.aload_n 0, 1) := by decide +kernel
theorem dX11_allHarm_6 : decode cX11_allHarm 6 = .ok (.getfield 307, 3) := by decide +kernel
theorem dX11_allHarm_9 : decode cX11_allHarm 9 = .ok (.if_icmp .ge 17, 3) := by decide +kernel
theorem dX11_allHarm_12 : decode cX11_allHarm 12 = .ok (.iload_n 1, 1) := by decide +kernel
theorem dX11_allHarm_13 : decode cX11_allHarm 13 = .ok (.aload_n 0, 1) := by decide +kernel
theorem dX11_allHarm_14 : decode cX11_allHarm 14 = .ok (.iload_n 2, 1) := by decide +kernel
theorem dX11_allHarm_15 : decode cX11_allHarm 15 = .ok (.invokevirtual 340, 3) := by decide +kernel
theorem dX11_allHarm_18 : decode cX11_allHarm 18 = .ok (.iadd, 1) := by decide +kernel
theorem dX11_allHarm_19 : decode cX11_allHarm 19 = .ok (.istore_n 1, 1) := by decide +kernel
theorem dX11_allHarm_20 : decode cX11_allHarm 20 = .ok (.iinc 2 1, 3) := by decide +kernel
theorem dX11_allHarm_23 : decode cX11_allHarm 23 = .ok (.goto (-19), 3) := by decide +kernel
theorem dX11_allHarm_26 : decode cX11_allHarm 26 = .ok (.iload_n 1, 1) := by decide +kernel
theorem dX11_allHarm_27 : decode cX11_allHarm 27 = .ok (.ireturn, 1) := by decide +kernel
theorem dX11_cameBy_0 : decode cX11_cameBy 0 = .ok (.iconst 0, 1) := by decide +kernel
theorem dX11_cameBy_1 : decode cX11_cameBy 1 = .ok (.istore_n 2, 1) := by decide +kernel
theorem dX11_cameBy_2 : decode cX11_cameBy 2 = .ok (.iconst 0, 1) := by decide +kernel
theorem dX11_cameBy_3 : decode cX11_cameBy 3 = .ok (.istore_n 3, 1) := by decide +kernel
theorem dX11_cameBy_4 : decode cX11_cameBy 4 = .ok (.iload_n 3, 1) := by decide +kernel
theorem dX11_cameBy_5 : decode cX11_cameBy 5 = .ok (.aload_n 0, 1) := by decide +kernel
theorem dX11_cameBy_6 : decode cX11_cameBy 6 = .ok (.getfield 142, 3) := by decide +kernel
theorem dX11_cameBy_9 : decode cX11_cameBy 9 = .ok (.if_icmp .ge 27, 3) := by decide +kernel
theorem dX11_cameBy_12 : decode cX11_cameBy 12 = .ok (.iload_n 2, 1) := by decide +kernel
theorem dX11_cameBy_13 : decode cX11_cameBy 13 = .ok (.aload_n 0, 1) := by decide +kernel
theorem dX11_cameBy_14 : decode cX11_cameBy 14 = .ok (.getfield 19, 3) := by decide +kernel
theorem dX11_cameBy_17 : decode cX11_cameBy 17 = .ok (.iload_n 3, 1) := by decide +kernel
theorem dX11_cameBy_18 : decode cX11_cameBy 18 = .ok (.iaload, 1) := by decide +kernel
theorem dX11_cameBy_19 : decode cX11_cameBy 19 = .ok (.iload_n 1, 1) := by decide +kernel
theorem dX11_cameBy_20 : decode cX11_cameBy 20 = .ok (.if_icmp .gt 7, 3) := by decide +kernel
theorem dX11_cameBy_23 : decode cX11_cameBy 23 = .ok (.iconst 1, 1) := by decide +kernel
theorem dX11_cameBy_24 : decode cX11_cameBy 24 = .ok (.goto 4, 3) := by decide +kernel
theorem dX11_cameBy_27 : decode cX11_cameBy 27 = .ok (.iconst 0, 1) := by decide +kernel
theorem dX11_cameBy_28 : decode cX11_cameBy 28 = .ok (.iadd, 1) := by decide +kernel
theorem dX11_cameBy_29 : decode cX11_cameBy 29 = .ok (.istore_n 2, 1) := by decide +kernel
theorem dX11_cameBy_30 : decode cX11_cameBy 30 = .ok (.iinc 3 1, 3) := by decide +kernel
theorem dX11_cameBy_33 : decode cX11_cameBy 33 = .ok (.goto (-29), 3) := by decide +kernel
theorem dX11_cameBy_36 : decode cX11_cameBy 36 = .ok (.iload_n 2, 1) := by decide +kernel
theorem dX11_cameBy_37 : decode cX11_cameBy 37 = .ok (.ireturn, 1) := by decide +kernel
theorem dX11_counts_0 : decode cX11_counts 0 = .ok (.aload_n 0, 1) := by decide +kernel
theorem dX11_counts_1 : decode cX11_counts 1 = .ok (.getfield 142, 3) := by decide +kernel
theorem dX11_counts_4 : decode cX11_counts 4 = .ok (.iconst 1, 1) := by decide +kernel
theorem dX11_counts_5 : decode cX11_counts 5 = .ok (.isub, 1) := by decide +kernel
theorem dX11_counts_6 : decode cX11_counts 6 = .ok (.istore_n 1, 1) := by decide +kernel
theorem dX11_counts_7 : decode cX11_counts 7 = .ok (.iload_n 1, 1) := by decide +kernel
theorem dX11_counts_8 : decode cX11_counts 8 = .ok (.ifCond .lt 54, 3) := by decide +kernel
theorem dX11_counts_11 : decode cX11_counts 11 = .ok (.aload_n 0, 1) := by decide +kernel
theorem dX11_counts_12 : decode cX11_counts 12 = .ok (.getfield 100, 3) := by decide +kernel
theorem dX11_counts_15 : decode cX11_counts 15 = .ok (.iload_n 1, 1) := by decide +kernel
theorem dX11_counts_16 : decode cX11_counts 16 = .ok (.iaload, 1) := by decide +kernel
theorem dX11_counts_17 : decode cX11_counts 17 = .ok (.iconst (-1), 1) := by decide +kernel
theorem dX11_counts_18 : decode cX11_counts 18 = .ok (.if_icmp .ne 6, 3) := by decide +kernel
theorem dX11_counts_21 : decode cX11_counts 21 = .ok (.goto 35, 3) := by decide +kernel
theorem dX11_counts_24 : decode cX11_counts 24 = .ok (.aload_n 0, 1) := by decide +kernel
theorem dX11_counts_25 : decode cX11_counts 25 = .ok (.getfield 100, 3) := by decide +kernel
theorem dX11_counts_28 : decode cX11_counts 28 = .ok (.iload_n 1, 1) := by decide +kernel
theorem dX11_counts_29 : decode cX11_counts 29 = .ok (.dup2, 1) := by decide +kernel
theorem dX11_counts_30 : decode cX11_counts 30 = .ok (.iaload, 1) := by decide +kernel
theorem dX11_counts_31 : decode cX11_counts 31 = .ok (.iconst 1, 1) := by decide +kernel
theorem dX11_counts_32 : decode cX11_counts 32 = .ok (.iadd, 1) := by decide +kernel
theorem dX11_counts_33 : decode cX11_counts 33 = .ok (.iastore, 1) := by decide +kernel
theorem dX11_counts_34 : decode cX11_counts 34 = .ok (.aload_n 0, 1) := by decide +kernel
theorem dX11_counts_35 : decode cX11_counts 35 = .ok (.getfield 100, 3) := by decide +kernel
theorem dX11_counts_38 : decode cX11_counts 38 = .ok (.iload_n 1, 1) := by decide +kernel
theorem dX11_counts_39 : decode cX11_counts 39 = .ok (.iaload, 1) := by decide +kernel
theorem dX11_counts_40 : decode cX11_counts 40 = .ok (.aload_n 0, 1) := by decide +kernel
theorem dX11_counts_41 : decode cX11_counts 41 = .ok (.getfield 41, 3) := by decide +kernel
theorem dX11_counts_44 : decode cX11_counts 44 = .ok (.if_icmp .ge 5, 3) := by decide +kernel
theorem dX11_counts_47 : decode cX11_counts 47 = .ok (.iconst 1, 1) := by decide +kernel
theorem dX11_counts_48 : decode cX11_counts 48 = .ok (.ireturn, 1) := by decide +kernel
theorem dX11_counts_49 : decode cX11_counts 49 = .ok (.aload_n 0, 1) := by decide +kernel
theorem dX11_counts_50 : decode cX11_counts 50 = .ok (.getfield 100, 3) := by decide +kernel
theorem dX11_counts_53 : decode cX11_counts 53 = .ok (.iload_n 1, 1) := by decide +kernel
theorem dX11_counts_54 : decode cX11_counts 54 = .ok (.iconst 0, 1) := by decide +kernel
theorem dX11_counts_55 : decode cX11_counts 55 = .ok (.iastore, 1) := by decide +kernel
theorem dX11_counts_56 : decode cX11_counts 56 = .ok (.iinc 1 (-1), 3) := by decide +kernel
theorem dX11_counts_59 : decode cX11_counts 59 = .ok (.goto (-52), 3) := by decide +kernel
theorem dX11_counts_62 : decode cX11_counts 62 = .ok (.iconst 0, 1) := by decide +kernel
theorem dX11_counts_63 : decode cX11_counts 63 = .ok (.ireturn, 1) := by decide +kernel
theorem dX11_bests_0 : decode cX11_bests 0 = .ok (.iload_n 1, 1) := by decide +kernel
theorem dX11_bests_1 : decode cX11_bests 1 = .ok (.iconst 0, 1) := by decide +kernel
theorem dX11_bests_2 : decode cX11_bests 2 = .ok (.aload_n 0, 1) := by decide +kernel
theorem dX11_bests_3 : decode cX11_bests 3 = .ok (.getfield 153, 3) := by decide +kernel
theorem dX11_bests_6 : decode cX11_bests 6 = .ok (.invokestatic 145, 3) := by decide +kernel
theorem dX11_bests_9 : decode cX11_bests 9 = .ok (.ifCond .eq 11, 3) := by decide +kernel
theorem dX11_bests_12 : decode cX11_bests 12 = .ok (.aload_n 0, 1) := by decide +kernel
theorem dX11_bests_13 : decode cX11_bests 13 = .ok (.iload_n 1, 1) := by decide +kernel
theorem dX11_bests_14 : decode cX11_bests 14 = .ok (.invokevirtual 343, 3) := by decide +kernel
theorem dX11_bests_17 : decode cX11_bests 17 = .ok (.ifCond .ne 5, 3) := by decide +kernel
theorem dX11_bests_20 : decode cX11_bests 20 = .ok (.iconst (-1), 1) := by decide +kernel
theorem dX11_bests_21 : decode cX11_bests 21 = .ok (.ireturn, 1) := by decide +kernel
theorem dX11_bests_22 : decode cX11_bests 22 = .ok (.aload_n 0, 1) := by decide +kernel
theorem dX11_bests_23 : decode cX11_bests 23 = .ok (.iload_n 1, 1) := by decide +kernel
theorem dX11_bests_24 : decode cX11_bests 24 = .ok (.invokevirtual 343, 3) := by decide +kernel
theorem dX11_bests_27 : decode cX11_bests 27 = .ok (.bipush 9, 2) := by decide +kernel
theorem dX11_bests_29 : decode cX11_bests 29 = .ok (.if_icmp .le 6, 3) := by decide +kernel
theorem dX11_bests_32 : decode cX11_bests 32 = .ok (.bipush (-3), 2) := by decide +kernel
theorem dX11_bests_34 : decode cX11_bests 34 = .ok (.ireturn, 1) := by decide +kernel
theorem dX11_bests_35 : decode cX11_bests 35 = .ok (.aload_n 0, 1) := by decide +kernel
theorem dX11_bests_36 : decode cX11_bests 36 = .ok (.getfield 156, 3) := by decide +kernel
theorem dX11_bests_39 : decode cX11_bests 39 = .ok (.ifCond .eq 31, 3) := by decide +kernel
theorem dX11_bests_42 : decode cX11_bests 42 = .ok (.iload_n 1, 1) := by decide +kernel
theorem dX11_bests_43 : decode cX11_bests 43 = .ok (.aload_n 0, 1) := by decide +kernel
theorem dX11_bests_44 : decode cX11_bests 44 = .ok (.getfield 346, 3) := by decide +kernel
theorem dX11_bests_47 : decode cX11_bests 47 = .ok (.if_icmp .ne 23, 3) := by decide +kernel
theorem dX11_bests_50 : decode cX11_bests 50 = .ok (.aload_n 0, 1) := by decide +kernel
theorem dX11_bests_51 : decode cX11_bests 51 = .ok (.getfield 349, 3) := by decide +kernel
theorem dX11_bests_54 : decode cX11_bests 54 = .ok (.ldc_w 336, 3) := by decide +kernel
theorem dX11_bests_57 : decode cX11_bests 57 = .ok (.if_icmp .ne 8, 3) := by decide +kernel
theorem dX11_bests_60 : decode cX11_bests 60 = .ok (.bipush (-2), 2) := by decide +kernel
theorem dX11_bests_62 : decode cX11_bests 62 = .ok (.goto 7, 3) := by decide +kernel
theorem dX11_bests_65 : decode cX11_bests 65 = .ok (.aload_n 0, 1) := by decide +kernel
theorem dX11_bests_66 : decode cX11_bests 66 = .ok (.getfield 349, 3) := by decide +kernel
theorem dX11_bests_69 : decode cX11_bests 69 = .ok (.ireturn, 1) := by decide +kernel
theorem dX11_bests_70 : decode cX11_bests 70 = .ok (.aload_n 0, 1) := by decide +kernel
theorem dX11_bests_71 : decode cX11_bests 71 = .ok (.iload_n 1, 1) := by decide +kernel
theorem dX11_bests_72 : decode cX11_bests 72 = .ok (.invokevirtual 322, 3) := by decide +kernel
theorem dX11_bests_75 : decode cX11_bests 75 = .ok (.iconst 0, 1) := by decide +kernel
theorem dX11_bests_76 : decode cX11_bests 76 = .ok (.istore_n 2, 1) := by decide +kernel
theorem dX11_bests_77 : decode cX11_bests 77 = .ok (.iload_n 2, 1) := by decide +kernel
theorem dX11_bests_78 : decode cX11_bests 78 = .ok (.aload_n 0, 1) := by decide +kernel
theorem dX11_bests_79 : decode cX11_bests 79 = .ok (.getfield 142, 3) := by decide +kernel
theorem dX11_bests_82 : decode cX11_bests 82 = .ok (.if_icmp .ge 30, 3) := by decide +kernel
theorem dX11_bests_85 : decode cX11_bests 85 = .ok (.aload_n 0, 1) := by decide +kernel
theorem dX11_bests_86 : decode cX11_bests 86 = .ok (.getfield 100, 3) := by decide +kernel
theorem dX11_bests_89 : decode cX11_bests 89 = .ok (.iload_n 2, 1) := by decide +kernel
theorem dX11_bests_90 : decode cX11_bests 90 = .ok (.aload_n 0, 1) := by decide +kernel
theorem dX11_bests_91 : decode cX11_bests 91 = .ok (.getfield 19, 3) := by decide +kernel
theorem dX11_bests_94 : decode cX11_bests 94 = .ok (.iload_n 2, 1) := by decide +kernel
theorem dX11_bests_95 : decode cX11_bests 95 = .ok (.iaload, 1) := by decide +kernel
theorem dX11_bests_96 : decode cX11_bests 96 = .ok (.iload_n 1, 1) := by decide +kernel
theorem dX11_bests_97 : decode cX11_bests 97 = .ok (.if_icmp .gt 7, 3) := by decide +kernel
theorem dX11_bests_100 : decode cX11_bests 100 = .ok (.iconst 0, 1) := by decide +kernel
theorem dX11_bests_101 : decode cX11_bests 101 = .ok (.goto 4, 3) := by decide +kernel
theorem dX11_bests_104 : decode cX11_bests 104 = .ok (.iconst (-1), 1) := by decide +kernel
theorem dX11_bests_105 : decode cX11_bests 105 = .ok (.iastore, 1) := by decide +kernel
theorem dX11_bests_106 : decode cX11_bests 106 = .ok (.iinc 2 1, 3) := by decide +kernel
theorem dX11_bests_109 : decode cX11_bests 109 = .ok (.goto (-32), 3) := by decide +kernel
theorem dX11_bests_112 : decode cX11_bests 112 = .ok (.aload_n 0, 1) := by decide +kernel
theorem dX11_bests_113 : decode cX11_bests 113 = .ok (.ldc_w 336, 3) := by decide +kernel
theorem dX11_bests_116 : decode cX11_bests 116 = .ok (.putfield 349, 3) := by decide +kernel
theorem dX11_bests_119 : decode cX11_bests 119 = .ok (.aload_n 0, 1) := by decide +kernel
theorem dX11_bests_120 : decode cX11_bests 120 = .ok (.invokevirtual 352, 3) := by decide +kernel
theorem dX11_bests_123 : decode cX11_bests 123 = .ok (.ifCond .eq 62, 3) := by decide +kernel
theorem dX11_bests_126 : decode cX11_bests 126 = .ok (.aload_n 0, 1) := by decide +kernel
theorem dX11_bests_127 : decode cX11_bests 127 = .ok (.invokevirtual 355, 3) := by decide +kernel
theorem dX11_bests_130 : decode cX11_bests 130 = .ok (.ifCond .le 6, 3) := by decide +kernel
theorem dX11_bests_133 : decode cX11_bests 133 = .ok (.goto 52, 3) := by decide +kernel
theorem dX11_bests_136 : decode cX11_bests 136 = .ok (.aload_n 0, 1) := by decide +kernel
theorem dX11_bests_137 : decode cX11_bests 137 = .ok (.invokevirtual 358, 3) := by decide +kernel
theorem dX11_bests_140 : decode cX11_bests 140 = .ok (.istore_n 2, 1) := by decide +kernel
theorem dX11_bests_141 : decode cX11_bests 141 = .ok (.iload_n 2, 1) := by decide +kernel
theorem dX11_bests_142 : decode cX11_bests 142 = .ok (.aload_n 0, 1) := by decide +kernel
theorem dX11_bests_143 : decode cX11_bests 143 = .ok (.getfield 349, 3) := by decide +kernel
theorem dX11_bests_146 : decode cX11_bests 146 = .ok (.if_icmp .lt 6, 3) := by decide +kernel
theorem dX11_bests_149 : decode cX11_bests 149 = .ok (.goto 36, 3) := by decide +kernel
theorem dX11_bests_152 : decode cX11_bests 152 = .ok (.aload_n 0, 1) := by decide +kernel
theorem dX11_bests_153 : decode cX11_bests 153 = .ok (.iload_n 2, 1) := by decide +kernel
theorem dX11_bests_154 : decode cX11_bests 154 = .ok (.putfield 349, 3) := by decide +kernel
theorem dX11_bests_157 : decode cX11_bests 157 = .ok (.iconst 0, 1) := by decide +kernel
theorem dX11_bests_158 : decode cX11_bests 158 = .ok (.istore_n 3, 1) := by decide +kernel
theorem dX11_bests_159 : decode cX11_bests 159 = .ok (.iload_n 3, 1) := by decide +kernel
theorem dX11_bests_160 : decode cX11_bests 160 = .ok (.aload_n 0, 1) := by decide +kernel
theorem dX11_bests_161 : decode cX11_bests 161 = .ok (.getfield 142, 3) := by decide +kernel
theorem dX11_bests_164 : decode cX11_bests 164 = .ok (.if_icmp .ge 21, 3) := by decide +kernel
theorem dX11_bests_167 : decode cX11_bests 167 = .ok (.aload_n 0, 1) := by decide +kernel
theorem dX11_bests_168 : decode cX11_bests 168 = .ok (.getfield 103, 3) := by decide +kernel
theorem dX11_bests_171 : decode cX11_bests 171 = .ok (.iload_n 3, 1) := by decide +kernel
theorem dX11_bests_172 : decode cX11_bests 172 = .ok (.aload_n 0, 1) := by decide +kernel
theorem dX11_bests_173 : decode cX11_bests 173 = .ok (.getfield 100, 3) := by decide +kernel
theorem dX11_bests_176 : decode cX11_bests 176 = .ok (.iload_n 3, 1) := by decide +kernel
theorem dX11_bests_177 : decode cX11_bests 177 = .ok (.iaload, 1) := by decide +kernel
theorem dX11_bests_178 : decode cX11_bests 178 = .ok (.iastore, 1) := by decide +kernel
theorem dX11_bests_179 : decode cX11_bests 179 = .ok (.iinc 3 1, 3) := by decide +kernel
theorem dX11_bests_182 : decode cX11_bests 182 = .ok (.goto (-23), 3) := by decide +kernel
theorem dX11_bests_185 : decode cX11_bests 185 = .ok (.aload_n 0, 1) := by decide +kernel
theorem dX11_bests_186 : decode cX11_bests 186 = .ok (.invokevirtual 361, 3) := by decide +kernel
theorem dX11_bests_189 : decode cX11_bests 189 = .ok (.ifCond .ne (-70), 3) := by decide +kernel
theorem dX11_bests_192 : decode cX11_bests 192 = .ok (.aload_n 0, 1) := by decide +kernel
theorem dX11_bests_193 : decode cX11_bests 193 = .ok (.iconst 1, 1) := by decide +kernel
theorem dX11_bests_194 : decode cX11_bests 194 = .ok (.putfield 156, 3) := by decide +kernel
theorem dX11_bests_197 : decode cX11_bests 197 = .ok (.aload_n 0, 1) := by decide +kernel
theorem dX11_bests_198 : decode cX11_bests 198 = .ok (.iload_n 1, 1) := by decide +kernel
theorem dX11_bests_199 : decode cX11_bests 199 = .ok (.putfield 346, 3) := by decide +kernel
theorem dX11_bests_202 : decode cX11_bests 202 = .ok (.aload_n 0, 1) := by decide +kernel
theorem dX11_bests_203 : decode cX11_bests 203 = .ok (.getfield 349, 3) := by decide +kernel
theorem dX11_bests_206 : decode cX11_bests 206 = .ok (.ldc_w 336, 3) := by decide +kernel
theorem dX11_bests_209 : decode cX11_bests 209 = .ok (.if_icmp .ne 8, 3) := by decide +kernel
theorem dX11_bests_212 : decode cX11_bests 212 = .ok (.bipush (-2), 2) := by decide +kernel
theorem dX11_bests_214 : decode cX11_bests 214 = .ok (.goto 7, 3) := by decide +kernel
theorem dX11_bests_217 : decode cX11_bests 217 = .ok (.aload_n 0, 1) := by decide +kernel
theorem dX11_bests_218 : decode cX11_bests 218 = .ok (.getfield 349, 3) := by decide +kernel
theorem dX11_bests_221 : decode cX11_bests 221 = .ok (.ireturn, 1) := by decide +kernel
theorem dX11_plan_0 : decode cX11_plan 0 = .ok (.aload_n 0, 1) := by decide +kernel
theorem dX11_plan_1 : decode cX11_plan 1 = .ok (.iconst 0, 1) := by decide +kernel
theorem dX11_plan_2 : decode cX11_plan 2 = .ok (.putfield 139, 3) := by decide +kernel
theorem dX11_plan_5 : decode cX11_plan 5 = .ok (.aload_n 0, 1) := by decide +kernel
theorem dX11_plan_6 : decode cX11_plan 6 = .ok (.iload_n 1, 1) := by decide +kernel
theorem dX11_plan_7 : decode cX11_plan 7 = .ok (.invokevirtual 364, 3) := by decide +kernel
theorem dX11_plan_10 : decode cX11_plan 10 = .ok (.ireturn, 1) := by decide +kernel
theorem dX11_planned_0 : decode cX11_planned 0 = .ok (.aload_n 0, 1) := by decide +kernel
theorem dX11_planned_1 : decode cX11_planned 1 = .ok (.iconst 0, 1) := by decide +kernel
theorem dX11_planned_2 : decode cX11_planned 2 = .ok (.putfield 139, 3) := by decide +kernel
theorem dX11_planned_5 : decode cX11_planned 5 = .ok (.aload_n 0, 1) := by decide +kernel
theorem dX11_planned_6 : decode cX11_planned 6 = .ok (.iload_n 1, 1) := by decide +kernel
theorem dX11_planned_7 : decode cX11_planned 7 = .ok (.invokevirtual 364, 3) := by decide +kernel
theorem dX11_planned_10 : decode cX11_planned 10 = .ok (.ifCond .lt 20, 3) := by decide +kernel
theorem dX11_planned_13 : decode cX11_planned 13 = .ok (.aload_n 0, 1) := by decide +kernel
theorem dX11_planned_14 : decode cX11_planned 14 = .ok (.iload_n 2, 1) := by decide +kernel
theorem dX11_planned_15 : decode cX11_planned 15 = .ok (.invokevirtual 149, 3) := by decide +kernel
theorem dX11_planned_18 : decode cX11_planned 18 = .ok (.ifCond .eq 12, 3) := by decide +kernel
theorem dX11_planned_21 : decode cX11_planned 21 = .ok (.aload_n 0, 1) := by decide +kernel
theorem dX11_planned_22 : decode cX11_planned 22 = .ok (.getfield 103, 3) := by decide +kernel
theorem dX11_planned_25 : decode cX11_planned 25 = .ok (.iload_n 2, 1) := by decide +kernel
theorem dX11_planned_26 : decode cX11_planned 26 = .ok (.iaload, 1) := by decide +kernel
theorem dX11_planned_27 : decode cX11_planned 27 = .ok (.goto 4, 3) := by decide +kernel
theorem dX11_planned_30 : decode cX11_planned 30 = .ok (.iconst (-1), 1) := by decide +kernel
theorem dX11_planned_31 : decode cX11_planned 31 = .ok (.ireturn, 1) := by decide +kernel
theorem dX11_listed_0 : decode cX11_listed 0 = .ok (.iconst 0, 1) := by decide +kernel
theorem dX11_listed_1 : decode cX11_listed 1 = .ok (.istore_n 1, 1) := by decide +kernel
theorem dX11_listed_2 : decode cX11_listed 2 = .ok (.iconst 0, 1) := by decide +kernel
theorem dX11_listed_3 : decode cX11_listed 3 = .ok (.istore_n 2, 1) := by decide +kernel
theorem dX11_listed_4 : decode cX11_listed 4 = .ok (.iload_n 2, 1) := by decide +kernel
theorem dX11_listed_5 : decode cX11_listed 5 = .ok (.aload_n 0, 1) := by decide +kernel
theorem dX11_listed_6 : decode cX11_listed 6 = .ok (.getfield 142, 3) := by decide +kernel
theorem dX11_listed_9 : decode cX11_listed 9 = .ok (.if_icmp .ge 27, 3) := by decide +kernel
theorem dX11_listed_12 : decode cX11_listed 12 = .ok (.iload_n 1, 1) := by decide +kernel
theorem dX11_listed_13 : decode cX11_listed 13 = .ok (.aload_n 0, 1) := by decide +kernel
theorem dX11_listed_14 : decode cX11_listed 14 = .ok (.getfield 106, 3) := by decide +kernel
theorem dX11_listed_17 : decode cX11_listed 17 = .ok (.iload_n 2, 1) := by decide +kernel
theorem dX11_listed_18 : decode cX11_listed 18 = .ok (.iaload, 1) := by decide +kernel
theorem dX11_listed_19 : decode cX11_listed 19 = .ok (.iconst (-1), 1) := by decide +kernel
theorem dX11_listed_20 : decode cX11_listed 20 = .ok (.if_icmp .ne 7, 3) := by decide +kernel
theorem dX11_listed_23 : decode cX11_listed 23 = .ok (.iconst 0, 1) := by decide +kernel
theorem dX11_listed_24 : decode cX11_listed 24 = .ok (.goto 4, 3) := by decide +kernel
theorem dX11_listed_27 : decode cX11_listed 27 = .ok (.iconst 1, 1) := by decide +kernel
theorem dX11_listed_28 : decode cX11_listed 28 = .ok (.iadd, 1) := by decide +kernel
theorem dX11_listed_29 : decode cX11_listed 29 = .ok (.istore_n 1, 1) := by decide +kernel
theorem dX11_listed_30 : decode cX11_listed 30 = .ok (.iinc 2 1, 3) := by decide +kernel
theorem dX11_listed_33 : decode cX11_listed 33 = .ok (.goto (-29), 3) := by decide +kernel
theorem dX11_listed_36 : decode cX11_listed 36 = .ok (.iload_n 1, 1) := by decide +kernel
theorem dX11_listed_37 : decode cX11_listed 37 = .ok (.ireturn, 1) := by decide +kernel
theorem dX11_looks_0 : decode cX11_looks 0 = .ok (.aload_n 0, 1) := by decide +kernel
theorem dX11_looks_1 : decode cX11_looks 1 = .ok (.aload_n 0, 1) := by decide +kernel
theorem dX11_looks_2 : decode cX11_looks 2 = .ok (.getfield 153, 3) := by decide +kernel
theorem dX11_looks_5 : decode cX11_looks 5 = .ok (.invokevirtual 322, 3) := by decide +kernel
theorem dX11_looks_8 : decode cX11_looks 8 = .ok (.iconst 0, 1) := by decide +kernel
theorem dX11_looks_9 : decode cX11_looks 9 = .ok (.istore_n 1, 1) := by decide +kernel
theorem dX11_looks_10 : decode cX11_looks 10 = .ok (.iload_n 1, 1) := by decide +kernel
theorem dX11_looks_11 : decode cX11_looks 11 = .ok (.aload_n 0, 1) := by decide +kernel
theorem dX11_looks_12 : decode cX11_looks 12 = .ok (.getfield 142, 3) := by decide +kernel
theorem dX11_looks_15 : decode cX11_looks 15 = .ok (.if_icmp .ge 21, 3) := by decide +kernel
theorem dX11_looks_18 : decode cX11_looks 18 = .ok (.aload_n 0, 1) := by decide +kernel
theorem dX11_looks_19 : decode cX11_looks 19 = .ok (.getfield 100, 3) := by decide +kernel
theorem dX11_looks_22 : decode cX11_looks 22 = .ok (.iload_n 1, 1) := by decide +kernel
theorem dX11_looks_23 : decode cX11_looks 23 = .ok (.aload_n 0, 1) := by decide +kernel
theorem dX11_looks_24 : decode cX11_looks 24 = .ok (.getfield 106, 3) := by decide +kernel
theorem dX11_looks_27 : decode cX11_looks 27 = .ok (.iload_n 1, 1) := by decide +kernel
theorem dX11_looks_28 : decode cX11_looks 28 = .ok (.iaload, 1) := by decide +kernel
theorem dX11_looks_29 : decode cX11_looks 29 = .ok (.iastore, 1) := by decide +kernel
theorem dX11_looks_30 : decode cX11_looks 30 = .ok (.iinc 1 1, 3) := by decide +kernel
theorem dX11_looks_33 : decode cX11_looks 33 = .ok (.goto (-23), 3) := by decide +kernel
theorem dX11_looks_36 : decode cX11_looks 36 = .ok (.return_, 1) := by decide +kernel
theorem dX11_keep_0 : decode cX11_keep 0 = .ok (.aload_n 0, 1) := by decide +kernel
theorem dX11_keep_1 : decode cX11_keep 1 = .ok (.iconst 0, 1) := by decide +kernel
theorem dX11_keep_2 : decode cX11_keep 2 = .ok (.putfield 139, 3) := by decide +kernel
theorem dX11_keep_5 : decode cX11_keep 5 = .ok (.aload_n 0, 1) := by decide +kernel
theorem dX11_keep_6 : decode cX11_keep 6 = .ok (.aload_n 0, 1) := by decide +kernel
theorem dX11_keep_7 : decode cX11_keep 7 = .ok (.getfield 153, 3) := by decide +kernel
theorem dX11_keep_10 : decode cX11_keep 10 = .ok (.invokevirtual 364, 3) := by decide +kernel
theorem dX11_keep_13 : decode cX11_keep 13 = .ok (.istore_n 1, 1) := by decide +kernel
theorem dX11_keep_14 : decode cX11_keep 14 = .ok (.iload_n 1, 1) := by decide +kernel
theorem dX11_keep_15 : decode cX11_keep 15 = .ok (.ifCond .ge 5, 3) := by decide +kernel
theorem dX11_keep_18 : decode cX11_keep 18 = .ok (.iload_n 1, 1) := by decide +kernel
theorem dX11_keep_19 : decode cX11_keep 19 = .ok (.ireturn, 1) := by decide +kernel
theorem dX11_keep_20 : decode cX11_keep 20 = .ok (.iconst 0, 1) := by decide +kernel
theorem dX11_keep_21 : decode cX11_keep 21 = .ok (.istore_n 2, 1) := by decide +kernel
theorem dX11_keep_22 : decode cX11_keep 22 = .ok (.iload_n 2, 1) := by decide +kernel
theorem dX11_keep_23 : decode cX11_keep 23 = .ok (.aload_n 0, 1) := by decide +kernel
theorem dX11_keep_24 : decode cX11_keep 24 = .ok (.getfield 142, 3) := by decide +kernel
theorem dX11_keep_27 : decode cX11_keep 27 = .ok (.if_icmp .ge 21, 3) := by decide +kernel
theorem dX11_keep_30 : decode cX11_keep 30 = .ok (.aload_n 0, 1) := by decide +kernel
theorem dX11_keep_31 : decode cX11_keep 31 = .ok (.getfield 106, 3) := by decide +kernel
theorem dX11_keep_34 : decode cX11_keep 34 = .ok (.iload_n 2, 1) := by decide +kernel
theorem dX11_keep_35 : decode cX11_keep 35 = .ok (.aload_n 0, 1) := by decide +kernel
theorem dX11_keep_36 : decode cX11_keep 36 = .ok (.getfield 103, 3) := by decide +kernel
theorem dX11_keep_39 : decode cX11_keep 39 = .ok (.iload_n 2, 1) := by decide +kernel
theorem dX11_keep_40 : decode cX11_keep 40 = .ok (.iaload, 1) := by decide +kernel
theorem dX11_keep_41 : decode cX11_keep 41 = .ok (.iastore, 1) := by decide +kernel
theorem dX11_keep_42 : decode cX11_keep 42 = .ok (.iinc 2 1, 3) := by decide +kernel
theorem dX11_keep_45 : decode cX11_keep 45 = .ok (.goto (-23), 3) := by decide +kernel
theorem dX11_keep_48 : decode cX11_keep 48 = .ok (.iload_n 1, 1) := by decide +kernel
theorem dX11_keep_49 : decode cX11_keep 49 = .ok (.ireturn, 1) := by decide +kernel
theorem dX11_softest_0 : decode cX11_softest 0 = .ok (.iconst (-1), 1) := by decide +kernel
theorem dX11_softest_1 : decode cX11_softest 1 = .ok (.istore_n 3, 1) := by decide +kernel
theorem dX11_softest_2 : decode cX11_softest 2 = .ok (.ldc_w 336, 3) := by decide +kernel
theorem dX11_softest_5 : decode cX11_softest 5 = .ok (.istore 4, 2) := by decide +kernel
theorem dX11_softest_7 : decode cX11_softest 7 = .ok (.iconst 0, 1) := by decide +kernel
theorem dX11_softest_8 : decode cX11_softest 8 = .ok (.istore 5, 2) := by decide +kernel
theorem dX11_softest_10 : decode cX11_softest 10 = .ok (.iload 5, 2) := by decide +kernel
theorem dX11_softest_12 : decode cX11_softest 12 = .ok (.aload_n 0, 1) := by decide +kernel
theorem dX11_softest_13 : decode cX11_softest 13 = .ok (.getfield 41, 3) := by decide +kernel
theorem dX11_softest_16 : decode cX11_softest 16 = .ok (.if_icmp .ge 61, 3) := by decide +kernel
theorem dX11_softest_19 : decode cX11_softest 19 = .ok (.aload_n 0, 1) := by decide +kernel
theorem dX11_softest_20 : decode cX11_softest 20 = .ok (.getfield 100, 3) := by decide +kernel
theorem dX11_softest_23 : decode cX11_softest 23 = .ok (.iload_n 1, 1) := by decide +kernel
theorem dX11_softest_24 : decode cX11_softest 24 = .ok (.iload 5, 2) := by decide +kernel
theorem dX11_softest_26 : decode cX11_softest 26 = .ok (.iastore, 1) := by decide +kernel
theorem dX11_softest_27 : decode cX11_softest 27 = .ok (.aload_n 0, 1) := by decide +kernel
theorem dX11_softest_28 : decode cX11_softest 28 = .ok (.invokevirtual 352, 3) := by decide +kernel
theorem dX11_softest_31 : decode cX11_softest 31 = .ok (.ifCond .eq 40, 3) := by decide +kernel
theorem dX11_softest_34 : decode cX11_softest 34 = .ok (.iload_n 2, 1) := by decide +kernel
theorem dX11_softest_35 : decode cX11_softest 35 = .ok (.ifCond .eq 13, 3) := by decide +kernel
theorem dX11_softest_38 : decode cX11_softest 38 = .ok (.aload_n 0, 1) := by decide +kernel
theorem dX11_softest_39 : decode cX11_softest 39 = .ok (.invokevirtual 355, 3) := by decide +kernel
theorem dX11_softest_42 : decode cX11_softest 42 = .ok (.ifCond .le 6, 3) := by decide +kernel
theorem dX11_softest_45 : decode cX11_softest 45 = .ok (.goto 26, 3) := by decide +kernel
theorem dX11_softest_48 : decode cX11_softest 48 = .ok (.aload_n 0, 1) := by decide +kernel
theorem dX11_softest_49 : decode cX11_softest 49 = .ok (.invokevirtual 358, 3) := by decide +kernel
theorem dX11_softest_52 : decode cX11_softest 52 = .ok (.istore 6, 2) := by decide +kernel
theorem dX11_softest_54 : decode cX11_softest 54 = .ok (.iload 6, 2) := by decide +kernel
theorem dX11_softest_56 : decode cX11_softest 56 = .ok (.iload 4, 2) := by decide +kernel
theorem dX11_softest_58 : decode cX11_softest 58 = .ok (.if_icmp .lt 6, 3) := by decide +kernel
theorem dX11_softest_61 : decode cX11_softest 61 = .ok (.goto 10, 3) := by decide +kernel
theorem dX11_softest_64 : decode cX11_softest 64 = .ok (.iload 6, 2) := by decide +kernel
theorem dX11_softest_66 : decode cX11_softest 66 = .ok (.istore 4, 2) := by decide +kernel
theorem dX11_softest_68 : decode cX11_softest 68 = .ok (.iload 5, 2) := by decide +kernel
theorem dX11_softest_70 : decode cX11_softest 70 = .ok (.istore_n 3, 1) := by decide +kernel
theorem dX11_softest_71 : decode cX11_softest 71 = .ok (.iinc 5 1, 3) := by decide +kernel
theorem dX11_softest_74 : decode cX11_softest 74 = .ok (.goto (-64), 3) := by decide +kernel
theorem dX11_softest_77 : decode cX11_softest 77 = .ok (.aload_n 0, 1) := by decide +kernel
theorem dX11_softest_78 : decode cX11_softest 78 = .ok (.getfield 100, 3) := by decide +kernel
theorem dX11_softest_81 : decode cX11_softest 81 = .ok (.iload_n 1, 1) := by decide +kernel
theorem dX11_softest_82 : decode cX11_softest 82 = .ok (.iload_n 3, 1) := by decide +kernel
theorem dX11_softest_83 : decode cX11_softest 83 = .ok (.iastore, 1) := by decide +kernel
theorem dX11_softest_84 : decode cX11_softest 84 = .ok (.iload_n 3, 1) := by decide +kernel
theorem dX11_softest_85 : decode cX11_softest 85 = .ok (.ireturn, 1) := by decide +kernel
theorem dX11_make_0 : decode cX11_make 0 = .ok (.aload_n 0, 1) := by decide +kernel
theorem dX11_make_1 : decode cX11_make 1 = .ok (.iconst 0, 1) := by decide +kernel
theorem dX11_make_2 : decode cX11_make 2 = .ok (.putfield 139, 3) := by decide +kernel
theorem dX11_make_5 : decode cX11_make 5 = .ok (.aload_n 0, 1) := by decide +kernel
theorem dX11_make_6 : decode cX11_make 6 = .ok (.getfield 142, 3) := by decide +kernel
theorem dX11_make_9 : decode cX11_make 9 = .ok (.ifCond .ne 5, 3) := by decide +kernel
theorem dX11_make_12 : decode cX11_make 12 = .ok (.iconst (-1), 1) := by decide +kernel
theorem dX11_make_13 : decode cX11_make 13 = .ok (.ireturn, 1) := by decide +kernel
theorem dX11_make_14 : decode cX11_make 14 = .ok (.aload_n 0, 1) := by decide +kernel
theorem dX11_make_15 : decode cX11_make 15 = .ok (.aload_n 0, 1) := by decide +kernel
theorem dX11_make_16 : decode cX11_make 16 = .ok (.getfield 153, 3) := by decide +kernel
theorem dX11_make_19 : decode cX11_make 19 = .ok (.invokevirtual 322, 3) := by decide +kernel
theorem dX11_make_22 : decode cX11_make 22 = .ok (.iconst 0, 1) := by decide +kernel
theorem dX11_make_23 : decode cX11_make 23 = .ok (.istore_n 1, 1) := by decide +kernel
theorem dX11_make_24 : decode cX11_make 24 = .ok (.iload_n 1, 1) := by decide +kernel
theorem dX11_make_25 : decode cX11_make 25 = .ok (.aload_n 0, 1) := by decide +kernel
theorem dX11_make_26 : decode cX11_make 26 = .ok (.getfield 142, 3) := by decide +kernel
theorem dX11_make_29 : decode cX11_make 29 = .ok (.if_icmp .ge 16, 3) := by decide +kernel
theorem dX11_make_32 : decode cX11_make 32 = .ok (.aload_n 0, 1) := by decide +kernel
theorem dX11_make_33 : decode cX11_make 33 = .ok (.getfield 100, 3) := by decide +kernel
theorem dX11_make_36 : decode cX11_make 36 = .ok (.iload_n 1, 1) := by decide +kernel
theorem dX11_make_37 : decode cX11_make 37 = .ok (.iconst (-1), 1) := by decide +kernel
theorem dX11_make_38 : decode cX11_make 38 = .ok (.iastore, 1) := by decide +kernel
theorem dX11_make_39 : decode cX11_make 39 = .ok (.iinc 1 1, 3) := by decide +kernel
theorem dX11_make_42 : decode cX11_make 42 = .ok (.goto (-18), 3) := by decide +kernel
theorem dX11_make_45 : decode cX11_make 45 = .ok (.iconst 0, 1) := by decide +kernel
theorem dX11_make_46 : decode cX11_make 46 = .ok (.istore_n 1, 1) := by decide +kernel
theorem dX11_make_47 : decode cX11_make 47 = .ok (.iload_n 1, 1) := by decide +kernel
theorem dX11_make_48 : decode cX11_make 48 = .ok (.aload_n 0, 1) := by decide +kernel
theorem dX11_make_49 : decode cX11_make 49 = .ok (.getfield 142, 3) := by decide +kernel
theorem dX11_make_52 : decode cX11_make 52 = .ok (.if_icmp .ge 22, 3) := by decide +kernel
theorem dX11_make_55 : decode cX11_make 55 = .ok (.aload_n 0, 1) := by decide +kernel
theorem dX11_make_56 : decode cX11_make 56 = .ok (.iload_n 1, 1) := by decide +kernel
theorem dX11_make_57 : decode cX11_make 57 = .ok (.iconst 0, 1) := by decide +kernel
theorem dX11_make_58 : decode cX11_make 58 = .ok (.invokevirtual 367, 3) := by decide +kernel
theorem dX11_make_61 : decode cX11_make 61 = .ok (.iconst (-1), 1) := by decide +kernel
theorem dX11_make_62 : decode cX11_make 62 = .ok (.if_icmp .ne 6, 3) := by decide +kernel
theorem dX11_make_65 : decode cX11_make 65 = .ok (.bipush (-2), 2) := by decide +kernel
theorem dX11_make_67 : decode cX11_make 67 = .ok (.ireturn, 1) := by decide +kernel
theorem dX11_make_68 : decode cX11_make 68 = .ok (.iinc 1 1, 3) := by decide +kernel
theorem dX11_make_71 : decode cX11_make 71 = .ok (.goto (-24), 3) := by decide +kernel
theorem dX11_make_74 : decode cX11_make 74 = .ok (.aload_n 0, 1) := by decide +kernel
theorem dX11_make_75 : decode cX11_make 75 = .ok (.iconst 0, 1) := by decide +kernel
theorem dX11_make_76 : decode cX11_make 76 = .ok (.putfield 109, 3) := by decide +kernel
theorem dX11_make_79 : decode cX11_make 79 = .ok (.aload_n 0, 1) := by decide +kernel
theorem dX11_make_80 : decode cX11_make 80 = .ok (.invokevirtual 371, 3) := by decide +kernel
theorem dX11_make_83 : decode cX11_make 83 = .ok (.ifCond .eq 16, 3) := by decide +kernel
theorem dX11_make_86 : decode cX11_make 86 = .ok (.aload_n 0, 1) := by decide +kernel
theorem dX11_make_87 : decode cX11_make 87 = .ok (.dup, 1) := by decide +kernel
theorem dX11_make_88 : decode cX11_make 88 = .ok (.getfield 109, 3) := by decide +kernel
theorem dX11_make_91 : decode cX11_make 91 = .ok (.iconst 1, 1) := by decide +kernel
theorem dX11_make_92 : decode cX11_make 92 = .ok (.iadd, 1) := by decide +kernel
theorem dX11_make_93 : decode cX11_make 93 = .ok (.putfield 109, 3) := by decide +kernel
theorem dX11_make_96 : decode cX11_make 96 = .ok (.goto (-17), 3) := by decide +kernel
theorem dX11_make_99 : decode cX11_make 99 = .ok (.iconst 0, 1) := by decide +kernel
theorem dX11_make_100 : decode cX11_make 100 = .ok (.istore_n 1, 1) := by decide +kernel
theorem dX11_make_101 : decode cX11_make 101 = .ok (.iload_n 1, 1) := by decide +kernel
theorem dX11_make_102 : decode cX11_make 102 = .ok (.aload_n 0, 1) := by decide +kernel
theorem dX11_make_103 : decode cX11_make 103 = .ok (.getfield 142, 3) := by decide +kernel
theorem dX11_make_106 : decode cX11_make 106 = .ok (.if_icmp .ge 21, 3) := by decide +kernel
theorem dX11_make_109 : decode cX11_make 109 = .ok (.aload_n 0, 1) := by decide +kernel
theorem dX11_make_110 : decode cX11_make 110 = .ok (.getfield 106, 3) := by decide +kernel
theorem dX11_make_113 : decode cX11_make 113 = .ok (.iload_n 1, 1) := by decide +kernel
theorem dX11_make_114 : decode cX11_make 114 = .ok (.aload_n 0, 1) := by decide +kernel
theorem dX11_make_115 : decode cX11_make 115 = .ok (.getfield 100, 3) := by decide +kernel
theorem dX11_make_118 : decode cX11_make 118 = .ok (.iload_n 1, 1) := by decide +kernel
theorem dX11_make_119 : decode cX11_make 119 = .ok (.iaload, 1) := by decide +kernel
theorem dX11_make_120 : decode cX11_make 120 = .ok (.iastore, 1) := by decide +kernel
theorem dX11_make_121 : decode cX11_make 121 = .ok (.iinc 1 1, 3) := by decide +kernel
theorem dX11_make_124 : decode cX11_make 124 = .ok (.goto (-23), 3) := by decide +kernel
theorem dX11_make_127 : decode cX11_make 127 = .ok (.aload_n 0, 1) := by decide +kernel
theorem dX11_make_128 : decode cX11_make 128 = .ok (.invokevirtual 355, 3) := by decide +kernel
theorem dX11_make_131 : decode cX11_make 131 = .ok (.ifCond .le 8, 3) := by decide +kernel
theorem dX11_make_134 : decode cX11_make 134 = .ok (.bipush (-4), 2) := by decide +kernel
theorem dX11_make_136 : decode cX11_make 136 = .ok (.goto 7, 3) := by decide +kernel
theorem dX11_make_139 : decode cX11_make 139 = .ok (.aload_n 0, 1) := by decide +kernel
theorem dX11_make_140 : decode cX11_make 140 = .ok (.invokevirtual 358, 3) := by decide +kernel
theorem dX11_make_143 : decode cX11_make 143 = .ok (.ireturn, 1) := by decide +kernel
theorem dX11_isBetter_0 : decode cX11_isBetter 0 = .ok (.aload_n 0, 1) := by decide +kernel
theorem dX11_isBetter_1 : decode cX11_isBetter 1 = .ok (.invokevirtual 352, 3) := by decide +kernel
theorem dX11_isBetter_4 : decode cX11_isBetter 4 = .ok (.ifCond .ne 5, 3) := by decide +kernel
theorem dX11_isBetter_7 : decode cX11_isBetter 7 = .ok (.iconst 0, 1) := by decide +kernel
theorem dX11_isBetter_8 : decode cX11_isBetter 8 = .ok (.ireturn, 1) := by decide +kernel
theorem dX11_isBetter_9 : decode cX11_isBetter 9 = .ok (.aload_n 0, 1) := by decide +kernel
theorem dX11_isBetter_10 : decode cX11_isBetter 10 = .ok (.invokevirtual 355, 3) := by decide +kernel
theorem dX11_isBetter_13 : decode cX11_isBetter 13 = .ok (.istore_n 3, 1) := by decide +kernel
theorem dX11_isBetter_14 : decode cX11_isBetter 14 = .ok (.iload_n 3, 1) := by decide +kernel
theorem dX11_isBetter_15 : decode cX11_isBetter 15 = .ok (.iload_n 1, 1) := by decide +kernel
theorem dX11_isBetter_16 : decode cX11_isBetter 16 = .ok (.if_icmp .lt 16, 3) := by decide +kernel
theorem dX11_isBetter_19 : decode cX11_isBetter 19 = .ok (.iload_n 3, 1) := by decide +kernel
theorem dX11_isBetter_20 : decode cX11_isBetter 20 = .ok (.iload_n 1, 1) := by decide +kernel
theorem dX11_isBetter_21 : decode cX11_isBetter 21 = .ok (.if_icmp .ne 15, 3) := by decide +kernel
theorem dX11_isBetter_24 : decode cX11_isBetter 24 = .ok (.aload_n 0, 1) := by decide +kernel
theorem dX11_isBetter_25 : decode cX11_isBetter 25 = .ok (.invokevirtual 358, 3) := by decide +kernel
theorem dX11_isBetter_28 : decode cX11_isBetter 28 = .ok (.iload_n 2, 1) := by decide +kernel
theorem dX11_isBetter_29 : decode cX11_isBetter 29 = .ok (.if_icmp .ge 7, 3) := by decide +kernel
theorem dX11_isBetter_32 : decode cX11_isBetter 32 = .ok (.iconst 1, 1) := by decide +kernel
theorem dX11_isBetter_33 : decode cX11_isBetter 33 = .ok (.goto 4, 3) := by decide +kernel
theorem dX11_isBetter_36 : decode cX11_isBetter 36 = .ok (.iconst 0, 1) := by decide +kernel
theorem dX11_isBetter_37 : decode cX11_isBetter 37 = .ok (.ireturn, 1) := by decide +kernel
theorem dX11_betters_0 : decode cX11_betters 0 = .ok (.aload_n 0, 1) := by decide +kernel
theorem dX11_betters_1 : decode cX11_betters 1 = .ok (.invokevirtual 355, 3) := by decide +kernel
theorem dX11_betters_4 : decode cX11_betters 4 = .ok (.istore_n 1, 1) := by decide +kernel
theorem dX11_betters_5 : decode cX11_betters 5 = .ok (.aload_n 0, 1) := by decide +kernel
theorem dX11_betters_6 : decode cX11_betters 6 = .ok (.invokevirtual 358, 3) := by decide +kernel
theorem dX11_betters_9 : decode cX11_betters 9 = .ok (.istore_n 2, 1) := by decide +kernel
theorem dX11_betters_10 : decode cX11_betters 10 = .ok (.iconst 0, 1) := by decide +kernel
theorem dX11_betters_11 : decode cX11_betters 11 = .ok (.istore_n 3, 1) := by decide +kernel
theorem dX11_betters_12 : decode cX11_betters 12 = .ok (.iload_n 3, 1) := by decide +kernel
theorem dX11_betters_13 : decode cX11_betters 13 = .ok (.aload_n 0, 1) := by decide +kernel
theorem dX11_betters_14 : decode cX11_betters 14 = .ok (.getfield 142, 3) := by decide +kernel
theorem dX11_betters_17 : decode cX11_betters 17 = .ok (.if_icmp .ge 72, 3) := by decide +kernel
theorem dX11_betters_20 : decode cX11_betters 20 = .ok (.aload_n 0, 1) := by decide +kernel
theorem dX11_betters_21 : decode cX11_betters 21 = .ok (.getfield 100, 3) := by decide +kernel
theorem dX11_betters_24 : decode cX11_betters 24 = .ok (.iload_n 3, 1) := by decide +kernel
theorem dX11_betters_25 : decode cX11_betters 25 = .ok (.iaload, 1) := by decide +kernel
theorem dX11_betters_26 : decode cX11_betters 26 = .ok (.istore 4, 2) := by decide +kernel
theorem dX11_betters_28 : decode cX11_betters 28 = .ok (.iconst 0, 1) := by decide +kernel
theorem dX11_betters_29 : decode cX11_betters 29 = .ok (.istore 5, 2) := by decide +kernel
theorem dX11_betters_31 : decode cX11_betters 31 = .ok (.iload 5, 2) := by decide +kernel
theorem dX11_betters_33 : decode cX11_betters 33 = .ok (.aload_n 0, 1) := by decide +kernel
theorem dX11_betters_34 : decode cX11_betters 34 = .ok (.getfield 41, 3) := by decide +kernel
theorem dX11_betters_37 : decode cX11_betters 37 = .ok (.if_icmp .ge 38, 3) := by decide +kernel
theorem dX11_betters_40 : decode cX11_betters 40 = .ok (.iload 5, 2) := by decide +kernel
theorem dX11_betters_42 : decode cX11_betters 42 = .ok (.iload 4, 2) := by decide +kernel
theorem dX11_betters_44 : decode cX11_betters 44 = .ok (.if_icmp .ne 6, 3) := by decide +kernel
theorem dX11_betters_47 : decode cX11_betters 47 = .ok (.goto 22, 3) := by decide +kernel
theorem dX11_betters_50 : decode cX11_betters 50 = .ok (.aload_n 0, 1) := by decide +kernel
theorem dX11_betters_51 : decode cX11_betters 51 = .ok (.getfield 100, 3) := by decide +kernel
theorem dX11_betters_54 : decode cX11_betters 54 = .ok (.iload_n 3, 1) := by decide +kernel
theorem dX11_betters_55 : decode cX11_betters 55 = .ok (.iload 5, 2) := by decide +kernel
theorem dX11_betters_57 : decode cX11_betters 57 = .ok (.iastore, 1) := by decide +kernel
theorem dX11_betters_58 : decode cX11_betters 58 = .ok (.aload_n 0, 1) := by decide +kernel
theorem dX11_betters_59 : decode cX11_betters 59 = .ok (.iload_n 1, 1) := by decide +kernel
theorem dX11_betters_60 : decode cX11_betters 60 = .ok (.iload_n 2, 1) := by decide +kernel
theorem dX11_betters_61 : decode cX11_betters 61 = .ok (.invokevirtual 374, 3) := by decide +kernel
theorem dX11_betters_64 : decode cX11_betters 64 = .ok (.ifCond .eq 5, 3) := by decide +kernel
theorem dX11_betters_67 : decode cX11_betters 67 = .ok (.iconst 1, 1) := by decide +kernel
theorem dX11_betters_68 : decode cX11_betters 68 = .ok (.ireturn, 1) := by decide +kernel
theorem dX11_betters_69 : decode cX11_betters 69 = .ok (.iinc 5 1, 3) := by decide +kernel
theorem dX11_betters_72 : decode cX11_betters 72 = .ok (.goto (-41), 3) := by decide +kernel
theorem dX11_betters_75 : decode cX11_betters 75 = .ok (.aload_n 0, 1) := by decide +kernel
theorem dX11_betters_76 : decode cX11_betters 76 = .ok (.getfield 100, 3) := by decide +kernel
theorem dX11_betters_79 : decode cX11_betters 79 = .ok (.iload_n 3, 1) := by decide +kernel
theorem dX11_betters_80 : decode cX11_betters 80 = .ok (.iload 4, 2) := by decide +kernel
theorem dX11_betters_82 : decode cX11_betters 82 = .ok (.iastore, 1) := by decide +kernel
theorem dX11_betters_83 : decode cX11_betters 83 = .ok (.iinc 3 1, 3) := by decide +kernel
theorem dX11_betters_86 : decode cX11_betters 86 = .ok (.goto (-74), 3) := by decide +kernel
theorem dX11_betters_89 : decode cX11_betters 89 = .ok (.iconst 0, 1) := by decide +kernel
theorem dX11_betters_90 : decode cX11_betters 90 = .ok (.istore_n 3, 1) := by decide +kernel
theorem dX11_betters_91 : decode cX11_betters 91 = .ok (.iload_n 3, 1) := by decide +kernel
theorem dX11_betters_92 : decode cX11_betters 92 = .ok (.aload_n 0, 1) := by decide +kernel
theorem dX11_betters_93 : decode cX11_betters 93 = .ok (.getfield 142, 3) := by decide +kernel
theorem dX11_betters_96 : decode cX11_betters 96 = .ok (.if_icmp .ge 73, 3) := by decide +kernel
theorem dX11_betters_99 : decode cX11_betters 99 = .ok (.iload_n 3, 1) := by decide +kernel
theorem dX11_betters_100 : decode cX11_betters 100 = .ok (.iconst 1, 1) := by decide +kernel
theorem dX11_betters_101 : decode cX11_betters 101 = .ok (.iadd, 1) := by decide +kernel
theorem dX11_betters_102 : decode cX11_betters 102 = .ok (.istore 4, 2) := by decide +kernel
theorem dX11_betters_104 : decode cX11_betters 104 = .ok (.iload 4, 2) := by decide +kernel
theorem dX11_betters_106 : decode cX11_betters 106 = .ok (.aload_n 0, 1) := by decide +kernel
theorem dX11_betters_107 : decode cX11_betters 107 = .ok (.getfield 142, 3) := by decide +kernel
theorem dX11_betters_110 : decode cX11_betters 110 = .ok (.if_icmp .ge 53, 3) := by decide +kernel
theorem dX11_betters_113 : decode cX11_betters 113 = .ok (.aload_n 0, 1) := by decide +kernel
theorem dX11_betters_114 : decode cX11_betters 114 = .ok (.getfield 100, 3) := by decide +kernel
theorem dX11_betters_117 : decode cX11_betters 117 = .ok (.iload_n 3, 1) := by decide +kernel
theorem dX11_betters_118 : decode cX11_betters 118 = .ok (.iaload, 1) := by decide +kernel
theorem dX11_betters_119 : decode cX11_betters 119 = .ok (.aload_n 0, 1) := by decide +kernel
theorem dX11_betters_120 : decode cX11_betters 120 = .ok (.getfield 100, 3) := by decide +kernel
theorem dX11_betters_123 : decode cX11_betters 123 = .ok (.iload 4, 2) := by decide +kernel
theorem dX11_betters_125 : decode cX11_betters 125 = .ok (.iaload, 1) := by decide +kernel
theorem dX11_betters_126 : decode cX11_betters 126 = .ok (.if_icmp .ne 6, 3) := by decide +kernel
theorem dX11_betters_129 : decode cX11_betters 129 = .ok (.goto 28, 3) := by decide +kernel
theorem dX11_betters_132 : decode cX11_betters 132 = .ok (.aload_n 0, 1) := by decide +kernel
theorem dX11_betters_133 : decode cX11_betters 133 = .ok (.iload_n 3, 1) := by decide +kernel
theorem dX11_betters_134 : decode cX11_betters 134 = .ok (.iload 4, 2) := by decide +kernel
theorem dX11_betters_136 : decode cX11_betters 136 = .ok (.invokevirtual 377, 3) := by decide +kernel
theorem dX11_betters_139 : decode cX11_betters 139 = .ok (.aload_n 0, 1) := by decide +kernel
theorem dX11_betters_140 : decode cX11_betters 140 = .ok (.iload_n 1, 1) := by decide +kernel
theorem dX11_betters_141 : decode cX11_betters 141 = .ok (.iload_n 2, 1) := by decide +kernel
theorem dX11_betters_142 : decode cX11_betters 142 = .ok (.invokevirtual 374, 3) := by decide +kernel
theorem dX11_betters_145 : decode cX11_betters 145 = .ok (.ifCond .eq 5, 3) := by decide +kernel
theorem dX11_betters_148 : decode cX11_betters 148 = .ok (.iconst 1, 1) := by decide +kernel
theorem dX11_betters_149 : decode cX11_betters 149 = .ok (.ireturn, 1) := by decide +kernel
theorem dX11_betters_150 : decode cX11_betters 150 = .ok (.aload_n 0, 1) := by decide +kernel
theorem dX11_betters_151 : decode cX11_betters 151 = .ok (.iload_n 3, 1) := by decide +kernel
theorem dX11_betters_152 : decode cX11_betters 152 = .ok (.iload 4, 2) := by decide +kernel
theorem dX11_betters_154 : decode cX11_betters 154 = .ok (.invokevirtual 377, 3) := by decide +kernel
theorem dX11_betters_157 : decode cX11_betters 157 = .ok (.iinc 4 1, 3) := by decide +kernel
theorem dX11_betters_160 : decode cX11_betters 160 = .ok (.goto (-56), 3) := by decide +kernel
theorem dX11_betters_163 : decode cX11_betters 163 = .ok (.iinc 3 1, 3) := by decide +kernel
theorem dX11_betters_166 : decode cX11_betters 166 = .ok (.goto (-75), 3) := by decide +kernel
theorem dX11_betters_169 : decode cX11_betters 169 = .ok (.iconst 0, 1) := by decide +kernel
theorem dX11_betters_170 : decode cX11_betters 170 = .ok (.ireturn, 1) := by decide +kernel
theorem dX11_swaps_0 : decode cX11_swaps 0 = .ok (.aload_n 0, 1) := by decide +kernel
theorem dX11_swaps_1 : decode cX11_swaps 1 = .ok (.getfield 100, 3) := by decide +kernel
theorem dX11_swaps_4 : decode cX11_swaps 4 = .ok (.iload_n 1, 1) := by decide +kernel
theorem dX11_swaps_5 : decode cX11_swaps 5 = .ok (.iaload, 1) := by decide +kernel
theorem dX11_swaps_6 : decode cX11_swaps 6 = .ok (.istore_n 3, 1) := by decide +kernel
theorem dX11_swaps_7 : decode cX11_swaps 7 = .ok (.aload_n 0, 1) := by decide +kernel
theorem dX11_swaps_8 : decode cX11_swaps 8 = .ok (.getfield 100, 3) := by decide +kernel
theorem dX11_swaps_11 : decode cX11_swaps 11 = .ok (.iload_n 1, 1) := by decide +kernel
theorem dX11_swaps_12 : decode cX11_swaps 12 = .ok (.aload_n 0, 1) := by decide +kernel
theorem dX11_swaps_13 : decode cX11_swaps 13 = .ok (.getfield 100, 3) := by decide +kernel
theorem dX11_swaps_16 : decode cX11_swaps 16 = .ok (.iload_n 2, 1) := by decide +kernel
theorem dX11_swaps_17 : decode cX11_swaps 17 = .ok (.iaload, 1) := by decide +kernel
theorem dX11_swaps_18 : decode cX11_swaps 18 = .ok (.iastore, 1) := by decide +kernel
theorem dX11_swaps_19 : decode cX11_swaps 19 = .ok (.aload_n 0, 1) := by decide +kernel
theorem dX11_swaps_20 : decode cX11_swaps 20 = .ok (.getfield 100, 3) := by decide +kernel
theorem dX11_swaps_23 : decode cX11_swaps 23 = .ok (.iload_n 2, 1) := by decide +kernel
theorem dX11_swaps_24 : decode cX11_swaps 24 = .ok (.iload_n 3, 1) := by decide +kernel
theorem dX11_swaps_25 : decode cX11_swaps 25 = .ok (.iastore, 1) := by decide +kernel
theorem dX11_swaps_26 : decode cX11_swaps 26 = .ok (.return_, 1) := by decide +kernel
theorem dX11_steps_0 : decode cX11_steps 0 = .ok (.aload_n 0, 1) := by decide +kernel
theorem dX11_steps_1 : decode cX11_steps 1 = .ok (.iconst 0, 1) := by decide +kernel
theorem dX11_steps_2 : decode cX11_steps 2 = .ok (.putfield 139, 3) := by decide +kernel
theorem dX11_steps_5 : decode cX11_steps 5 = .ok (.aload_n 0, 1) := by decide +kernel
theorem dX11_steps_6 : decode cX11_steps 6 = .ok (.getfield 109, 3) := by decide +kernel
theorem dX11_steps_9 : decode cX11_steps 9 = .ok (.ireturn, 1) := by decide +kernel
theorem dX11_late_0 : decode cX11_late 0 = .ok (.aload_n 0, 1) := by decide +kernel
theorem dX11_late_1 : decode cX11_late 1 = .ok (.iconst 0, 1) := by decide +kernel
theorem dX11_late_2 : decode cX11_late 2 = .ok (.putfield 139, 3) := by decide +kernel
theorem dX11_late_5 : decode cX11_late 5 = .ok (.aload_n 0, 1) := by decide +kernel
theorem dX11_late_6 : decode cX11_late 6 = .ok (.iload_n 1, 1) := by decide +kernel
theorem dX11_late_7 : decode cX11_late 7 = .ok (.invokevirtual 149, 3) := by decide +kernel
theorem dX11_late_10 : decode cX11_late 10 = .ok (.ifCond .eq 13, 3) := by decide +kernel
theorem dX11_late_13 : decode cX11_late 13 = .ok (.aload_n 0, 1) := by decide +kernel
theorem dX11_late_14 : decode cX11_late 14 = .ok (.getfield 106, 3) := by decide +kernel
theorem dX11_late_17 : decode cX11_late 17 = .ok (.iload_n 1, 1) := by decide +kernel
theorem dX11_late_18 : decode cX11_late 18 = .ok (.iaload, 1) := by decide +kernel
theorem dX11_late_19 : decode cX11_late 19 = .ok (.iconst (-1), 1) := by decide +kernel
theorem dX11_late_20 : decode cX11_late 20 = .ok (.if_icmp .eq 5, 3) := by decide +kernel
theorem dX11_late_23 : decode cX11_late 23 = .ok (.iconst (-1), 1) := by decide +kernel
theorem dX11_late_24 : decode cX11_late 24 = .ok (.ireturn, 1) := by decide +kernel
theorem dX11_late_25 : decode cX11_late 25 = .ok (.aload_n 0, 1) := by decide +kernel
theorem dX11_late_26 : decode cX11_late 26 = .ok (.invokevirtual 381, 3) := by decide +kernel
theorem dX11_late_29 : decode cX11_late 29 = .ok (.aload_n 0, 1) := by decide +kernel
theorem dX11_late_30 : decode cX11_late 30 = .ok (.iload_n 1, 1) := by decide +kernel
theorem dX11_late_31 : decode cX11_late 31 = .ok (.iconst 1, 1) := by decide +kernel
theorem dX11_late_32 : decode cX11_late 32 = .ok (.invokevirtual 367, 3) := by decide +kernel
theorem dX11_late_35 : decode cX11_late 35 = .ok (.istore_n 2, 1) := by decide +kernel
theorem dX11_late_36 : decode cX11_late 36 = .ok (.iload_n 2, 1) := by decide +kernel
theorem dX11_late_37 : decode cX11_late 37 = .ok (.iconst (-1), 1) := by decide +kernel
theorem dX11_late_38 : decode cX11_late 38 = .ok (.if_icmp .ne 6, 3) := by decide +kernel
theorem dX11_late_41 : decode cX11_late 41 = .ok (.bipush (-2), 2) := by decide +kernel
theorem dX11_late_43 : decode cX11_late 43 = .ok (.ireturn, 1) := by decide +kernel
theorem dX11_late_44 : decode cX11_late 44 = .ok (.aload_n 0, 1) := by decide +kernel
theorem dX11_late_45 : decode cX11_late 45 = .ok (.getfield 106, 3) := by decide +kernel
theorem dX11_late_48 : decode cX11_late 48 = .ok (.iload_n 1, 1) := by decide +kernel
theorem dX11_late_49 : decode cX11_late 49 = .ok (.iload_n 2, 1) := by decide +kernel
theorem dX11_late_50 : decode cX11_late 50 = .ok (.iastore, 1) := by decide +kernel
theorem dX11_late_51 : decode cX11_late 51 = .ok (.iload_n 2, 1) := by decide +kernel
theorem dX11_late_52 : decode cX11_late 52 = .ok (.ireturn, 1) := by decide +kernel
theorem dX11_change_0 : decode cX11_change 0 = .ok (.aload_n 0, 1) := by decide +kernel
theorem dX11_change_1 : decode cX11_change 1 = .ok (.iconst 0, 1) := by decide +kernel
theorem dX11_change_2 : decode cX11_change 2 = .ok (.putfield 139, 3) := by decide +kernel
theorem dX11_change_5 : decode cX11_change 5 = .ok (.aload_n 0, 1) := by decide +kernel
theorem dX11_change_6 : decode cX11_change 6 = .ok (.invokevirtual 384, 3) := by decide +kernel
theorem dX11_change_9 : decode cX11_change 9 = .ok (.ifCond .ne 5, 3) := by decide +kernel
theorem dX11_change_12 : decode cX11_change 12 = .ok (.iconst (-1), 1) := by decide +kernel
theorem dX11_change_13 : decode cX11_change 13 = .ok (.ireturn, 1) := by decide +kernel
theorem dX11_change_14 : decode cX11_change 14 = .ok (.aload_n 0, 1) := by decide +kernel
theorem dX11_change_15 : decode cX11_change 15 = .ok (.invokevirtual 384, 3) := by decide +kernel
theorem dX11_change_18 : decode cX11_change 18 = .ok (.bipush 9, 2) := by decide +kernel
theorem dX11_change_20 : decode cX11_change 20 = .ok (.if_icmp .le 6, 3) := by decide +kernel
theorem dX11_change_23 : decode cX11_change 23 = .ok (.bipush (-3), 2) := by decide +kernel
theorem dX11_change_25 : decode cX11_change 25 = .ok (.ireturn, 1) := by decide +kernel
theorem dX11_change_26 : decode cX11_change 26 = .ok (.aload_n 0, 1) := by decide +kernel
theorem dX11_change_27 : decode cX11_change 27 = .ok (.invokevirtual 381, 3) := by decide +kernel
theorem dX11_change_30 : decode cX11_change 30 = .ok (.aload_n 0, 1) := by decide +kernel
theorem dX11_change_31 : decode cX11_change 31 = .ok (.iconst 0, 1) := by decide +kernel
theorem dX11_change_32 : decode cX11_change 32 = .ok (.putfield 156, 3) := by decide +kernel
theorem dX11_change_35 : decode cX11_change 35 = .ok (.iconst 0, 1) := by decide +kernel
theorem dX11_change_36 : decode cX11_change 36 = .ok (.istore_n 1, 1) := by decide +kernel
theorem dX11_change_37 : decode cX11_change 37 = .ok (.iload_n 1, 1) := by decide +kernel
theorem dX11_change_38 : decode cX11_change 38 = .ok (.aload_n 0, 1) := by decide +kernel
theorem dX11_change_39 : decode cX11_change 39 = .ok (.getfield 142, 3) := by decide +kernel
theorem dX11_change_42 : decode cX11_change 42 = .ok (.if_icmp .ge 30, 3) := by decide +kernel
theorem dX11_change_45 : decode cX11_change 45 = .ok (.aload_n 0, 1) := by decide +kernel
theorem dX11_change_46 : decode cX11_change 46 = .ok (.getfield 100, 3) := by decide +kernel
theorem dX11_change_49 : decode cX11_change 49 = .ok (.iload_n 1, 1) := by decide +kernel
theorem dX11_change_50 : decode cX11_change 50 = .ok (.aload_n 0, 1) := by decide +kernel
theorem dX11_change_51 : decode cX11_change 51 = .ok (.getfield 106, 3) := by decide +kernel
theorem dX11_change_54 : decode cX11_change 54 = .ok (.iload_n 1, 1) := by decide +kernel
theorem dX11_change_55 : decode cX11_change 55 = .ok (.iaload, 1) := by decide +kernel
theorem dX11_change_56 : decode cX11_change 56 = .ok (.iconst (-1), 1) := by decide +kernel
theorem dX11_change_57 : decode cX11_change 57 = .ok (.if_icmp .ne 7, 3) := by decide +kernel
theorem dX11_change_60 : decode cX11_change 60 = .ok (.iconst (-1), 1) := by decide +kernel
theorem dX11_change_61 : decode cX11_change 61 = .ok (.goto 4, 3) := by decide +kernel
theorem dX11_change_64 : decode cX11_change 64 = .ok (.iconst 0, 1) := by decide +kernel
theorem dX11_change_65 : decode cX11_change 65 = .ok (.iastore, 1) := by decide +kernel
theorem dX11_change_66 : decode cX11_change 66 = .ok (.iinc 1 1, 3) := by decide +kernel
theorem dX11_change_69 : decode cX11_change 69 = .ok (.goto (-32), 3) := by decide +kernel
theorem dX11_change_72 : decode cX11_change 72 = .ok (.aload_n 0, 1) := by decide +kernel
theorem dX11_change_73 : decode cX11_change 73 = .ok (.ldc_w 336, 3) := by decide +kernel
theorem dX11_change_76 : decode cX11_change 76 = .ok (.putfield 349, 3) := by decide +kernel
theorem dX11_change_79 : decode cX11_change 79 = .ok (.aload_n 0, 1) := by decide +kernel
theorem dX11_change_80 : decode cX11_change 80 = .ok (.ldc_w 336, 3) := by decide +kernel
theorem dX11_change_83 : decode cX11_change 83 = .ok (.putfield 387, 3) := by decide +kernel
theorem dX11_change_86 : decode cX11_change 86 = .ok (.iconst 0, 1) := by decide +kernel
theorem dX11_change_87 : decode cX11_change 87 = .ok (.istore_n 1, 1) := by decide +kernel
theorem dX11_change_88 : decode cX11_change 88 = .ok (.iconst 0, 1) := by decide +kernel
theorem dX11_change_89 : decode cX11_change 89 = .ok (.istore_n 2, 1) := by decide +kernel
theorem dX11_change_90 : decode cX11_change 90 = .ok (.iload_n 2, 1) := by decide +kernel
theorem dX11_change_91 : decode cX11_change 91 = .ok (.aload_n 0, 1) := by decide +kernel
theorem dX11_change_92 : decode cX11_change 92 = .ok (.getfield 142, 3) := by decide +kernel
theorem dX11_change_95 : decode cX11_change 95 = .ok (.if_icmp .ge 32, 3) := by decide +kernel
theorem dX11_change_98 : decode cX11_change 98 = .ok (.iload_n 1, 1) := by decide +kernel
theorem dX11_change_99 : decode cX11_change 99 = .ok (.aload_n 0, 1) := by decide +kernel
theorem dX11_change_100 : decode cX11_change 100 = .ok (.getfield 100, 3) := by decide +kernel
theorem dX11_change_103 : decode cX11_change 103 = .ok (.iload_n 2, 1) := by decide +kernel
theorem dX11_change_104 : decode cX11_change 104 = .ok (.iaload, 1) := by decide +kernel
theorem dX11_change_105 : decode cX11_change 105 = .ok (.aload_n 0, 1) := by decide +kernel
theorem dX11_change_106 : decode cX11_change 106 = .ok (.getfield 106, 3) := by decide +kernel
theorem dX11_change_109 : decode cX11_change 109 = .ok (.iload_n 2, 1) := by decide +kernel
theorem dX11_change_110 : decode cX11_change 110 = .ok (.iaload, 1) := by decide +kernel
theorem dX11_change_111 : decode cX11_change 111 = .ok (.if_icmp .eq 7, 3) := by decide +kernel
theorem dX11_change_114 : decode cX11_change 114 = .ok (.iconst 1, 1) := by decide +kernel
theorem dX11_change_115 : decode cX11_change 115 = .ok (.goto 4, 3) := by decide +kernel
theorem dX11_change_118 : decode cX11_change 118 = .ok (.iconst 0, 1) := by decide +kernel
theorem dX11_change_119 : decode cX11_change 119 = .ok (.iadd, 1) := by decide +kernel
theorem dX11_change_120 : decode cX11_change 120 = .ok (.istore_n 1, 1) := by decide +kernel
theorem dX11_change_121 : decode cX11_change 121 = .ok (.iinc 2 1, 3) := by decide +kernel
theorem dX11_change_124 : decode cX11_change 124 = .ok (.goto (-34), 3) := by decide +kernel
theorem dX11_change_127 : decode cX11_change 127 = .ok (.iload_n 1, 1) := by decide +kernel
theorem dX11_change_128 : decode cX11_change 128 = .ok (.aload_n 0, 1) := by decide +kernel
theorem dX11_change_129 : decode cX11_change 129 = .ok (.getfield 387, 3) := by decide +kernel
theorem dX11_change_132 : decode cX11_change 132 = .ok (.if_icmp .gt 82, 3) := by decide +kernel
theorem dX11_change_135 : decode cX11_change 135 = .ok (.aload_n 0, 1) := by decide +kernel
theorem dX11_change_136 : decode cX11_change 136 = .ok (.invokevirtual 352, 3) := by decide +kernel
theorem dX11_change_139 : decode cX11_change 139 = .ok (.ifCond .eq 75, 3) := by decide +kernel
theorem dX11_change_142 : decode cX11_change 142 = .ok (.aload_n 0, 1) := by decide +kernel
theorem dX11_change_143 : decode cX11_change 143 = .ok (.invokevirtual 355, 3) := by decide +kernel
theorem dX11_change_146 : decode cX11_change 146 = .ok (.ifCond .le 6, 3) := by decide +kernel
theorem dX11_change_149 : decode cX11_change 149 = .ok (.goto 65, 3) := by decide +kernel
theorem dX11_change_152 : decode cX11_change 152 = .ok (.aload_n 0, 1) := by decide +kernel
theorem dX11_change_153 : decode cX11_change 153 = .ok (.invokevirtual 358, 3) := by decide +kernel
theorem dX11_change_156 : decode cX11_change 156 = .ok (.istore_n 2, 1) := by decide +kernel
theorem dX11_change_157 : decode cX11_change 157 = .ok (.iload_n 1, 1) := by decide +kernel
theorem dX11_change_158 : decode cX11_change 158 = .ok (.aload_n 0, 1) := by decide +kernel
theorem dX11_change_159 : decode cX11_change 159 = .ok (.getfield 387, 3) := by decide +kernel
theorem dX11_change_162 : decode cX11_change 162 = .ok (.if_icmp .ne 14, 3) := by decide +kernel
theorem dX11_change_165 : decode cX11_change 165 = .ok (.iload_n 2, 1) := by decide +kernel
theorem dX11_change_166 : decode cX11_change 166 = .ok (.aload_n 0, 1) := by decide +kernel
theorem dX11_change_167 : decode cX11_change 167 = .ok (.getfield 349, 3) := by decide +kernel
theorem dX11_change_170 : decode cX11_change 170 = .ok (.if_icmp .lt 6, 3) := by decide +kernel
theorem dX11_change_173 : decode cX11_change 173 = .ok (.goto 41, 3) := by decide +kernel
theorem dX11_change_176 : decode cX11_change 176 = .ok (.aload_n 0, 1) := by decide +kernel
theorem dX11_change_177 : decode cX11_change 177 = .ok (.iload_n 1, 1) := by decide +kernel
theorem dX11_change_178 : decode cX11_change 178 = .ok (.putfield 387, 3) := by decide +kernel
theorem dX11_change_181 : decode cX11_change 181 = .ok (.aload_n 0, 1) := by decide +kernel
theorem dX11_change_182 : decode cX11_change 182 = .ok (.iload_n 2, 1) := by decide +kernel
theorem dX11_change_183 : decode cX11_change 183 = .ok (.putfield 349, 3) := by decide +kernel
theorem dX11_change_186 : decode cX11_change 186 = .ok (.iconst 0, 1) := by decide +kernel
theorem dX11_change_187 : decode cX11_change 187 = .ok (.istore_n 3, 1) := by decide +kernel
theorem dX11_change_188 : decode cX11_change 188 = .ok (.iload_n 3, 1) := by decide +kernel
theorem dX11_change_189 : decode cX11_change 189 = .ok (.aload_n 0, 1) := by decide +kernel
theorem dX11_change_190 : decode cX11_change 190 = .ok (.getfield 142, 3) := by decide +kernel
theorem dX11_change_193 : decode cX11_change 193 = .ok (.if_icmp .ge 21, 3) := by decide +kernel
theorem dX11_change_196 : decode cX11_change 196 = .ok (.aload_n 0, 1) := by decide +kernel
theorem dX11_change_197 : decode cX11_change 197 = .ok (.getfield 103, 3) := by decide +kernel
theorem dX11_change_200 : decode cX11_change 200 = .ok (.iload_n 3, 1) := by decide +kernel
theorem dX11_change_201 : decode cX11_change 201 = .ok (.aload_n 0, 1) := by decide +kernel
theorem dX11_change_202 : decode cX11_change 202 = .ok (.getfield 100, 3) := by decide +kernel
theorem dX11_change_205 : decode cX11_change 205 = .ok (.iload_n 3, 1) := by decide +kernel
theorem dX11_change_206 : decode cX11_change 206 = .ok (.iaload, 1) := by decide +kernel
theorem dX11_change_207 : decode cX11_change 207 = .ok (.iastore, 1) := by decide +kernel
theorem dX11_change_208 : decode cX11_change 208 = .ok (.iinc 3 1, 3) := by decide +kernel
theorem dX11_change_211 : decode cX11_change 211 = .ok (.goto (-23), 3) := by decide +kernel
theorem dX11_change_214 : decode cX11_change 214 = .ok (.aload_n 0, 1) := by decide +kernel
theorem dX11_change_215 : decode cX11_change 215 = .ok (.invokevirtual 361, 3) := by decide +kernel
theorem dX11_change_218 : decode cX11_change 218 = .ok (.ifCond .ne (-132), 3) := by decide +kernel
theorem dX11_change_221 : decode cX11_change 221 = .ok (.aload_n 0, 1) := by decide +kernel
theorem dX11_change_222 : decode cX11_change 222 = .ok (.getfield 387, 3) := by decide +kernel
theorem dX11_change_225 : decode cX11_change 225 = .ok (.ldc_w 336, 3) := by decide +kernel
theorem dX11_change_228 : decode cX11_change 228 = .ok (.if_icmp .ne 6, 3) := by decide +kernel
theorem dX11_change_231 : decode cX11_change 231 = .ok (.bipush (-2), 2) := by decide +kernel
theorem dX11_change_233 : decode cX11_change 233 = .ok (.ireturn, 1) := by decide +kernel
theorem dX11_change_234 : decode cX11_change 234 = .ok (.iconst 0, 1) := by decide +kernel
theorem dX11_change_235 : decode cX11_change 235 = .ok (.istore_n 1, 1) := by decide +kernel
theorem dX11_change_236 : decode cX11_change 236 = .ok (.iload_n 1, 1) := by decide +kernel
theorem dX11_change_237 : decode cX11_change 237 = .ok (.aload_n 0, 1) := by decide +kernel
theorem dX11_change_238 : decode cX11_change 238 = .ok (.getfield 142, 3) := by decide +kernel
theorem dX11_change_241 : decode cX11_change 241 = .ok (.if_icmp .ge 21, 3) := by decide +kernel
theorem dX11_change_244 : decode cX11_change 244 = .ok (.aload_n 0, 1) := by decide +kernel
theorem dX11_change_245 : decode cX11_change 245 = .ok (.getfield 106, 3) := by decide +kernel
theorem dX11_change_248 : decode cX11_change 248 = .ok (.iload_n 1, 1) := by decide +kernel
theorem dX11_change_249 : decode cX11_change 249 = .ok (.aload_n 0, 1) := by decide +kernel
theorem dX11_change_250 : decode cX11_change 250 = .ok (.getfield 103, 3) := by decide +kernel
theorem dX11_change_253 : decode cX11_change 253 = .ok (.iload_n 1, 1) := by decide +kernel
theorem dX11_change_254 : decode cX11_change 254 = .ok (.iaload, 1) := by decide +kernel
theorem dX11_change_255 : decode cX11_change 255 = .ok (.iastore, 1) := by decide +kernel
theorem dX11_change_256 : decode cX11_change 256 = .ok (.iinc 1 1, 3) := by decide +kernel
theorem dX11_change_259 : decode cX11_change 259 = .ok (.goto (-23), 3) := by decide +kernel
theorem dX11_change_262 : decode cX11_change 262 = .ok (.aload_n 0, 1) := by decide +kernel
theorem dX11_change_263 : decode cX11_change 263 = .ok (.getfield 387, 3) := by decide +kernel
theorem dX11_change_266 : decode cX11_change 266 = .ok (.ireturn, 1) := by decide +kernel
theorem dX11_classOf_0 : decode cX11_classOf 0 = .ok (.aload_n 0, 1) := by decide +kernel
theorem dX11_classOf_1 : decode cX11_classOf 1 = .ok (.iconst 0, 1) := by decide +kernel
theorem dX11_classOf_2 : decode cX11_classOf 2 = .ok (.putfield 139, 3) := by decide +kernel
theorem dX11_classOf_5 : decode cX11_classOf 5 = .ok (.aload_n 0, 1) := by decide +kernel
theorem dX11_classOf_6 : decode cX11_classOf 6 = .ok (.iload_n 1, 1) := by decide +kernel
theorem dX11_classOf_7 : decode cX11_classOf 7 = .ok (.invokevirtual 149, 3) := by decide +kernel
theorem dX11_classOf_10 : decode cX11_classOf 10 = .ok (.ifCond .eq 12, 3) := by decide +kernel
theorem dX11_classOf_13 : decode cX11_classOf 13 = .ok (.aload_n 0, 1) := by decide +kernel
theorem dX11_classOf_14 : decode cX11_classOf 14 = .ok (.getfield 106, 3) := by decide +kernel
theorem dX11_classOf_17 : decode cX11_classOf 17 = .ok (.iload_n 1, 1) := by decide +kernel
theorem dX11_classOf_18 : decode cX11_classOf 18 = .ok (.iaload, 1) := by decide +kernel
theorem dX11_classOf_19 : decode cX11_classOf 19 = .ok (.goto 4, 3) := by decide +kernel
theorem dX11_classOf_22 : decode cX11_classOf 22 = .ok (.iconst (-1), 1) := by decide +kernel
theorem dX11_classOf_23 : decode cX11_classOf 23 = .ok (.ireturn, 1) := by decide +kernel
theorem dX11_served_0 : decode cX11_served 0 = .ok (.aload_n 0, 1) := by decide +kernel
theorem dX11_served_1 : decode cX11_served 1 = .ok (.iconst 0, 1) := by decide +kernel
theorem dX11_served_2 : decode cX11_served 2 = .ok (.putfield 139, 3) := by decide +kernel
theorem dX11_served_5 : decode cX11_served 5 = .ok (.aload_n 0, 1) := by decide +kernel
theorem dX11_served_6 : decode cX11_served 6 = .ok (.iload_n 1, 1) := by decide +kernel
theorem dX11_served_7 : decode cX11_served 7 = .ok (.invokevirtual 149, 3) := by decide +kernel
theorem dX11_served_10 : decode cX11_served 10 = .ok (.ifCond .eq 13, 3) := by decide +kernel
theorem dX11_served_13 : decode cX11_served 13 = .ok (.aload_n 0, 1) := by decide +kernel
theorem dX11_served_14 : decode cX11_served 14 = .ok (.getfield 106, 3) := by decide +kernel
theorem dX11_served_17 : decode cX11_served 17 = .ok (.iload_n 1, 1) := by decide +kernel
theorem dX11_served_18 : decode cX11_served 18 = .ok (.iaload, 1) := by decide +kernel
theorem dX11_served_19 : decode cX11_served 19 = .ok (.iconst (-1), 1) := by decide +kernel
theorem dX11_served_20 : decode cX11_served 20 = .ok (.if_icmp .ne 5, 3) := by decide +kernel
theorem dX11_served_23 : decode cX11_served 23 = .ok (.iconst (-1), 1) := by decide +kernel
theorem dX11_served_24 : decode cX11_served 24 = .ok (.ireturn, 1) := by decide +kernel
theorem dX11_served_25 : decode cX11_served 25 = .ok (.aload_n 0, 1) := by decide +kernel
theorem dX11_served_26 : decode cX11_served 26 = .ok (.invokevirtual 381, 3) := by decide +kernel
theorem dX11_served_29 : decode cX11_served 29 = .ok (.aload_n 0, 1) := by decide +kernel
theorem dX11_served_30 : decode cX11_served 30 = .ok (.iload_n 1, 1) := by decide +kernel
theorem dX11_served_31 : decode cX11_served 31 = .ok (.invokevirtual 337, 3) := by decide +kernel
theorem dX11_served_34 : decode cX11_served 34 = .ok (.ireturn, 1) := by decide +kernel
theorem dX11_harm_0 : decode cX11_harm 0 = .ok (.aload_n 0, 1) := by decide +kernel
theorem dX11_harm_1 : decode cX11_harm 1 = .ok (.iconst 0, 1) := by decide +kernel
theorem dX11_harm_2 : decode cX11_harm 2 = .ok (.putfield 139, 3) := by decide +kernel
theorem dX11_harm_5 : decode cX11_harm 5 = .ok (.aload_n 0, 1) := by decide +kernel
theorem dX11_harm_6 : decode cX11_harm 6 = .ok (.invokevirtual 384, 3) := by decide +kernel
theorem dX11_harm_9 : decode cX11_harm 9 = .ok (.ifCond .eq 17, 3) := by decide +kernel
theorem dX11_harm_12 : decode cX11_harm 12 = .ok (.iload_n 1, 1) := by decide +kernel
theorem dX11_harm_13 : decode cX11_harm 13 = .ok (.iconst (-1), 1) := by decide +kernel
theorem dX11_harm_14 : decode cX11_harm 14 = .ok (.aload_n 0, 1) := by decide +kernel
theorem dX11_harm_15 : decode cX11_harm 15 = .ok (.getfield 307, 3) := by decide +kernel
theorem dX11_harm_18 : decode cX11_harm 18 = .ok (.iconst 1, 1) := by decide +kernel
theorem dX11_harm_19 : decode cX11_harm 19 = .ok (.isub, 1) := by decide +kernel
theorem dX11_harm_20 : decode cX11_harm 20 = .ok (.invokestatic 145, 3) := by decide +kernel
theorem dX11_harm_23 : decode cX11_harm 23 = .ok (.ifCond .ne 5, 3) := by decide +kernel
theorem dX11_harm_26 : decode cX11_harm 26 = .ok (.iconst (-1), 1) := by decide +kernel
theorem dX11_harm_27 : decode cX11_harm 27 = .ok (.ireturn, 1) := by decide +kernel
theorem dX11_harm_28 : decode cX11_harm 28 = .ok (.aload_n 0, 1) := by decide +kernel
theorem dX11_harm_29 : decode cX11_harm 29 = .ok (.invokevirtual 381, 3) := by decide +kernel
theorem dX11_harm_32 : decode cX11_harm 32 = .ok (.iload_n 1, 1) := by decide +kernel
theorem dX11_harm_33 : decode cX11_harm 33 = .ok (.iconst (-1), 1) := by decide +kernel
theorem dX11_harm_34 : decode cX11_harm 34 = .ok (.if_icmp .ne 10, 3) := by decide +kernel
theorem dX11_harm_37 : decode cX11_harm 37 = .ok (.aload_n 0, 1) := by decide +kernel
theorem dX11_harm_38 : decode cX11_harm 38 = .ok (.invokevirtual 358, 3) := by decide +kernel
theorem dX11_harm_41 : decode cX11_harm 41 = .ok (.goto 8, 3) := by decide +kernel
theorem dX11_harm_44 : decode cX11_harm 44 = .ok (.aload_n 0, 1) := by decide +kernel
theorem dX11_harm_45 : decode cX11_harm 45 = .ok (.iload_n 1, 1) := by decide +kernel
theorem dX11_harm_46 : decode cX11_harm 46 = .ok (.invokevirtual 340, 3) := by decide +kernel
theorem dX11_harm_49 : decode cX11_harm 49 = .ok (.ireturn, 1) := by decide +kernel
theorem dX11_allowed_0 : decode cX11_allowed 0 = .ok (.aload_n 0, 1) := by decide +kernel
theorem dX11_allowed_1 : decode cX11_allowed 1 = .ok (.iconst 0, 1) := by decide +kernel
theorem dX11_allowed_2 : decode cX11_allowed 2 = .ok (.putfield 139, 3) := by decide +kernel
theorem dX11_allowed_5 : decode cX11_allowed 5 = .ok (.aload_n 0, 1) := by decide +kernel
theorem dX11_allowed_6 : decode cX11_allowed 6 = .ok (.invokevirtual 384, 3) := by decide +kernel
theorem dX11_allowed_9 : decode cX11_allowed 9 = .ok (.ifCond .eq 12, 3) := by decide +kernel
theorem dX11_allowed_12 : decode cX11_allowed 12 = .ok (.iload_n 1, 1) := by decide +kernel
theorem dX11_allowed_13 : decode cX11_allowed 13 = .ok (.iconst 0, 1) := by decide +kernel
theorem dX11_allowed_14 : decode cX11_allowed 14 = .ok (.iconst 1, 1) := by decide +kernel
theorem dX11_allowed_15 : decode cX11_allowed 15 = .ok (.invokestatic 145, 3) := by decide +kernel
theorem dX11_allowed_18 : decode cX11_allowed 18 = .ok (.ifCond .ne 5, 3) := by decide +kernel
theorem dX11_allowed_21 : decode cX11_allowed 21 = .ok (.iconst (-1), 1) := by decide +kernel
theorem dX11_allowed_22 : decode cX11_allowed 22 = .ok (.ireturn, 1) := by decide +kernel
theorem dX11_allowed_23 : decode cX11_allowed 23 = .ok (.aload_n 0, 1) := by decide +kernel
theorem dX11_allowed_24 : decode cX11_allowed 24 = .ok (.invokevirtual 381, 3) := by decide +kernel
theorem dX11_allowed_27 : decode cX11_allowed 27 = .ok (.iload_n 1, 1) := by decide +kernel
theorem dX11_allowed_28 : decode cX11_allowed 28 = .ok (.iconst 1, 1) := by decide +kernel
theorem dX11_allowed_29 : decode cX11_allowed 29 = .ok (.if_icmp .ne 10, 3) := by decide +kernel
theorem dX11_allowed_32 : decode cX11_allowed 32 = .ok (.aload_n 0, 1) := by decide +kernel
theorem dX11_allowed_33 : decode cX11_allowed 33 = .ok (.invokevirtual 355, 3) := by decide +kernel
theorem dX11_allowed_36 : decode cX11_allowed 36 = .ok (.goto 22, 3) := by decide +kernel
theorem dX11_allowed_39 : decode cX11_allowed 39 = .ok (.aload_n 0, 1) := by decide +kernel
theorem dX11_allowed_40 : decode cX11_allowed 40 = .ok (.invokevirtual 352, 3) := by decide +kernel
theorem dX11_allowed_43 : decode cX11_allowed 43 = .ok (.ifCond .eq 14, 3) := by decide +kernel
theorem dX11_allowed_46 : decode cX11_allowed 46 = .ok (.aload_n 0, 1) := by decide +kernel
theorem dX11_allowed_47 : decode cX11_allowed 47 = .ok (.invokevirtual 355, 3) := by decide +kernel
theorem dX11_allowed_50 : decode cX11_allowed 50 = .ok (.ifCond .ne 7, 3) := by decide +kernel
theorem dX11_allowed_53 : decode cX11_allowed 53 = .ok (.iconst 1, 1) := by decide +kernel
theorem dX11_allowed_54 : decode cX11_allowed 54 = .ok (.goto 4, 3) := by decide +kernel
theorem dX11_allowed_57 : decode cX11_allowed 57 = .ok (.iconst 0, 1) := by decide +kernel
theorem dX11_allowed_58 : decode cX11_allowed 58 = .ok (.ireturn, 1) := by decide +kernel
theorem dX11_isGain_0 : decode cX11_isGain 0 = .ok (.aload_n 0, 1) := by decide +kernel
theorem dX11_isGain_1 : decode cX11_isGain 1 = .ok (.getfield 100, 3) := by decide +kernel
theorem dX11_isGain_4 : decode cX11_isGain 4 = .ok (.iload_n 1, 1) := by decide +kernel
theorem dX11_isGain_5 : decode cX11_isGain 5 = .ok (.iaload, 1) := by decide +kernel
theorem dX11_isGain_6 : decode cX11_isGain 6 = .ok (.iconst (-1), 1) := by decide +kernel
theorem dX11_isGain_7 : decode cX11_isGain 7 = .ok (.if_icmp .eq 28, 3) := by decide +kernel
theorem dX11_isGain_10 : decode cX11_isGain 10 = .ok (.aload_n 0, 1) := by decide +kernel
theorem dX11_isGain_11 : decode cX11_isGain 11 = .ok (.getfield 100, 3) := by decide +kernel
theorem dX11_isGain_14 : decode cX11_isGain 14 = .ok (.iload_n 2, 1) := by decide +kernel
theorem dX11_isGain_15 : decode cX11_isGain 15 = .ok (.iaload, 1) := by decide +kernel
theorem dX11_isGain_16 : decode cX11_isGain 16 = .ok (.iconst (-1), 1) := by decide +kernel
theorem dX11_isGain_17 : decode cX11_isGain 17 = .ok (.if_icmp .eq 18, 3) := by decide +kernel
theorem dX11_isGain_20 : decode cX11_isGain 20 = .ok (.aload_n 0, 1) := by decide +kernel
theorem dX11_isGain_21 : decode cX11_isGain 21 = .ok (.getfield 100, 3) := by decide +kernel
theorem dX11_isGain_24 : decode cX11_isGain 24 = .ok (.iload_n 1, 1) := by decide +kernel
theorem dX11_isGain_25 : decode cX11_isGain 25 = .ok (.iaload, 1) := by decide +kernel
theorem dX11_isGain_26 : decode cX11_isGain 26 = .ok (.aload_n 0, 1) := by decide +kernel
theorem dX11_isGain_27 : decode cX11_isGain 27 = .ok (.getfield 100, 3) := by decide +kernel
theorem dX11_isGain_30 : decode cX11_isGain 30 = .ok (.iload_n 2, 1) := by decide +kernel
theorem dX11_isGain_31 : decode cX11_isGain 31 = .ok (.iaload, 1) := by decide +kernel
theorem dX11_isGain_32 : decode cX11_isGain 32 = .ok (.if_icmp .ne 5, 3) := by decide +kernel
theorem dX11_isGain_35 : decode cX11_isGain 35 = .ok (.iconst 0, 1) := by decide +kernel
theorem dX11_isGain_36 : decode cX11_isGain 36 = .ok (.ireturn, 1) := by decide +kernel
theorem dX11_isGain_37 : decode cX11_isGain 37 = .ok (.aload_n 0, 1) := by decide +kernel
theorem dX11_isGain_38 : decode cX11_isGain 38 = .ok (.iload_n 1, 1) := by decide +kernel
theorem dX11_isGain_39 : decode cX11_isGain 39 = .ok (.invokevirtual 337, 3) := by decide +kernel
theorem dX11_isGain_42 : decode cX11_isGain 42 = .ok (.istore_n 3, 1) := by decide +kernel
theorem dX11_isGain_43 : decode cX11_isGain 43 = .ok (.aload_n 0, 1) := by decide +kernel
theorem dX11_isGain_44 : decode cX11_isGain 44 = .ok (.iload_n 2, 1) := by decide +kernel
theorem dX11_isGain_45 : decode cX11_isGain 45 = .ok (.invokevirtual 337, 3) := by decide +kernel
theorem dX11_isGain_48 : decode cX11_isGain 48 = .ok (.istore 4, 2) := by decide +kernel
theorem dX11_isGain_50 : decode cX11_isGain 50 = .ok (.aload_n 0, 1) := by decide +kernel
theorem dX11_isGain_51 : decode cX11_isGain 51 = .ok (.iload_n 1, 1) := by decide +kernel
theorem dX11_isGain_52 : decode cX11_isGain 52 = .ok (.iload_n 2, 1) := by decide +kernel
theorem dX11_isGain_53 : decode cX11_isGain 53 = .ok (.invokevirtual 377, 3) := by decide +kernel
theorem dX11_isGain_56 : decode cX11_isGain 56 = .ok (.aload_n 0, 1) := by decide +kernel
theorem dX11_isGain_57 : decode cX11_isGain 57 = .ok (.iload_n 1, 1) := by decide +kernel
theorem dX11_isGain_58 : decode cX11_isGain 58 = .ok (.invokevirtual 337, 3) := by decide +kernel
theorem dX11_isGain_61 : decode cX11_isGain 61 = .ok (.iload_n 3, 1) := by decide +kernel
theorem dX11_isGain_62 : decode cX11_isGain 62 = .ok (.if_icmp .ge 31, 3) := by decide +kernel
theorem dX11_isGain_65 : decode cX11_isGain 65 = .ok (.aload_n 0, 1) := by decide +kernel
theorem dX11_isGain_66 : decode cX11_isGain 66 = .ok (.iload_n 2, 1) := by decide +kernel
theorem dX11_isGain_67 : decode cX11_isGain 67 = .ok (.invokevirtual 337, 3) := by decide +kernel
theorem dX11_isGain_70 : decode cX11_isGain 70 = .ok (.iload 4, 2) := by decide +kernel
theorem dX11_isGain_72 : decode cX11_isGain 72 = .ok (.if_icmp .ge 21, 3) := by decide +kernel
theorem dX11_isGain_75 : decode cX11_isGain 75 = .ok (.aload_n 0, 1) := by decide +kernel
theorem dX11_isGain_76 : decode cX11_isGain 76 = .ok (.invokevirtual 352, 3) := by decide +kernel
theorem dX11_isGain_79 : decode cX11_isGain 79 = .ok (.ifCond .eq 14, 3) := by decide +kernel
theorem dX11_isGain_82 : decode cX11_isGain 82 = .ok (.aload_n 0, 1) := by decide +kernel
theorem dX11_isGain_83 : decode cX11_isGain 83 = .ok (.invokevirtual 355, 3) := by decide +kernel
theorem dX11_isGain_86 : decode cX11_isGain 86 = .ok (.ifCond .ne 7, 3) := by decide +kernel
theorem dX11_isGain_89 : decode cX11_isGain 89 = .ok (.iconst 1, 1) := by decide +kernel
theorem dX11_isGain_90 : decode cX11_isGain 90 = .ok (.goto 4, 3) := by decide +kernel
theorem dX11_isGain_93 : decode cX11_isGain 93 = .ok (.iconst 0, 1) := by decide +kernel
theorem dX11_isGain_94 : decode cX11_isGain 94 = .ok (.istore 5, 2) := by decide +kernel
theorem dX11_isGain_96 : decode cX11_isGain 96 = .ok (.aload_n 0, 1) := by decide +kernel
theorem dX11_isGain_97 : decode cX11_isGain 97 = .ok (.iload_n 1, 1) := by decide +kernel
theorem dX11_isGain_98 : decode cX11_isGain 98 = .ok (.iload_n 2, 1) := by decide +kernel
theorem dX11_isGain_99 : decode cX11_isGain 99 = .ok (.invokevirtual 377, 3) := by decide +kernel
theorem dX11_isGain_102 : decode cX11_isGain 102 = .ok (.iload 5, 2) := by decide +kernel
theorem dX11_isGain_104 : decode cX11_isGain 104 = .ok (.ireturn, 1) := by decide +kernel
theorem dX11_swaps__0 : decode cX11_swaps_ 0 = .ok (.aload_n 0, 1) := by decide +kernel
theorem dX11_swaps__1 : decode cX11_swaps_ 1 = .ok (.iconst 0, 1) := by decide +kernel
theorem dX11_swaps__2 : decode cX11_swaps_ 2 = .ok (.putfield 139, 3) := by decide +kernel
theorem dX11_swaps__5 : decode cX11_swaps_ 5 = .ok (.aload_n 0, 1) := by decide +kernel
theorem dX11_swaps__6 : decode cX11_swaps_ 6 = .ok (.invokevirtual 381, 3) := by decide +kernel
theorem dX11_swaps__9 : decode cX11_swaps_ 9 = .ok (.iconst 0, 1) := by decide +kernel
theorem dX11_swaps__10 : decode cX11_swaps_ 10 = .ok (.istore_n 1, 1) := by decide +kernel
theorem dX11_swaps__11 : decode cX11_swaps_ 11 = .ok (.iconst 0, 1) := by decide +kernel
theorem dX11_swaps__12 : decode cX11_swaps_ 12 = .ok (.istore_n 2, 1) := by decide +kernel
theorem dX11_swaps__13 : decode cX11_swaps_ 13 = .ok (.iload_n 2, 1) := by decide +kernel
theorem dX11_swaps__14 : decode cX11_swaps_ 14 = .ok (.aload_n 0, 1) := by decide +kernel
theorem dX11_swaps__15 : decode cX11_swaps_ 15 = .ok (.getfield 142, 3) := by decide +kernel
theorem dX11_swaps__18 : decode cX11_swaps_ 18 = .ok (.if_icmp .ge 44, 3) := by decide +kernel
theorem dX11_swaps__21 : decode cX11_swaps_ 21 = .ok (.iload_n 2, 1) := by decide +kernel
theorem dX11_swaps__22 : decode cX11_swaps_ 22 = .ok (.iconst 1, 1) := by decide +kernel
theorem dX11_swaps__23 : decode cX11_swaps_ 23 = .ok (.iadd, 1) := by decide +kernel
theorem dX11_swaps__24 : decode cX11_swaps_ 24 = .ok (.istore_n 3, 1) := by decide +kernel
theorem dX11_swaps__25 : decode cX11_swaps_ 25 = .ok (.iload_n 3, 1) := by decide +kernel
theorem dX11_swaps__26 : decode cX11_swaps_ 26 = .ok (.aload_n 0, 1) := by decide +kernel
theorem dX11_swaps__27 : decode cX11_swaps_ 27 = .ok (.getfield 142, 3) := by decide +kernel
theorem dX11_swaps__30 : decode cX11_swaps_ 30 = .ok (.if_icmp .ge 26, 3) := by decide +kernel
theorem dX11_swaps__33 : decode cX11_swaps_ 33 = .ok (.iload_n 1, 1) := by decide +kernel
theorem dX11_swaps__34 : decode cX11_swaps_ 34 = .ok (.aload_n 0, 1) := by decide +kernel
theorem dX11_swaps__35 : decode cX11_swaps_ 35 = .ok (.iload_n 2, 1) := by decide +kernel
theorem dX11_swaps__36 : decode cX11_swaps_ 36 = .ok (.iload_n 3, 1) := by decide +kernel
theorem dX11_swaps__37 : decode cX11_swaps_ 37 = .ok (.invokevirtual 390, 3) := by decide +kernel
theorem dX11_swaps__40 : decode cX11_swaps_ 40 = .ok (.ifCond .eq 7, 3) := by decide +kernel
theorem dX11_swaps__43 : decode cX11_swaps_ 43 = .ok (.iconst 1, 1) := by decide +kernel
theorem dX11_swaps__44 : decode cX11_swaps_ 44 = .ok (.goto 4, 3) := by decide +kernel
theorem dX11_swaps__47 : decode cX11_swaps_ 47 = .ok (.iconst 0, 1) := by decide +kernel
theorem dX11_swaps__48 : decode cX11_swaps_ 48 = .ok (.iadd, 1) := by decide +kernel
theorem dX11_swaps__49 : decode cX11_swaps_ 49 = .ok (.istore_n 1, 1) := by decide +kernel
theorem dX11_swaps__50 : decode cX11_swaps_ 50 = .ok (.iinc 3 1, 3) := by decide +kernel
theorem dX11_swaps__53 : decode cX11_swaps_ 53 = .ok (.goto (-28), 3) := by decide +kernel
theorem dX11_swaps__56 : decode cX11_swaps_ 56 = .ok (.iinc 2 1, 3) := by decide +kernel
theorem dX11_swaps__59 : decode cX11_swaps_ 59 = .ok (.goto (-46), 3) := by decide +kernel
theorem dX11_swaps__62 : decode cX11_swaps_ 62 = .ok (.iload_n 1, 1) := by decide +kernel
theorem dX11_swaps__63 : decode cX11_swaps_ 63 = .ok (.ireturn, 1) := by decide +kernel
theorem dX11_swap_0 : decode cX11_swap 0 = .ok (.aload_n 0, 1) := by decide +kernel
theorem dX11_swap_1 : decode cX11_swap 1 = .ok (.iconst 0, 1) := by decide +kernel
theorem dX11_swap_2 : decode cX11_swap 2 = .ok (.putfield 139, 3) := by decide +kernel
theorem dX11_swap_5 : decode cX11_swap 5 = .ok (.iload_n 2, 1) := by decide +kernel
theorem dX11_swap_6 : decode cX11_swap 6 = .ok (.iconst 0, 1) := by decide +kernel
theorem dX11_swap_7 : decode cX11_swap 7 = .ok (.iconst 1, 1) := by decide +kernel
theorem dX11_swap_8 : decode cX11_swap 8 = .ok (.invokestatic 145, 3) := by decide +kernel
theorem dX11_swap_11 : decode cX11_swap 11 = .ok (.ifCond .ne 5, 3) := by decide +kernel
theorem dX11_swap_14 : decode cX11_swap 14 = .ok (.iconst (-1), 1) := by decide +kernel
theorem dX11_swap_15 : decode cX11_swap 15 = .ok (.ireturn, 1) := by decide +kernel
theorem dX11_swap_16 : decode cX11_swap 16 = .ok (.aload_n 0, 1) := by decide +kernel
theorem dX11_swap_17 : decode cX11_swap 17 = .ok (.invokevirtual 381, 3) := by decide +kernel
theorem dX11_swap_20 : decode cX11_swap 20 = .ok (.iload_n 1, 1) := by decide +kernel
theorem dX11_swap_21 : decode cX11_swap 21 = .ok (.istore_n 3, 1) := by decide +kernel
theorem dX11_swap_22 : decode cX11_swap 22 = .ok (.iconst 0, 1) := by decide +kernel
theorem dX11_swap_23 : decode cX11_swap 23 = .ok (.istore 4, 2) := by decide +kernel
theorem dX11_swap_25 : decode cX11_swap 25 = .ok (.iload 4, 2) := by decide +kernel
theorem dX11_swap_27 : decode cX11_swap 27 = .ok (.aload_n 0, 1) := by decide +kernel
theorem dX11_swap_28 : decode cX11_swap 28 = .ok (.getfield 142, 3) := by decide +kernel
theorem dX11_swap_31 : decode cX11_swap 31 = .ok (.if_icmp .ge 63, 3) := by decide +kernel
theorem dX11_swap_34 : decode cX11_swap 34 = .ok (.iload 4, 2) := by decide +kernel
theorem dX11_swap_36 : decode cX11_swap 36 = .ok (.iconst 1, 1) := by decide +kernel
theorem dX11_swap_37 : decode cX11_swap 37 = .ok (.iadd, 1) := by decide +kernel
theorem dX11_swap_38 : decode cX11_swap 38 = .ok (.istore 5, 2) := by decide +kernel
theorem dX11_swap_40 : decode cX11_swap 40 = .ok (.iload 5, 2) := by decide +kernel
theorem dX11_swap_42 : decode cX11_swap 42 = .ok (.aload_n 0, 1) := by decide +kernel
theorem dX11_swap_43 : decode cX11_swap 43 = .ok (.getfield 142, 3) := by decide +kernel
theorem dX11_swap_46 : decode cX11_swap 46 = .ok (.if_icmp .ge 42, 3) := by decide +kernel
theorem dX11_swap_49 : decode cX11_swap 49 = .ok (.aload_n 0, 1) := by decide +kernel
theorem dX11_swap_50 : decode cX11_swap 50 = .ok (.iload 4, 2) := by decide +kernel
theorem dX11_swap_52 : decode cX11_swap 52 = .ok (.iload 5, 2) := by decide +kernel
theorem dX11_swap_54 : decode cX11_swap 54 = .ok (.invokevirtual 390, 3) := by decide +kernel
theorem dX11_swap_57 : decode cX11_swap 57 = .ok (.ifCond .ne 6, 3) := by decide +kernel
theorem dX11_swap_60 : decode cX11_swap 60 = .ok (.goto 22, 3) := by decide +kernel
theorem dX11_swap_63 : decode cX11_swap 63 = .ok (.iload_n 3, 1) := by decide +kernel
theorem dX11_swap_64 : decode cX11_swap 64 = .ok (.ifCond .ne 15, 3) := by decide +kernel
theorem dX11_swap_67 : decode cX11_swap 67 = .ok (.iload_n 2, 1) := by decide +kernel
theorem dX11_swap_68 : decode cX11_swap 68 = .ok (.ifCond .ne 8, 3) := by decide +kernel
theorem dX11_swap_71 : decode cX11_swap 71 = .ok (.iload 4, 2) := by decide +kernel
theorem dX11_swap_73 : decode cX11_swap 73 = .ok (.goto 5, 3) := by decide +kernel
theorem dX11_swap_76 : decode cX11_swap 76 = .ok (.iload 5, 2) := by decide +kernel
theorem dX11_swap_78 : decode cX11_swap 78 = .ok (.ireturn, 1) := by decide +kernel
theorem dX11_swap_79 : decode cX11_swap 79 = .ok (.iinc 3 (-1), 3) := by decide +kernel
theorem dX11_swap_82 : decode cX11_swap 82 = .ok (.iinc 5 1, 3) := by decide +kernel
theorem dX11_swap_85 : decode cX11_swap 85 = .ok (.goto (-45), 3) := by decide +kernel
theorem dX11_swap_88 : decode cX11_swap 88 = .ok (.iinc 4 1, 3) := by decide +kernel
theorem dX11_swap_91 : decode cX11_swap 91 = .ok (.goto (-66), 3) := by decide +kernel
theorem dX11_swap_94 : decode cX11_swap 94 = .ok (.iconst (-1), 1) := by decide +kernel
theorem dX11_swap_95 : decode cX11_swap 95 = .ok (.ireturn, 1) := by decide +kernel
theorem dX11_lie_0 : decode cX11_lie 0 = .ok (.aload_n 0, 1) := by decide +kernel
theorem dX11_lie_1 : decode cX11_lie 1 = .ok (.iconst 0, 1) := by decide +kernel
theorem dX11_lie_2 : decode cX11_lie 2 = .ok (.putfield 139, 3) := by decide +kernel
theorem dX11_lie_5 : decode cX11_lie 5 = .ok (.aload_n 0, 1) := by decide +kernel
theorem dX11_lie_6 : decode cX11_lie 6 = .ok (.iload_n 1, 1) := by decide +kernel
theorem dX11_lie_7 : decode cX11_lie 7 = .ok (.invokevirtual 149, 3) := by decide +kernel
theorem dX11_lie_10 : decode cX11_lie 10 = .ok (.ifCond .eq 30, 3) := by decide +kernel
theorem dX11_lie_13 : decode cX11_lie 13 = .ok (.iload_n 2, 1) := by decide +kernel
theorem dX11_lie_14 : decode cX11_lie 14 = .ok (.iconst 0, 1) := by decide +kernel
theorem dX11_lie_15 : decode cX11_lie 15 = .ok (.iconst 2, 1) := by decide +kernel
theorem dX11_lie_16 : decode cX11_lie 16 = .ok (.invokestatic 145, 3) := by decide +kernel
theorem dX11_lie_19 : decode cX11_lie 19 = .ok (.ifCond .eq 21, 3) := by decide +kernel
theorem dX11_lie_22 : decode cX11_lie 22 = .ok (.aload_n 0, 1) := by decide +kernel
theorem dX11_lie_23 : decode cX11_lie 23 = .ok (.getfield 25, 3) := by decide +kernel
theorem dX11_lie_26 : decode cX11_lie 26 = .ok (.iconst 3, 1) := by decide +kernel
theorem dX11_lie_27 : decode cX11_lie 27 = .ok (.iload_n 1, 1) := by decide +kernel
theorem dX11_lie_28 : decode cX11_lie 28 = .ok (.imul, 1) := by decide +kernel
theorem dX11_lie_29 : decode cX11_lie 29 = .ok (.iload_n 2, 1) := by decide +kernel
theorem dX11_lie_30 : decode cX11_lie 30 = .ok (.iadd, 1) := by decide +kernel
theorem dX11_lie_31 : decode cX11_lie 31 = .ok (.iaload, 1) := by decide +kernel
theorem dX11_lie_32 : decode cX11_lie 32 = .ok (.iconst (-1), 1) := by decide +kernel
theorem dX11_lie_33 : decode cX11_lie 33 = .ok (.if_icmp .eq 7, 3) := by decide +kernel
theorem dX11_lie_36 : decode cX11_lie 36 = .ok (.iconst 1, 1) := by decide +kernel
theorem dX11_lie_37 : decode cX11_lie 37 = .ok (.goto 4, 3) := by decide +kernel
theorem dX11_lie_40 : decode cX11_lie 40 = .ok (.iconst 0, 1) := by decide +kernel
theorem dX11_lie_41 : decode cX11_lie 41 = .ok (.istore_n 3, 1) := by decide +kernel
theorem dX11_lie_42 : decode cX11_lie 42 = .ok (.iconst 3, 1) := by decide +kernel
theorem dX11_lie_43 : decode cX11_lie 43 = .ok (.newarray .int, 2) := by decide +kernel
theorem dX11_lie_45 : decode cX11_lie 45 = .ok (.dup, 1) := by decide +kernel
theorem dX11_lie_46 : decode cX11_lie 46 = .ok (.iconst 0, 1) := by decide +kernel
theorem dX11_lie_47 : decode cX11_lie 47 = .ok (.iconst 0, 1) := by decide +kernel
theorem dX11_lie_48 : decode cX11_lie 48 = .ok (.iastore, 1) := by decide +kernel
theorem dX11_lie_49 : decode cX11_lie 49 = .ok (.dup, 1) := by decide +kernel
theorem dX11_lie_50 : decode cX11_lie 50 = .ok (.iconst 1, 1) := by decide +kernel
theorem dX11_lie_51 : decode cX11_lie 51 = .ok (.iconst 0, 1) := by decide +kernel
theorem dX11_lie_52 : decode cX11_lie 52 = .ok (.iastore, 1) := by decide +kernel
theorem dX11_lie_53 : decode cX11_lie 53 = .ok (.dup, 1) := by decide +kernel
theorem dX11_lie_54 : decode cX11_lie 54 = .ok (.iconst 2, 1) := by decide +kernel
theorem dX11_lie_55 : decode cX11_lie 55 = .ok (.iconst 0, 1) := by decide +kernel
theorem dX11_lie_56 : decode cX11_lie 56 = .ok (.iastore, 1) := by decide +kernel
theorem dX11_lie_57 : decode cX11_lie 57 = .ok (.astore 4, 2) := by decide +kernel
theorem dX11_lie_59 : decode cX11_lie 59 = .ok (.iconst 0, 1) := by decide +kernel
theorem dX11_lie_60 : decode cX11_lie 60 = .ok (.istore 5, 2) := by decide +kernel
theorem dX11_lie_62 : decode cX11_lie 62 = .ok (.iload 5, 2) := by decide +kernel
theorem dX11_lie_64 : decode cX11_lie 64 = .ok (.iconst 3, 1) := by decide +kernel
theorem dX11_lie_65 : decode cX11_lie 65 = .ok (.if_icmp .ge 55, 3) := by decide +kernel
theorem dX11_lie_68 : decode cX11_lie 68 = .ok (.iload_n 3, 1) := by decide +kernel
theorem dX11_lie_69 : decode cX11_lie 69 = .ok (.ifCond .eq 51, 3) := by decide +kernel
theorem dX11_lie_72 : decode cX11_lie 72 = .ok (.aload 4, 2) := by decide +kernel
theorem dX11_lie_74 : decode cX11_lie 74 = .ok (.iload 5, 2) := by decide +kernel
theorem dX11_lie_76 : decode cX11_lie 76 = .ok (.aload_n 0, 1) := by decide +kernel
theorem dX11_lie_77 : decode cX11_lie 77 = .ok (.getfield 25, 3) := by decide +kernel
theorem dX11_lie_80 : decode cX11_lie 80 = .ok (.iconst 3, 1) := by decide +kernel
theorem dX11_lie_81 : decode cX11_lie 81 = .ok (.iload_n 1, 1) := by decide +kernel
theorem dX11_lie_82 : decode cX11_lie 82 = .ok (.imul, 1) := by decide +kernel
theorem dX11_lie_83 : decode cX11_lie 83 = .ok (.iload 5, 2) := by decide +kernel
theorem dX11_lie_85 : decode cX11_lie 85 = .ok (.iadd, 1) := by decide +kernel
theorem dX11_lie_86 : decode cX11_lie 86 = .ok (.iaload, 1) := by decide +kernel
theorem dX11_lie_87 : decode cX11_lie 87 = .ok (.iastore, 1) := by decide +kernel
theorem dX11_lie_88 : decode cX11_lie 88 = .ok (.aload_n 0, 1) := by decide +kernel
theorem dX11_lie_89 : decode cX11_lie 89 = .ok (.getfield 25, 3) := by decide +kernel
theorem dX11_lie_92 : decode cX11_lie 92 = .ok (.iconst 3, 1) := by decide +kernel
theorem dX11_lie_93 : decode cX11_lie 93 = .ok (.iload_n 1, 1) := by decide +kernel
theorem dX11_lie_94 : decode cX11_lie 94 = .ok (.imul, 1) := by decide +kernel
theorem dX11_lie_95 : decode cX11_lie 95 = .ok (.iload 5, 2) := by decide +kernel
theorem dX11_lie_97 : decode cX11_lie 97 = .ok (.iadd, 1) := by decide +kernel
theorem dX11_lie_98 : decode cX11_lie 98 = .ok (.iload 5, 2) := by decide +kernel
theorem dX11_lie_100 : decode cX11_lie 100 = .ok (.iload_n 2, 1) := by decide +kernel
theorem dX11_lie_101 : decode cX11_lie 101 = .ok (.if_icmp .ne 11, 3) := by decide +kernel
theorem dX11_lie_104 : decode cX11_lie 104 = .ok (.aload 4, 2) := by decide +kernel
theorem dX11_lie_106 : decode cX11_lie 106 = .ok (.iload 5, 2) := by decide +kernel
theorem dX11_lie_108 : decode cX11_lie 108 = .ok (.iaload, 1) := by decide +kernel
theorem dX11_lie_109 : decode cX11_lie 109 = .ok (.goto 4, 3) := by decide +kernel
theorem dX11_lie_112 : decode cX11_lie 112 = .ok (.iconst (-1), 1) := by decide +kernel
theorem dX11_lie_113 : decode cX11_lie 113 = .ok (.iastore, 1) := by decide +kernel
theorem dX11_lie_114 : decode cX11_lie 114 = .ok (.iinc 5 1, 3) := by decide +kernel
theorem dX11_lie_117 : decode cX11_lie 117 = .ok (.goto (-55), 3) := by decide +kernel
theorem dX11_lie_120 : decode cX11_lie 120 = .ok (.aload_n 0, 1) := by decide +kernel
theorem dX11_lie_121 : decode cX11_lie 121 = .ok (.aload_n 0, 1) := by decide +kernel
theorem dX11_lie_122 : decode cX11_lie 122 = .ok (.getfield 156, 3) := by decide +kernel
theorem dX11_lie_125 : decode cX11_lie 125 = .ok (.ifCond .eq 11, 3) := by decide +kernel
theorem dX11_lie_128 : decode cX11_lie 128 = .ok (.iload_n 3, 1) := by decide +kernel
theorem dX11_lie_129 : decode cX11_lie 129 = .ok (.ifCond .ne 7, 3) := by decide +kernel
theorem dX11_lie_132 : decode cX11_lie 132 = .ok (.iconst 1, 1) := by decide +kernel
theorem dX11_lie_133 : decode cX11_lie 133 = .ok (.goto 4, 3) := by decide +kernel
theorem dX11_lie_136 : decode cX11_lie 136 = .ok (.iconst 0, 1) := by decide +kernel
theorem dX11_lie_137 : decode cX11_lie 137 = .ok (.putfield 156, 3) := by decide +kernel
theorem dX11_lie_140 : decode cX11_lie 140 = .ok (.iload_n 3, 1) := by decide +kernel
theorem dX11_lie_141 : decode cX11_lie 141 = .ok (.ifCond .eq 14, 3) := by decide +kernel
theorem dX11_lie_144 : decode cX11_lie 144 = .ok (.aload_n 0, 1) := by decide +kernel
theorem dX11_lie_145 : decode cX11_lie 145 = .ok (.aload_n 0, 1) := by decide +kernel
theorem dX11_lie_146 : decode cX11_lie 146 = .ok (.getfield 153, 3) := by decide +kernel
theorem dX11_lie_149 : decode cX11_lie 149 = .ok (.invokevirtual 364, 3) := by decide +kernel
theorem dX11_lie_152 : decode cX11_lie 152 = .ok (.goto 4, 3) := by decide +kernel
theorem dX11_lie_155 : decode cX11_lie 155 = .ok (.iconst (-1), 1) := by decide +kernel
theorem dX11_lie_156 : decode cX11_lie 156 = .ok (.istore 5, 2) := by decide +kernel
theorem dX11_lie_158 : decode cX11_lie 158 = .ok (.aload_n 0, 1) := by decide +kernel
theorem dX11_lie_159 : decode cX11_lie 159 = .ok (.aload_n 0, 1) := by decide +kernel
theorem dX11_lie_160 : decode cX11_lie 160 = .ok (.getfield 156, 3) := by decide +kernel
theorem dX11_lie_163 : decode cX11_lie 163 = .ok (.ifCond .eq 11, 3) := by decide +kernel
theorem dX11_lie_166 : decode cX11_lie 166 = .ok (.iload_n 3, 1) := by decide +kernel
theorem dX11_lie_167 : decode cX11_lie 167 = .ok (.ifCond .ne 7, 3) := by decide +kernel
theorem dX11_lie_170 : decode cX11_lie 170 = .ok (.iconst 1, 1) := by decide +kernel
theorem dX11_lie_171 : decode cX11_lie 171 = .ok (.goto 4, 3) := by decide +kernel
theorem dX11_lie_174 : decode cX11_lie 174 = .ok (.iconst 0, 1) := by decide +kernel
theorem dX11_lie_175 : decode cX11_lie 175 = .ok (.putfield 156, 3) := by decide +kernel
theorem dX11_lie_178 : decode cX11_lie 178 = .ok (.iconst 0, 1) := by decide +kernel
theorem dX11_lie_179 : decode cX11_lie 179 = .ok (.istore 6, 2) := by decide +kernel
theorem dX11_lie_181 : decode cX11_lie 181 = .ok (.iload 6, 2) := by decide +kernel
theorem dX11_lie_183 : decode cX11_lie 183 = .ok (.iconst 3, 1) := by decide +kernel
theorem dX11_lie_184 : decode cX11_lie 184 = .ok (.if_icmp .ge 29, 3) := by decide +kernel
theorem dX11_lie_187 : decode cX11_lie 187 = .ok (.iload_n 3, 1) := by decide +kernel
theorem dX11_lie_188 : decode cX11_lie 188 = .ok (.ifCond .eq 25, 3) := by decide +kernel
theorem dX11_lie_191 : decode cX11_lie 191 = .ok (.aload_n 0, 1) := by decide +kernel
theorem dX11_lie_192 : decode cX11_lie 192 = .ok (.getfield 25, 3) := by decide +kernel
theorem dX11_lie_195 : decode cX11_lie 195 = .ok (.iconst 3, 1) := by decide +kernel
theorem dX11_lie_196 : decode cX11_lie 196 = .ok (.iload_n 1, 1) := by decide +kernel
theorem dX11_lie_197 : decode cX11_lie 197 = .ok (.imul, 1) := by decide +kernel
theorem dX11_lie_198 : decode cX11_lie 198 = .ok (.iload 6, 2) := by decide +kernel
theorem dX11_lie_200 : decode cX11_lie 200 = .ok (.iadd, 1) := by decide +kernel
theorem dX11_lie_201 : decode cX11_lie 201 = .ok (.aload 4, 2) := by decide +kernel
theorem dX11_lie_203 : decode cX11_lie 203 = .ok (.iload 6, 2) := by decide +kernel
theorem dX11_lie_205 : decode cX11_lie 205 = .ok (.iaload, 1) := by decide +kernel
theorem dX11_lie_206 : decode cX11_lie 206 = .ok (.iastore, 1) := by decide +kernel
theorem dX11_lie_207 : decode cX11_lie 207 = .ok (.iinc 6 1, 3) := by decide +kernel
theorem dX11_lie_210 : decode cX11_lie 210 = .ok (.goto (-29), 3) := by decide +kernel
theorem dX11_lie_213 : decode cX11_lie 213 = .ok (.aload_n 0, 1) := by decide +kernel
theorem dX11_lie_214 : decode cX11_lie 214 = .ok (.iload 5, 2) := by decide +kernel
theorem dX11_lie_216 : decode cX11_lie 216 = .ok (.ifCond .ge 7, 3) := by decide +kernel
theorem dX11_lie_219 : decode cX11_lie 219 = .ok (.iconst 1, 1) := by decide +kernel
theorem dX11_lie_220 : decode cX11_lie 220 = .ok (.goto 4, 3) := by decide +kernel
theorem dX11_lie_223 : decode cX11_lie 223 = .ok (.iconst 0, 1) := by decide +kernel
theorem dX11_lie_224 : decode cX11_lie 224 = .ok (.putfield 139, 3) := by decide +kernel
theorem dX11_lie_227 : decode cX11_lie 227 = .ok (.iload 5, 2) := by decide +kernel
theorem dX11_lie_229 : decode cX11_lie 229 = .ok (.ifCond .ge 5, 3) := by decide +kernel
theorem dX11_lie_232 : decode cX11_lie 232 = .ok (.iconst 0, 1) := by decide +kernel
theorem dX11_lie_233 : decode cX11_lie 233 = .ok (.ireturn, 1) := by decide +kernel
theorem dX11_lie_234 : decode cX11_lie 234 = .ok (.iconst 0, 1) := by decide +kernel
theorem dX11_lie_235 : decode cX11_lie 235 = .ok (.istore 6, 2) := by decide +kernel
theorem dX11_lie_237 : decode cX11_lie 237 = .ok (.iload 6, 2) := by decide +kernel
theorem dX11_lie_239 : decode cX11_lie 239 = .ok (.aload_n 0, 1) := by decide +kernel
theorem dX11_lie_240 : decode cX11_lie 240 = .ok (.getfield 142, 3) := by decide +kernel
theorem dX11_lie_243 : decode cX11_lie 243 = .ok (.if_icmp .ge 23, 3) := by decide +kernel
theorem dX11_lie_246 : decode cX11_lie 246 = .ok (.aload_n 0, 1) := by decide +kernel
theorem dX11_lie_247 : decode cX11_lie 247 = .ok (.getfield 100, 3) := by decide +kernel
theorem dX11_lie_250 : decode cX11_lie 250 = .ok (.iload 6, 2) := by decide +kernel
theorem dX11_lie_252 : decode cX11_lie 252 = .ok (.aload_n 0, 1) := by decide +kernel
theorem dX11_lie_253 : decode cX11_lie 253 = .ok (.getfield 103, 3) := by decide +kernel
theorem dX11_lie_256 : decode cX11_lie 256 = .ok (.iload 6, 2) := by decide +kernel
theorem dX11_lie_258 : decode cX11_lie 258 = .ok (.iaload, 1) := by decide +kernel
theorem dX11_lie_259 : decode cX11_lie 259 = .ok (.iastore, 1) := by decide +kernel
theorem dX11_lie_260 : decode cX11_lie 260 = .ok (.iinc 6 1, 3) := by decide +kernel
theorem dX11_lie_263 : decode cX11_lie 263 = .ok (.goto (-26), 3) := by decide +kernel
theorem dX11_lie_266 : decode cX11_lie 266 = .ok (.aload_n 0, 1) := by decide +kernel
theorem dX11_lie_267 : decode cX11_lie 267 = .ok (.iload_n 1, 1) := by decide +kernel
theorem dX11_lie_268 : decode cX11_lie 268 = .ok (.invokevirtual 337, 3) := by decide +kernel
theorem dX11_lie_271 : decode cX11_lie 271 = .ok (.ireturn, 1) := by decide +kernel
theorem dX11_lonely_0 : decode cX11_lonely 0 = .ok (.aload_n 0, 1) := by decide +kernel
theorem dX11_lonely_1 : decode cX11_lonely 1 = .ok (.iconst 0, 1) := by decide +kernel
theorem dX11_lonely_2 : decode cX11_lonely 2 = .ok (.putfield 139, 3) := by decide +kernel
theorem dX11_lonely_5 : decode cX11_lonely 5 = .ok (.iload_n 1, 1) := by decide +kernel
theorem dX11_lonely_6 : decode cX11_lonely 6 = .ok (.istore_n 2, 1) := by decide +kernel
theorem dX11_lonely_7 : decode cX11_lonely 7 = .ok (.iconst 0, 1) := by decide +kernel
theorem dX11_lonely_8 : decode cX11_lonely 8 = .ok (.istore_n 3, 1) := by decide +kernel
theorem dX11_lonely_9 : decode cX11_lonely 9 = .ok (.iload_n 3, 1) := by decide +kernel
theorem dX11_lonely_10 : decode cX11_lonely 10 = .ok (.aload_n 0, 1) := by decide +kernel
theorem dX11_lonely_11 : decode cX11_lonely 11 = .ok (.getfield 142, 3) := by decide +kernel
theorem dX11_lonely_14 : decode cX11_lonely 14 = .ok (.if_icmp .ge 29, 3) := by decide +kernel
theorem dX11_lonely_17 : decode cX11_lonely 17 = .ok (.aload_n 0, 1) := by decide +kernel
theorem dX11_lonely_18 : decode cX11_lonely 18 = .ok (.iload_n 3, 1) := by decide +kernel
theorem dX11_lonely_19 : decode cX11_lonely 19 = .ok (.invokevirtual 316, 3) := by decide +kernel
theorem dX11_lonely_22 : decode cX11_lonely 22 = .ok (.ifCond .le 6, 3) := by decide +kernel
theorem dX11_lonely_25 : decode cX11_lonely 25 = .ok (.goto 12, 3) := by decide +kernel
theorem dX11_lonely_28 : decode cX11_lonely 28 = .ok (.iload_n 2, 1) := by decide +kernel
theorem dX11_lonely_29 : decode cX11_lonely 29 = .ok (.ifCond .ne 5, 3) := by decide +kernel
theorem dX11_lonely_32 : decode cX11_lonely 32 = .ok (.iload_n 3, 1) := by decide +kernel
theorem dX11_lonely_33 : decode cX11_lonely 33 = .ok (.ireturn, 1) := by decide +kernel
theorem dX11_lonely_34 : decode cX11_lonely 34 = .ok (.iinc 2 (-1), 3) := by decide +kernel
theorem dX11_lonely_37 : decode cX11_lonely 37 = .ok (.iinc 3 1, 3) := by decide +kernel
theorem dX11_lonely_40 : decode cX11_lonely 40 = .ok (.goto (-31), 3) := by decide +kernel
theorem dX11_lonely_43 : decode cX11_lonely 43 = .ok (.iconst (-1), 1) := by decide +kernel
theorem dX11_lonely_44 : decode cX11_lonely 44 = .ok (.ireturn, 1) := by decide +kernel
theorem dX11_leads_0 : decode cX11_leads 0 = .ok (.iconst 0, 1) := by decide +kernel
theorem dX11_leads_1 : decode cX11_leads 1 = .ok (.istore_n 2, 1) := by decide +kernel
theorem dX11_leads_2 : decode cX11_leads 2 = .ok (.iload_n 2, 1) := by decide +kernel
theorem dX11_leads_3 : decode cX11_leads 3 = .ok (.aload_n 0, 1) := by decide +kernel
theorem dX11_leads_4 : decode cX11_leads 4 = .ok (.getfield 142, 3) := by decide +kernel
theorem dX11_leads_7 : decode cX11_leads 7 = .ok (.if_icmp .ge 25, 3) := by decide +kernel
theorem dX11_leads_10 : decode cX11_leads 10 = .ok (.aload_n 0, 1) := by decide +kernel
theorem dX11_leads_11 : decode cX11_leads 11 = .ok (.getfield 112, 3) := by decide +kernel
theorem dX11_leads_14 : decode cX11_leads 14 = .ok (.iload_n 2, 1) := by decide +kernel
theorem dX11_leads_15 : decode cX11_leads 15 = .ok (.iload_n 2, 1) := by decide +kernel
theorem dX11_leads_16 : decode cX11_leads 16 = .ok (.iload_n 1, 1) := by decide +kernel
theorem dX11_leads_17 : decode cX11_leads 17 = .ok (.if_icmp .ne 7, 3) := by decide +kernel
theorem dX11_leads_20 : decode cX11_leads 20 = .ok (.iconst 1, 1) := by decide +kernel
theorem dX11_leads_21 : decode cX11_leads 21 = .ok (.goto 4, 3) := by decide +kernel
theorem dX11_leads_24 : decode cX11_leads 24 = .ok (.iconst 0, 1) := by decide +kernel
theorem dX11_leads_25 : decode cX11_leads 25 = .ok (.bastore, 1) := by decide +kernel
theorem dX11_leads_26 : decode cX11_leads 26 = .ok (.iinc 2 1, 3) := by decide +kernel
theorem dX11_leads_29 : decode cX11_leads 29 = .ok (.goto (-27), 3) := by decide +kernel
theorem dX11_leads_32 : decode cX11_leads 32 = .ok (.iconst 0, 1) := by decide +kernel
theorem dX11_leads_33 : decode cX11_leads 33 = .ok (.istore_n 2, 1) := by decide +kernel
theorem dX11_leads_34 : decode cX11_leads 34 = .ok (.iload_n 2, 1) := by decide +kernel
theorem dX11_leads_35 : decode cX11_leads 35 = .ok (.aload_n 0, 1) := by decide +kernel
theorem dX11_leads_36 : decode cX11_leads 36 = .ok (.getfield 142, 3) := by decide +kernel
theorem dX11_leads_39 : decode cX11_leads 39 = .ok (.if_icmp .ge 60, 3) := by decide +kernel
theorem dX11_leads_42 : decode cX11_leads 42 = .ok (.iconst 0, 1) := by decide +kernel
theorem dX11_leads_43 : decode cX11_leads 43 = .ok (.istore_n 3, 1) := by decide +kernel
theorem dX11_leads_44 : decode cX11_leads 44 = .ok (.iload_n 3, 1) := by decide +kernel
theorem dX11_leads_45 : decode cX11_leads 45 = .ok (.iconst 3, 1) := by decide +kernel
theorem dX11_leads_46 : decode cX11_leads 46 = .ok (.aload_n 0, 1) := by decide +kernel
theorem dX11_leads_47 : decode cX11_leads 47 = .ok (.getfield 142, 3) := by decide +kernel
theorem dX11_leads_50 : decode cX11_leads 50 = .ok (.imul, 1) := by decide +kernel
theorem dX11_leads_51 : decode cX11_leads 51 = .ok (.if_icmp .ge 42, 3) := by decide +kernel
theorem dX11_leads_54 : decode cX11_leads 54 = .ok (.aload_n 0, 1) := by decide +kernel
theorem dX11_leads_55 : decode cX11_leads 55 = .ok (.getfield 112, 3) := by decide +kernel
theorem dX11_leads_58 : decode cX11_leads 58 = .ok (.iload_n 3, 1) := by decide +kernel
theorem dX11_leads_59 : decode cX11_leads 59 = .ok (.iconst 3, 1) := by decide +kernel
theorem dX11_leads_60 : decode cX11_leads 60 = .ok (.idiv, 1) := by decide +kernel
theorem dX11_leads_61 : decode cX11_leads 61 = .ok (.baload, 1) := by decide +kernel
theorem dX11_leads_62 : decode cX11_leads 62 = .ok (.ifCond .eq 25, 3) := by decide +kernel
theorem dX11_leads_65 : decode cX11_leads 65 = .ok (.aload_n 0, 1) := by decide +kernel
theorem dX11_leads_66 : decode cX11_leads 66 = .ok (.getfield 25, 3) := by decide +kernel
theorem dX11_leads_69 : decode cX11_leads 69 = .ok (.iload_n 3, 1) := by decide +kernel
theorem dX11_leads_70 : decode cX11_leads 70 = .ok (.iaload, 1) := by decide +kernel
theorem dX11_leads_71 : decode cX11_leads 71 = .ok (.iconst (-1), 1) := by decide +kernel
theorem dX11_leads_72 : decode cX11_leads 72 = .ok (.if_icmp .eq 15, 3) := by decide +kernel
theorem dX11_leads_75 : decode cX11_leads 75 = .ok (.aload_n 0, 1) := by decide +kernel
theorem dX11_leads_76 : decode cX11_leads 76 = .ok (.getfield 112, 3) := by decide +kernel
theorem dX11_leads_79 : decode cX11_leads 79 = .ok (.aload_n 0, 1) := by decide +kernel
theorem dX11_leads_80 : decode cX11_leads 80 = .ok (.getfield 25, 3) := by decide +kernel
theorem dX11_leads_83 : decode cX11_leads 83 = .ok (.iload_n 3, 1) := by decide +kernel
theorem dX11_leads_84 : decode cX11_leads 84 = .ok (.iaload, 1) := by decide +kernel
theorem dX11_leads_85 : decode cX11_leads 85 = .ok (.iconst 1, 1) := by decide +kernel
theorem dX11_leads_86 : decode cX11_leads 86 = .ok (.bastore, 1) := by decide +kernel
theorem dX11_leads_87 : decode cX11_leads 87 = .ok (.iinc 3 1, 3) := by decide +kernel
theorem dX11_leads_90 : decode cX11_leads 90 = .ok (.goto (-46), 3) := by decide +kernel
theorem dX11_leads_93 : decode cX11_leads 93 = .ok (.iinc 2 1, 3) := by decide +kernel
theorem dX11_leads_96 : decode cX11_leads 96 = .ok (.goto (-62), 3) := by decide +kernel
theorem dX11_leads_99 : decode cX11_leads 99 = .ok (.return_, 1) := by decide +kernel
theorem dX11_ring_0 : decode cX11_ring 0 = .ok (.aload_n 0, 1) := by decide +kernel
theorem dX11_ring_1 : decode cX11_ring 1 = .ok (.iconst 0, 1) := by decide +kernel
theorem dX11_ring_2 : decode cX11_ring 2 = .ok (.putfield 139, 3) := by decide +kernel
theorem dX11_ring_5 : decode cX11_ring 5 = .ok (.aload_n 0, 1) := by decide +kernel
theorem dX11_ring_6 : decode cX11_ring 6 = .ok (.iload_n 1, 1) := by decide +kernel
theorem dX11_ring_7 : decode cX11_ring 7 = .ok (.invokevirtual 149, 3) := by decide +kernel
theorem dX11_ring_10 : decode cX11_ring 10 = .ok (.ifCond .ne 5, 3) := by decide +kernel
theorem dX11_ring_13 : decode cX11_ring 13 = .ok (.iconst (-1), 1) := by decide +kernel
theorem dX11_ring_14 : decode cX11_ring 14 = .ok (.ireturn, 1) := by decide +kernel
theorem dX11_ring_15 : decode cX11_ring 15 = .ok (.iconst 0, 1) := by decide +kernel
theorem dX11_ring_16 : decode cX11_ring 16 = .ok (.istore_n 2, 1) := by decide +kernel
theorem dX11_ring_17 : decode cX11_ring 17 = .ok (.iload_n 2, 1) := by decide +kernel
theorem dX11_ring_18 : decode cX11_ring 18 = .ok (.iload_n 1, 1) := by decide +kernel
theorem dX11_ring_19 : decode cX11_ring 19 = .ok (.if_icmp .ge 41, 3) := by decide +kernel
theorem dX11_ring_22 : decode cX11_ring 22 = .ok (.aload_n 0, 1) := by decide +kernel
theorem dX11_ring_23 : decode cX11_ring 23 = .ok (.iload_n 2, 1) := by decide +kernel
theorem dX11_ring_24 : decode cX11_ring 24 = .ok (.invokevirtual 393, 3) := by decide +kernel
theorem dX11_ring_27 : decode cX11_ring 27 = .ok (.aload_n 0, 1) := by decide +kernel
theorem dX11_ring_28 : decode cX11_ring 28 = .ok (.getfield 112, 3) := by decide +kernel
theorem dX11_ring_31 : decode cX11_ring 31 = .ok (.iload_n 1, 1) := by decide +kernel
theorem dX11_ring_32 : decode cX11_ring 32 = .ok (.baload, 1) := by decide +kernel
theorem dX11_ring_33 : decode cX11_ring 33 = .ok (.istore_n 3, 1) := by decide +kernel
theorem dX11_ring_34 : decode cX11_ring 34 = .ok (.aload_n 0, 1) := by decide +kernel
theorem dX11_ring_35 : decode cX11_ring 35 = .ok (.iload_n 1, 1) := by decide +kernel
theorem dX11_ring_36 : decode cX11_ring 36 = .ok (.invokevirtual 393, 3) := by decide +kernel
theorem dX11_ring_39 : decode cX11_ring 39 = .ok (.iload_n 3, 1) := by decide +kernel
theorem dX11_ring_40 : decode cX11_ring 40 = .ok (.ifCond .eq 14, 3) := by decide +kernel
theorem dX11_ring_43 : decode cX11_ring 43 = .ok (.aload_n 0, 1) := by decide +kernel
theorem dX11_ring_44 : decode cX11_ring 44 = .ok (.getfield 112, 3) := by decide +kernel
theorem dX11_ring_47 : decode cX11_ring 47 = .ok (.iload_n 2, 1) := by decide +kernel
theorem dX11_ring_48 : decode cX11_ring 48 = .ok (.baload, 1) := by decide +kernel
theorem dX11_ring_49 : decode cX11_ring 49 = .ok (.ifCond .eq 5, 3) := by decide +kernel
theorem dX11_ring_52 : decode cX11_ring 52 = .ok (.iload_n 2, 1) := by decide +kernel
theorem dX11_ring_53 : decode cX11_ring 53 = .ok (.ireturn, 1) := by decide +kernel
theorem dX11_ring_54 : decode cX11_ring 54 = .ok (.iinc 2 1, 3) := by decide +kernel
theorem dX11_ring_57 : decode cX11_ring 57 = .ok (.goto (-40), 3) := by decide +kernel
theorem dX11_ring_60 : decode cX11_ring 60 = .ok (.iload_n 1, 1) := by decide +kernel
theorem dX11_ring_61 : decode cX11_ring 61 = .ok (.ireturn, 1) := by decide +kernel
theorem dX11_helper_0 : decode cX11_helper 0 = .ok (.aload_n 0, 1) := by decide +kernel
theorem dX11_helper_1 : decode cX11_helper 1 = .ok (.iconst 0, 1) := by decide +kernel
theorem dX11_helper_2 : decode cX11_helper 2 = .ok (.putfield 139, 3) := by decide +kernel
theorem dX11_helper_5 : decode cX11_helper 5 = .ok (.iload_n 1, 1) := by decide +kernel
theorem dX11_helper_6 : decode cX11_helper 6 = .ok (.iconst 1, 1) := by decide +kernel
theorem dX11_helper_7 : decode cX11_helper 7 = .ok (.bipush 60, 2) := by decide +kernel
theorem dX11_helper_9 : decode cX11_helper 9 = .ok (.invokestatic 145, 3) := by decide +kernel
theorem dX11_helper_12 : decode cX11_helper 12 = .ok (.ifCond .eq 12, 3) := by decide +kernel
theorem dX11_helper_15 : decode cX11_helper 15 = .ok (.aload_n 0, 1) := by decide +kernel
theorem dX11_helper_16 : decode cX11_helper 16 = .ok (.getfield 396, 3) := by decide +kernel
theorem dX11_helper_19 : decode cX11_helper 19 = .ok (.bipush 6, 2) := by decide +kernel
theorem dX11_helper_21 : decode cX11_helper 21 = .ok (.if_icmp .ne 5, 3) := by decide +kernel
theorem dX11_helper_24 : decode cX11_helper 24 = .ok (.iconst (-1), 1) := by decide +kernel
theorem dX11_helper_25 : decode cX11_helper 25 = .ok (.ireturn, 1) := by decide +kernel
theorem dX11_helper_26 : decode cX11_helper 26 = .ok (.aload_n 0, 1) := by decide +kernel
theorem dX11_helper_27 : decode cX11_helper 27 = .ok (.getfield 115, 3) := by decide +kernel
theorem dX11_helper_30 : decode cX11_helper 30 = .ok (.aload_n 0, 1) := by decide +kernel
theorem dX11_helper_31 : decode cX11_helper 31 = .ok (.getfield 396, 3) := by decide +kernel
theorem dX11_helper_34 : decode cX11_helper 34 = .ok (.iload_n 1, 1) := by decide +kernel
theorem dX11_helper_35 : decode cX11_helper 35 = .ok (.iastore, 1) := by decide +kernel
theorem dX11_helper_36 : decode cX11_helper 36 = .ok (.aload_n 0, 1) := by decide +kernel
theorem dX11_helper_37 : decode cX11_helper 37 = .ok (.dup, 1) := by decide +kernel
theorem dX11_helper_38 : decode cX11_helper 38 = .ok (.getfield 396, 3) := by decide +kernel
theorem dX11_helper_41 : decode cX11_helper 41 = .ok (.iconst 1, 1) := by decide +kernel
theorem dX11_helper_42 : decode cX11_helper 42 = .ok (.iadd, 1) := by decide +kernel
theorem dX11_helper_43 : decode cX11_helper 43 = .ok (.putfield 396, 3) := by decide +kernel
theorem dX11_helper_46 : decode cX11_helper 46 = .ok (.aload_n 0, 1) := by decide +kernel
theorem dX11_helper_47 : decode cX11_helper 47 = .ok (.getfield 396, 3) := by decide +kernel
theorem dX11_helper_50 : decode cX11_helper 50 = .ok (.iconst 1, 1) := by decide +kernel
theorem dX11_helper_51 : decode cX11_helper 51 = .ok (.isub, 1) := by decide +kernel
theorem dX11_helper_52 : decode cX11_helper 52 = .ok (.ireturn, 1) := by decide +kernel
theorem dX11_lacking_0 : decode cX11_lacking 0 = .ok (.iconst 0, 1) := by decide +kernel
theorem dX11_lacking_1 : decode cX11_lacking 1 = .ok (.istore_n 2, 1) := by decide +kernel
theorem dX11_lacking_2 : decode cX11_lacking 2 = .ok (.iconst 0, 1) := by decide +kernel
theorem dX11_lacking_3 : decode cX11_lacking 3 = .ok (.istore_n 3, 1) := by decide +kernel
theorem dX11_lacking_4 : decode cX11_lacking 4 = .ok (.iload_n 3, 1) := by decide +kernel
theorem dX11_lacking_5 : decode cX11_lacking 5 = .ok (.aload_n 0, 1) := by decide +kernel
theorem dX11_lacking_6 : decode cX11_lacking 6 = .ok (.getfield 41, 3) := by decide +kernel
theorem dX11_lacking_9 : decode cX11_lacking 9 = .ok (.if_icmp .ge 134, 3) := by decide +kernel
theorem dX11_lacking_12 : decode cX11_lacking 12 = .ok (.iconst 0, 1) := by decide +kernel
theorem dX11_lacking_13 : decode cX11_lacking 13 = .ok (.istore 4, 2) := by decide +kernel
theorem dX11_lacking_15 : decode cX11_lacking 15 = .ok (.iconst 0, 1) := by decide +kernel
theorem dX11_lacking_16 : decode cX11_lacking 16 = .ok (.istore 5, 2) := by decide +kernel
theorem dX11_lacking_18 : decode cX11_lacking 18 = .ok (.iload 5, 2) := by decide +kernel
theorem dX11_lacking_20 : decode cX11_lacking 20 = .ok (.aload_n 0, 1) := by decide +kernel
theorem dX11_lacking_21 : decode cX11_lacking 21 = .ok (.getfield 142, 3) := by decide +kernel
theorem dX11_lacking_24 : decode cX11_lacking 24 = .ok (.if_icmp .ge 41, 3) := by decide +kernel
theorem dX11_lacking_27 : decode cX11_lacking 27 = .ok (.iload 4, 2) := by decide +kernel
theorem dX11_lacking_29 : decode cX11_lacking 29 = .ok (.aload_n 0, 1) := by decide +kernel
theorem dX11_lacking_30 : decode cX11_lacking 30 = .ok (.getfield 106, 3) := by decide +kernel
theorem dX11_lacking_33 : decode cX11_lacking 33 = .ok (.iload 5, 2) := by decide +kernel
theorem dX11_lacking_35 : decode cX11_lacking 35 = .ok (.iaload, 1) := by decide +kernel
theorem dX11_lacking_36 : decode cX11_lacking 36 = .ok (.iload_n 3, 1) := by decide +kernel
theorem dX11_lacking_37 : decode cX11_lacking 37 = .ok (.if_icmp .ne 18, 3) := by decide +kernel
theorem dX11_lacking_40 : decode cX11_lacking 40 = .ok (.aload_n 0, 1) := by decide +kernel
theorem dX11_lacking_41 : decode cX11_lacking 41 = .ok (.getfield 94, 3) := by decide +kernel
theorem dX11_lacking_44 : decode cX11_lacking 44 = .ok (.bipush 7, 2) := by decide +kernel
theorem dX11_lacking_46 : decode cX11_lacking 46 = .ok (.iload 5, 2) := by decide +kernel
theorem dX11_lacking_48 : decode cX11_lacking 48 = .ok (.imul, 1) := by decide +kernel
theorem dX11_lacking_49 : decode cX11_lacking 49 = .ok (.iconst 3, 1) := by decide +kernel
theorem dX11_lacking_50 : decode cX11_lacking 50 = .ok (.iadd, 1) := by decide +kernel
theorem dX11_lacking_51 : decode cX11_lacking 51 = .ok (.iaload, 1) := by decide +kernel
theorem dX11_lacking_52 : decode cX11_lacking 52 = .ok (.goto 4, 3) := by decide +kernel
theorem dX11_lacking_55 : decode cX11_lacking 55 = .ok (.iconst 0, 1) := by decide +kernel
theorem dX11_lacking_56 : decode cX11_lacking 56 = .ok (.iadd, 1) := by decide +kernel
theorem dX11_lacking_57 : decode cX11_lacking 57 = .ok (.istore 4, 2) := by decide +kernel
theorem dX11_lacking_59 : decode cX11_lacking 59 = .ok (.iinc 5 1, 3) := by decide +kernel
theorem dX11_lacking_62 : decode cX11_lacking 62 = .ok (.goto (-44), 3) := by decide +kernel
theorem dX11_lacking_65 : decode cX11_lacking 65 = .ok (.iload_n 1, 1) := by decide +kernel
theorem dX11_lacking_66 : decode cX11_lacking 66 = .ok (.istore 5, 2) := by decide +kernel
theorem dX11_lacking_68 : decode cX11_lacking 68 = .ok (.aload_n 0, 1) := by decide +kernel
theorem dX11_lacking_69 : decode cX11_lacking 69 = .ok (.getfield 396, 3) := by decide +kernel
theorem dX11_lacking_72 : decode cX11_lacking 72 = .ok (.iconst 1, 1) := by decide +kernel
theorem dX11_lacking_73 : decode cX11_lacking 73 = .ok (.isub, 1) := by decide +kernel
theorem dX11_lacking_74 : decode cX11_lacking 74 = .ok (.istore 6, 2) := by decide +kernel
theorem dX11_lacking_76 : decode cX11_lacking 76 = .ok (.iload 6, 2) := by decide +kernel
theorem dX11_lacking_78 : decode cX11_lacking 78 = .ok (.ifCond .lt 45, 3) := by decide +kernel
theorem dX11_lacking_81 : decode cX11_lacking 81 = .ok (.iload 4, 2) := by decide +kernel
theorem dX11_lacking_83 : decode cX11_lacking 83 = .ok (.iload 5, 2) := by decide +kernel
theorem dX11_lacking_85 : decode cX11_lacking 85 = .ok (.aload_n 0, 1) := by decide +kernel
theorem dX11_lacking_86 : decode cX11_lacking 86 = .ok (.getfield 41, 3) := by decide +kernel
theorem dX11_lacking_89 : decode cX11_lacking 89 = .ok (.irem, 1) := by decide +kernel
theorem dX11_lacking_90 : decode cX11_lacking 90 = .ok (.iload_n 3, 1) := by decide +kernel
theorem dX11_lacking_91 : decode cX11_lacking 91 = .ok (.if_icmp .ne 13, 3) := by decide +kernel
theorem dX11_lacking_94 : decode cX11_lacking 94 = .ok (.aload_n 0, 1) := by decide +kernel
theorem dX11_lacking_95 : decode cX11_lacking 95 = .ok (.getfield 115, 3) := by decide +kernel
theorem dX11_lacking_98 : decode cX11_lacking 98 = .ok (.iload 6, 2) := by decide +kernel
theorem dX11_lacking_100 : decode cX11_lacking 100 = .ok (.iaload, 1) := by decide +kernel
theorem dX11_lacking_101 : decode cX11_lacking 101 = .ok (.goto 4, 3) := by decide +kernel
theorem dX11_lacking_104 : decode cX11_lacking 104 = .ok (.iconst 0, 1) := by decide +kernel
theorem dX11_lacking_105 : decode cX11_lacking 105 = .ok (.isub, 1) := by decide +kernel
theorem dX11_lacking_106 : decode cX11_lacking 106 = .ok (.istore 4, 2) := by decide +kernel
theorem dX11_lacking_108 : decode cX11_lacking 108 = .ok (.iload 5, 2) := by decide +kernel
theorem dX11_lacking_110 : decode cX11_lacking 110 = .ok (.aload_n 0, 1) := by decide +kernel
theorem dX11_lacking_111 : decode cX11_lacking 111 = .ok (.getfield 41, 3) := by decide +kernel
theorem dX11_lacking_114 : decode cX11_lacking 114 = .ok (.idiv, 1) := by decide +kernel
theorem dX11_lacking_115 : decode cX11_lacking 115 = .ok (.istore 5, 2) := by decide +kernel
theorem dX11_lacking_117 : decode cX11_lacking 117 = .ok (.iinc 6 (-1), 3) := by decide +kernel
theorem dX11_lacking_120 : decode cX11_lacking 120 = .ok (.goto (-44), 3) := by decide +kernel
theorem dX11_lacking_123 : decode cX11_lacking 123 = .ok (.iload_n 2, 1) := by decide +kernel
theorem dX11_lacking_124 : decode cX11_lacking 124 = .ok (.iload 4, 2) := by decide +kernel
theorem dX11_lacking_126 : decode cX11_lacking 126 = .ok (.ifCond .le 8, 3) := by decide +kernel
theorem dX11_lacking_129 : decode cX11_lacking 129 = .ok (.iload 4, 2) := by decide +kernel
theorem dX11_lacking_131 : decode cX11_lacking 131 = .ok (.goto 4, 3) := by decide +kernel
theorem dX11_lacking_134 : decode cX11_lacking 134 = .ok (.iconst 0, 1) := by decide +kernel
theorem dX11_lacking_135 : decode cX11_lacking 135 = .ok (.iadd, 1) := by decide +kernel
theorem dX11_lacking_136 : decode cX11_lacking 136 = .ok (.istore_n 2, 1) := by decide +kernel
theorem dX11_lacking_137 : decode cX11_lacking 137 = .ok (.iinc 3 1, 3) := by decide +kernel
theorem dX11_lacking_140 : decode cX11_lacking 140 = .ok (.goto (-136), 3) := by decide +kernel
theorem dX11_lacking_143 : decode cX11_lacking 143 = .ok (.iload_n 2, 1) := by decide +kernel
theorem dX11_lacking_144 : decode cX11_lacking 144 = .ok (.ireturn, 1) := by decide +kernel
theorem dX11_help_0 : decode cX11_help 0 = .ok (.aload_n 0, 1) := by decide +kernel
theorem dX11_help_1 : decode cX11_help 1 = .ok (.iconst 0, 1) := by decide +kernel
theorem dX11_help_2 : decode cX11_help 2 = .ok (.putfield 139, 3) := by decide +kernel
theorem dX11_help_5 : decode cX11_help 5 = .ok (.aload_n 0, 1) := by decide +kernel
theorem dX11_help_6 : decode cX11_help 6 = .ok (.invokevirtual 384, 3) := by decide +kernel
theorem dX11_help_9 : decode cX11_help 9 = .ok (.ifCond .eq 17, 3) := by decide +kernel
theorem dX11_help_12 : decode cX11_help 12 = .ok (.iload_n 1, 1) := by decide +kernel
theorem dX11_help_13 : decode cX11_help 13 = .ok (.iconst (-1), 1) := by decide +kernel
theorem dX11_help_14 : decode cX11_help 14 = .ok (.aload_n 0, 1) := by decide +kernel
theorem dX11_help_15 : decode cX11_help 15 = .ok (.getfield 396, 3) := by decide +kernel
theorem dX11_help_18 : decode cX11_help 18 = .ok (.iconst 1, 1) := by decide +kernel
theorem dX11_help_19 : decode cX11_help 19 = .ok (.isub, 1) := by decide +kernel
theorem dX11_help_20 : decode cX11_help 20 = .ok (.invokestatic 145, 3) := by decide +kernel
theorem dX11_help_23 : decode cX11_help 23 = .ok (.ifCond .ne 5, 3) := by decide +kernel
theorem dX11_help_26 : decode cX11_help 26 = .ok (.iconst (-1), 1) := by decide +kernel
theorem dX11_help_27 : decode cX11_help 27 = .ok (.ireturn, 1) := by decide +kernel
theorem dX11_help_28 : decode cX11_help 28 = .ok (.aload_n 0, 1) := by decide +kernel
theorem dX11_help_29 : decode cX11_help 29 = .ok (.aload_n 0, 1) := by decide +kernel
theorem dX11_help_30 : decode cX11_help 30 = .ok (.getfield 153, 3) := by decide +kernel
theorem dX11_help_33 : decode cX11_help 33 = .ok (.invokevirtual 322, 3) := by decide +kernel
theorem dX11_help_36 : decode cX11_help 36 = .ok (.iconst 1, 1) := by decide +kernel
theorem dX11_help_37 : decode cX11_help 37 = .ok (.istore_n 2, 1) := by decide +kernel
theorem dX11_help_38 : decode cX11_help 38 = .ok (.iconst 0, 1) := by decide +kernel
theorem dX11_help_39 : decode cX11_help 39 = .ok (.istore_n 3, 1) := by decide +kernel
theorem dX11_help_40 : decode cX11_help 40 = .ok (.iload_n 3, 1) := by decide +kernel
theorem dX11_help_41 : decode cX11_help 41 = .ok (.aload_n 0, 1) := by decide +kernel
theorem dX11_help_42 : decode cX11_help 42 = .ok (.getfield 396, 3) := by decide +kernel
theorem dX11_help_45 : decode cX11_help 45 = .ok (.if_icmp .ge 16, 3) := by decide +kernel
theorem dX11_help_48 : decode cX11_help 48 = .ok (.iload_n 2, 1) := by decide +kernel
theorem dX11_help_49 : decode cX11_help 49 = .ok (.aload_n 0, 1) := by decide +kernel
theorem dX11_help_50 : decode cX11_help 50 = .ok (.getfield 41, 3) := by decide +kernel
theorem dX11_help_53 : decode cX11_help 53 = .ok (.imul, 1) := by decide +kernel
theorem dX11_help_54 : decode cX11_help 54 = .ok (.istore_n 2, 1) := by decide +kernel
theorem dX11_help_55 : decode cX11_help 55 = .ok (.iinc 3 1, 3) := by decide +kernel
theorem dX11_help_58 : decode cX11_help 58 = .ok (.goto (-18), 3) := by decide +kernel
theorem dX11_help_61 : decode cX11_help 61 = .ok (.ldc_w 336, 3) := by decide +kernel
theorem dX11_help_64 : decode cX11_help 64 = .ok (.istore_n 3, 1) := by decide +kernel
theorem dX11_help_65 : decode cX11_help 65 = .ok (.iconst 0, 1) := by decide +kernel
theorem dX11_help_66 : decode cX11_help 66 = .ok (.istore 4, 2) := by decide +kernel
theorem dX11_help_68 : decode cX11_help 68 = .ok (.iconst 0, 1) := by decide +kernel
theorem dX11_help_69 : decode cX11_help 69 = .ok (.istore 5, 2) := by decide +kernel
theorem dX11_help_71 : decode cX11_help 71 = .ok (.iload 5, 2) := by decide +kernel
theorem dX11_help_73 : decode cX11_help 73 = .ok (.iload_n 2, 1) := by decide +kernel
theorem dX11_help_74 : decode cX11_help 74 = .ok (.if_icmp .ge 33, 3) := by decide +kernel
theorem dX11_help_77 : decode cX11_help 77 = .ok (.aload_n 0, 1) := by decide +kernel
theorem dX11_help_78 : decode cX11_help 78 = .ok (.iload 5, 2) := by decide +kernel
theorem dX11_help_80 : decode cX11_help 80 = .ok (.invokevirtual 399, 3) := by decide +kernel
theorem dX11_help_83 : decode cX11_help 83 = .ok (.istore 6, 2) := by decide +kernel
theorem dX11_help_85 : decode cX11_help 85 = .ok (.iload 6, 2) := by decide +kernel
theorem dX11_help_87 : decode cX11_help 87 = .ok (.iload_n 3, 1) := by decide +kernel
theorem dX11_help_88 : decode cX11_help 88 = .ok (.if_icmp .lt 6, 3) := by decide +kernel
theorem dX11_help_91 : decode cX11_help 91 = .ok (.goto 10, 3) := by decide +kernel
theorem dX11_help_94 : decode cX11_help 94 = .ok (.iload 6, 2) := by decide +kernel
theorem dX11_help_96 : decode cX11_help 96 = .ok (.istore_n 3, 1) := by decide +kernel
theorem dX11_help_97 : decode cX11_help 97 = .ok (.iload 5, 2) := by decide +kernel
theorem dX11_help_99 : decode cX11_help 99 = .ok (.istore 4, 2) := by decide +kernel
theorem dX11_help_101 : decode cX11_help 101 = .ok (.iinc 5 1, 3) := by decide +kernel
theorem dX11_help_104 : decode cX11_help 104 = .ok (.goto (-33), 3) := by decide +kernel
theorem dX11_help_107 : decode cX11_help 107 = .ok (.iload_n 1, 1) := by decide +kernel
theorem dX11_help_108 : decode cX11_help 108 = .ok (.iconst (-1), 1) := by decide +kernel
theorem dX11_help_109 : decode cX11_help 109 = .ok (.if_icmp .ne 5, 3) := by decide +kernel
theorem dX11_help_112 : decode cX11_help 112 = .ok (.iload_n 3, 1) := by decide +kernel
theorem dX11_help_113 : decode cX11_help 113 = .ok (.ireturn, 1) := by decide +kernel
theorem dX11_help_114 : decode cX11_help 114 = .ok (.aload_n 0, 1) := by decide +kernel
theorem dX11_help_115 : decode cX11_help 115 = .ok (.getfield 396, 3) := by decide +kernel
theorem dX11_help_118 : decode cX11_help 118 = .ok (.iconst 1, 1) := by decide +kernel
theorem dX11_help_119 : decode cX11_help 119 = .ok (.isub, 1) := by decide +kernel
theorem dX11_help_120 : decode cX11_help 120 = .ok (.istore 5, 2) := by decide +kernel
theorem dX11_help_122 : decode cX11_help 122 = .ok (.iload 5, 2) := by decide +kernel
theorem dX11_help_124 : decode cX11_help 124 = .ok (.ifCond .lt 32, 3) := by decide +kernel
theorem dX11_help_127 : decode cX11_help 127 = .ok (.aload_n 0, 1) := by decide +kernel
theorem dX11_help_128 : decode cX11_help 128 = .ok (.getfield 118, 3) := by decide +kernel
theorem dX11_help_131 : decode cX11_help 131 = .ok (.iload 5, 2) := by decide +kernel
theorem dX11_help_133 : decode cX11_help 133 = .ok (.iload 4, 2) := by decide +kernel
theorem dX11_help_135 : decode cX11_help 135 = .ok (.aload_n 0, 1) := by decide +kernel
theorem dX11_help_136 : decode cX11_help 136 = .ok (.getfield 41, 3) := by decide +kernel
theorem dX11_help_139 : decode cX11_help 139 = .ok (.irem, 1) := by decide +kernel
theorem dX11_help_140 : decode cX11_help 140 = .ok (.iastore, 1) := by decide +kernel
theorem dX11_help_141 : decode cX11_help 141 = .ok (.iload 4, 2) := by decide +kernel
theorem dX11_help_143 : decode cX11_help 143 = .ok (.aload_n 0, 1) := by decide +kernel
theorem dX11_help_144 : decode cX11_help 144 = .ok (.getfield 41, 3) := by decide +kernel
theorem dX11_help_147 : decode cX11_help 147 = .ok (.idiv, 1) := by decide +kernel
theorem dX11_help_148 : decode cX11_help 148 = .ok (.istore 4, 2) := by decide +kernel
theorem dX11_help_150 : decode cX11_help 150 = .ok (.iinc 5 (-1), 3) := by decide +kernel
theorem dX11_help_153 : decode cX11_help 153 = .ok (.goto (-31), 3) := by decide +kernel
theorem dX11_help_156 : decode cX11_help 156 = .ok (.aload_n 0, 1) := by decide +kernel
theorem dX11_help_157 : decode cX11_help 157 = .ok (.getfield 118, 3) := by decide +kernel
theorem dX11_help_160 : decode cX11_help 160 = .ok (.iload_n 1, 1) := by decide +kernel
theorem dX11_help_161 : decode cX11_help 161 = .ok (.iaload, 1) := by decide +kernel
theorem dX11_help_162 : decode cX11_help 162 = .ok (.ireturn, 1) := by decide +kernel
theorem dX11_word_0 : decode cX11_word 0 = .ok (.aload_n 0, 1) := by decide +kernel
theorem dX11_word_1 : decode cX11_word 1 = .ok (.iconst 0, 1) := by decide +kernel
theorem dX11_word_2 : decode cX11_word 2 = .ok (.putfield 139, 3) := by decide +kernel
theorem dX11_word_5 : decode cX11_word 5 = .ok (.aload_n 0, 1) := by decide +kernel
theorem dX11_word_6 : decode cX11_word 6 = .ok (.iload_n 1, 1) := by decide +kernel
theorem dX11_word_7 : decode cX11_word 7 = .ok (.invokevirtual 149, 3) := by decide +kernel
theorem dX11_word_10 : decode cX11_word 10 = .ok (.ifCond .eq 32, 3) := by decide +kernel
theorem dX11_word_13 : decode cX11_word 13 = .ok (.aload_n 0, 1) := by decide +kernel
theorem dX11_word_14 : decode cX11_word 14 = .ok (.getfield 106, 3) := by decide +kernel
theorem dX11_word_17 : decode cX11_word 17 = .ok (.iload_n 1, 1) := by decide +kernel
theorem dX11_word_18 : decode cX11_word 18 = .ok (.iaload, 1) := by decide +kernel
theorem dX11_word_19 : decode cX11_word 19 = .ok (.iconst (-1), 1) := by decide +kernel
theorem dX11_word_20 : decode cX11_word 20 = .ok (.if_icmp .eq 22, 3) := by decide +kernel
theorem dX11_word_23 : decode cX11_word 23 = .ok (.iload_n 2, 1) := by decide +kernel
theorem dX11_word_24 : decode cX11_word 24 = .ok (.iconst 0, 1) := by decide +kernel
theorem dX11_word_25 : decode cX11_word 25 = .ok (.bipush 10, 2) := by decide +kernel
theorem dX11_word_27 : decode cX11_word 27 = .ok (.invokestatic 145, 3) := by decide +kernel
theorem dX11_word_30 : decode cX11_word 30 = .ok (.ifCond .eq 12, 3) := by decide +kernel
theorem dX11_word_33 : decode cX11_word 33 = .ok (.iload_n 3, 1) := by decide +kernel
theorem dX11_word_34 : decode cX11_word 34 = .ok (.iconst 0, 1) := by decide +kernel
theorem dX11_word_35 : decode cX11_word 35 = .ok (.iconst 5, 1) := by decide +kernel
theorem dX11_word_36 : decode cX11_word 36 = .ok (.invokestatic 145, 3) := by decide +kernel
theorem dX11_word_39 : decode cX11_word 39 = .ok (.ifCond .ne 5, 3) := by decide +kernel
theorem dX11_word_42 : decode cX11_word 42 = .ok (.iconst 0, 1) := by decide +kernel
theorem dX11_word_43 : decode cX11_word 43 = .ok (.ireturn, 1) := by decide +kernel
theorem dX11_word_44 : decode cX11_word 44 = .ok (.aload_n 0, 1) := by decide +kernel
theorem dX11_word_45 : decode cX11_word 45 = .ok (.getfield 121, 3) := by decide +kernel
theorem dX11_word_48 : decode cX11_word 48 = .ok (.iload_n 1, 1) := by decide +kernel
theorem dX11_word_49 : decode cX11_word 49 = .ok (.iload_n 2, 1) := by decide +kernel
theorem dX11_word_50 : decode cX11_word 50 = .ok (.iastore, 1) := by decide +kernel
theorem dX11_word_51 : decode cX11_word 51 = .ok (.aload_n 0, 1) := by decide +kernel
theorem dX11_word_52 : decode cX11_word 52 = .ok (.getfield 124, 3) := by decide +kernel
theorem dX11_word_55 : decode cX11_word 55 = .ok (.iload_n 1, 1) := by decide +kernel
theorem dX11_word_56 : decode cX11_word 56 = .ok (.iload_n 3, 1) := by decide +kernel
theorem dX11_word_57 : decode cX11_word 57 = .ok (.iastore, 1) := by decide +kernel
theorem dX11_word_58 : decode cX11_word 58 = .ok (.iconst 1, 1) := by decide +kernel
theorem dX11_word_59 : decode cX11_word 59 = .ok (.ireturn, 1) := by decide +kernel
theorem dX11_isLow_0 : decode cX11_isLow 0 = .ok (.aload_n 0, 1) := by decide +kernel
theorem dX11_isLow_1 : decode cX11_isLow 1 = .ok (.getfield 121, 3) := by decide +kernel
theorem dX11_isLow_4 : decode cX11_isLow 4 = .ok (.iload_n 1, 1) := by decide +kernel
theorem dX11_isLow_5 : decode cX11_isLow 5 = .ok (.iaload, 1) := by decide +kernel
theorem dX11_isLow_6 : decode cX11_isLow 6 = .ok (.iconst (-1), 1) := by decide +kernel
theorem dX11_isLow_7 : decode cX11_isLow 7 = .ok (.if_icmp .eq 24, 3) := by decide +kernel
theorem dX11_isLow_10 : decode cX11_isLow 10 = .ok (.aload_n 0, 1) := by decide +kernel
theorem dX11_isLow_11 : decode cX11_isLow 11 = .ok (.getfield 121, 3) := by decide +kernel
theorem dX11_isLow_14 : decode cX11_isLow 14 = .ok (.iload_n 1, 1) := by decide +kernel
theorem dX11_isLow_15 : decode cX11_isLow 15 = .ok (.iaload, 1) := by decide +kernel
theorem dX11_isLow_16 : decode cX11_isLow 16 = .ok (.aload_n 0, 1) := by decide +kernel
theorem dX11_isLow_17 : decode cX11_isLow 17 = .ok (.getfield 124, 3) := by decide +kernel
theorem dX11_isLow_20 : decode cX11_isLow 20 = .ok (.iload_n 1, 1) := by decide +kernel
theorem dX11_isLow_21 : decode cX11_isLow 21 = .ok (.iaload, 1) := by decide +kernel
theorem dX11_isLow_22 : decode cX11_isLow 22 = .ok (.iadd, 1) := by decide +kernel
theorem dX11_isLow_23 : decode cX11_isLow 23 = .ok (.iconst 5, 1) := by decide +kernel
theorem dX11_isLow_24 : decode cX11_isLow 24 = .ok (.if_icmp .ge 7, 3) := by decide +kernel
theorem dX11_isLow_27 : decode cX11_isLow 27 = .ok (.iconst 1, 1) := by decide +kernel
theorem dX11_isLow_28 : decode cX11_isLow 28 = .ok (.goto 4, 3) := by decide +kernel
theorem dX11_isLow_31 : decode cX11_isLow 31 = .ok (.iconst 0, 1) := by decide +kernel
theorem dX11_isLow_32 : decode cX11_isLow 32 = .ok (.ireturn, 1) := by decide +kernel
theorem dX11_close_0 : decode cX11_close 0 = .ok (.aload_n 0, 1) := by decide +kernel
theorem dX11_close_1 : decode cX11_close 1 = .ok (.iconst 0, 1) := by decide +kernel
theorem dX11_close_2 : decode cX11_close 2 = .ok (.putfield 139, 3) := by decide +kernel
theorem dX11_close_5 : decode cX11_close 5 = .ok (.aload_n 0, 1) := by decide +kernel
theorem dX11_close_6 : decode cX11_close 6 = .ok (.invokevirtual 384, 3) := by decide +kernel
theorem dX11_close_9 : decode cX11_close 9 = .ok (.ifCond .ne 5, 3) := by decide +kernel
theorem dX11_close_12 : decode cX11_close 12 = .ok (.iconst (-1), 1) := by decide +kernel
theorem dX11_close_13 : decode cX11_close 13 = .ok (.ireturn, 1) := by decide +kernel
theorem dX11_close_14 : decode cX11_close 14 = .ok (.aload_n 0, 1) := by decide +kernel
theorem dX11_close_15 : decode cX11_close 15 = .ok (.invokevirtual 381, 3) := by decide +kernel
theorem dX11_close_18 : decode cX11_close 18 = .ok (.iconst 0, 1) := by decide +kernel
theorem dX11_close_19 : decode cX11_close 19 = .ok (.istore_n 1, 1) := by decide +kernel
theorem dX11_close_20 : decode cX11_close 20 = .ok (.iconst 0, 1) := by decide +kernel
theorem dX11_close_21 : decode cX11_close 21 = .ok (.istore_n 2, 1) := by decide +kernel
theorem dX11_close_22 : decode cX11_close 22 = .ok (.iload_n 2, 1) := by decide +kernel
theorem dX11_close_23 : decode cX11_close 23 = .ok (.aload_n 0, 1) := by decide +kernel
theorem dX11_close_24 : decode cX11_close 24 = .ok (.getfield 142, 3) := by decide +kernel
theorem dX11_close_27 : decode cX11_close 27 = .ok (.if_icmp .ge 192, 3) := by decide +kernel
theorem dX11_close_30 : decode cX11_close 30 = .ok (.iconst 0, 1) := by decide +kernel
theorem dX11_close_31 : decode cX11_close 31 = .ok (.istore_n 3, 1) := by decide +kernel
theorem dX11_close_32 : decode cX11_close 32 = .ok (.iload_n 3, 1) := by decide +kernel
theorem dX11_close_33 : decode cX11_close 33 = .ok (.aload_n 0, 1) := by decide +kernel
theorem dX11_close_34 : decode cX11_close 34 = .ok (.getfield 142, 3) := by decide +kernel
theorem dX11_close_37 : decode cX11_close 37 = .ok (.if_icmp .ge 98, 3) := by decide +kernel
theorem dX11_close_40 : decode cX11_close 40 = .ok (.iload_n 2, 1) := by decide +kernel
theorem dX11_close_41 : decode cX11_close 41 = .ok (.iload_n 3, 1) := by decide +kernel
theorem dX11_close_42 : decode cX11_close 42 = .ok (.if_icmp .eq 64, 3) := by decide +kernel
theorem dX11_close_45 : decode cX11_close 45 = .ok (.aload_n 0, 1) := by decide +kernel
theorem dX11_close_46 : decode cX11_close 46 = .ok (.getfield 106, 3) := by decide +kernel
theorem dX11_close_49 : decode cX11_close 49 = .ok (.iload_n 2, 1) := by decide +kernel
theorem dX11_close_50 : decode cX11_close 50 = .ok (.iaload, 1) := by decide +kernel
theorem dX11_close_51 : decode cX11_close 51 = .ok (.iconst (-1), 1) := by decide +kernel
theorem dX11_close_52 : decode cX11_close 52 = .ok (.if_icmp .eq 54, 3) := by decide +kernel
theorem dX11_close_55 : decode cX11_close 55 = .ok (.aload_n 0, 1) := by decide +kernel
theorem dX11_close_56 : decode cX11_close 56 = .ok (.getfield 106, 3) := by decide +kernel
theorem dX11_close_59 : decode cX11_close 59 = .ok (.iload_n 2, 1) := by decide +kernel
theorem dX11_close_60 : decode cX11_close 60 = .ok (.iaload, 1) := by decide +kernel
theorem dX11_close_61 : decode cX11_close 61 = .ok (.aload_n 0, 1) := by decide +kernel
theorem dX11_close_62 : decode cX11_close 62 = .ok (.getfield 106, 3) := by decide +kernel
theorem dX11_close_65 : decode cX11_close 65 = .ok (.iload_n 3, 1) := by decide +kernel
theorem dX11_close_66 : decode cX11_close 66 = .ok (.iaload, 1) := by decide +kernel
theorem dX11_close_67 : decode cX11_close 67 = .ok (.if_icmp .ne 39, 3) := by decide +kernel
theorem dX11_close_70 : decode cX11_close 70 = .ok (.aload_n 0, 1) := by decide +kernel
theorem dX11_close_71 : decode cX11_close 71 = .ok (.iload_n 2, 1) := by decide +kernel
theorem dX11_close_72 : decode cX11_close 72 = .ok (.invokevirtual 402, 3) := by decide +kernel
theorem dX11_close_75 : decode cX11_close 75 = .ok (.ifCond .eq 31, 3) := by decide +kernel
theorem dX11_close_78 : decode cX11_close 78 = .ok (.aload_n 0, 1) := by decide +kernel
theorem dX11_close_79 : decode cX11_close 79 = .ok (.iload_n 3, 1) := by decide +kernel
theorem dX11_close_80 : decode cX11_close 80 = .ok (.invokevirtual 402, 3) := by decide +kernel
theorem dX11_close_83 : decode cX11_close 83 = .ok (.ifCond .eq 23, 3) := by decide +kernel
theorem dX11_close_86 : decode cX11_close 86 = .ok (.aload_n 0, 1) := by decide +kernel
theorem dX11_close_87 : decode cX11_close 87 = .ok (.getfield 28, 3) := by decide +kernel
theorem dX11_close_90 : decode cX11_close 90 = .ok (.bipush 14, 2) := by decide +kernel
theorem dX11_close_92 : decode cX11_close 92 = .ok (.iload_n 2, 1) := by decide +kernel
theorem dX11_close_93 : decode cX11_close 93 = .ok (.imul, 1) := by decide +kernel
theorem dX11_close_94 : decode cX11_close 94 = .ok (.iload_n 3, 1) := by decide +kernel
theorem dX11_close_95 : decode cX11_close 95 = .ok (.iadd, 1) := by decide +kernel
theorem dX11_close_96 : decode cX11_close 96 = .ok (.iaload, 1) := by decide +kernel
theorem dX11_close_97 : decode cX11_close 97 = .ok (.bipush 99, 2) := by decide +kernel
theorem dX11_close_99 : decode cX11_close 99 = .ok (.if_icmp .ge 7, 3) := by decide +kernel
theorem dX11_close_102 : decode cX11_close 102 = .ok (.iconst 1, 1) := by decide +kernel
theorem dX11_close_103 : decode cX11_close 103 = .ok (.goto 4, 3) := by decide +kernel
theorem dX11_close_106 : decode cX11_close 106 = .ok (.iconst 0, 1) := by decide +kernel
theorem dX11_close_107 : decode cX11_close 107 = .ok (.istore 4, 2) := by decide +kernel
theorem dX11_close_109 : decode cX11_close 109 = .ok (.iload 4, 2) := by decide +kernel
theorem dX11_close_111 : decode cX11_close 111 = .ok (.ifCond .eq 18, 3) := by decide +kernel
theorem dX11_close_114 : decode cX11_close 114 = .ok (.aload_n 0, 1) := by decide +kernel
theorem dX11_close_115 : decode cX11_close 115 = .ok (.getfield 28, 3) := by decide +kernel
theorem dX11_close_118 : decode cX11_close 118 = .ok (.bipush 14, 2) := by decide +kernel
theorem dX11_close_120 : decode cX11_close 120 = .ok (.iload_n 2, 1) := by decide +kernel
theorem dX11_close_121 : decode cX11_close 121 = .ok (.imul, 1) := by decide +kernel
theorem dX11_close_122 : decode cX11_close 122 = .ok (.iload_n 3, 1) := by decide +kernel
theorem dX11_close_123 : decode cX11_close 123 = .ok (.iadd, 1) := by decide +kernel
theorem dX11_close_124 : decode cX11_close 124 = .ok (.dup2, 1) := by decide +kernel
theorem dX11_close_125 : decode cX11_close 125 = .ok (.iaload, 1) := by decide +kernel
theorem dX11_close_126 : decode cX11_close 126 = .ok (.iconst 1, 1) := by decide +kernel
theorem dX11_close_127 : decode cX11_close 127 = .ok (.iadd, 1) := by decide +kernel
theorem dX11_close_128 : decode cX11_close 128 = .ok (.iastore, 1) := by decide +kernel
theorem dX11_close_129 : decode cX11_close 129 = .ok (.iinc 3 1, 3) := by decide +kernel
theorem dX11_close_132 : decode cX11_close 132 = .ok (.goto (-100), 3) := by decide +kernel
theorem dX11_close_135 : decode cX11_close 135 = .ok (.aload_n 0, 1) := by decide +kernel
theorem dX11_close_136 : decode cX11_close 136 = .ok (.getfield 106, 3) := by decide +kernel
theorem dX11_close_139 : decode cX11_close 139 = .ok (.iload_n 2, 1) := by decide +kernel
theorem dX11_close_140 : decode cX11_close 140 = .ok (.iaload, 1) := by decide +kernel
theorem dX11_close_141 : decode cX11_close 141 = .ok (.iconst (-1), 1) := by decide +kernel
theorem dX11_close_142 : decode cX11_close 142 = .ok (.if_icmp .ne 6, 3) := by decide +kernel
theorem dX11_close_145 : decode cX11_close 145 = .ok (.goto 68, 3) := by decide +kernel
theorem dX11_close_148 : decode cX11_close 148 = .ok (.aload_n 0, 1) := by decide +kernel
theorem dX11_close_149 : decode cX11_close 149 = .ok (.iload_n 2, 1) := by decide +kernel
theorem dX11_close_150 : decode cX11_close 150 = .ok (.invokevirtual 337, 3) := by decide +kernel
theorem dX11_close_153 : decode cX11_close 153 = .ok (.iconst 3, 1) := by decide +kernel
theorem dX11_close_154 : decode cX11_close 154 = .ok (.if_icmp .ne 7, 3) := by decide +kernel
theorem dX11_close_157 : decode cX11_close 157 = .ok (.iconst 1, 1) := by decide +kernel
theorem dX11_close_158 : decode cX11_close 158 = .ok (.goto 4, 3) := by decide +kernel
theorem dX11_close_161 : decode cX11_close 161 = .ok (.iconst 0, 1) := by decide +kernel
theorem dX11_close_162 : decode cX11_close 162 = .ok (.istore_n 3, 1) := by decide +kernel
theorem dX11_close_163 : decode cX11_close 163 = .ok (.iload_n 1, 1) := by decide +kernel
theorem dX11_close_164 : decode cX11_close 164 = .ok (.iload_n 3, 1) := by decide +kernel
theorem dX11_close_165 : decode cX11_close 165 = .ok (.ifCond .eq 7, 3) := by decide +kernel
theorem dX11_close_168 : decode cX11_close 168 = .ok (.iconst 1, 1) := by decide +kernel
theorem dX11_close_169 : decode cX11_close 169 = .ok (.goto 4, 3) := by decide +kernel
theorem dX11_close_172 : decode cX11_close 172 = .ok (.iconst 0, 1) := by decide +kernel
theorem dX11_close_173 : decode cX11_close 173 = .ok (.iadd, 1) := by decide +kernel
theorem dX11_close_174 : decode cX11_close 174 = .ok (.istore_n 1, 1) := by decide +kernel
theorem dX11_close_175 : decode cX11_close 175 = .ok (.aload_n 0, 1) := by decide +kernel
theorem dX11_close_176 : decode cX11_close 176 = .ok (.getfield 22, 3) := by decide +kernel
theorem dX11_close_179 : decode cX11_close 179 = .ok (.iload_n 2, 1) := by decide +kernel
theorem dX11_close_180 : decode cX11_close 180 = .ok (.iload_n 3, 1) := by decide +kernel
theorem dX11_close_181 : decode cX11_close 181 = .ok (.ifCond .ne 7, 3) := by decide +kernel
theorem dX11_close_184 : decode cX11_close 184 = .ok (.iconst 0, 1) := by decide +kernel
theorem dX11_close_185 : decode cX11_close 185 = .ok (.goto 27, 3) := by decide +kernel
theorem dX11_close_188 : decode cX11_close 188 = .ok (.aload_n 0, 1) := by decide +kernel
theorem dX11_close_189 : decode cX11_close 189 = .ok (.getfield 22, 3) := by decide +kernel
theorem dX11_close_192 : decode cX11_close 192 = .ok (.iload_n 2, 1) := by decide +kernel
theorem dX11_close_193 : decode cX11_close 193 = .ok (.iaload, 1) := by decide +kernel
theorem dX11_close_194 : decode cX11_close 194 = .ok (.bipush 99, 2) := by decide +kernel
theorem dX11_close_196 : decode cX11_close 196 = .ok (.if_icmp .ge 14, 3) := by decide +kernel
theorem dX11_close_199 : decode cX11_close 199 = .ok (.aload_n 0, 1) := by decide +kernel
theorem dX11_close_200 : decode cX11_close 200 = .ok (.getfield 22, 3) := by decide +kernel
theorem dX11_close_203 : decode cX11_close 203 = .ok (.iload_n 2, 1) := by decide +kernel
theorem dX11_close_204 : decode cX11_close 204 = .ok (.iaload, 1) := by decide +kernel
theorem dX11_close_205 : decode cX11_close 205 = .ok (.iconst 1, 1) := by decide +kernel
theorem dX11_close_206 : decode cX11_close 206 = .ok (.iadd, 1) := by decide +kernel
theorem dX11_close_207 : decode cX11_close 207 = .ok (.goto 5, 3) := by decide +kernel
theorem dX11_close_210 : decode cX11_close 210 = .ok (.bipush 99, 2) := by decide +kernel
theorem dX11_close_212 : decode cX11_close 212 = .ok (.iastore, 1) := by decide +kernel
theorem dX11_close_213 : decode cX11_close 213 = .ok (.iinc 2 1, 3) := by decide +kernel
theorem dX11_close_216 : decode cX11_close 216 = .ok (.goto (-194), 3) := by decide +kernel
theorem dX11_close_219 : decode cX11_close 219 = .ok (.iconst 0, 1) := by decide +kernel
theorem dX11_close_220 : decode cX11_close 220 = .ok (.istore_n 2, 1) := by decide +kernel
theorem dX11_close_221 : decode cX11_close 221 = .ok (.iload_n 2, 1) := by decide +kernel
theorem dX11_close_222 : decode cX11_close 222 = .ok (.aload_n 0, 1) := by decide +kernel
theorem dX11_close_223 : decode cX11_close 223 = .ok (.getfield 142, 3) := by decide +kernel
theorem dX11_close_226 : decode cX11_close 226 = .ok (.if_icmp .ge 30, 3) := by decide +kernel
theorem dX11_close_229 : decode cX11_close 229 = .ok (.aload_n 0, 1) := by decide +kernel
theorem dX11_close_230 : decode cX11_close 230 = .ok (.getfield 106, 3) := by decide +kernel
theorem dX11_close_233 : decode cX11_close 233 = .ok (.iload_n 2, 1) := by decide +kernel
theorem dX11_close_234 : decode cX11_close 234 = .ok (.iconst (-1), 1) := by decide +kernel
theorem dX11_close_235 : decode cX11_close 235 = .ok (.iastore, 1) := by decide +kernel
theorem dX11_close_236 : decode cX11_close 236 = .ok (.aload_n 0, 1) := by decide +kernel
theorem dX11_close_237 : decode cX11_close 237 = .ok (.getfield 121, 3) := by decide +kernel
theorem dX11_close_240 : decode cX11_close 240 = .ok (.iload_n 2, 1) := by decide +kernel
theorem dX11_close_241 : decode cX11_close 241 = .ok (.iconst (-1), 1) := by decide +kernel
theorem dX11_close_242 : decode cX11_close 242 = .ok (.iastore, 1) := by decide +kernel
theorem dX11_close_243 : decode cX11_close 243 = .ok (.aload_n 0, 1) := by decide +kernel
theorem dX11_close_244 : decode cX11_close 244 = .ok (.getfield 124, 3) := by decide +kernel
theorem dX11_close_247 : decode cX11_close 247 = .ok (.iload_n 2, 1) := by decide +kernel
theorem dX11_close_248 : decode cX11_close 248 = .ok (.iconst (-1), 1) := by decide +kernel
theorem dX11_close_249 : decode cX11_close 249 = .ok (.iastore, 1) := by decide +kernel
theorem dX11_close_250 : decode cX11_close 250 = .ok (.iinc 2 1, 3) := by decide +kernel
theorem dX11_close_253 : decode cX11_close 253 = .ok (.goto (-32), 3) := by decide +kernel
theorem dX11_close_256 : decode cX11_close 256 = .ok (.aload_n 0, 1) := by decide +kernel
theorem dX11_close_257 : decode cX11_close 257 = .ok (.dup, 1) := by decide +kernel
theorem dX11_close_258 : decode cX11_close 258 = .ok (.getfield 405, 3) := by decide +kernel
theorem dX11_close_261 : decode cX11_close 261 = .ok (.iconst 1, 1) := by decide +kernel
theorem dX11_close_262 : decode cX11_close 262 = .ok (.iadd, 1) := by decide +kernel
theorem dX11_close_263 : decode cX11_close 263 = .ok (.putfield 405, 3) := by decide +kernel
theorem dX11_close_266 : decode cX11_close 266 = .ok (.aload_n 0, 1) := by decide +kernel
theorem dX11_close_267 : decode cX11_close 267 = .ok (.iconst 0, 1) := by decide +kernel
theorem dX11_close_268 : decode cX11_close 268 = .ok (.putfield 156, 3) := by decide +kernel
theorem dX11_close_271 : decode cX11_close 271 = .ok (.iload_n 1, 1) := by decide +kernel
theorem dX11_close_272 : decode cX11_close 272 = .ok (.ireturn, 1) := by decide +kernel
theorem dX11_regret_0 : decode cX11_regret 0 = .ok (.aload_n 0, 1) := by decide +kernel
theorem dX11_regret_1 : decode cX11_regret 1 = .ok (.iconst 0, 1) := by decide +kernel
theorem dX11_regret_2 : decode cX11_regret 2 = .ok (.putfield 139, 3) := by decide +kernel
theorem dX11_regret_5 : decode cX11_regret 5 = .ok (.aload_n 0, 1) := by decide +kernel
theorem dX11_regret_6 : decode cX11_regret 6 = .ok (.iload_n 1, 1) := by decide +kernel
theorem dX11_regret_7 : decode cX11_regret 7 = .ok (.iload_n 2, 1) := by decide +kernel
theorem dX11_regret_8 : decode cX11_regret 8 = .ok (.invokevirtual 160, 3) := by decide +kernel
theorem dX11_regret_11 : decode cX11_regret 11 = .ok (.ifCond .eq 17, 3) := by decide +kernel
theorem dX11_regret_14 : decode cX11_regret 14 = .ok (.aload_n 0, 1) := by decide +kernel
theorem dX11_regret_15 : decode cX11_regret 15 = .ok (.getfield 28, 3) := by decide +kernel
theorem dX11_regret_18 : decode cX11_regret 18 = .ok (.bipush 14, 2) := by decide +kernel
theorem dX11_regret_20 : decode cX11_regret 20 = .ok (.iload_n 1, 1) := by decide +kernel
theorem dX11_regret_21 : decode cX11_regret 21 = .ok (.imul, 1) := by decide +kernel
theorem dX11_regret_22 : decode cX11_regret 22 = .ok (.iload_n 2, 1) := by decide +kernel
theorem dX11_regret_23 : decode cX11_regret 23 = .ok (.iadd, 1) := by decide +kernel
theorem dX11_regret_24 : decode cX11_regret 24 = .ok (.iaload, 1) := by decide +kernel
theorem dX11_regret_25 : decode cX11_regret 25 = .ok (.goto 4, 3) := by decide +kernel
theorem dX11_regret_28 : decode cX11_regret 28 = .ok (.iconst (-1), 1) := by decide +kernel
theorem dX11_regret_29 : decode cX11_regret 29 = .ok (.ireturn, 1) := by decide +kernel
theorem dX11_day_0 : decode cX11_day 0 = .ok (.aload_n 0, 1) := by decide +kernel
theorem dX11_day_1 : decode cX11_day 1 = .ok (.iconst 0, 1) := by decide +kernel
theorem dX11_day_2 : decode cX11_day 2 = .ok (.putfield 139, 3) := by decide +kernel
theorem dX11_day_5 : decode cX11_day 5 = .ok (.iload_n 1, 1) := by decide +kernel
theorem dX11_day_6 : decode cX11_day 6 = .ok (.iconst 0, 1) := by decide +kernel
theorem dX11_day_7 : decode cX11_day 7 = .ok (.sipush 1000, 3) := by decide +kernel
theorem dX11_day_10 : decode cX11_day 10 = .ok (.invokestatic 145, 3) := by decide +kernel
theorem dX11_day_13 : decode cX11_day 13 = .ok (.ifCond .eq 15, 3) := by decide +kernel
theorem dX11_day_16 : decode cX11_day 16 = .ok (.aload_n 0, 1) := by decide +kernel
theorem dX11_day_17 : decode cX11_day 17 = .ok (.getfield 153, 3) := by decide +kernel
theorem dX11_day_20 : decode cX11_day 20 = .ok (.iload_n 1, 1) := by decide +kernel
theorem dX11_day_21 : decode cX11_day 21 = .ok (.iadd, 1) := by decide +kernel
theorem dX11_day_22 : decode cX11_day 22 = .ok (.ldc_w 408, 3) := by decide +kernel
theorem dX11_day_25 : decode cX11_day 25 = .ok (.if_icmp .le 5, 3) := by decide +kernel
theorem dX11_day_28 : decode cX11_day 28 = .ok (.iconst (-1), 1) := by decide +kernel
theorem dX11_day_29 : decode cX11_day 29 = .ok (.ireturn, 1) := by decide +kernel
theorem dX11_day_30 : decode cX11_day 30 = .ok (.iconst 0, 1) := by decide +kernel
theorem dX11_day_31 : decode cX11_day 31 = .ok (.istore_n 2, 1) := by decide +kernel
theorem dX11_day_32 : decode cX11_day 32 = .ok (.iload_n 2, 1) := by decide +kernel
theorem dX11_day_33 : decode cX11_day 33 = .ok (.aload_n 0, 1) := by decide +kernel
theorem dX11_day_34 : decode cX11_day 34 = .ok (.getfield 142, 3) := by decide +kernel
theorem dX11_day_37 : decode cX11_day 37 = .ok (.if_icmp .ge 101, 3) := by decide +kernel
theorem dX11_day_40 : decode cX11_day 40 = .ok (.iload_n 1, 1) := by decide +kernel
theorem dX11_day_41 : decode cX11_day 41 = .ok (.ifCond .le 97, 3) := by decide +kernel
theorem dX11_day_44 : decode cX11_day 44 = .ok (.aload_n 0, 1) := by decide +kernel
theorem dX11_day_45 : decode cX11_day 45 = .ok (.getfield 106, 3) := by decide +kernel
theorem dX11_day_48 : decode cX11_day 48 = .ok (.iload_n 2, 1) := by decide +kernel
theorem dX11_day_49 : decode cX11_day 49 = .ok (.iaload, 1) := by decide +kernel
theorem dX11_day_50 : decode cX11_day 50 = .ok (.aload_n 0, 1) := by decide +kernel
theorem dX11_day_51 : decode cX11_day 51 = .ok (.getfield 136, 3) := by decide +kernel
theorem dX11_day_54 : decode cX11_day 54 = .ok (.iload_n 2, 1) := by decide +kernel
theorem dX11_day_55 : decode cX11_day 55 = .ok (.iaload, 1) := by decide +kernel
theorem dX11_day_56 : decode cX11_day 56 = .ok (.if_icmp .eq 76, 3) := by decide +kernel
theorem dX11_day_59 : decode cX11_day 59 = .ok (.aload_n 0, 1) := by decide +kernel
theorem dX11_day_60 : decode cX11_day 60 = .ok (.getfield 409, 3) := by decide +kernel
theorem dX11_day_63 : decode cX11_day 63 = .ok (.sipush 400, 3) := by decide +kernel
theorem dX11_day_66 : decode cX11_day 66 = .ok (.if_icmp .ne 6, 3) := by decide +kernel
theorem dX11_day_69 : decode cX11_day 69 = .ok (.goto 63, 3) := by decide +kernel
theorem dX11_day_72 : decode cX11_day 72 = .ok (.aload_n 0, 1) := by decide +kernel
theorem dX11_day_73 : decode cX11_day 73 = .ok (.getfield 127, 3) := by decide +kernel
theorem dX11_day_76 : decode cX11_day 76 = .ok (.aload_n 0, 1) := by decide +kernel
theorem dX11_day_77 : decode cX11_day 77 = .ok (.getfield 409, 3) := by decide +kernel
theorem dX11_day_80 : decode cX11_day 80 = .ok (.iload_n 2, 1) := by decide +kernel
theorem dX11_day_81 : decode cX11_day 81 = .ok (.iastore, 1) := by decide +kernel
theorem dX11_day_82 : decode cX11_day 82 = .ok (.aload_n 0, 1) := by decide +kernel
theorem dX11_day_83 : decode cX11_day 83 = .ok (.getfield 130, 3) := by decide +kernel
theorem dX11_day_86 : decode cX11_day 86 = .ok (.aload_n 0, 1) := by decide +kernel
theorem dX11_day_87 : decode cX11_day 87 = .ok (.getfield 409, 3) := by decide +kernel
theorem dX11_day_90 : decode cX11_day 90 = .ok (.aload_n 0, 1) := by decide +kernel
theorem dX11_day_91 : decode cX11_day 91 = .ok (.getfield 153, 3) := by decide +kernel
theorem dX11_day_94 : decode cX11_day 94 = .ok (.iastore, 1) := by decide +kernel
theorem dX11_day_95 : decode cX11_day 95 = .ok (.aload_n 0, 1) := by decide +kernel
theorem dX11_day_96 : decode cX11_day 96 = .ok (.getfield 133, 3) := by decide +kernel
theorem dX11_day_99 : decode cX11_day 99 = .ok (.aload_n 0, 1) := by decide +kernel
theorem dX11_day_100 : decode cX11_day 100 = .ok (.getfield 409, 3) := by decide +kernel
theorem dX11_day_103 : decode cX11_day 103 = .ok (.aload_n 0, 1) := by decide +kernel
theorem dX11_day_104 : decode cX11_day 104 = .ok (.getfield 106, 3) := by decide +kernel
theorem dX11_day_107 : decode cX11_day 107 = .ok (.iload_n 2, 1) := by decide +kernel
theorem dX11_day_108 : decode cX11_day 108 = .ok (.iaload, 1) := by decide +kernel
theorem dX11_day_109 : decode cX11_day 109 = .ok (.iastore, 1) := by decide +kernel
theorem dX11_day_110 : decode cX11_day 110 = .ok (.aload_n 0, 1) := by decide +kernel
theorem dX11_day_111 : decode cX11_day 111 = .ok (.getfield 136, 3) := by decide +kernel
theorem dX11_day_114 : decode cX11_day 114 = .ok (.iload_n 2, 1) := by decide +kernel
theorem dX11_day_115 : decode cX11_day 115 = .ok (.aload_n 0, 1) := by decide +kernel
theorem dX11_day_116 : decode cX11_day 116 = .ok (.getfield 106, 3) := by decide +kernel
theorem dX11_day_119 : decode cX11_day 119 = .ok (.iload_n 2, 1) := by decide +kernel
theorem dX11_day_120 : decode cX11_day 120 = .ok (.iaload, 1) := by decide +kernel
theorem dX11_day_121 : decode cX11_day 121 = .ok (.iastore, 1) := by decide +kernel
theorem dX11_day_122 : decode cX11_day 122 = .ok (.aload_n 0, 1) := by decide +kernel
theorem dX11_day_123 : decode cX11_day 123 = .ok (.dup, 1) := by decide +kernel
theorem dX11_day_124 : decode cX11_day 124 = .ok (.getfield 409, 3) := by decide +kernel
theorem dX11_day_127 : decode cX11_day 127 = .ok (.iconst 1, 1) := by decide +kernel
theorem dX11_day_128 : decode cX11_day 128 = .ok (.iadd, 1) := by decide +kernel
theorem dX11_day_129 : decode cX11_day 129 = .ok (.putfield 409, 3) := by decide +kernel
theorem dX11_day_132 : decode cX11_day 132 = .ok (.iinc 2 1, 3) := by decide +kernel
theorem dX11_day_135 : decode cX11_day 135 = .ok (.goto (-103), 3) := by decide +kernel
theorem dX11_day_138 : decode cX11_day 138 = .ok (.aload_n 0, 1) := by decide +kernel
theorem dX11_day_139 : decode cX11_day 139 = .ok (.dup, 1) := by decide +kernel
theorem dX11_day_140 : decode cX11_day 140 = .ok (.getfield 153, 3) := by decide +kernel
theorem dX11_day_143 : decode cX11_day 143 = .ok (.iload_n 1, 1) := by decide +kernel
theorem dX11_day_144 : decode cX11_day 144 = .ok (.iadd, 1) := by decide +kernel
theorem dX11_day_145 : decode cX11_day 145 = .ok (.putfield 153, 3) := by decide +kernel
theorem dX11_day_148 : decode cX11_day 148 = .ok (.aload_n 0, 1) := by decide +kernel
theorem dX11_day_149 : decode cX11_day 149 = .ok (.getfield 153, 3) := by decide +kernel
theorem dX11_day_152 : decode cX11_day 152 = .ok (.ireturn, 1) := by decide +kernel
theorem dX11_was_0 : decode cX11_was 0 = .ok (.aload_n 0, 1) := by decide +kernel
theorem dX11_was_1 : decode cX11_was 1 = .ok (.iconst 0, 1) := by decide +kernel
theorem dX11_was_2 : decode cX11_was 2 = .ok (.putfield 139, 3) := by decide +kernel
theorem dX11_was_5 : decode cX11_was 5 = .ok (.aload_n 0, 1) := by decide +kernel
theorem dX11_was_6 : decode cX11_was 6 = .ok (.iload_n 1, 1) := by decide +kernel
theorem dX11_was_7 : decode cX11_was 7 = .ok (.invokevirtual 149, 3) := by decide +kernel
theorem dX11_was_10 : decode cX11_was 10 = .ok (.ifCond .eq 15, 3) := by decide +kernel
theorem dX11_was_13 : decode cX11_was 13 = .ok (.iload_n 2, 1) := by decide +kernel
theorem dX11_was_14 : decode cX11_was 14 = .ok (.iconst 0, 1) := by decide +kernel
theorem dX11_was_15 : decode cX11_was 15 = .ok (.aload_n 0, 1) := by decide +kernel
theorem dX11_was_16 : decode cX11_was 16 = .ok (.getfield 153, 3) := by decide +kernel
theorem dX11_was_19 : decode cX11_was 19 = .ok (.invokestatic 145, 3) := by decide +kernel
theorem dX11_was_22 : decode cX11_was 22 = .ok (.ifCond .ne 5, 3) := by decide +kernel
theorem dX11_was_25 : decode cX11_was 25 = .ok (.iconst (-1), 1) := by decide +kernel
theorem dX11_was_26 : decode cX11_was 26 = .ok (.ireturn, 1) := by decide +kernel
theorem dX11_was_27 : decode cX11_was 27 = .ok (.iload_n 2, 1) := by decide +kernel
theorem dX11_was_28 : decode cX11_was 28 = .ok (.aload_n 0, 1) := by decide +kernel
theorem dX11_was_29 : decode cX11_was 29 = .ok (.getfield 153, 3) := by decide +kernel
theorem dX11_was_32 : decode cX11_was 32 = .ok (.if_icmp .ne 10, 3) := by decide +kernel
theorem dX11_was_35 : decode cX11_was 35 = .ok (.aload_n 0, 1) := by decide +kernel
theorem dX11_was_36 : decode cX11_was 36 = .ok (.getfield 106, 3) := by decide +kernel
theorem dX11_was_39 : decode cX11_was 39 = .ok (.iload_n 1, 1) := by decide +kernel
theorem dX11_was_40 : decode cX11_was 40 = .ok (.iaload, 1) := by decide +kernel
theorem dX11_was_41 : decode cX11_was 41 = .ok (.ireturn, 1) := by decide +kernel
theorem dX11_was_42 : decode cX11_was 42 = .ok (.iconst (-1), 1) := by decide +kernel
theorem dX11_was_43 : decode cX11_was 43 = .ok (.istore_n 3, 1) := by decide +kernel
theorem dX11_was_44 : decode cX11_was 44 = .ok (.iconst 0, 1) := by decide +kernel
theorem dX11_was_45 : decode cX11_was 45 = .ok (.istore 4, 2) := by decide +kernel
theorem dX11_was_47 : decode cX11_was 47 = .ok (.iload 4, 2) := by decide +kernel
theorem dX11_was_49 : decode cX11_was 49 = .ok (.aload_n 0, 1) := by decide +kernel
theorem dX11_was_50 : decode cX11_was 50 = .ok (.getfield 409, 3) := by decide +kernel
theorem dX11_was_53 : decode cX11_was 53 = .ok (.if_icmp .ge 39, 3) := by decide +kernel
theorem dX11_was_56 : decode cX11_was 56 = .ok (.aload_n 0, 1) := by decide +kernel
theorem dX11_was_57 : decode cX11_was 57 = .ok (.getfield 127, 3) := by decide +kernel
theorem dX11_was_60 : decode cX11_was 60 = .ok (.iload 4, 2) := by decide +kernel
theorem dX11_was_62 : decode cX11_was 62 = .ok (.iaload, 1) := by decide +kernel
theorem dX11_was_63 : decode cX11_was 63 = .ok (.iload_n 1, 1) := by decide +kernel
theorem dX11_was_64 : decode cX11_was 64 = .ok (.if_icmp .ne 22, 3) := by decide +kernel
theorem dX11_was_67 : decode cX11_was 67 = .ok (.aload_n 0, 1) := by decide +kernel
theorem dX11_was_68 : decode cX11_was 68 = .ok (.getfield 130, 3) := by decide +kernel
theorem dX11_was_71 : decode cX11_was 71 = .ok (.iload 4, 2) := by decide +kernel
theorem dX11_was_73 : decode cX11_was 73 = .ok (.iaload, 1) := by decide +kernel
theorem dX11_was_74 : decode cX11_was 74 = .ok (.iload_n 2, 1) := by decide +kernel
theorem dX11_was_75 : decode cX11_was 75 = .ok (.if_icmp .gt 11, 3) := by decide +kernel
theorem dX11_was_78 : decode cX11_was 78 = .ok (.aload_n 0, 1) := by decide +kernel
theorem dX11_was_79 : decode cX11_was 79 = .ok (.getfield 133, 3) := by decide +kernel
theorem dX11_was_82 : decode cX11_was 82 = .ok (.iload 4, 2) := by decide +kernel
theorem dX11_was_84 : decode cX11_was 84 = .ok (.iaload, 1) := by decide +kernel
theorem dX11_was_85 : decode cX11_was 85 = .ok (.istore_n 3, 1) := by decide +kernel
theorem dX11_was_86 : decode cX11_was 86 = .ok (.iinc 4 1, 3) := by decide +kernel
theorem dX11_was_89 : decode cX11_was 89 = .ok (.goto (-42), 3) := by decide +kernel
theorem dX11_was_92 : decode cX11_was 92 = .ok (.iload_n 3, 1) := by decide +kernel
theorem dX11_was_93 : decode cX11_was 93 = .ok (.ireturn, 1) := by decide +kernel
theorem dX11_many_0 : decode cX11_many 0 = .ok (.iconst 0, 1) := by decide +kernel
theorem dX11_many_1 : decode cX11_many 1 = .ok (.istore_n 3, 1) := by decide +kernel
theorem dX11_many_2 : decode cX11_many 2 = .ok (.iconst 0, 1) := by decide +kernel
theorem dX11_many_3 : decode cX11_many 3 = .ok (.istore 4, 2) := by decide +kernel
theorem dX11_many_5 : decode cX11_many 5 = .ok (.iload 4, 2) := by decide +kernel
theorem dX11_many_7 : decode cX11_many 7 = .ok (.aload_n 0, 1) := by decide +kernel
theorem dX11_many_8 : decode cX11_many 8 = .ok (.getfield 142, 3) := by decide +kernel
theorem dX11_many_11 : decode cX11_many 11 = .ok (.if_icmp .ge 29, 3) := by decide +kernel
theorem dX11_many_14 : decode cX11_many 14 = .ok (.iload_n 3, 1) := by decide +kernel
theorem dX11_many_15 : decode cX11_many 15 = .ok (.aload_n 1, 1) := by decide +kernel
theorem dX11_many_16 : decode cX11_many 16 = .ok (.bipush 14, 2) := by decide +kernel
theorem dX11_many_18 : decode cX11_many 18 = .ok (.iload_n 2, 1) := by decide +kernel
theorem dX11_many_19 : decode cX11_many 19 = .ok (.imul, 1) := by decide +kernel
theorem dX11_many_20 : decode cX11_many 20 = .ok (.iload 4, 2) := by decide +kernel
theorem dX11_many_22 : decode cX11_many 22 = .ok (.iadd, 1) := by decide +kernel
theorem dX11_many_23 : decode cX11_many 23 = .ok (.baload, 1) := by decide +kernel
theorem dX11_many_24 : decode cX11_many 24 = .ok (.ifCond .eq 7, 3) := by decide +kernel
theorem dX11_many_27 : decode cX11_many 27 = .ok (.iconst 1, 1) := by decide +kernel
theorem dX11_many_28 : decode cX11_many 28 = .ok (.goto 4, 3) := by decide +kernel
theorem dX11_many_31 : decode cX11_many 31 = .ok (.iconst 0, 1) := by decide +kernel
theorem dX11_many_32 : decode cX11_many 32 = .ok (.iadd, 1) := by decide +kernel
theorem dX11_many_33 : decode cX11_many 33 = .ok (.istore_n 3, 1) := by decide +kernel
theorem dX11_many_34 : decode cX11_many 34 = .ok (.iinc 4 1, 3) := by decide +kernel
theorem dX11_many_37 : decode cX11_many 37 = .ok (.goto (-32), 3) := by decide +kernel
theorem dX11_many_40 : decode cX11_many 40 = .ok (.iload_n 3, 1) := by decide +kernel
theorem dX11_many_41 : decode cX11_many 41 = .ok (.ireturn, 1) := by decide +kernel
theorem dX11_of_0 : decode cX11_of 0 = .ok (.aload_n 0, 1) := by decide +kernel
theorem dX11_of_1 : decode cX11_of 1 = .ok (.iload_n 1, 1) := by decide +kernel
theorem dX11_of_2 : decode cX11_of 2 = .ok (.invokevirtual 149, 3) := by decide +kernel
theorem dX11_of_5 : decode cX11_of 5 = .ok (.ifCond .eq 17, 3) := by decide +kernel
theorem dX11_of_8 : decode cX11_of 8 = .ok (.iload_n 2, 1) := by decide +kernel
theorem dX11_of_9 : decode cX11_of 9 = .ok (.iconst 0, 1) := by decide +kernel
theorem dX11_of_10 : decode cX11_of 10 = .ok (.bipush 12, 2) := by decide +kernel
theorem dX11_of_12 : decode cX11_of 12 = .ok (.invokestatic 145, 3) := by decide +kernel
theorem dX11_of_15 : decode cX11_of 15 = .ok (.ifCond .eq 7, 3) := by decide +kernel
theorem dX11_of_18 : decode cX11_of 18 = .ok (.iconst 1, 1) := by decide +kernel
theorem dX11_of_19 : decode cX11_of 19 = .ok (.goto 4, 3) := by decide +kernel
theorem dX11_of_22 : decode cX11_of 22 = .ok (.iconst 0, 1) := by decide +kernel
theorem dX11_of_23 : decode cX11_of 23 = .ok (.istore_n 3, 1) := by decide +kernel
theorem dX11_of_24 : decode cX11_of 24 = .ok (.aload_n 0, 1) := by decide +kernel
theorem dX11_of_25 : decode cX11_of 25 = .ok (.iload_n 3, 1) := by decide +kernel
theorem dX11_of_26 : decode cX11_of 26 = .ok (.ifCond .eq 7, 3) := by decide +kernel
theorem dX11_of_29 : decode cX11_of 29 = .ok (.iconst 0, 1) := by decide +kernel
theorem dX11_of_30 : decode cX11_of 30 = .ok (.goto 4, 3) := by decide +kernel
theorem dX11_of_33 : decode cX11_of 33 = .ok (.iconst 1, 1) := by decide +kernel
theorem dX11_of_34 : decode cX11_of 34 = .ok (.putfield 139, 3) := by decide +kernel
theorem dX11_of_37 : decode cX11_of 37 = .ok (.iload_n 3, 1) := by decide +kernel
theorem dX11_of_38 : decode cX11_of 38 = .ok (.ifCond .ne 5, 3) := by decide +kernel
theorem dX11_of_41 : decode cX11_of 41 = .ok (.iconst 0, 1) := by decide +kernel
theorem dX11_of_42 : decode cX11_of 42 = .ok (.ireturn, 1) := by decide +kernel
theorem dX11_of_43 : decode cX11_of 43 = .ok (.iload_n 2, 1) := by decide +kernel
theorem dX11_of_44 : decode cX11_of 44 = .ok (.tableswitch 145 0 11 #[64, 71, 78, 85, 92, 92, 92, 105, 112, 122, 132, 138], 64) := by decide +kernel
theorem dX11_of_108 : decode cX11_of 108 = .ok (.aload_n 0, 1) := by decide +kernel
theorem dX11_of_109 : decode cX11_of 109 = .ok (.getfield 7, 3) := by decide +kernel
theorem dX11_of_112 : decode cX11_of 112 = .ok (.iload_n 1, 1) := by decide +kernel
theorem dX11_of_113 : decode cX11_of 113 = .ok (.iaload, 1) := by decide +kernel
theorem dX11_of_114 : decode cX11_of 114 = .ok (.ireturn, 1) := by decide +kernel
theorem dX11_of_115 : decode cX11_of 115 = .ok (.aload_n 0, 1) := by decide +kernel
theorem dX11_of_116 : decode cX11_of 116 = .ok (.getfield 13, 3) := by decide +kernel
theorem dX11_of_119 : decode cX11_of 119 = .ok (.iload_n 1, 1) := by decide +kernel
theorem dX11_of_120 : decode cX11_of 120 = .ok (.iaload, 1) := by decide +kernel
theorem dX11_of_121 : decode cX11_of 121 = .ok (.ireturn, 1) := by decide +kernel
theorem dX11_of_122 : decode cX11_of 122 = .ok (.aload_n 0, 1) := by decide +kernel
theorem dX11_of_123 : decode cX11_of 123 = .ok (.getfield 19, 3) := by decide +kernel
theorem dX11_of_126 : decode cX11_of 126 = .ok (.iload_n 1, 1) := by decide +kernel
theorem dX11_of_127 : decode cX11_of 127 = .ok (.iaload, 1) := by decide +kernel
theorem dX11_of_128 : decode cX11_of 128 = .ok (.ireturn, 1) := by decide +kernel
theorem dX11_of_129 : decode cX11_of 129 = .ok (.aload_n 0, 1) := by decide +kernel
theorem dX11_of_130 : decode cX11_of 130 = .ok (.getfield 22, 3) := by decide +kernel
theorem dX11_of_133 : decode cX11_of 133 = .ok (.iload_n 1, 1) := by decide +kernel
theorem dX11_of_134 : decode cX11_of 134 = .ok (.iaload, 1) := by decide +kernel
theorem dX11_of_135 : decode cX11_of 135 = .ok (.ireturn, 1) := by decide +kernel
theorem dX11_of_136 : decode cX11_of 136 = .ok (.aload_n 0, 1) := by decide +kernel
theorem dX11_of_137 : decode cX11_of 137 = .ok (.getfield 25, 3) := by decide +kernel
theorem dX11_of_140 : decode cX11_of 140 = .ok (.iconst 3, 1) := by decide +kernel
theorem dX11_of_141 : decode cX11_of 141 = .ok (.iload_n 1, 1) := by decide +kernel
theorem dX11_of_142 : decode cX11_of 142 = .ok (.imul, 1) := by decide +kernel
theorem dX11_of_143 : decode cX11_of 143 = .ok (.iload_n 2, 1) := by decide +kernel
theorem dX11_of_144 : decode cX11_of 144 = .ok (.iadd, 1) := by decide +kernel
theorem dX11_of_145 : decode cX11_of 145 = .ok (.iconst 4, 1) := by decide +kernel
theorem dX11_of_146 : decode cX11_of 146 = .ok (.isub, 1) := by decide +kernel
theorem dX11_of_147 : decode cX11_of 147 = .ok (.iaload, 1) := by decide +kernel
theorem dX11_of_148 : decode cX11_of 148 = .ok (.ireturn, 1) := by decide +kernel
theorem dX11_of_149 : decode cX11_of 149 = .ok (.aload_n 0, 1) := by decide +kernel
theorem dX11_of_150 : decode cX11_of 150 = .ok (.getfield 16, 3) := by decide +kernel
theorem dX11_of_153 : decode cX11_of 153 = .ok (.iload_n 1, 1) := by decide +kernel
theorem dX11_of_154 : decode cX11_of 154 = .ok (.iaload, 1) := by decide +kernel
theorem dX11_of_155 : decode cX11_of 155 = .ok (.ireturn, 1) := by decide +kernel
theorem dX11_of_156 : decode cX11_of 156 = .ok (.aload_n 0, 1) := by decide +kernel
theorem dX11_of_157 : decode cX11_of 157 = .ok (.aload_n 0, 1) := by decide +kernel
theorem dX11_of_158 : decode cX11_of 158 = .ok (.getfield 35, 3) := by decide +kernel
theorem dX11_of_161 : decode cX11_of 161 = .ok (.iload_n 1, 1) := by decide +kernel
theorem dX11_of_162 : decode cX11_of 162 = .ok (.invokevirtual 412, 3) := by decide +kernel
theorem dX11_of_165 : decode cX11_of 165 = .ok (.ireturn, 1) := by decide +kernel
theorem dX11_of_166 : decode cX11_of 166 = .ok (.aload_n 0, 1) := by decide +kernel
theorem dX11_of_167 : decode cX11_of 167 = .ok (.aload_n 0, 1) := by decide +kernel
theorem dX11_of_168 : decode cX11_of 168 = .ok (.getfield 31, 3) := by decide +kernel
theorem dX11_of_171 : decode cX11_of 171 = .ok (.iload_n 1, 1) := by decide +kernel
theorem dX11_of_172 : decode cX11_of 172 = .ok (.invokevirtual 412, 3) := by decide +kernel
theorem dX11_of_175 : decode cX11_of 175 = .ok (.ireturn, 1) := by decide +kernel
theorem dX11_of_176 : decode cX11_of 176 = .ok (.aload_n 0, 1) := by decide +kernel
theorem dX11_of_177 : decode cX11_of 177 = .ok (.iload_n 1, 1) := by decide +kernel
theorem dX11_of_178 : decode cX11_of 178 = .ok (.invokevirtual 316, 3) := by decide +kernel
theorem dX11_of_181 : decode cX11_of 181 = .ok (.ireturn, 1) := by decide +kernel
theorem dX11_of_182 : decode cX11_of 182 = .ok (.aload_n 0, 1) := by decide +kernel
theorem dX11_of_183 : decode cX11_of 183 = .ok (.getfield 121, 3) := by decide +kernel
theorem dX11_of_186 : decode cX11_of 186 = .ok (.iload_n 1, 1) := by decide +kernel
theorem dX11_of_187 : decode cX11_of 187 = .ok (.iaload, 1) := by decide +kernel
theorem dX11_of_188 : decode cX11_of 188 = .ok (.ireturn, 1) := by decide +kernel
theorem dX11_of_189 : decode cX11_of 189 = .ok (.aload_n 0, 1) := by decide +kernel
theorem dX11_of_190 : decode cX11_of 190 = .ok (.getfield 124, 3) := by decide +kernel
theorem dX11_of_193 : decode cX11_of 193 = .ok (.iload_n 1, 1) := by decide +kernel
theorem dX11_of_194 : decode cX11_of 194 = .ok (.iaload, 1) := by decide +kernel
theorem dX11_of_195 : decode cX11_of 195 = .ok (.ireturn, 1) := by decide +kernel
theorem dX11_count_0 : decode cX11_count 0 = .ok (.aload_n 0, 1) := by decide +kernel
theorem dX11_count_1 : decode cX11_count 1 = .ok (.iconst 0, 1) := by decide +kernel
theorem dX11_count_2 : decode cX11_count 2 = .ok (.putfield 139, 3) := by decide +kernel
theorem dX11_count_5 : decode cX11_count 5 = .ok (.iload_n 1, 1) := by decide +kernel
theorem dX11_count_6 : decode cX11_count 6 = .ok (.tableswitch 104 0 9 #[54, 59, 64, 69, 74, 79, 84, 89, 94, 99], 54) := by decide +kernel
theorem dX11_count_60 : decode cX11_count 60 = .ok (.aload_n 0, 1) := by decide +kernel
theorem dX11_count_61 : decode cX11_count 61 = .ok (.getfield 142, 3) := by decide +kernel
theorem dX11_count_64 : decode cX11_count 64 = .ok (.ireturn, 1) := by decide +kernel
theorem dX11_count_65 : decode cX11_count 65 = .ok (.aload_n 0, 1) := by decide +kernel
theorem dX11_count_66 : decode cX11_count 66 = .ok (.getfield 41, 3) := by decide +kernel
theorem dX11_count_69 : decode cX11_count 69 = .ok (.ireturn, 1) := by decide +kernel
theorem dX11_count_70 : decode cX11_count 70 = .ok (.aload_n 0, 1) := by decide +kernel
theorem dX11_count_71 : decode cX11_count 71 = .ok (.getfield 153, 3) := by decide +kernel
theorem dX11_count_74 : decode cX11_count 74 = .ok (.ireturn, 1) := by decide +kernel
theorem dX11_count_75 : decode cX11_count 75 = .ok (.aload_n 0, 1) := by decide +kernel
theorem dX11_count_76 : decode cX11_count 76 = .ok (.getfield 168, 3) := by decide +kernel
theorem dX11_count_79 : decode cX11_count 79 = .ok (.ireturn, 1) := by decide +kernel
theorem dX11_count_80 : decode cX11_count 80 = .ok (.aload_n 0, 1) := by decide +kernel
theorem dX11_count_81 : decode cX11_count 81 = .ok (.getfield 210, 3) := by decide +kernel
theorem dX11_count_84 : decode cX11_count 84 = .ok (.ireturn, 1) := by decide +kernel
theorem dX11_count_85 : decode cX11_count 85 = .ok (.aload_n 0, 1) := by decide +kernel
theorem dX11_count_86 : decode cX11_count 86 = .ok (.invokevirtual 384, 3) := by decide +kernel
theorem dX11_count_89 : decode cX11_count 89 = .ok (.ireturn, 1) := by decide +kernel
theorem dX11_count_90 : decode cX11_count 90 = .ok (.aload_n 0, 1) := by decide +kernel
theorem dX11_count_91 : decode cX11_count 91 = .ok (.getfield 405, 3) := by decide +kernel
theorem dX11_count_94 : decode cX11_count 94 = .ok (.ireturn, 1) := by decide +kernel
theorem dX11_count_95 : decode cX11_count 95 = .ok (.aload_n 0, 1) := by decide +kernel
theorem dX11_count_96 : decode cX11_count 96 = .ok (.getfield 307, 3) := by decide +kernel
theorem dX11_count_99 : decode cX11_count 99 = .ok (.ireturn, 1) := by decide +kernel
theorem dX11_count_100 : decode cX11_count 100 = .ok (.aload_n 0, 1) := by decide +kernel
theorem dX11_count_101 : decode cX11_count 101 = .ok (.getfield 396, 3) := by decide +kernel
theorem dX11_count_104 : decode cX11_count 104 = .ok (.ireturn, 1) := by decide +kernel
theorem dX11_count_105 : decode cX11_count 105 = .ok (.aload_n 0, 1) := by decide +kernel
theorem dX11_count_106 : decode cX11_count 106 = .ok (.getfield 409, 3) := by decide +kernel
theorem dX11_count_109 : decode cX11_count 109 = .ok (.ireturn, 1) := by decide +kernel
theorem dX11_count_110 : decode cX11_count 110 = .ok (.iload_n 1, 1) := by decide +kernel
theorem dX11_count_111 : decode cX11_count 111 = .ok (.bipush 20, 2) := by decide +kernel
theorem dX11_count_113 : decode cX11_count 113 = .ok (.bipush 22, 2) := by decide +kernel
theorem dX11_count_115 : decode cX11_count 115 = .ok (.invokestatic 145, 3) := by decide +kernel
theorem dX11_count_118 : decode cX11_count 118 = .ok (.ifCond .eq 13, 3) := by decide +kernel
theorem dX11_count_121 : decode cX11_count 121 = .ok (.aload_n 0, 1) := by decide +kernel
theorem dX11_count_122 : decode cX11_count 122 = .ok (.getfield 45, 3) := by decide +kernel
theorem dX11_count_125 : decode cX11_count 125 = .ok (.iload_n 1, 1) := by decide +kernel
theorem dX11_count_126 : decode cX11_count 126 = .ok (.bipush 20, 2) := by decide +kernel
theorem dX11_count_128 : decode cX11_count 128 = .ok (.isub, 1) := by decide +kernel
theorem dX11_count_129 : decode cX11_count 129 = .ok (.iaload, 1) := by decide +kernel
theorem dX11_count_130 : decode cX11_count 130 = .ok (.ireturn, 1) := by decide +kernel
theorem dX11_count_131 : decode cX11_count 131 = .ok (.iload_n 1, 1) := by decide +kernel
theorem dX11_count_132 : decode cX11_count 132 = .ok (.bipush 10, 2) := by decide +kernel
theorem dX11_count_134 : decode cX11_count 134 = .ok (.bipush 9, 2) := by decide +kernel
theorem dX11_count_136 : decode cX11_count 136 = .ok (.aload_n 0, 1) := by decide +kernel
theorem dX11_count_137 : decode cX11_count 137 = .ok (.getfield 41, 3) := by decide +kernel
theorem dX11_count_140 : decode cX11_count 140 = .ok (.iadd, 1) := by decide +kernel
theorem dX11_count_141 : decode cX11_count 141 = .ok (.invokestatic 145, 3) := by decide +kernel
theorem dX11_count_144 : decode cX11_count 144 = .ok (.ifCond .ne 5, 3) := by decide +kernel
theorem dX11_count_147 : decode cX11_count 147 = .ok (.iconst (-1), 1) := by decide +kernel
theorem dX11_count_148 : decode cX11_count 148 = .ok (.ireturn, 1) := by decide +kernel
theorem dX11_count_149 : decode cX11_count 149 = .ok (.iconst 0, 1) := by decide +kernel
theorem dX11_count_150 : decode cX11_count 150 = .ok (.istore_n 2, 1) := by decide +kernel
theorem dX11_count_151 : decode cX11_count 151 = .ok (.iconst 0, 1) := by decide +kernel
theorem dX11_count_152 : decode cX11_count 152 = .ok (.istore_n 3, 1) := by decide +kernel
theorem dX11_count_153 : decode cX11_count 153 = .ok (.iload_n 3, 1) := by decide +kernel
theorem dX11_count_154 : decode cX11_count 154 = .ok (.aload_n 0, 1) := by decide +kernel
theorem dX11_count_155 : decode cX11_count 155 = .ok (.getfield 142, 3) := by decide +kernel
theorem dX11_count_158 : decode cX11_count 158 = .ok (.if_icmp .ge 30, 3) := by decide +kernel
theorem dX11_count_161 : decode cX11_count 161 = .ok (.iload_n 2, 1) := by decide +kernel
theorem dX11_count_162 : decode cX11_count 162 = .ok (.aload_n 0, 1) := by decide +kernel
theorem dX11_count_163 : decode cX11_count 163 = .ok (.getfield 106, 3) := by decide +kernel
theorem dX11_count_166 : decode cX11_count 166 = .ok (.iload_n 3, 1) := by decide +kernel
theorem dX11_count_167 : decode cX11_count 167 = .ok (.iaload, 1) := by decide +kernel
theorem dX11_count_168 : decode cX11_count 168 = .ok (.iload_n 1, 1) := by decide +kernel
theorem dX11_count_169 : decode cX11_count 169 = .ok (.bipush 10, 2) := by decide +kernel
theorem dX11_count_171 : decode cX11_count 171 = .ok (.isub, 1) := by decide +kernel
theorem dX11_count_172 : decode cX11_count 172 = .ok (.if_icmp .ne 7, 3) := by decide +kernel
theorem dX11_count_175 : decode cX11_count 175 = .ok (.iconst 1, 1) := by decide +kernel
theorem dX11_count_176 : decode cX11_count 176 = .ok (.goto 4, 3) := by decide +kernel
theorem dX11_count_179 : decode cX11_count 179 = .ok (.iconst 0, 1) := by decide +kernel
theorem dX11_count_180 : decode cX11_count 180 = .ok (.iadd, 1) := by decide +kernel
theorem dX11_count_181 : decode cX11_count 181 = .ok (.istore_n 2, 1) := by decide +kernel
theorem dX11_count_182 : decode cX11_count 182 = .ok (.iinc 3 1, 3) := by decide +kernel
theorem dX11_count_185 : decode cX11_count 185 = .ok (.goto (-32), 3) := by decide +kernel
theorem dX11_count_188 : decode cX11_count 188 = .ok (.iload_n 2, 1) := by decide +kernel
theorem dX11_count_189 : decode cX11_count 189 = .ok (.ireturn, 1) := by decide +kernel
