theorem dX11_init_0 : decode cX11_init 0 = .ok (.aload_n 0, 1) := by decide +kernel
theorem dX11_init_1 : decode cX11_init 1 = .ok (.invokespecial 7, 3) := by decide +kernel
theorem dX11_init_4 : decode cX11_init 4 = .ok (.aload_n 0, 1) := by decide +kernel
theorem dX11_init_5 : decode cX11_init 5 = .ok (.sipush 2000, 3) := by decide +kernel
theorem dX11_init_8 : decode cX11_init 8 = .ok (.newarray .byte, 2) := by decide +kernel
theorem dX11_init_10 : decode cX11_init 10 = .ok (.putfield 13, 3) := by decide +kernel
theorem dX11_init_13 : decode cX11_init 13 = .ok (.aload_n 0, 1) := by decide +kernel
theorem dX11_init_14 : decode cX11_init 14 = .ok (.sipush 2000, 3) := by decide +kernel
theorem dX11_init_17 : decode cX11_init 17 = .ok (.newarray .byte, 2) := by decide +kernel
theorem dX11_init_19 : decode cX11_init 19 = .ok (.putfield 17, 3) := by decide +kernel
theorem dX11_init_22 : decode cX11_init 22 = .ok (.aload_n 0, 1) := by decide +kernel
theorem dX11_init_23 : decode cX11_init 23 = .ok (.sipush 403, 3) := by decide +kernel
theorem dX11_init_26 : decode cX11_init 26 = .ok (.newarray .int, 2) := by decide +kernel
theorem dX11_init_28 : decode cX11_init 28 = .ok (.putfield 20, 3) := by decide +kernel
theorem dX11_init_31 : decode cX11_init 31 = .ok (.aload_n 0, 1) := by decide +kernel
theorem dX11_init_32 : decode cX11_init 32 = .ok (.sipush 403, 3) := by decide +kernel
theorem dX11_init_35 : decode cX11_init 35 = .ok (.newarray .int, 2) := by decide +kernel
theorem dX11_init_37 : decode cX11_init 37 = .ok (.putfield 24, 3) := by decide +kernel
theorem dX11_init_40 : decode cX11_init 40 = .ok (.aload_n 0, 1) := by decide +kernel
theorem dX11_init_41 : decode cX11_init 41 = .ok (.sipush 403, 3) := by decide +kernel
theorem dX11_init_44 : decode cX11_init 44 = .ok (.newarray .int, 2) := by decide +kernel
theorem dX11_init_46 : decode cX11_init 46 = .ok (.putfield 27, 3) := by decide +kernel
theorem dX11_init_49 : decode cX11_init 49 = .ok (.aload_n 0, 1) := by decide +kernel
theorem dX11_init_50 : decode cX11_init 50 = .ok (.sipush 403, 3) := by decide +kernel
theorem dX11_init_53 : decode cX11_init 53 = .ok (.newarray .long, 2) := by decide +kernel
theorem dX11_init_55 : decode cX11_init 55 = .ok (.putfield 30, 3) := by decide +kernel
theorem dX11_init_58 : decode cX11_init 58 = .ok (.aload_n 0, 1) := by decide +kernel
theorem dX11_init_59 : decode cX11_init 59 = .ok (.bipush 24, 2) := by decide +kernel
theorem dX11_init_61 : decode cX11_init 61 = .ok (.newarray .long, 2) := by decide +kernel
theorem dX11_init_63 : decode cX11_init 63 = .ok (.putfield 34, 3) := by decide +kernel
theorem dX11_init_66 : decode cX11_init 66 = .ok (.aload_n 0, 1) := by decide +kernel
theorem dX11_init_67 : decode cX11_init 67 = .ok (.iconst (-1), 1) := by decide +kernel
theorem dX11_init_68 : decode cX11_init 68 = .ok (.putfield 37, 3) := by decide +kernel
theorem dX11_init_71 : decode cX11_init 71 = .ok (.aload_n 0, 1) := by decide +kernel
theorem dX11_init_72 : decode cX11_init 72 = .ok (.bipush 10, 2) := by decide +kernel
theorem dX11_init_74 : decode cX11_init 74 = .ok (.newarray .long, 2) := by decide +kernel
theorem dX11_init_76 : decode cX11_init 76 = .ok (.putfield 40, 3) := by decide +kernel
theorem dX11_init_79 : decode cX11_init 79 = .ok (.aload_n 0, 1) := by decide +kernel
theorem dX11_init_80 : decode cX11_init 80 = .ok (.bipush 10, 2) := by decide +kernel
theorem dX11_init_82 : decode cX11_init 82 = .ok (.newarray .int, 2) := by decide +kernel
theorem dX11_init_84 : decode cX11_init 84 = .ok (.putfield 43, 3) := by decide +kernel
theorem dX11_init_87 : decode cX11_init 87 = .ok (.aload_n 0, 1) := by decide +kernel
theorem dX11_init_88 : decode cX11_init 88 = .ok (.iconst 2, 1) := by decide +kernel
theorem dX11_init_89 : decode cX11_init 89 = .ok (.newarray .int, 2) := by decide +kernel
theorem dX11_init_91 : decode cX11_init 91 = .ok (.putfield 46, 3) := by decide +kernel
theorem dX11_init_94 : decode cX11_init 94 = .ok (.aload_n 0, 1) := by decide +kernel
theorem dX11_init_95 : decode cX11_init 95 = .ok (.bipush 12, 2) := by decide +kernel
theorem dX11_init_97 : decode cX11_init 97 = .ok (.newarray .int, 2) := by decide +kernel
theorem dX11_init_99 : decode cX11_init 99 = .ok (.putfield 49, 3) := by decide +kernel
theorem dX11_init_102 : decode cX11_init 102 = .ok (.aload_n 0, 1) := by decide +kernel
theorem dX11_init_103 : decode cX11_init 103 = .ok (.bipush 12, 2) := by decide +kernel
theorem dX11_init_105 : decode cX11_init 105 = .ok (.newarray .int, 2) := by decide +kernel
theorem dX11_init_107 : decode cX11_init 107 = .ok (.putfield 52, 3) := by decide +kernel
theorem dX11_init_110 : decode cX11_init 110 = .ok (.aload_n 0, 1) := by decide +kernel
theorem dX11_init_111 : decode cX11_init 111 = .ok (.iconst 2, 1) := by decide +kernel
theorem dX11_init_112 : decode cX11_init 112 = .ok (.newarray .int, 2) := by decide +kernel
theorem dX11_init_114 : decode cX11_init 114 = .ok (.putfield 55, 3) := by decide +kernel
theorem dX11_init_117 : decode cX11_init 117 = .ok (.aload_n 0, 1) := by decide +kernel
theorem dX11_init_118 : decode cX11_init 118 = .ok (.bipush 12, 2) := by decide +kernel
theorem dX11_init_120 : decode cX11_init 120 = .ok (.newarray .int, 2) := by decide +kernel
theorem dX11_init_122 : decode cX11_init 122 = .ok (.putfield 58, 3) := by decide +kernel
theorem dX11_init_125 : decode cX11_init 125 = .ok (.aload_n 0, 1) := by decide +kernel
theorem dX11_init_126 : decode cX11_init 126 = .ok (.iconst 2, 1) := by decide +kernel
theorem dX11_init_127 : decode cX11_init 127 = .ok (.newarray .int, 2) := by decide +kernel
theorem dX11_init_129 : decode cX11_init 129 = .ok (.putfield 61, 3) := by decide +kernel
theorem dX11_init_132 : decode cX11_init 132 = .ok (.aload_n 0, 1) := by decide +kernel
theorem dX11_init_133 : decode cX11_init 133 = .ok (.bipush 8, 2) := by decide +kernel
theorem dX11_init_135 : decode cX11_init 135 = .ok (.newarray .int, 2) := by decide +kernel
theorem dX11_init_137 : decode cX11_init 137 = .ok (.putfield 64, 3) := by decide +kernel
theorem dX11_init_140 : decode cX11_init 140 = .ok (.aload_n 0, 1) := by decide +kernel
theorem dX11_init_141 : decode cX11_init 141 = .ok (.bipush 8, 2) := by decide +kernel
theorem dX11_init_143 : decode cX11_init 143 = .ok (.newarray .int, 2) := by decide +kernel
theorem dX11_init_145 : decode cX11_init 145 = .ok (.putfield 67, 3) := by decide +kernel
theorem dX11_init_148 : decode cX11_init 148 = .ok (.aload_n 0, 1) := by decide +kernel
theorem dX11_init_149 : decode cX11_init 149 = .ok (.iconst 2, 1) := by decide +kernel
theorem dX11_init_150 : decode cX11_init 150 = .ok (.newarray .int, 2) := by decide +kernel
theorem dX11_init_152 : decode cX11_init 152 = .ok (.putfield 70, 3) := by decide +kernel
theorem dX11_init_155 : decode cX11_init 155 = .ok (.aload_n 0, 1) := by decide +kernel
theorem dX11_init_156 : decode cX11_init 156 = .ok (.iconst 2, 1) := by decide +kernel
theorem dX11_init_157 : decode cX11_init 157 = .ok (.newarray .int, 2) := by decide +kernel
theorem dX11_init_159 : decode cX11_init 159 = .ok (.putfield 73, 3) := by decide +kernel
theorem dX11_init_162 : decode cX11_init 162 = .ok (.aload_n 0, 1) := by decide +kernel
theorem dX11_init_163 : decode cX11_init 163 = .ok (.bipush 14, 2) := by decide +kernel
theorem dX11_init_165 : decode cX11_init 165 = .ok (.newarray .int, 2) := by decide +kernel
theorem dX11_init_167 : decode cX11_init 167 = .ok (.putfield 76, 3) := by decide +kernel
theorem dX11_init_170 : decode cX11_init 170 = .ok (.aload_n 0, 1) := by decide +kernel
theorem dX11_init_171 : decode cX11_init 171 = .ok (.bipush 14, 2) := by decide +kernel
theorem dX11_init_173 : decode cX11_init 173 = .ok (.newarray .int, 2) := by decide +kernel
theorem dX11_init_175 : decode cX11_init 175 = .ok (.putfield 79, 3) := by decide +kernel
theorem dX11_init_178 : decode cX11_init 178 = .ok (.aload_n 0, 1) := by decide +kernel
theorem dX11_init_179 : decode cX11_init 179 = .ok (.sipush 260, 3) := by decide +kernel
theorem dX11_init_182 : decode cX11_init 182 = .ok (.newarray .boolean, 2) := by decide +kernel
theorem dX11_init_184 : decode cX11_init 184 = .ok (.putfield 82, 3) := by decide +kernel
theorem dX11_init_187 : decode cX11_init 187 = .ok (.aload_n 0, 1) := by decide +kernel
theorem dX11_init_188 : decode cX11_init 188 = .ok (.sipush 260, 3) := by decide +kernel
theorem dX11_init_191 : decode cX11_init 191 = .ok (.newarray .int, 2) := by decide +kernel
theorem dX11_init_193 : decode cX11_init 193 = .ok (.putfield 86, 3) := by decide +kernel
theorem dX11_init_196 : decode cX11_init 196 = .ok (.aload_n 0, 1) := by decide +kernel
theorem dX11_init_197 : decode cX11_init 197 = .ok (.sipush 260, 3) := by decide +kernel
theorem dX11_init_200 : decode cX11_init 200 = .ok (.newarray .int, 2) := by decide +kernel
theorem dX11_init_202 : decode cX11_init 202 = .ok (.putfield 89, 3) := by decide +kernel
theorem dX11_init_205 : decode cX11_init 205 = .ok (.aload_n 0, 1) := by decide +kernel
theorem dX11_init_206 : decode cX11_init 206 = .ok (.sipush 260, 3) := by decide +kernel
theorem dX11_init_209 : decode cX11_init 209 = .ok (.newarray .int, 2) := by decide +kernel
theorem dX11_init_211 : decode cX11_init 211 = .ok (.putfield 92, 3) := by decide +kernel
theorem dX11_init_214 : decode cX11_init 214 = .ok (.aload_n 0, 1) := by decide +kernel
theorem dX11_init_215 : decode cX11_init 215 = .ok (.sipush 260, 3) := by decide +kernel
theorem dX11_init_218 : decode cX11_init 218 = .ok (.newarray .int, 2) := by decide +kernel
theorem dX11_init_220 : decode cX11_init 220 = .ok (.putfield 95, 3) := by decide +kernel
theorem dX11_init_223 : decode cX11_init 223 = .ok (.aload_n 0, 1) := by decide +kernel
theorem dX11_init_224 : decode cX11_init 224 = .ok (.sipush 840, 3) := by decide +kernel
theorem dX11_init_227 : decode cX11_init 227 = .ok (.newarray .int, 2) := by decide +kernel
theorem dX11_init_229 : decode cX11_init 229 = .ok (.putfield 98, 3) := by decide +kernel
theorem dX11_init_232 : decode cX11_init 232 = .ok (.aload_n 0, 1) := by decide +kernel
theorem dX11_init_233 : decode cX11_init 233 = .ok (.sipush 840, 3) := by decide +kernel
theorem dX11_init_236 : decode cX11_init 236 = .ok (.newarray .int, 2) := by decide +kernel
theorem dX11_init_238 : decode cX11_init 238 = .ok (.putfield 101, 3) := by decide +kernel
theorem dX11_init_241 : decode cX11_init 241 = .ok (.aload_n 0, 1) := by decide +kernel
theorem dX11_init_242 : decode cX11_init 242 = .ok (.bipush 64, 2) := by decide +kernel
theorem dX11_init_244 : decode cX11_init 244 = .ok (.newarray .int, 2) := by decide +kernel
theorem dX11_init_246 : decode cX11_init 246 = .ok (.putfield 104, 3) := by decide +kernel
theorem dX11_init_249 : decode cX11_init 249 = .ok (.aload_n 0, 1) := by decide +kernel
theorem dX11_init_250 : decode cX11_init 250 = .ok (.bipush 9, 2) := by decide +kernel
theorem dX11_init_252 : decode cX11_init 252 = .ok (.newarray .int, 2) := by decide +kernel
theorem dX11_init_254 : decode cX11_init 254 = .ok (.putfield 107, 3) := by decide +kernel
theorem dX11_init_257 : decode cX11_init 257 = .ok (.aload_n 0, 1) := by decide +kernel
theorem dX11_init_258 : decode cX11_init 258 = .ok (.sipush 400, 3) := by decide +kernel
theorem dX11_init_261 : decode cX11_init 261 = .ok (.newarray .int, 2) := by decide +kernel
theorem dX11_init_263 : decode cX11_init 263 = .ok (.putfield 110, 3) := by decide +kernel
theorem dX11_init_266 : decode cX11_init 266 = .ok (.aload_n 0, 1) := by decide +kernel
theorem dX11_init_267 : decode cX11_init 267 = .ok (.bipush 48, 2) := by decide +kernel
theorem dX11_init_269 : decode cX11_init 269 = .ok (.newarray .int, 2) := by decide +kernel
theorem dX11_init_271 : decode cX11_init 271 = .ok (.putfield 113, 3) := by decide +kernel
theorem dX11_init_274 : decode cX11_init 274 = .ok (.aload_n 0, 1) := by decide +kernel
theorem dX11_init_275 : decode cX11_init 275 = .ok (.bipush 48, 2) := by decide +kernel
theorem dX11_init_277 : decode cX11_init 277 = .ok (.newarray .int, 2) := by decide +kernel
theorem dX11_init_279 : decode cX11_init 279 = .ok (.putfield 116, 3) := by decide +kernel
theorem dX11_init_282 : decode cX11_init 282 = .ok (.aload_n 0, 1) := by decide +kernel
theorem dX11_init_283 : decode cX11_init 283 = .ok (.sipush 1920, 3) := by decide +kernel
theorem dX11_init_286 : decode cX11_init 286 = .ok (.newarray .int, 2) := by decide +kernel
theorem dX11_init_288 : decode cX11_init 288 = .ok (.putfield 119, 3) := by decide +kernel
theorem dX11_init_291 : decode cX11_init 291 = .ok (.aload_n 0, 1) := by decide +kernel
theorem dX11_init_292 : decode cX11_init 292 = .ok (.bipush 32, 2) := by decide +kernel
theorem dX11_init_294 : decode cX11_init 294 = .ok (.newarray .int, 2) := by decide +kernel
theorem dX11_init_296 : decode cX11_init 296 = .ok (.putfield 122, 3) := by decide +kernel
theorem dX11_init_299 : decode cX11_init 299 = .ok (.aload_n 0, 1) := by decide +kernel
theorem dX11_init_300 : decode cX11_init 300 = .ok (.bipush 36, 2) := by decide +kernel
theorem dX11_init_302 : decode cX11_init 302 = .ok (.newarray .int, 2) := by decide +kernel
theorem dX11_init_304 : decode cX11_init 304 = .ok (.putfield 125, 3) := by decide +kernel
theorem dX11_init_307 : decode cX11_init 307 = .ok (.aload_n 0, 1) := by decide +kernel
theorem dX11_init_308 : decode cX11_init 308 = .ok (.iconst 3, 1) := by decide +kernel
theorem dX11_init_309 : decode cX11_init 309 = .ok (.newarray .int, 2) := by decide +kernel
theorem dX11_init_311 : decode cX11_init 311 = .ok (.putfield 128, 3) := by decide +kernel
theorem dX11_init_314 : decode cX11_init 314 = .ok (.aload_n 0, 1) := by decide +kernel
theorem dX11_init_315 : decode cX11_init 315 = .ok (.bipush 12, 2) := by decide +kernel
theorem dX11_init_317 : decode cX11_init 317 = .ok (.newarray .int, 2) := by decide +kernel
theorem dX11_init_319 : decode cX11_init 319 = .ok (.putfield 131, 3) := by decide +kernel
theorem dX11_init_322 : decode cX11_init 322 = .ok (.aload_n 0, 1) := by decide +kernel
theorem dX11_init_323 : decode cX11_init 323 = .ok (.bipush 64, 2) := by decide +kernel
theorem dX11_init_325 : decode cX11_init 325 = .ok (.newarray .int, 2) := by decide +kernel
theorem dX11_init_327 : decode cX11_init 327 = .ok (.putfield 134, 3) := by decide +kernel
theorem dX11_init_330 : decode cX11_init 330 = .ok (.aload_n 0, 1) := by decide +kernel
theorem dX11_init_331 : decode cX11_init 331 = .ok (.bipush 20, 2) := by decide +kernel
theorem dX11_init_333 : decode cX11_init 333 = .ok (.newarray .int, 2) := by decide +kernel
theorem dX11_init_335 : decode cX11_init 335 = .ok (.putfield 137, 3) := by decide +kernel
theorem dX11_init_338 : decode cX11_init 338 = .ok (.aload_n 0, 1) := by decide +kernel
theorem dX11_init_339 : decode cX11_init 339 = .ok (.bipush 20, 2) := by decide +kernel
theorem dX11_init_341 : decode cX11_init 341 = .ok (.newarray .int, 2) := by decide +kernel
theorem dX11_init_343 : decode cX11_init 343 = .ok (.putfield 140, 3) := by decide +kernel
theorem dX11_init_346 : decode cX11_init 346 = .ok (.aload_n 0, 1) := by decide +kernel
theorem dX11_init_347 : decode cX11_init 347 = .ok (.bipush 9, 2) := by decide +kernel
theorem dX11_init_349 : decode cX11_init 349 = .ok (.newarray .int, 2) := by decide +kernel
theorem dX11_init_351 : decode cX11_init 351 = .ok (.putfield 143, 3) := by decide +kernel
theorem dX11_init_354 : decode cX11_init 354 = .ok (.aload_n 0, 1) := by decide +kernel
theorem dX11_init_355 : decode cX11_init 355 = .ok (.iconst 3, 1) := by decide +kernel
theorem dX11_init_356 : decode cX11_init 356 = .ok (.newarray .boolean, 2) := by decide +kernel
theorem dX11_init_358 : decode cX11_init 358 = .ok (.putfield 146, 3) := by decide +kernel
theorem dX11_init_361 : decode cX11_init 361 = .ok (.aload_n 0, 1) := by decide +kernel
theorem dX11_init_362 : decode cX11_init 362 = .ok (.sipush 144, 3) := by decide +kernel
theorem dX11_init_365 : decode cX11_init 365 = .ok (.newarray .int, 2) := by decide +kernel
theorem dX11_init_367 : decode cX11_init 367 = .ok (.putfield 149, 3) := by decide +kernel
theorem dX11_init_370 : decode cX11_init 370 = .ok (.aload_n 0, 1) := by decide +kernel
theorem dX11_init_371 : decode cX11_init 371 = .ok (.iconst 0, 1) := by decide +kernel
theorem dX11_init_372 : decode cX11_init 372 = .ok (.invokevirtual 152, 3) := by decide +kernel
theorem dX11_init_375 : decode cX11_init 375 = .ok (.aload_n 0, 1) := by decide +kernel
theorem dX11_init_376 : decode cX11_init 376 = .ok (.getfield 34, 3) := by decide +kernel
theorem dX11_init_379 : decode cX11_init 379 = .ok (.iconst 0, 1) := by decide +kernel
theorem dX11_init_380 : decode cX11_init 380 = .ok (.bipush 115, 2) := by decide +kernel
theorem dX11_init_382 : decode cX11_init 382 = .ok (.bipush 112, 2) := by decide +kernel
theorem dX11_init_384 : decode cX11_init 384 = .ok (.bipush 111, 2) := by decide +kernel
theorem dX11_init_386 : decode cX11_init 386 = .ok (.bipush 117, 2) := by decide +kernel
theorem dX11_init_388 : decode cX11_init 388 = .ok (.bipush 115, 2) := by decide +kernel
theorem dX11_init_390 : decode cX11_init 390 = .ok (.bipush 101, 2) := by decide +kernel
theorem dX11_init_392 : decode cX11_init 392 = .ok (.iconst 0, 1) := by decide +kernel
theorem dX11_init_393 : decode cX11_init 393 = .ok (.invokestatic 156, 3) := by decide +kernel
theorem dX11_init_396 : decode cX11_init 396 = .ok (.lastore, 1) := by decide +kernel
theorem dX11_init_397 : decode cX11_init 397 = .ok (.aload_n 0, 1) := by decide +kernel
theorem dX11_init_398 : decode cX11_init 398 = .ok (.getfield 34, 3) := by decide +kernel
theorem dX11_init_401 : decode cX11_init 401 = .ok (.iconst 1, 1) := by decide +kernel
theorem dX11_init_402 : decode cX11_init 402 = .ok (.bipush 99, 2) := by decide +kernel
theorem dX11_init_404 : decode cX11_init 404 = .ok (.bipush 111, 2) := by decide +kernel
theorem dX11_init_406 : decode cX11_init 406 = .ok (.bipush 117, 2) := by decide +kernel
theorem dX11_init_408 : decode cX11_init 408 = .ok (.bipush 112, 2) := by decide +kernel
theorem dX11_init_410 : decode cX11_init 410 = .ok (.bipush 108, 2) := by decide +kernel
theorem dX11_init_412 : decode cX11_init 412 = .ok (.bipush 101, 2) := by decide +kernel
theorem dX11_init_414 : decode cX11_init 414 = .ok (.iconst 0, 1) := by decide +kernel
theorem dX11_init_415 : decode cX11_init 415 = .ok (.invokestatic 156, 3) := by decide +kernel
theorem dX11_init_418 : decode cX11_init 418 = .ok (.lastore, 1) := by decide +kernel
theorem dX11_init_419 : decode cX11_init 419 = .ok (.aload_n 0, 1) := by decide +kernel
theorem dX11_init_420 : decode cX11_init 420 = .ok (.getfield 34, 3) := by decide +kernel
theorem dX11_init_423 : decode cX11_init 423 = .ok (.iconst 2, 1) := by decide +kernel
theorem dX11_init_424 : decode cX11_init 424 = .ok (.bipush 116, 2) := by decide +kernel
theorem dX11_init_426 : decode cX11_init 426 = .ok (.bipush 104, 2) := by decide +kernel
theorem dX11_init_428 : decode cX11_init 428 = .ok (.bipush 105, 2) := by decide +kernel
theorem dX11_init_430 : decode cX11_init 430 = .ok (.bipush 114, 2) := by decide +kernel
theorem dX11_init_432 : decode cX11_init 432 = .ok (.bipush 100, 2) := by decide +kernel
theorem dX11_init_434 : decode cX11_init 434 = .ok (.iconst 0, 1) := by decide +kernel
theorem dX11_init_435 : decode cX11_init 435 = .ok (.iconst 0, 1) := by decide +kernel
theorem dX11_init_436 : decode cX11_init 436 = .ok (.invokestatic 156, 3) := by decide +kernel
theorem dX11_init_439 : decode cX11_init 439 = .ok (.lastore, 1) := by decide +kernel
theorem dX11_init_440 : decode cX11_init 440 = .ok (.aload_n 0, 1) := by decide +kernel
theorem dX11_init_441 : decode cX11_init 441 = .ok (.getfield 34, 3) := by decide +kernel
theorem dX11_init_444 : decode cX11_init 444 = .ok (.iconst 3, 1) := by decide +kernel
theorem dX11_init_445 : decode cX11_init 445 = .ok (.bipush 108, 2) := by decide +kernel
theorem dX11_init_447 : decode cX11_init 447 = .ok (.bipush 101, 2) := by decide +kernel
theorem dX11_init_449 : decode cX11_init 449 = .ok (.bipush 110, 2) := by decide +kernel
theorem dX11_init_451 : decode cX11_init 451 = .ok (.bipush 103, 2) := by decide +kernel
theorem dX11_init_453 : decode cX11_init 453 = .ok (.bipush 116, 2) := by decide +kernel
theorem dX11_init_455 : decode cX11_init 455 = .ok (.bipush 104, 2) := by decide +kernel
theorem dX11_init_457 : decode cX11_init 457 = .ok (.iconst 0, 1) := by decide +kernel
theorem dX11_init_458 : decode cX11_init 458 = .ok (.invokestatic 156, 3) := by decide +kernel
theorem dX11_init_461 : decode cX11_init 461 = .ok (.lastore, 1) := by decide +kernel
theorem dX11_init_462 : decode cX11_init 462 = .ok (.aload_n 0, 1) := by decide +kernel
theorem dX11_init_463 : decode cX11_init 463 = .ok (.getfield 34, 3) := by decide +kernel
theorem dX11_init_466 : decode cX11_init 466 = .ok (.iconst 4, 1) := by decide +kernel
theorem dX11_init_467 : decode cX11_init 467 = .ok (.bipush 115, 2) := by decide +kernel
theorem dX11_init_469 : decode cX11_init 469 = .ok (.bipush 97, 2) := by decide +kernel
theorem dX11_init_471 : decode cX11_init 471 = .ok (.bipush 121, 2) := by decide +kernel
theorem dX11_init_473 : decode cX11_init 473 = .ok (.bipush 115, 2) := by decide +kernel
theorem dX11_init_475 : decode cX11_init 475 = .ok (.iconst 0, 1) := by decide +kernel
theorem dX11_init_476 : decode cX11_init 476 = .ok (.iconst 0, 1) := by decide +kernel
theorem dX11_init_477 : decode cX11_init 477 = .ok (.iconst 0, 1) := by decide +kernel
theorem dX11_init_478 : decode cX11_init 478 = .ok (.invokestatic 156, 3) := by decide +kernel
theorem dX11_init_481 : decode cX11_init 481 = .ok (.lastore, 1) := by decide +kernel
theorem dX11_init_482 : decode cX11_init 482 = .ok (.aload_n 0, 1) := by decide +kernel
theorem dX11_init_483 : decode cX11_init 483 = .ok (.getfield 34, 3) := by decide +kernel
theorem dX11_init_486 : decode cX11_init 486 = .ok (.iconst 5, 1) := by decide +kernel
theorem dX11_init_487 : decode cX11_init 487 = .ok (.bipush 98, 2) := by decide +kernel
theorem dX11_init_489 : decode cX11_init 489 = .ok (.bipush 101, 2) := by decide +kernel
theorem dX11_init_491 : decode cX11_init 491 = .ok (.bipush 110, 2) := by decide +kernel
theorem dX11_init_493 : decode cX11_init 493 = .ok (.bipush 100, 2) := by decide +kernel
theorem dX11_init_495 : decode cX11_init 495 = .ok (.bipush 115, 2) := by decide +kernel
theorem dX11_init_497 : decode cX11_init 497 = .ok (.iconst 0, 1) := by decide +kernel
theorem dX11_init_498 : decode cX11_init 498 = .ok (.iconst 0, 1) := by decide +kernel
theorem dX11_init_499 : decode cX11_init 499 = .ok (.invokestatic 156, 3) := by decide +kernel
theorem dX11_init_502 : decode cX11_init 502 = .ok (.lastore, 1) := by decide +kernel
theorem dX11_init_503 : decode cX11_init 503 = .ok (.aload_n 0, 1) := by decide +kernel
theorem dX11_init_504 : decode cX11_init 504 = .ok (.getfield 34, 3) := by decide +kernel
theorem dX11_init_507 : decode cX11_init 507 = .ok (.bipush 6, 2) := by decide +kernel
theorem dX11_init_509 : decode cX11_init 509 = .ok (.bipush 100, 2) := by decide +kernel
theorem dX11_init_511 : decode cX11_init 511 = .ok (.bipush 114, 2) := by decide +kernel
theorem dX11_init_513 : decode cX11_init 513 = .ok (.bipush 111, 2) := by decide +kernel
theorem dX11_init_515 : decode cX11_init 515 = .ok (.bipush 112, 2) := by decide +kernel
theorem dX11_init_517 : decode cX11_init 517 = .ok (.bipush 115, 2) := by decide +kernel
theorem dX11_init_519 : decode cX11_init 519 = .ok (.iconst 0, 1) := by decide +kernel
theorem dX11_init_520 : decode cX11_init 520 = .ok (.iconst 0, 1) := by decide +kernel
theorem dX11_init_521 : decode cX11_init 521 = .ok (.invokestatic 156, 3) := by decide +kernel
theorem dX11_init_524 : decode cX11_init 524 = .ok (.lastore, 1) := by decide +kernel
theorem dX11_init_525 : decode cX11_init 525 = .ok (.aload_n 0, 1) := by decide +kernel
theorem dX11_init_526 : decode cX11_init 526 = .ok (.getfield 34, 3) := by decide +kernel
theorem dX11_init_529 : decode cX11_init 529 = .ok (.bipush 7, 2) := by decide +kernel
theorem dX11_init_531 : decode cX11_init 531 = .ok (.bipush 116, 2) := by decide +kernel
theorem dX11_init_533 : decode cX11_init 533 = .ok (.bipush 97, 2) := by decide +kernel
theorem dX11_init_535 : decode cX11_init 535 = .ok (.bipush 107, 2) := by decide +kernel
theorem dX11_init_537 : decode cX11_init 537 = .ok (.bipush 101, 2) := by decide +kernel
theorem dX11_init_539 : decode cX11_init 539 = .ok (.bipush 115, 2) := by decide +kernel
theorem dX11_init_541 : decode cX11_init 541 = .ok (.iconst 0, 1) := by decide +kernel
theorem dX11_init_542 : decode cX11_init 542 = .ok (.iconst 0, 1) := by decide +kernel
theorem dX11_init_543 : decode cX11_init 543 = .ok (.invokestatic 156, 3) := by decide +kernel
theorem dX11_init_546 : decode cX11_init 546 = .ok (.lastore, 1) := by decide +kernel
theorem dX11_init_547 : decode cX11_init 547 = .ok (.aload_n 0, 1) := by decide +kernel
theorem dX11_init_548 : decode cX11_init 548 = .ok (.getfield 34, 3) := by decide +kernel
theorem dX11_init_551 : decode cX11_init 551 = .ok (.bipush 8, 2) := by decide +kernel
theorem dX11_init_553 : decode cX11_init 553 = .ok (.bipush 108, 2) := by decide +kernel
theorem dX11_init_555 : decode cX11_init 555 = .ok (.bipush 111, 2) := by decide +kernel
theorem dX11_init_557 : decode cX11_init 557 = .ok (.bipush 118, 2) := by decide +kernel
theorem dX11_init_559 : decode cX11_init 559 = .ok (.bipush 101, 2) := by decide +kernel
theorem dX11_init_561 : decode cX11_init 561 = .ok (.bipush 115, 2) := by decide +kernel
theorem dX11_init_563 : decode cX11_init 563 = .ok (.iconst 0, 1) := by decide +kernel
theorem dX11_init_564 : decode cX11_init 564 = .ok (.iconst 0, 1) := by decide +kernel
theorem dX11_init_565 : decode cX11_init 565 = .ok (.invokestatic 156, 3) := by decide +kernel
theorem dX11_init_568 : decode cX11_init 568 = .ok (.lastore, 1) := by decide +kernel
theorem dX11_init_569 : decode cX11_init 569 = .ok (.aload_n 0, 1) := by decide +kernel
theorem dX11_init_570 : decode cX11_init 570 = .ok (.getfield 34, 3) := by decide +kernel
theorem dX11_init_573 : decode cX11_init 573 = .ok (.bipush 9, 2) := by decide +kernel
theorem dX11_init_575 : decode cX11_init 575 = .ok (.bipush 100, 2) := by decide +kernel
theorem dX11_init_577 : decode cX11_init 577 = .ok (.bipush 97, 2) := by decide +kernel
theorem dX11_init_579 : decode cX11_init 579 = .ok (.bipush 114, 2) := by decide +kernel
theorem dX11_init_581 : decode cX11_init 581 = .ok (.bipush 101, 2) := by decide +kernel
theorem dX11_init_583 : decode cX11_init 583 = .ok (.bipush 115, 2) := by decide +kernel
theorem dX11_init_585 : decode cX11_init 585 = .ok (.iconst 0, 1) := by decide +kernel
theorem dX11_init_586 : decode cX11_init 586 = .ok (.iconst 0, 1) := by decide +kernel
theorem dX11_init_587 : decode cX11_init 587 = .ok (.invokestatic 156, 3) := by decide +kernel
theorem dX11_init_590 : decode cX11_init 590 = .ok (.lastore, 1) := by decide +kernel
theorem dX11_init_591 : decode cX11_init 591 = .ok (.aload_n 0, 1) := by decide +kernel
theorem dX11_init_592 : decode cX11_init 592 = .ok (.getfield 34, 3) := by decide +kernel
theorem dX11_init_595 : decode cX11_init 595 = .ok (.bipush 10, 2) := by decide +kernel
theorem dX11_init_597 : decode cX11_init 597 = .ok (.bipush 102, 2) := by decide +kernel
theorem dX11_init_599 : decode cX11_init 599 = .ok (.bipush 105, 2) := by decide +kernel
theorem dX11_init_601 : decode cX11_init 601 = .ok (.bipush 110, 2) := by decide +kernel
theorem dX11_init_603 : decode cX11_init 603 = .ok (.bipush 101, 2) := by decide +kernel
theorem dX11_init_605 : decode cX11_init 605 = .ok (.iconst 0, 1) := by decide +kernel
theorem dX11_init_606 : decode cX11_init 606 = .ok (.iconst 0, 1) := by decide +kernel
theorem dX11_init_607 : decode cX11_init 607 = .ok (.iconst 0, 1) := by decide +kernel
theorem dX11_init_608 : decode cX11_init 608 = .ok (.invokestatic 156, 3) := by decide +kernel
theorem dX11_init_611 : decode cX11_init 611 = .ok (.lastore, 1) := by decide +kernel
theorem dX11_init_612 : decode cX11_init 612 = .ok (.aload_n 0, 1) := by decide +kernel
theorem dX11_init_613 : decode cX11_init 613 = .ok (.getfield 34, 3) := by decide +kernel
theorem dX11_init_616 : decode cX11_init 616 = .ok (.bipush 11, 2) := by decide +kernel
theorem dX11_init_618 : decode cX11_init 618 = .ok (.bipush 115, 2) := by decide +kernel
theorem dX11_init_620 : decode cX11_init 620 = .ok (.bipush 101, 2) := by decide +kernel
theorem dX11_init_622 : decode cX11_init 622 = .ok (.bipush 101, 2) := by decide +kernel
theorem dX11_init_624 : decode cX11_init 624 = .ok (.bipush 100, 2) := by decide +kernel
theorem dX11_init_626 : decode cX11_init 626 = .ok (.iconst 0, 1) := by decide +kernel
theorem dX11_init_627 : decode cX11_init 627 = .ok (.iconst 0, 1) := by decide +kernel
theorem dX11_init_628 : decode cX11_init 628 = .ok (.iconst 0, 1) := by decide +kernel
theorem dX11_init_629 : decode cX11_init 629 = .ok (.invokestatic 156, 3) := by decide +kernel
theorem dX11_init_632 : decode cX11_init 632 = .ok (.lastore, 1) := by decide +kernel
theorem dX11_init_633 : decode cX11_init 633 = .ok (.aload_n 0, 1) := by decide +kernel
theorem dX11_init_634 : decode cX11_init 634 = .ok (.getfield 34, 3) := by decide +kernel
theorem dX11_init_637 : decode cX11_init 637 = .ok (.bipush 12, 2) := by decide +kernel
theorem dX11_init_639 : decode cX11_init 639 = .ok (.bipush 105, 2) := by decide +kernel
theorem dX11_init_641 : decode cX11_init 641 = .ok (.bipush 102, 2) := by decide +kernel
theorem dX11_init_643 : decode cX11_init 643 = .ok (.iconst 0, 1) := by decide +kernel
theorem dX11_init_644 : decode cX11_init 644 = .ok (.iconst 0, 1) := by decide +kernel
theorem dX11_init_645 : decode cX11_init 645 = .ok (.iconst 0, 1) := by decide +kernel
theorem dX11_init_646 : decode cX11_init 646 = .ok (.iconst 0, 1) := by decide +kernel
theorem dX11_init_647 : decode cX11_init 647 = .ok (.iconst 0, 1) := by decide +kernel
theorem dX11_init_648 : decode cX11_init 648 = .ok (.invokestatic 156, 3) := by decide +kernel
theorem dX11_init_651 : decode cX11_init 651 = .ok (.lastore, 1) := by decide +kernel
theorem dX11_init_652 : decode cX11_init 652 = .ok (.aload_n 0, 1) := by decide +kernel
theorem dX11_init_653 : decode cX11_init 653 = .ok (.getfield 34, 3) := by decide +kernel
theorem dX11_init_656 : decode cX11_init 656 = .ok (.bipush 13, 2) := by decide +kernel
theorem dX11_init_658 : decode cX11_init 658 = .ok (.bipush 116, 2) := by decide +kernel
theorem dX11_init_660 : decode cX11_init 660 = .ok (.bipush 104, 2) := by decide +kernel
theorem dX11_init_662 : decode cX11_init 662 = .ok (.bipush 101, 2) := by decide +kernel
theorem dX11_init_664 : decode cX11_init 664 = .ok (.bipush 110, 2) := by decide +kernel
theorem dX11_init_666 : decode cX11_init 666 = .ok (.iconst 0, 1) := by decide +kernel
theorem dX11_init_667 : decode cX11_init 667 = .ok (.iconst 0, 1) := by decide +kernel
theorem dX11_init_668 : decode cX11_init 668 = .ok (.iconst 0, 1) := by decide +kernel
theorem dX11_init_669 : decode cX11_init 669 = .ok (.invokestatic 156, 3) := by decide +kernel
theorem dX11_init_672 : decode cX11_init 672 = .ok (.lastore, 1) := by decide +kernel
theorem dX11_init_673 : decode cX11_init 673 = .ok (.aload_n 0, 1) := by decide +kernel
theorem dX11_init_674 : decode cX11_init 674 = .ok (.getfield 34, 3) := by decide +kernel
theorem dX11_init_677 : decode cX11_init 677 = .ok (.bipush 14, 2) := by decide +kernel
theorem dX11_init_679 : decode cX11_init 679 = .ok (.bipush 101, 2) := by decide +kernel
theorem dX11_init_681 : decode cX11_init 681 = .ok (.bipush 108, 2) := by decide +kernel
theorem dX11_init_683 : decode cX11_init 683 = .ok (.bipush 115, 2) := by decide +kernel
theorem dX11_init_685 : decode cX11_init 685 = .ok (.bipush 101, 2) := by decide +kernel
theorem dX11_init_687 : decode cX11_init 687 = .ok (.iconst 0, 1) := by decide +kernel
theorem dX11_init_688 : decode cX11_init 688 = .ok (.iconst 0, 1) := by decide +kernel
theorem dX11_init_689 : decode cX11_init 689 = .ok (.iconst 0, 1) := by decide +kernel
theorem dX11_init_690 : decode cX11_init 690 = .ok (.invokestatic 156, 3) := by decide +kernel
theorem dX11_init_693 : decode cX11_init 693 = .ok (.lastore, 1) := by decide +kernel
theorem dX11_init_694 : decode cX11_init 694 = .ok (.aload_n 0, 1) := by decide +kernel
theorem dX11_init_695 : decode cX11_init 695 = .ok (.getfield 34, 3) := by decide +kernel
theorem dX11_init_698 : decode cX11_init 698 = .ok (.bipush 15, 2) := by decide +kernel
theorem dX11_init_700 : decode cX11_init 700 = .ok (.bipush 119, 2) := by decide +kernel
theorem dX11_init_702 : decode cX11_init 702 = .ok (.bipush 111, 2) := by decide +kernel
theorem dX11_init_704 : decode cX11_init 704 = .ok (.bipush 114, 2) := by decide +kernel
theorem dX11_init_706 : decode cX11_init 706 = .ok (.bipush 100, 2) := by decide +kernel
theorem dX11_init_708 : decode cX11_init 708 = .ok (.iconst 0, 1) := by decide +kernel
theorem dX11_init_709 : decode cX11_init 709 = .ok (.iconst 0, 1) := by decide +kernel
theorem dX11_init_710 : decode cX11_init 710 = .ok (.iconst 0, 1) := by decide +kernel
theorem dX11_init_711 : decode cX11_init 711 = .ok (.invokestatic 156, 3) := by decide +kernel
theorem dX11_init_714 : decode cX11_init 714 = .ok (.lastore, 1) := by decide +kernel
theorem dX11_init_715 : decode cX11_init 715 = .ok (.aload_n 0, 1) := by decide +kernel
theorem dX11_init_716 : decode cX11_init 716 = .ok (.getfield 34, 3) := by decide +kernel
theorem dX11_init_719 : decode cX11_init 719 = .ok (.bipush 16, 2) := by decide +kernel
theorem dX11_init_721 : decode cX11_init 721 = .ok (.bipush 112, 2) := by decide +kernel
theorem dX11_init_723 : decode cX11_init 723 = .ok (.bipush 108, 2) := by decide +kernel
theorem dX11_init_725 : decode cX11_init 725 = .ok (.bipush 97, 2) := by decide +kernel
theorem dX11_init_727 : decode cX11_init 727 = .ok (.bipush 99, 2) := by decide +kernel
theorem dX11_init_729 : decode cX11_init 729 = .ok (.bipush 101, 2) := by decide +kernel
theorem dX11_init_731 : decode cX11_init 731 = .ok (.iconst 0, 1) := by decide +kernel
theorem dX11_init_732 : decode cX11_init 732 = .ok (.iconst 0, 1) := by decide +kernel
theorem dX11_init_733 : decode cX11_init 733 = .ok (.invokestatic 156, 3) := by decide +kernel
theorem dX11_init_736 : decode cX11_init 736 = .ok (.lastore, 1) := by decide +kernel
theorem dX11_init_737 : decode cX11_init 737 = .ok (.aload_n 0, 1) := by decide +kernel
theorem dX11_init_738 : decode cX11_init 738 = .ok (.getfield 34, 3) := by decide +kernel
theorem dX11_init_741 : decode cX11_init 741 = .ok (.bipush 17, 2) := by decide +kernel
theorem dX11_init_743 : decode cX11_init 743 = .ok (.bipush 109, 2) := by decide +kernel
theorem dX11_init_745 : decode cX11_init 745 = .ok (.bipush 111, 2) := by decide +kernel
theorem dX11_init_747 : decode cX11_init 747 = .ok (.bipush 111, 2) := by decide +kernel
theorem dX11_init_749 : decode cX11_init 749 = .ok (.bipush 100, 2) := by decide +kernel
theorem dX11_init_751 : decode cX11_init 751 = .ok (.iconst 0, 1) := by decide +kernel
theorem dX11_init_752 : decode cX11_init 752 = .ok (.iconst 0, 1) := by decide +kernel
theorem dX11_init_753 : decode cX11_init 753 = .ok (.iconst 0, 1) := by decide +kernel
theorem dX11_init_754 : decode cX11_init 754 = .ok (.invokestatic 156, 3) := by decide +kernel
theorem dX11_init_757 : decode cX11_init 757 = .ok (.lastore, 1) := by decide +kernel
theorem dX11_init_758 : decode cX11_init 758 = .ok (.aload_n 0, 1) := by decide +kernel
theorem dX11_init_759 : decode cX11_init 759 = .ok (.getfield 34, 3) := by decide +kernel
theorem dX11_init_762 : decode cX11_init 762 = .ok (.bipush 18, 2) := by decide +kernel
theorem dX11_init_764 : decode cX11_init 764 = .ok (.bipush 116, 2) := by decide +kernel
theorem dX11_init_766 : decode cX11_init 766 = .ok (.bipush 105, 2) := by decide +kernel
theorem dX11_init_768 : decode cX11_init 768 = .ok (.bipush 114, 2) := by decide +kernel
theorem dX11_init_770 : decode cX11_init 770 = .ok (.bipush 101, 2) := by decide +kernel
theorem dX11_init_772 : decode cX11_init 772 = .ok (.bipush 100, 2) := by decide +kernel
theorem dX11_init_774 : decode cX11_init 774 = .ok (.iconst 0, 1) := by decide +kernel
theorem dX11_init_775 : decode cX11_init 775 = .ok (.iconst 0, 1) := by decide +kernel
theorem dX11_init_776 : decode cX11_init 776 = .ok (.invokestatic 156, 3) := by decide +kernel
theorem dX11_init_779 : decode cX11_init 779 = .ok (.lastore, 1) := by decide +kernel
theorem dX11_init_780 : decode cX11_init 780 = .ok (.aload_n 0, 1) := by decide +kernel
theorem dX11_init_781 : decode cX11_init 781 = .ok (.getfield 34, 3) := by decide +kernel
theorem dX11_init_784 : decode cX11_init 784 = .ok (.bipush 19, 2) := by decide +kernel
theorem dX11_init_786 : decode cX11_init 786 = .ok (.bipush 108, 2) := by decide +kernel
theorem dX11_init_788 : decode cX11_init 788 = .ok (.bipush 111, 2) := by decide +kernel
theorem dX11_init_790 : decode cX11_init 790 = .ok (.bipush 118, 2) := by decide +kernel
theorem dX11_init_792 : decode cX11_init 792 = .ok (.bipush 101, 2) := by decide +kernel
theorem dX11_init_794 : decode cX11_init 794 = .ok (.iconst 0, 1) := by decide +kernel
theorem dX11_init_795 : decode cX11_init 795 = .ok (.iconst 0, 1) := by decide +kernel
theorem dX11_init_796 : decode cX11_init 796 = .ok (.iconst 0, 1) := by decide +kernel
theorem dX11_init_797 : decode cX11_init 797 = .ok (.invokestatic 156, 3) := by decide +kernel
theorem dX11_init_800 : decode cX11_init 800 = .ok (.lastore, 1) := by decide +kernel
theorem dX11_init_801 : decode cX11_init 801 = .ok (.aload_n 0, 1) := by decide +kernel
theorem dX11_init_802 : decode cX11_init 802 = .ok (.getfield 34, 3) := by decide +kernel
theorem dX11_init_805 : decode cX11_init 805 = .ok (.bipush 20, 2) := by decide +kernel
theorem dX11_init_807 : decode cX11_init 807 = .ok (.bipush 119, 2) := by decide +kernel
theorem dX11_init_809 : decode cX11_init 809 = .ok (.bipush 104, 2) := by decide +kernel
theorem dX11_init_811 : decode cX11_init 811 = .ok (.bipush 105, 2) := by decide +kernel
theorem dX11_init_813 : decode cX11_init 813 = .ok (.bipush 99, 2) := by decide +kernel
theorem dX11_init_815 : decode cX11_init 815 = .ok (.bipush 104, 2) := by decide +kernel
theorem dX11_init_817 : decode cX11_init 817 = .ok (.iconst 0, 1) := by decide +kernel
theorem dX11_init_818 : decode cX11_init 818 = .ok (.iconst 0, 1) := by decide +kernel
theorem dX11_init_819 : decode cX11_init 819 = .ok (.invokestatic 156, 3) := by decide +kernel
theorem dX11_init_822 : decode cX11_init 822 = .ok (.lastore, 1) := by decide +kernel
theorem dX11_init_823 : decode cX11_init 823 = .ok (.aload_n 0, 1) := by decide +kernel
theorem dX11_init_824 : decode cX11_init 824 = .ok (.getfield 34, 3) := by decide +kernel
theorem dX11_init_827 : decode cX11_init 827 = .ok (.bipush 21, 2) := by decide +kernel
theorem dX11_init_829 : decode cX11_init 829 = .ok (.bipush 119, 2) := by decide +kernel
theorem dX11_init_831 : decode cX11_init 831 = .ok (.bipush 101, 2) := by decide +kernel
theorem dX11_init_833 : decode cX11_init 833 = .ok (.bipush 101, 2) := by decide +kernel
theorem dX11_init_835 : decode cX11_init 835 = .ok (.bipush 107, 2) := by decide +kernel
theorem dX11_init_837 : decode cX11_init 837 = .ok (.iconst 0, 1) := by decide +kernel
theorem dX11_init_838 : decode cX11_init 838 = .ok (.iconst 0, 1) := by decide +kernel
theorem dX11_init_839 : decode cX11_init 839 = .ok (.iconst 0, 1) := by decide +kernel
theorem dX11_init_840 : decode cX11_init 840 = .ok (.invokestatic 156, 3) := by decide +kernel
theorem dX11_init_843 : decode cX11_init 843 = .ok (.lastore, 1) := by decide +kernel
theorem dX11_init_844 : decode cX11_init 844 = .ok (.aload_n 0, 1) := by decide +kernel
theorem dX11_init_845 : decode cX11_init 845 = .ok (.getfield 34, 3) := by decide +kernel
theorem dX11_init_848 : decode cX11_init 848 = .ok (.bipush 22, 2) := by decide +kernel
theorem dX11_init_850 : decode cX11_init 850 = .ok (.bipush 112, 2) := by decide +kernel
theorem dX11_init_852 : decode cX11_init 852 = .ok (.bipush 114, 2) := by decide +kernel
theorem dX11_init_854 : decode cX11_init 854 = .ok (.bipush 105, 2) := by decide +kernel
theorem dX11_init_856 : decode cX11_init 856 = .ok (.bipush 99, 2) := by decide +kernel
theorem dX11_init_858 : decode cX11_init 858 = .ok (.bipush 101, 2) := by decide +kernel
theorem dX11_init_860 : decode cX11_init 860 = .ok (.iconst 0, 1) := by decide +kernel
theorem dX11_init_861 : decode cX11_init 861 = .ok (.iconst 0, 1) := by decide +kernel
theorem dX11_init_862 : decode cX11_init 862 = .ok (.invokestatic 156, 3) := by decide +kernel
theorem dX11_init_865 : decode cX11_init 865 = .ok (.lastore, 1) := by decide +kernel
theorem dX11_init_866 : decode cX11_init 866 = .ok (.aload_n 0, 1) := by decide +kernel
theorem dX11_init_867 : decode cX11_init 867 = .ok (.getfield 34, 3) := by decide +kernel
theorem dX11_init_870 : decode cX11_init 870 = .ok (.bipush 23, 2) := by decide +kernel
theorem dX11_init_872 : decode cX11_init 872 = .ok (.bipush 102, 2) := by decide +kernel
theorem dX11_init_874 : decode cX11_init 874 = .ok (.bipush 105, 2) := by decide +kernel
theorem dX11_init_876 : decode cX11_init 876 = .ok (.bipush 110, 2) := by decide +kernel
theorem dX11_init_878 : decode cX11_init 878 = .ok (.bipush 101, 2) := by decide +kernel
theorem dX11_init_880 : decode cX11_init 880 = .ok (.bipush 115, 2) := by decide +kernel
theorem dX11_init_882 : decode cX11_init 882 = .ok (.iconst 0, 1) := by decide +kernel
theorem dX11_init_883 : decode cX11_init 883 = .ok (.iconst 0, 1) := by decide +kernel
theorem dX11_init_884 : decode cX11_init 884 = .ok (.invokestatic 156, 3) := by decide +kernel
theorem dX11_init_887 : decode cX11_init 887 = .ok (.lastore, 1) := by decide +kernel
theorem dX11_init_888 : decode cX11_init 888 = .ok (.aload_n 0, 1) := by decide +kernel
theorem dX11_init_889 : decode cX11_init 889 = .ok (.invokevirtual 160, 3) := by decide +kernel
theorem dX11_init_892 : decode cX11_init 892 = .ok (.aload_n 0, 1) := by decide +kernel
theorem dX11_init_893 : decode cX11_init 893 = .ok (.invokevirtual 163, 3) := by decide +kernel
theorem dX11_init_896 : decode cX11_init 896 = .ok (.return_, 1) := by decide +kernel
theorem dX11_feed_0 : decode cX11_feed 0 = .ok (.aload_n 0, 1) := by decide +kernel
theorem dX11_feed_1 : decode cX11_feed 1 = .ok (.getfield 166, 3) := by decide +kernel
theorem dX11_feed_4 : decode cX11_feed 4 = .ok (.bipush 20, 2) := by decide +kernel
theorem dX11_feed_6 : decode cX11_feed 6 = .ok (.iadd, 1) := by decide +kernel
theorem dX11_feed_7 : decode cX11_feed 7 = .ok (.sipush 2000, 3) := by decide +kernel
theorem dX11_feed_10 : decode cX11_feed 10 = .ok (.if_icmp .le 5, 3) := by decide +kernel
theorem dX11_feed_13 : decode cX11_feed 13 = .ok (.iconst (-1), 1) := by decide +kernel
theorem dX11_feed_14 : decode cX11_feed 14 = .ok (.ireturn, 1) := by decide +kernel
theorem dX11_feed_15 : decode cX11_feed 15 = .ok (.aload_n 0, 1) := by decide +kernel
theorem dX11_feed_16 : decode cX11_feed 16 = .ok (.iload_n 1, 1) := by decide +kernel
theorem dX11_feed_17 : decode cX11_feed 17 = .ok (.invokevirtual 169, 3) := by decide +kernel
theorem dX11_feed_20 : decode cX11_feed 20 = .ok (.aload_n 0, 1) := by decide +kernel
theorem dX11_feed_21 : decode cX11_feed 21 = .ok (.iload_n 2, 1) := by decide +kernel
theorem dX11_feed_22 : decode cX11_feed 22 = .ok (.invokevirtual 169, 3) := by decide +kernel
theorem dX11_feed_25 : decode cX11_feed 25 = .ok (.aload_n 0, 1) := by decide +kernel
theorem dX11_feed_26 : decode cX11_feed 26 = .ok (.iload_n 3, 1) := by decide +kernel
theorem dX11_feed_27 : decode cX11_feed 27 = .ok (.invokevirtual 169, 3) := by decide +kernel
theorem dX11_feed_30 : decode cX11_feed 30 = .ok (.aload_n 0, 1) := by decide +kernel
theorem dX11_feed_31 : decode cX11_feed 31 = .ok (.iload 4, 2) := by decide +kernel
theorem dX11_feed_33 : decode cX11_feed 33 = .ok (.invokevirtual 169, 3) := by decide +kernel
theorem dX11_feed_36 : decode cX11_feed 36 = .ok (.aload_n 0, 1) := by decide +kernel
theorem dX11_feed_37 : decode cX11_feed 37 = .ok (.iload 5, 2) := by decide +kernel
theorem dX11_feed_39 : decode cX11_feed 39 = .ok (.invokevirtual 169, 3) := by decide +kernel
theorem dX11_feed_42 : decode cX11_feed 42 = .ok (.aload_n 0, 1) := by decide +kernel
theorem dX11_feed_43 : decode cX11_feed 43 = .ok (.getfield 166, 3) := by decide +kernel
theorem dX11_feed_46 : decode cX11_feed 46 = .ok (.ireturn, 1) := by decide +kernel
theorem dX11_put_0 : decode cX11_put 0 = .ok (.bipush 24, 2) := by decide +kernel
theorem dX11_put_2 : decode cX11_put 2 = .ok (.istore_n 2, 1) := by decide +kernel
theorem dX11_put_3 : decode cX11_put 3 = .ok (.iload_n 2, 1) := by decide +kernel
theorem dX11_put_4 : decode cX11_put 4 = .ok (.ifCond .lt 32, 3) := by decide +kernel
theorem dX11_put_7 : decode cX11_put 7 = .ok (.aload_n 0, 1) := by decide +kernel
theorem dX11_put_8 : decode cX11_put 8 = .ok (.getfield 13, 3) := by decide +kernel
theorem dX11_put_11 : decode cX11_put 11 = .ok (.aload_n 0, 1) := by decide +kernel
theorem dX11_put_12 : decode cX11_put 12 = .ok (.getfield 166, 3) := by decide +kernel
theorem dX11_put_15 : decode cX11_put 15 = .ok (.iload_n 1, 1) := by decide +kernel
theorem dX11_put_16 : decode cX11_put 16 = .ok (.iload_n 2, 1) := by decide +kernel
theorem dX11_put_17 : decode cX11_put 17 = .ok (.ishr, 1) := by decide +kernel
theorem dX11_put_18 : decode cX11_put 18 = .ok (.i2b, 1) := by decide +kernel
theorem dX11_put_19 : decode cX11_put 19 = .ok (.bastore, 1) := by decide +kernel
theorem dX11_put_20 : decode cX11_put 20 = .ok (.aload_n 0, 1) := by decide +kernel
theorem dX11_put_21 : decode cX11_put 21 = .ok (.dup, 1) := by decide +kernel
theorem dX11_put_22 : decode cX11_put 22 = .ok (.getfield 166, 3) := by decide +kernel
theorem dX11_put_25 : decode cX11_put 25 = .ok (.iconst 1, 1) := by decide +kernel
theorem dX11_put_26 : decode cX11_put 26 = .ok (.iadd, 1) := by decide +kernel
theorem dX11_put_27 : decode cX11_put 27 = .ok (.putfield 166, 3) := by decide +kernel
theorem dX11_put_30 : decode cX11_put 30 = .ok (.iinc 2 (-8), 3) := by decide +kernel
theorem dX11_put_33 : decode cX11_put 33 = .ok (.goto (-30), 3) := by decide +kernel
theorem dX11_put_36 : decode cX11_put 36 = .ok (.return_, 1) := by decide +kernel
theorem dX11_back_0 : decode cX11_back 0 = .ok (.iload_n 1, 1) := by decide +kernel
theorem dX11_back_1 : decode cX11_back 1 = .ok (.ifCond .lt 11, 3) := by decide +kernel
theorem dX11_back_4 : decode cX11_back 4 = .ok (.iload_n 1, 1) := by decide +kernel
theorem dX11_back_5 : decode cX11_back 5 = .ok (.aload_n 0, 1) := by decide +kernel
theorem dX11_back_6 : decode cX11_back 6 = .ok (.getfield 166, 3) := by decide +kernel
theorem dX11_back_9 : decode cX11_back 9 = .ok (.if_icmp .le 5, 3) := by decide +kernel
theorem dX11_back_12 : decode cX11_back 12 = .ok (.iconst (-1), 1) := by decide +kernel
theorem dX11_back_13 : decode cX11_back 13 = .ok (.ireturn, 1) := by decide +kernel
theorem dX11_back_14 : decode cX11_back 14 = .ok (.aload_n 0, 1) := by decide +kernel
theorem dX11_back_15 : decode cX11_back 15 = .ok (.dup, 1) := by decide +kernel
theorem dX11_back_16 : decode cX11_back 16 = .ok (.getfield 166, 3) := by decide +kernel
theorem dX11_back_19 : decode cX11_back 19 = .ok (.iload_n 1, 1) := by decide +kernel
theorem dX11_back_20 : decode cX11_back 20 = .ok (.isub, 1) := by decide +kernel
theorem dX11_back_21 : decode cX11_back 21 = .ok (.putfield 166, 3) := by decide +kernel
theorem dX11_back_24 : decode cX11_back 24 = .ok (.aload_n 0, 1) := by decide +kernel
theorem dX11_back_25 : decode cX11_back 25 = .ok (.getfield 166, 3) := by decide +kernel
theorem dX11_back_28 : decode cX11_back 28 = .ok (.ireturn, 1) := by decide +kernel
theorem dX11_byteAt_0 : decode cX11_byteAt 0 = .ok (.iload_n 1, 1) := by decide +kernel
theorem dX11_byteAt_1 : decode cX11_byteAt 1 = .ok (.aload_n 0, 1) := by decide +kernel
theorem dX11_byteAt_2 : decode cX11_byteAt 2 = .ok (.getfield 172, 3) := by decide +kernel
theorem dX11_byteAt_5 : decode cX11_byteAt 5 = .ok (.if_icmp .ge 16, 3) := by decide +kernel
theorem dX11_byteAt_8 : decode cX11_byteAt 8 = .ok (.aload_n 0, 1) := by decide +kernel
theorem dX11_byteAt_9 : decode cX11_byteAt 9 = .ok (.getfield 17, 3) := by decide +kernel
theorem dX11_byteAt_12 : decode cX11_byteAt 12 = .ok (.iload_n 1, 1) := by decide +kernel
theorem dX11_byteAt_13 : decode cX11_byteAt 13 = .ok (.baload, 1) := by decide +kernel
theorem dX11_byteAt_14 : decode cX11_byteAt 14 = .ok (.sipush 255, 3) := by decide +kernel
theorem dX11_byteAt_17 : decode cX11_byteAt 17 = .ok (.iand, 1) := by decide +kernel
theorem dX11_byteAt_18 : decode cX11_byteAt 18 = .ok (.goto 4, 3) := by decide +kernel
theorem dX11_byteAt_21 : decode cX11_byteAt 21 = .ok (.iconst 0, 1) := by decide +kernel
theorem dX11_byteAt_22 : decode cX11_byteAt 22 = .ok (.ireturn, 1) := by decide +kernel
theorem dX11_isDigit_0 : decode cX11_isDigit 0 = .ok (.iload_n 0, 1) := by decide +kernel
theorem dX11_isDigit_1 : decode cX11_isDigit 1 = .ok (.bipush 48, 2) := by decide +kernel
theorem dX11_isDigit_3 : decode cX11_isDigit 3 = .ok (.if_icmp .lt 13, 3) := by decide +kernel
theorem dX11_isDigit_6 : decode cX11_isDigit 6 = .ok (.iload_n 0, 1) := by decide +kernel
theorem dX11_isDigit_7 : decode cX11_isDigit 7 = .ok (.bipush 57, 2) := by decide +kernel
theorem dX11_isDigit_9 : decode cX11_isDigit 9 = .ok (.if_icmp .gt 7, 3) := by decide +kernel
theorem dX11_isDigit_12 : decode cX11_isDigit 12 = .ok (.iconst 1, 1) := by decide +kernel
theorem dX11_isDigit_13 : decode cX11_isDigit 13 = .ok (.goto 4, 3) := by decide +kernel
theorem dX11_isDigit_16 : decode cX11_isDigit 16 = .ok (.iconst 0, 1) := by decide +kernel
theorem dX11_isDigit_17 : decode cX11_isDigit 17 = .ok (.ireturn, 1) := by decide +kernel
theorem dX11_isLetter_0 : decode cX11_isLetter 0 = .ok (.iload_n 0, 1) := by decide +kernel
theorem dX11_isLetter_1 : decode cX11_isLetter 1 = .ok (.bipush 97, 2) := by decide +kernel
theorem dX11_isLetter_3 : decode cX11_isLetter 3 = .ok (.if_icmp .lt 13, 3) := by decide +kernel
theorem dX11_isLetter_6 : decode cX11_isLetter 6 = .ok (.iload_n 0, 1) := by decide +kernel
theorem dX11_isLetter_7 : decode cX11_isLetter 7 = .ok (.bipush 122, 2) := by decide +kernel
theorem dX11_isLetter_9 : decode cX11_isLetter 9 = .ok (.if_icmp .gt 7, 3) := by decide +kernel
theorem dX11_isLetter_12 : decode cX11_isLetter 12 = .ok (.iconst 1, 1) := by decide +kernel
theorem dX11_isLetter_13 : decode cX11_isLetter 13 = .ok (.goto 4, 3) := by decide +kernel
theorem dX11_isLetter_16 : decode cX11_isLetter 16 = .ok (.iconst 0, 1) := by decide +kernel
theorem dX11_isLetter_17 : decode cX11_isLetter 17 = .ok (.ireturn, 1) := by decide +kernel
theorem dX11_appends_0 : decode cX11_appends 0 = .ok (.iload_n 2, 1) := by decide +kernel
theorem dX11_appends_1 : decode cX11_appends 1 = .ok (.ifCond .ne 7, 3) := by decide +kernel
theorem dX11_appends_4 : decode cX11_appends 4 = .ok (.lload_n 0, 1) := by decide +kernel
theorem dX11_appends_5 : decode cX11_appends 5 = .ok (.goto 16, 3) := by decide +kernel
theorem dX11_appends_8 : decode cX11_appends 8 = .ok (.ldc2_w 175, 3) := by decide +kernel
theorem dX11_appends_11 : decode cX11_appends 11 = .ok (.lload_n 0, 1) := by decide +kernel
theorem dX11_appends_12 : decode cX11_appends 12 = .ok (.lmul, 1) := by decide +kernel
theorem dX11_appends_13 : decode cX11_appends 13 = .ok (.iload_n 2, 1) := by decide +kernel
theorem dX11_appends_14 : decode cX11_appends 14 = .ok (.bipush 97, 2) := by decide +kernel
theorem dX11_appends_16 : decode cX11_appends 16 = .ok (.isub, 1) := by decide +kernel
theorem dX11_appends_17 : decode cX11_appends 17 = .ok (.iconst 1, 1) := by decide +kernel
theorem dX11_appends_18 : decode cX11_appends 18 = .ok (.iadd, 1) := by decide +kernel
theorem dX11_appends_19 : decode cX11_appends 19 = .ok (.i2l, 1) := by decide +kernel
theorem dX11_appends_20 : decode cX11_appends 20 = .ok (.ladd, 1) := by decide +kernel
theorem dX11_appends_21 : decode cX11_appends 21 = .ok (.lreturn, 1) := by decide +kernel
theorem dX11_word_0 : decode cX11_word 0 = .ok (.lconst 0, 1) := by decide +kernel
theorem dX11_word_1 : decode cX11_word 1 = .ok (.iload_n 0, 1) := by decide +kernel
theorem dX11_word_2 : decode cX11_word 2 = .ok (.invokestatic 177, 3) := by decide +kernel
theorem dX11_word_5 : decode cX11_word 5 = .ok (.iload_n 1, 1) := by decide +kernel
theorem dX11_word_6 : decode cX11_word 6 = .ok (.invokestatic 177, 3) := by decide +kernel
theorem dX11_word_9 : decode cX11_word 9 = .ok (.iload_n 2, 1) := by decide +kernel
theorem dX11_word_10 : decode cX11_word 10 = .ok (.invokestatic 177, 3) := by decide +kernel
theorem dX11_word_13 : decode cX11_word 13 = .ok (.iload_n 3, 1) := by decide +kernel
theorem dX11_word_14 : decode cX11_word 14 = .ok (.invokestatic 177, 3) := by decide +kernel
theorem dX11_word_17 : decode cX11_word 17 = .ok (.iload 4, 2) := by decide +kernel
theorem dX11_word_19 : decode cX11_word 19 = .ok (.invokestatic 177, 3) := by decide +kernel
theorem dX11_word_22 : decode cX11_word 22 = .ok (.iload 5, 2) := by decide +kernel
theorem dX11_word_24 : decode cX11_word 24 = .ok (.invokestatic 177, 3) := by decide +kernel
theorem dX11_word_27 : decode cX11_word 27 = .ok (.iload 6, 2) := by decide +kernel
theorem dX11_word_29 : decode cX11_word 29 = .ok (.invokestatic 177, 3) := by decide +kernel
theorem dX11_word_32 : decode cX11_word 32 = .ok (.lreturn, 1) := by decide +kernel
theorem dX11_token_0 : decode cX11_token 0 = .ok (.aload_n 0, 1) := by decide +kernel
theorem dX11_token_1 : decode cX11_token 1 = .ok (.getfield 20, 3) := by decide +kernel
theorem dX11_token_4 : decode cX11_token 4 = .ok (.aload_n 0, 1) := by decide +kernel
theorem dX11_token_5 : decode cX11_token 5 = .ok (.getfield 181, 3) := by decide +kernel
theorem dX11_token_8 : decode cX11_token 8 = .ok (.iload_n 1, 1) := by decide +kernel
theorem dX11_token_9 : decode cX11_token 9 = .ok (.iastore, 1) := by decide +kernel
theorem dX11_token_10 : decode cX11_token 10 = .ok (.aload_n 0, 1) := by decide +kernel
theorem dX11_token_11 : decode cX11_token 11 = .ok (.getfield 24, 3) := by decide +kernel
theorem dX11_token_14 : decode cX11_token 14 = .ok (.aload_n 0, 1) := by decide +kernel
theorem dX11_token_15 : decode cX11_token 15 = .ok (.getfield 181, 3) := by decide +kernel
theorem dX11_token_18 : decode cX11_token 18 = .ok (.iload_n 2, 1) := by decide +kernel
theorem dX11_token_19 : decode cX11_token 19 = .ok (.iastore, 1) := by decide +kernel
theorem dX11_token_20 : decode cX11_token 20 = .ok (.aload_n 0, 1) := by decide +kernel
theorem dX11_token_21 : decode cX11_token 21 = .ok (.getfield 27, 3) := by decide +kernel
theorem dX11_token_24 : decode cX11_token 24 = .ok (.aload_n 0, 1) := by decide +kernel
theorem dX11_token_25 : decode cX11_token 25 = .ok (.getfield 181, 3) := by decide +kernel
theorem dX11_token_28 : decode cX11_token 28 = .ok (.iload_n 3, 1) := by decide +kernel
theorem dX11_token_29 : decode cX11_token 29 = .ok (.iastore, 1) := by decide +kernel
theorem dX11_token_30 : decode cX11_token 30 = .ok (.aload_n 0, 1) := by decide +kernel
theorem dX11_token_31 : decode cX11_token 31 = .ok (.getfield 30, 3) := by decide +kernel
theorem dX11_token_34 : decode cX11_token 34 = .ok (.aload_n 0, 1) := by decide +kernel
theorem dX11_token_35 : decode cX11_token 35 = .ok (.getfield 181, 3) := by decide +kernel
theorem dX11_token_38 : decode cX11_token 38 = .ok (.lload 4, 2) := by decide +kernel
theorem dX11_token_40 : decode cX11_token 40 = .ok (.lastore, 1) := by decide +kernel
theorem dX11_token_41 : decode cX11_token 41 = .ok (.aload_n 0, 1) := by decide +kernel
theorem dX11_token_42 : decode cX11_token 42 = .ok (.dup, 1) := by decide +kernel
theorem dX11_token_43 : decode cX11_token 43 = .ok (.getfield 181, 3) := by decide +kernel
theorem dX11_token_46 : decode cX11_token 46 = .ok (.iconst 1, 1) := by decide +kernel
theorem dX11_token_47 : decode cX11_token 47 = .ok (.iadd, 1) := by decide +kernel
theorem dX11_token_48 : decode cX11_token 48 = .ok (.putfield 181, 3) := by decide +kernel
theorem dX11_token_51 : decode cX11_token 51 = .ok (.return_, 1) := by decide +kernel
theorem dX11_cut_0 : decode cX11_cut 0 = .ok (.aload_n 0, 1) := by decide +kernel
theorem dX11_cut_1 : decode cX11_cut 1 = .ok (.iconst 0, 1) := by decide +kernel
theorem dX11_cut_2 : decode cX11_cut 2 = .ok (.putfield 181, 3) := by decide +kernel
theorem dX11_cut_5 : decode cX11_cut 5 = .ok (.iconst 0, 1) := by decide +kernel
theorem dX11_cut_6 : decode cX11_cut 6 = .ok (.istore_n 1, 1) := by decide +kernel
theorem dX11_cut_7 : decode cX11_cut 7 = .ok (.aload_n 0, 1) := by decide +kernel
theorem dX11_cut_8 : decode cX11_cut 8 = .ok (.getfield 181, 3) := by decide +kernel
theorem dX11_cut_11 : decode cX11_cut 11 = .ok (.sipush 400, 3) := by decide +kernel
theorem dX11_cut_14 : decode cX11_cut 14 = .ok (.if_icmp .gt 280, 3) := by decide +kernel
theorem dX11_cut_17 : decode cX11_cut 17 = .ok (.aload_n 0, 1) := by decide +kernel
theorem dX11_cut_18 : decode cX11_cut 18 = .ok (.iload_n 1, 1) := by decide +kernel
theorem dX11_cut_19 : decode cX11_cut 19 = .ok (.invokevirtual 184, 3) := by decide +kernel
theorem dX11_cut_22 : decode cX11_cut 22 = .ok (.istore_n 2, 1) := by decide +kernel
theorem dX11_cut_23 : decode cX11_cut 23 = .ok (.iload_n 1, 1) := by decide +kernel
theorem dX11_cut_24 : decode cX11_cut 24 = .ok (.aload_n 0, 1) := by decide +kernel
theorem dX11_cut_25 : decode cX11_cut 25 = .ok (.getfield 172, 3) := by decide +kernel
theorem dX11_cut_28 : decode cX11_cut 28 = .ok (.if_icmp .lt 15, 3) := by decide +kernel
theorem dX11_cut_31 : decode cX11_cut 31 = .ok (.aload_n 0, 1) := by decide +kernel
theorem dX11_cut_32 : decode cX11_cut 32 = .ok (.iconst 0, 1) := by decide +kernel
theorem dX11_cut_33 : decode cX11_cut 33 = .ok (.aload_n 0, 1) := by decide +kernel
theorem dX11_cut_34 : decode cX11_cut 34 = .ok (.getfield 172, 3) := by decide +kernel
theorem dX11_cut_37 : decode cX11_cut 37 = .ok (.iconst 0, 1) := by decide +kernel
theorem dX11_cut_38 : decode cX11_cut 38 = .ok (.lconst 0, 1) := by decide +kernel
theorem dX11_cut_39 : decode cX11_cut 39 = .ok (.invokevirtual 188, 3) := by decide +kernel
theorem dX11_cut_42 : decode cX11_cut 42 = .ok (.return_, 1) := by decide +kernel
theorem dX11_cut_43 : decode cX11_cut 43 = .ok (.iload_n 2, 1) := by decide +kernel
theorem dX11_cut_44 : decode cX11_cut 44 = .ok (.bipush 9, 2) := by decide +kernel
theorem dX11_cut_46 : decode cX11_cut 46 = .ok (.if_icmp .eq 21, 3) := by decide +kernel
theorem dX11_cut_49 : decode cX11_cut 49 = .ok (.iload_n 2, 1) := by decide +kernel
theorem dX11_cut_50 : decode cX11_cut 50 = .ok (.bipush 10, 2) := by decide +kernel
theorem dX11_cut_52 : decode cX11_cut 52 = .ok (.if_icmp .eq 15, 3) := by decide +kernel
theorem dX11_cut_55 : decode cX11_cut 55 = .ok (.iload_n 2, 1) := by decide +kernel
theorem dX11_cut_56 : decode cX11_cut 56 = .ok (.bipush 13, 2) := by decide +kernel
theorem dX11_cut_58 : decode cX11_cut 58 = .ok (.if_icmp .eq 9, 3) := by decide +kernel
theorem dX11_cut_61 : decode cX11_cut 61 = .ok (.iload_n 2, 1) := by decide +kernel
theorem dX11_cut_62 : decode cX11_cut 62 = .ok (.bipush 32, 2) := by decide +kernel
theorem dX11_cut_64 : decode cX11_cut 64 = .ok (.if_icmp .ne 9, 3) := by decide +kernel
theorem dX11_cut_67 : decode cX11_cut 67 = .ok (.iinc 1 1, 3) := by decide +kernel
theorem dX11_cut_70 : decode cX11_cut 70 = .ok (.goto 221, 3) := by decide +kernel
theorem dX11_cut_73 : decode cX11_cut 73 = .ok (.iload_n 2, 1) := by decide +kernel
theorem dX11_cut_74 : decode cX11_cut 74 = .ok (.invokestatic 192, 3) := by decide +kernel
theorem dX11_cut_77 : decode cX11_cut 77 = .ok (.ifCond .eq 119, 3) := by decide +kernel
theorem dX11_cut_80 : decode cX11_cut 80 = .ok (.iconst 0, 1) := by decide +kernel
theorem dX11_cut_81 : decode cX11_cut 81 = .ok (.istore_n 3, 1) := by decide +kernel
theorem dX11_cut_82 : decode cX11_cut 82 = .ok (.lconst 0, 1) := by decide +kernel
theorem dX11_cut_83 : decode cX11_cut 83 = .ok (.lstore 4, 2) := by decide +kernel
theorem dX11_cut_85 : decode cX11_cut 85 = .ok (.aload_n 0, 1) := by decide +kernel
theorem dX11_cut_86 : decode cX11_cut 86 = .ok (.iload_n 1, 1) := by decide +kernel
theorem dX11_cut_87 : decode cX11_cut 87 = .ok (.iload_n 3, 1) := by decide +kernel
theorem dX11_cut_88 : decode cX11_cut 88 = .ok (.iadd, 1) := by decide +kernel
theorem dX11_cut_89 : decode cX11_cut 89 = .ok (.invokevirtual 184, 3) := by decide +kernel
theorem dX11_cut_92 : decode cX11_cut 92 = .ok (.invokestatic 192, 3) := by decide +kernel
theorem dX11_cut_95 : decode cX11_cut 95 = .ok (.ifCond .eq 29, 3) := by decide +kernel
theorem dX11_cut_98 : decode cX11_cut 98 = .ok (.iload_n 3, 1) := by decide +kernel
theorem dX11_cut_99 : decode cX11_cut 99 = .ok (.bipush 8, 2) := by decide +kernel
theorem dX11_cut_101 : decode cX11_cut 101 = .ok (.if_icmp .ge 17, 3) := by decide +kernel
theorem dX11_cut_104 : decode cX11_cut 104 = .ok (.lload 4, 2) := by decide +kernel
theorem dX11_cut_106 : decode cX11_cut 106 = .ok (.aload_n 0, 1) := by decide +kernel
theorem dX11_cut_107 : decode cX11_cut 107 = .ok (.iload_n 1, 1) := by decide +kernel
theorem dX11_cut_108 : decode cX11_cut 108 = .ok (.iload_n 3, 1) := by decide +kernel
theorem dX11_cut_109 : decode cX11_cut 109 = .ok (.iadd, 1) := by decide +kernel
theorem dX11_cut_110 : decode cX11_cut 110 = .ok (.invokevirtual 184, 3) := by decide +kernel
theorem dX11_cut_113 : decode cX11_cut 113 = .ok (.invokestatic 177, 3) := by decide +kernel
theorem dX11_cut_116 : decode cX11_cut 116 = .ok (.lstore 4, 2) := by decide +kernel
theorem dX11_cut_118 : decode cX11_cut 118 = .ok (.iinc 3 1, 3) := by decide +kernel
theorem dX11_cut_121 : decode cX11_cut 121 = .ok (.goto (-36), 3) := by decide +kernel
theorem dX11_cut_124 : decode cX11_cut 124 = .ok (.iload_n 3, 1) := by decide +kernel
theorem dX11_cut_125 : decode cX11_cut 125 = .ok (.bipush 8, 2) := by decide +kernel
theorem dX11_cut_127 : decode cX11_cut 127 = .ok (.if_icmp .le 7, 3) := by decide +kernel
theorem dX11_cut_130 : decode cX11_cut 130 = .ok (.iconst 3, 1) := by decide +kernel
theorem dX11_cut_131 : decode cX11_cut 131 = .ok (.goto 4, 3) := by decide +kernel
theorem dX11_cut_134 : decode cX11_cut 134 = .ok (.iconst 1, 1) := by decide +kernel
theorem dX11_cut_135 : decode cX11_cut 135 = .ok (.istore 6, 2) := by decide +kernel
theorem dX11_cut_137 : decode cX11_cut 137 = .ok (.iload_n 3, 1) := by decide +kernel
theorem dX11_cut_138 : decode cX11_cut 138 = .ok (.bipush 8, 2) := by decide +kernel
theorem dX11_cut_140 : decode cX11_cut 140 = .ok (.if_icmp .gt 39, 3) := by decide +kernel
theorem dX11_cut_143 : decode cX11_cut 143 = .ok (.iconst 0, 1) := by decide +kernel
theorem dX11_cut_144 : decode cX11_cut 144 = .ok (.istore 7, 2) := by decide +kernel
theorem dX11_cut_146 : decode cX11_cut 146 = .ok (.iload 7, 2) := by decide +kernel
theorem dX11_cut_148 : decode cX11_cut 148 = .ok (.bipush 24, 2) := by decide +kernel
theorem dX11_cut_150 : decode cX11_cut 150 = .ok (.if_icmp .ge 29, 3) := by decide +kernel
theorem dX11_cut_153 : decode cX11_cut 153 = .ok (.aload_n 0, 1) := by decide +kernel
theorem dX11_cut_154 : decode cX11_cut 154 = .ok (.getfield 34, 3) := by decide +kernel
theorem dX11_cut_157 : decode cX11_cut 157 = .ok (.iload 7, 2) := by decide +kernel
theorem dX11_cut_159 : decode cX11_cut 159 = .ok (.laload, 1) := by decide +kernel
theorem dX11_cut_160 : decode cX11_cut 160 = .ok (.lload 4, 2) := by decide +kernel
theorem dX11_cut_162 : decode cX11_cut 162 = .ok (.lcmp, 1) := by decide +kernel
theorem dX11_cut_163 : decode cX11_cut 163 = .ok (.ifCond .ne 10, 3) := by decide +kernel
theorem dX11_cut_166 : decode cX11_cut 166 = .ok (.bipush 20, 2) := by decide +kernel
theorem dX11_cut_168 : decode cX11_cut 168 = .ok (.iload 7, 2) := by decide +kernel
theorem dX11_cut_170 : decode cX11_cut 170 = .ok (.iadd, 1) := by decide +kernel
theorem dX11_cut_171 : decode cX11_cut 171 = .ok (.istore 6, 2) := by decide +kernel
theorem dX11_cut_173 : decode cX11_cut 173 = .ok (.iinc 7 1, 3) := by decide +kernel
theorem dX11_cut_176 : decode cX11_cut 176 = .ok (.goto (-30), 3) := by decide +kernel
theorem dX11_cut_179 : decode cX11_cut 179 = .ok (.aload_n 0, 1) := by decide +kernel
theorem dX11_cut_180 : decode cX11_cut 180 = .ok (.iload 6, 2) := by decide +kernel
theorem dX11_cut_182 : decode cX11_cut 182 = .ok (.iload_n 1, 1) := by decide +kernel
theorem dX11_cut_183 : decode cX11_cut 183 = .ok (.iconst 0, 1) := by decide +kernel
theorem dX11_cut_184 : decode cX11_cut 184 = .ok (.lload 4, 2) := by decide +kernel
theorem dX11_cut_186 : decode cX11_cut 186 = .ok (.invokevirtual 188, 3) := by decide +kernel
theorem dX11_cut_189 : decode cX11_cut 189 = .ok (.iload_n 1, 1) := by decide +kernel
theorem dX11_cut_190 : decode cX11_cut 190 = .ok (.iload_n 3, 1) := by decide +kernel
theorem dX11_cut_191 : decode cX11_cut 191 = .ok (.iadd, 1) := by decide +kernel
theorem dX11_cut_192 : decode cX11_cut 192 = .ok (.istore_n 1, 1) := by decide +kernel
theorem dX11_cut_193 : decode cX11_cut 193 = .ok (.goto 98, 3) := by decide +kernel
theorem dX11_cut_196 : decode cX11_cut 196 = .ok (.iload_n 2, 1) := by decide +kernel
theorem dX11_cut_197 : decode cX11_cut 197 = .ok (.invokestatic 196, 3) := by decide +kernel
theorem dX11_cut_200 : decode cX11_cut 200 = .ok (.ifCond .eq 75, 3) := by decide +kernel
theorem dX11_cut_203 : decode cX11_cut 203 = .ok (.iconst 0, 1) := by decide +kernel
theorem dX11_cut_204 : decode cX11_cut 204 = .ok (.istore_n 3, 1) := by decide +kernel
theorem dX11_cut_205 : decode cX11_cut 205 = .ok (.iconst 0, 1) := by decide +kernel
theorem dX11_cut_206 : decode cX11_cut 206 = .ok (.istore 4, 2) := by decide +kernel
theorem dX11_cut_208 : decode cX11_cut 208 = .ok (.aload_n 0, 1) := by decide +kernel
theorem dX11_cut_209 : decode cX11_cut 209 = .ok (.iload_n 1, 1) := by decide +kernel
theorem dX11_cut_210 : decode cX11_cut 210 = .ok (.iload_n 3, 1) := by decide +kernel
theorem dX11_cut_211 : decode cX11_cut 211 = .ok (.iadd, 1) := by decide +kernel
theorem dX11_cut_212 : decode cX11_cut 212 = .ok (.invokevirtual 184, 3) := by decide +kernel
theorem dX11_cut_215 : decode cX11_cut 215 = .ok (.invokestatic 196, 3) := by decide +kernel
theorem dX11_cut_218 : decode cX11_cut 218 = .ok (.ifCond .eq 32, 3) := by decide +kernel
theorem dX11_cut_221 : decode cX11_cut 221 = .ok (.iload_n 3, 1) := by decide +kernel
theorem dX11_cut_222 : decode cX11_cut 222 = .ok (.iconst 4, 1) := by decide +kernel
theorem dX11_cut_223 : decode cX11_cut 223 = .ok (.if_icmp .ge 21, 3) := by decide +kernel
theorem dX11_cut_226 : decode cX11_cut 226 = .ok (.bipush 10, 2) := by decide +kernel
theorem dX11_cut_228 : decode cX11_cut 228 = .ok (.iload 4, 2) := by decide +kernel
theorem dX11_cut_230 : decode cX11_cut 230 = .ok (.imul, 1) := by decide +kernel
theorem dX11_cut_231 : decode cX11_cut 231 = .ok (.aload_n 0, 1) := by decide +kernel
theorem dX11_cut_232 : decode cX11_cut 232 = .ok (.iload_n 1, 1) := by decide +kernel
theorem dX11_cut_233 : decode cX11_cut 233 = .ok (.iload_n 3, 1) := by decide +kernel
theorem dX11_cut_234 : decode cX11_cut 234 = .ok (.iadd, 1) := by decide +kernel
theorem dX11_cut_235 : decode cX11_cut 235 = .ok (.invokevirtual 184, 3) := by decide +kernel
theorem dX11_cut_238 : decode cX11_cut 238 = .ok (.iadd, 1) := by decide +kernel
theorem dX11_cut_239 : decode cX11_cut 239 = .ok (.bipush 48, 2) := by decide +kernel
theorem dX11_cut_241 : decode cX11_cut 241 = .ok (.isub, 1) := by decide +kernel
theorem dX11_cut_242 : decode cX11_cut 242 = .ok (.istore 4, 2) := by decide +kernel
theorem dX11_cut_244 : decode cX11_cut 244 = .ok (.iinc 3 1, 3) := by decide +kernel
theorem dX11_cut_247 : decode cX11_cut 247 = .ok (.goto (-39), 3) := by decide +kernel
theorem dX11_cut_250 : decode cX11_cut 250 = .ok (.aload_n 0, 1) := by decide +kernel
theorem dX11_cut_251 : decode cX11_cut 251 = .ok (.iload_n 3, 1) := by decide +kernel
theorem dX11_cut_252 : decode cX11_cut 252 = .ok (.iconst 4, 1) := by decide +kernel
theorem dX11_cut_253 : decode cX11_cut 253 = .ok (.if_icmp .le 7, 3) := by decide +kernel
theorem dX11_cut_256 : decode cX11_cut 256 = .ok (.iconst 3, 1) := by decide +kernel
theorem dX11_cut_257 : decode cX11_cut 257 = .ok (.goto 4, 3) := by decide +kernel
theorem dX11_cut_260 : decode cX11_cut 260 = .ok (.iconst 2, 1) := by decide +kernel
theorem dX11_cut_261 : decode cX11_cut 261 = .ok (.iload_n 1, 1) := by decide +kernel
theorem dX11_cut_262 : decode cX11_cut 262 = .ok (.iload 4, 2) := by decide +kernel
theorem dX11_cut_264 : decode cX11_cut 264 = .ok (.lconst 0, 1) := by decide +kernel
theorem dX11_cut_265 : decode cX11_cut 265 = .ok (.invokevirtual 188, 3) := by decide +kernel
theorem dX11_cut_268 : decode cX11_cut 268 = .ok (.iload_n 1, 1) := by decide +kernel
theorem dX11_cut_269 : decode cX11_cut 269 = .ok (.iload_n 3, 1) := by decide +kernel
theorem dX11_cut_270 : decode cX11_cut 270 = .ok (.iadd, 1) := by decide +kernel
theorem dX11_cut_271 : decode cX11_cut 271 = .ok (.istore_n 1, 1) := by decide +kernel
theorem dX11_cut_272 : decode cX11_cut 272 = .ok (.goto 19, 3) := by decide +kernel
theorem dX11_cut_275 : decode cX11_cut 275 = .ok (.iload_n 1, 1) := by decide +kernel
theorem dX11_cut_276 : decode cX11_cut 276 = .ok (.aload_n 0, 1) := by decide +kernel
theorem dX11_cut_277 : decode cX11_cut 277 = .ok (.iload_n 1, 1) := by decide +kernel
theorem dX11_cut_278 : decode cX11_cut 278 = .ok (.iload_n 2, 1) := by decide +kernel
theorem dX11_cut_279 : decode cX11_cut 279 = .ok (.aload_n 0, 1) := by decide +kernel
theorem dX11_cut_280 : decode cX11_cut 280 = .ok (.iload_n 1, 1) := by decide +kernel
theorem dX11_cut_281 : decode cX11_cut 281 = .ok (.iconst 1, 1) := by decide +kernel
theorem dX11_cut_282 : decode cX11_cut 282 = .ok (.iadd, 1) := by decide +kernel
theorem dX11_cut_283 : decode cX11_cut 283 = .ok (.invokevirtual 184, 3) := by decide +kernel
theorem dX11_cut_286 : decode cX11_cut 286 = .ok (.invokevirtual 199, 3) := by decide +kernel
theorem dX11_cut_289 : decode cX11_cut 289 = .ok (.iadd, 1) := by decide +kernel
theorem dX11_cut_290 : decode cX11_cut 290 = .ok (.istore_n 1, 1) := by decide +kernel
theorem dX11_cut_291 : decode cX11_cut 291 = .ok (.goto (-284), 3) := by decide +kernel
theorem dX11_cut_294 : decode cX11_cut 294 = .ok (.return_, 1) := by decide +kernel
theorem dX11_sign_0 : decode cX11_sign 0 = .ok (.iload_n 2, 1) := by decide +kernel
theorem dX11_sign_1 : decode cX11_sign 1 = .ok (.bipush 59, 2) := by decide +kernel
theorem dX11_sign_3 : decode cX11_sign 3 = .ok (.if_icmp .ne 7, 3) := by decide +kernel
theorem dX11_sign_6 : decode cX11_sign 6 = .ok (.iconst 4, 1) := by decide +kernel
theorem dX11_sign_7 : decode cX11_sign 7 = .ok (.goto 36, 3) := by decide +kernel
theorem dX11_sign_10 : decode cX11_sign 10 = .ok (.iload_n 2, 1) := by decide +kernel
theorem dX11_sign_11 : decode cX11_sign 11 = .ok (.bipush 61, 2) := by decide +kernel
theorem dX11_sign_13 : decode cX11_sign 13 = .ok (.if_icmp .ne 7, 3) := by decide +kernel
theorem dX11_sign_16 : decode cX11_sign 16 = .ok (.iconst 5, 1) := by decide +kernel
theorem dX11_sign_17 : decode cX11_sign 17 = .ok (.goto 26, 3) := by decide +kernel
theorem dX11_sign_20 : decode cX11_sign 20 = .ok (.iload_n 2, 1) := by decide +kernel
theorem dX11_sign_21 : decode cX11_sign 21 = .ok (.bipush 40, 2) := by decide +kernel
theorem dX11_sign_23 : decode cX11_sign 23 = .ok (.if_icmp .ne 8, 3) := by decide +kernel
theorem dX11_sign_26 : decode cX11_sign 26 = .ok (.bipush 6, 2) := by decide +kernel
theorem dX11_sign_28 : decode cX11_sign 28 = .ok (.goto 15, 3) := by decide +kernel
theorem dX11_sign_31 : decode cX11_sign 31 = .ok (.iload_n 2, 1) := by decide +kernel
theorem dX11_sign_32 : decode cX11_sign 32 = .ok (.bipush 41, 2) := by decide +kernel
theorem dX11_sign_34 : decode cX11_sign 34 = .ok (.if_icmp .ne 8, 3) := by decide +kernel
theorem dX11_sign_37 : decode cX11_sign 37 = .ok (.bipush 7, 2) := by decide +kernel
theorem dX11_sign_39 : decode cX11_sign 39 = .ok (.goto 4, 3) := by decide +kernel
theorem dX11_sign_42 : decode cX11_sign 42 = .ok (.iconst 3, 1) := by decide +kernel
theorem dX11_sign_43 : decode cX11_sign 43 = .ok (.istore 4, 2) := by decide +kernel
theorem dX11_sign_45 : decode cX11_sign 45 = .ok (.iload_n 2, 1) := by decide +kernel
theorem dX11_sign_46 : decode cX11_sign 46 = .ok (.bipush 43, 2) := by decide +kernel
theorem dX11_sign_48 : decode cX11_sign 48 = .ok (.if_icmp .ne 7, 3) := by decide +kernel
theorem dX11_sign_51 : decode cX11_sign 51 = .ok (.bipush 8, 2) := by decide +kernel
theorem dX11_sign_53 : decode cX11_sign 53 = .ok (.istore 4, 2) := by decide +kernel
theorem dX11_sign_55 : decode cX11_sign 55 = .ok (.iload_n 2, 1) := by decide +kernel
theorem dX11_sign_56 : decode cX11_sign 56 = .ok (.bipush 45, 2) := by decide +kernel
theorem dX11_sign_58 : decode cX11_sign 58 = .ok (.if_icmp .ne 7, 3) := by decide +kernel
theorem dX11_sign_61 : decode cX11_sign 61 = .ok (.bipush 9, 2) := by decide +kernel
theorem dX11_sign_63 : decode cX11_sign 63 = .ok (.istore 4, 2) := by decide +kernel
theorem dX11_sign_65 : decode cX11_sign 65 = .ok (.iload_n 2, 1) := by decide +kernel
theorem dX11_sign_66 : decode cX11_sign 66 = .ok (.bipush 42, 2) := by decide +kernel
theorem dX11_sign_68 : decode cX11_sign 68 = .ok (.if_icmp .ne 7, 3) := by decide +kernel
theorem dX11_sign_71 : decode cX11_sign 71 = .ok (.bipush 10, 2) := by decide +kernel
theorem dX11_sign_73 : decode cX11_sign 73 = .ok (.istore 4, 2) := by decide +kernel
theorem dX11_sign_75 : decode cX11_sign 75 = .ok (.iload_n 2, 1) := by decide +kernel
theorem dX11_sign_76 : decode cX11_sign 76 = .ok (.bipush 47, 2) := by decide +kernel
theorem dX11_sign_78 : decode cX11_sign 78 = .ok (.if_icmp .ne 7, 3) := by decide +kernel
theorem dX11_sign_81 : decode cX11_sign 81 = .ok (.bipush 15, 2) := by decide +kernel
theorem dX11_sign_83 : decode cX11_sign 83 = .ok (.istore 4, 2) := by decide +kernel
theorem dX11_sign_85 : decode cX11_sign 85 = .ok (.iload_n 2, 1) := by decide +kernel
theorem dX11_sign_86 : decode cX11_sign 86 = .ok (.bipush 60, 2) := by decide +kernel
theorem dX11_sign_88 : decode cX11_sign 88 = .ok (.if_icmp .ne 7, 3) := by decide +kernel
theorem dX11_sign_91 : decode cX11_sign 91 = .ok (.bipush 13, 2) := by decide +kernel
theorem dX11_sign_93 : decode cX11_sign 93 = .ok (.istore 4, 2) := by decide +kernel
theorem dX11_sign_95 : decode cX11_sign 95 = .ok (.aload_n 0, 1) := by decide +kernel
theorem dX11_sign_96 : decode cX11_sign 96 = .ok (.iload 4, 2) := by decide +kernel
theorem dX11_sign_98 : decode cX11_sign 98 = .ok (.iload_n 1, 1) := by decide +kernel
theorem dX11_sign_99 : decode cX11_sign 99 = .ok (.iconst 0, 1) := by decide +kernel
theorem dX11_sign_100 : decode cX11_sign 100 = .ok (.lconst 0, 1) := by decide +kernel
theorem dX11_sign_101 : decode cX11_sign 101 = .ok (.invokevirtual 188, 3) := by decide +kernel
theorem dX11_sign_104 : decode cX11_sign 104 = .ok (.iconst 1, 1) := by decide +kernel
theorem dX11_sign_105 : decode cX11_sign 105 = .ok (.ireturn, 1) := by decide +kernel
theorem dX11_is_0 : decode cX11_is 0 = .ok (.aload_n 0, 1) := by decide +kernel
theorem dX11_is_1 : decode cX11_is 1 = .ok (.getfield 203, 3) := by decide +kernel
theorem dX11_is_4 : decode cX11_is 4 = .ok (.ifCond .ne 20, 3) := by decide +kernel
theorem dX11_is_7 : decode cX11_is 7 = .ok (.aload_n 0, 1) := by decide +kernel
theorem dX11_is_8 : decode cX11_is 8 = .ok (.getfield 20, 3) := by decide +kernel
theorem dX11_is_11 : decode cX11_is 11 = .ok (.aload_n 0, 1) := by decide +kernel
theorem dX11_is_12 : decode cX11_is 12 = .ok (.getfield 206, 3) := by decide +kernel
theorem dX11_is_15 : decode cX11_is 15 = .ok (.iaload, 1) := by decide +kernel
theorem dX11_is_16 : decode cX11_is 16 = .ok (.iload_n 1, 1) := by decide +kernel
theorem dX11_is_17 : decode cX11_is 17 = .ok (.if_icmp .ne 7, 3) := by decide +kernel
theorem dX11_is_20 : decode cX11_is 20 = .ok (.iconst 1, 1) := by decide +kernel
theorem dX11_is_21 : decode cX11_is 21 = .ok (.goto 4, 3) := by decide +kernel
theorem dX11_is_24 : decode cX11_is 24 = .ok (.iconst 0, 1) := by decide +kernel
theorem dX11_is_25 : decode cX11_is 25 = .ok (.ireturn, 1) := by decide +kernel
theorem dX11_fail_0 : decode cX11_fail 0 = .ok (.aload_n 0, 1) := by decide +kernel
theorem dX11_fail_1 : decode cX11_fail 1 = .ok (.getfield 203, 3) := by decide +kernel
theorem dX11_fail_4 : decode cX11_fail 4 = .ok (.ifCond .le 4, 3) := by decide +kernel
theorem dX11_fail_7 : decode cX11_fail 7 = .ok (.return_, 1) := by decide +kernel
theorem dX11_fail_8 : decode cX11_fail 8 = .ok (.aload_n 0, 1) := by decide +kernel
theorem dX11_fail_9 : decode cX11_fail 9 = .ok (.iload_n 1, 1) := by decide +kernel
theorem dX11_fail_10 : decode cX11_fail 10 = .ok (.putfield 203, 3) := by decide +kernel
theorem dX11_fail_13 : decode cX11_fail 13 = .ok (.aload_n 0, 1) := by decide +kernel
theorem dX11_fail_14 : decode cX11_fail 14 = .ok (.aload_n 0, 1) := by decide +kernel
theorem dX11_fail_15 : decode cX11_fail 15 = .ok (.getfield 24, 3) := by decide +kernel
theorem dX11_fail_18 : decode cX11_fail 18 = .ok (.aload_n 0, 1) := by decide +kernel
theorem dX11_fail_19 : decode cX11_fail 19 = .ok (.getfield 206, 3) := by decide +kernel
theorem dX11_fail_22 : decode cX11_fail 22 = .ok (.iaload, 1) := by decide +kernel
theorem dX11_fail_23 : decode cX11_fail 23 = .ok (.putfield 209, 3) := by decide +kernel
theorem dX11_fail_26 : decode cX11_fail 26 = .ok (.return_, 1) := by decide +kernel
theorem dX11_wrong_0 : decode cX11_wrong 0 = .ok (.aload_n 0, 1) := by decide +kernel
theorem dX11_wrong_1 : decode cX11_wrong 1 = .ok (.getfield 24, 3) := by decide +kernel
theorem dX11_wrong_4 : decode cX11_wrong 4 = .ok (.iload_n 2, 1) := by decide +kernel
theorem dX11_wrong_5 : decode cX11_wrong 5 = .ok (.iaload, 1) := by decide +kernel
theorem dX11_wrong_6 : decode cX11_wrong 6 = .ok (.istore_n 3, 1) := by decide +kernel
theorem dX11_wrong_7 : decode cX11_wrong 7 = .ok (.aload_n 0, 1) := by decide +kernel
theorem dX11_wrong_8 : decode cX11_wrong 8 = .ok (.getfield 203, 3) := by decide +kernel
theorem dX11_wrong_11 : decode cX11_wrong 11 = .ok (.ifCond .gt 34, 3) := by decide +kernel
theorem dX11_wrong_14 : decode cX11_wrong 14 = .ok (.aload_n 0, 1) := by decide +kernel
theorem dX11_wrong_15 : decode cX11_wrong 15 = .ok (.getfield 212, 3) := by decide +kernel
theorem dX11_wrong_18 : decode cX11_wrong 18 = .ok (.ifCond .eq 28, 3) := by decide +kernel
theorem dX11_wrong_21 : decode cX11_wrong 21 = .ok (.iload_n 3, 1) := by decide +kernel
theorem dX11_wrong_22 : decode cX11_wrong 22 = .ok (.aload_n 0, 1) := by decide +kernel
theorem dX11_wrong_23 : decode cX11_wrong 23 = .ok (.getfield 215, 3) := by decide +kernel
theorem dX11_wrong_26 : decode cX11_wrong 26 = .ok (.if_icmp .gt 19, 3) := by decide +kernel
theorem dX11_wrong_29 : decode cX11_wrong 29 = .ok (.iload_n 3, 1) := by decide +kernel
theorem dX11_wrong_30 : decode cX11_wrong 30 = .ok (.aload_n 0, 1) := by decide +kernel
theorem dX11_wrong_31 : decode cX11_wrong 31 = .ok (.getfield 215, 3) := by decide +kernel
theorem dX11_wrong_34 : decode cX11_wrong 34 = .ok (.if_icmp .ne 12, 3) := by decide +kernel
theorem dX11_wrong_37 : decode cX11_wrong 37 = .ok (.iload_n 1, 1) := by decide +kernel
theorem dX11_wrong_38 : decode cX11_wrong 38 = .ok (.aload_n 0, 1) := by decide +kernel
theorem dX11_wrong_39 : decode cX11_wrong 39 = .ok (.getfield 212, 3) := by decide +kernel
theorem dX11_wrong_42 : decode cX11_wrong 42 = .ok (.if_icmp .lt 4, 3) := by decide +kernel
theorem dX11_wrong_45 : decode cX11_wrong 45 = .ok (.return_, 1) := by decide +kernel
theorem dX11_wrong_46 : decode cX11_wrong 46 = .ok (.aload_n 0, 1) := by decide +kernel
theorem dX11_wrong_47 : decode cX11_wrong 47 = .ok (.iload_n 1, 1) := by decide +kernel
theorem dX11_wrong_48 : decode cX11_wrong 48 = .ok (.putfield 212, 3) := by decide +kernel
theorem dX11_wrong_51 : decode cX11_wrong 51 = .ok (.aload_n 0, 1) := by decide +kernel
theorem dX11_wrong_52 : decode cX11_wrong 52 = .ok (.iload_n 3, 1) := by decide +kernel
theorem dX11_wrong_53 : decode cX11_wrong 53 = .ok (.putfield 215, 3) := by decide +kernel
theorem dX11_wrong_56 : decode cX11_wrong 56 = .ok (.return_, 1) := by decide +kernel
theorem dX11_goesOn_0 : decode cX11_goesOn 0 = .ok (.aload_n 0, 1) := by decide +kernel
theorem dX11_goesOn_1 : decode cX11_goesOn 1 = .ok (.getfield 206, 3) := by decide +kernel
theorem dX11_goesOn_4 : decode cX11_goesOn 4 = .ok (.sipush 400, 3) := by decide +kernel
theorem dX11_goesOn_7 : decode cX11_goesOn 7 = .ok (.if_icmp .ne 11, 3) := by decide +kernel
theorem dX11_goesOn_10 : decode cX11_goesOn 10 = .ok (.aload_n 0, 1) := by decide +kernel
theorem dX11_goesOn_11 : decode cX11_goesOn 11 = .ok (.iconst 2, 1) := by decide +kernel
theorem dX11_goesOn_12 : decode cX11_goesOn 12 = .ok (.invokevirtual 218, 3) := by decide +kernel
theorem dX11_goesOn_15 : decode cX11_goesOn 15 = .ok (.goto 13, 3) := by decide +kernel
theorem dX11_goesOn_18 : decode cX11_goesOn 18 = .ok (.aload_n 0, 1) := by decide +kernel
theorem dX11_goesOn_19 : decode cX11_goesOn 19 = .ok (.dup, 1) := by decide +kernel
theorem dX11_goesOn_20 : decode cX11_goesOn 20 = .ok (.getfield 206, 3) := by decide +kernel
theorem dX11_goesOn_23 : decode cX11_goesOn 23 = .ok (.iconst 1, 1) := by decide +kernel
theorem dX11_goesOn_24 : decode cX11_goesOn 24 = .ok (.iadd, 1) := by decide +kernel
theorem dX11_goesOn_25 : decode cX11_goesOn 25 = .ok (.putfield 206, 3) := by decide +kernel
theorem dX11_goesOn_28 : decode cX11_goesOn 28 = .ok (.return_, 1) := by decide +kernel
theorem dX11_must_0 : decode cX11_must 0 = .ok (.aload_n 0, 1) := by decide +kernel
theorem dX11_must_1 : decode cX11_must 1 = .ok (.iload_n 1, 1) := by decide +kernel
theorem dX11_must_2 : decode cX11_must 2 = .ok (.invokevirtual 221, 3) := by decide +kernel
theorem dX11_must_5 : decode cX11_must 5 = .ok (.ifCond .eq 10, 3) := by decide +kernel
theorem dX11_must_8 : decode cX11_must 8 = .ok (.aload_n 0, 1) := by decide +kernel
theorem dX11_must_9 : decode cX11_must 9 = .ok (.invokevirtual 224, 3) := by decide +kernel
theorem dX11_must_12 : decode cX11_must 12 = .ok (.goto 8, 3) := by decide +kernel
theorem dX11_must_15 : decode cX11_must 15 = .ok (.aload_n 0, 1) := by decide +kernel
theorem dX11_must_16 : decode cX11_must 16 = .ok (.iconst 1, 1) := by decide +kernel
theorem dX11_must_17 : decode cX11_must 17 = .ok (.invokevirtual 218, 3) := by decide +kernel
theorem dX11_must_20 : decode cX11_must 20 = .ok (.return_, 1) := by decide +kernel
theorem dX11_plain_0 : decode cX11_plain 0 = .ok (.aload_n 0, 1) := by decide +kernel
theorem dX11_plain_1 : decode cX11_plain 1 = .ok (.getfield 46, 3) := by decide +kernel
theorem dX11_plain_4 : decode cX11_plain 4 = .ok (.iload_n 1, 1) := by decide +kernel
theorem dX11_plain_5 : decode cX11_plain 5 = .ok (.iconst 0, 1) := by decide +kernel
theorem dX11_plain_6 : decode cX11_plain 6 = .ok (.iastore, 1) := by decide +kernel
theorem dX11_plain_7 : decode cX11_plain 7 = .ok (.aload_n 0, 1) := by decide +kernel
theorem dX11_plain_8 : decode cX11_plain 8 = .ok (.getfield 55, 3) := by decide +kernel
theorem dX11_plain_11 : decode cX11_plain 11 = .ok (.iload_n 1, 1) := by decide +kernel
theorem dX11_plain_12 : decode cX11_plain 12 = .ok (.iconst 0, 1) := by decide +kernel
theorem dX11_plain_13 : decode cX11_plain 13 = .ok (.iastore, 1) := by decide +kernel
theorem dX11_plain_14 : decode cX11_plain 14 = .ok (.aload_n 0, 1) := by decide +kernel
theorem dX11_plain_15 : decode cX11_plain 15 = .ok (.getfield 61, 3) := by decide +kernel
theorem dX11_plain_18 : decode cX11_plain 18 = .ok (.iload_n 1, 1) := by decide +kernel
theorem dX11_plain_19 : decode cX11_plain 19 = .ok (.iconst 0, 1) := by decide +kernel
theorem dX11_plain_20 : decode cX11_plain 20 = .ok (.iastore, 1) := by decide +kernel
theorem dX11_plain_21 : decode cX11_plain 21 = .ok (.aload_n 0, 1) := by decide +kernel
theorem dX11_plain_22 : decode cX11_plain 22 = .ok (.getfield 70, 3) := by decide +kernel
theorem dX11_plain_25 : decode cX11_plain 25 = .ok (.iload_n 1, 1) := by decide +kernel
theorem dX11_plain_26 : decode cX11_plain 26 = .ok (.bipush 10, 2) := by decide +kernel
theorem dX11_plain_28 : decode cX11_plain 28 = .ok (.iastore, 1) := by decide +kernel
theorem dX11_plain_29 : decode cX11_plain 29 = .ok (.aload_n 0, 1) := by decide +kernel
theorem dX11_plain_30 : decode cX11_plain 30 = .ok (.getfield 73, 3) := by decide +kernel
theorem dX11_plain_33 : decode cX11_plain 33 = .ok (.iload_n 1, 1) := by decide +kernel
theorem dX11_plain_34 : decode cX11_plain 34 = .ok (.iconst 0, 1) := by decide +kernel
theorem dX11_plain_35 : decode cX11_plain 35 = .ok (.iastore, 1) := by decide +kernel
theorem dX11_plain_36 : decode cX11_plain 36 = .ok (.iconst 0, 1) := by decide +kernel
theorem dX11_plain_37 : decode cX11_plain 37 = .ok (.istore_n 2, 1) := by decide +kernel
theorem dX11_plain_38 : decode cX11_plain 38 = .ok (.iload_n 2, 1) := by decide +kernel
theorem dX11_plain_39 : decode cX11_plain 39 = .ok (.bipush 7, 2) := by decide +kernel
theorem dX11_plain_41 : decode cX11_plain 41 = .ok (.if_icmp .ge 33, 3) := by decide +kernel
theorem dX11_plain_44 : decode cX11_plain 44 = .ok (.aload_n 0, 1) := by decide +kernel
theorem dX11_plain_45 : decode cX11_plain 45 = .ok (.getfield 76, 3) := by decide +kernel
theorem dX11_plain_48 : decode cX11_plain 48 = .ok (.bipush 7, 2) := by decide +kernel
theorem dX11_plain_50 : decode cX11_plain 50 = .ok (.iload_n 1, 1) := by decide +kernel
theorem dX11_plain_51 : decode cX11_plain 51 = .ok (.imul, 1) := by decide +kernel
theorem dX11_plain_52 : decode cX11_plain 52 = .ok (.iload_n 2, 1) := by decide +kernel
theorem dX11_plain_53 : decode cX11_plain 53 = .ok (.iadd, 1) := by decide +kernel
theorem dX11_plain_54 : decode cX11_plain 54 = .ok (.iconst 0, 1) := by decide +kernel
theorem dX11_plain_55 : decode cX11_plain 55 = .ok (.iastore, 1) := by decide +kernel
theorem dX11_plain_56 : decode cX11_plain 56 = .ok (.aload_n 0, 1) := by decide +kernel
theorem dX11_plain_57 : decode cX11_plain 57 = .ok (.getfield 79, 3) := by decide +kernel
theorem dX11_plain_60 : decode cX11_plain 60 = .ok (.bipush 7, 2) := by decide +kernel
theorem dX11_plain_62 : decode cX11_plain 62 = .ok (.iload_n 1, 1) := by decide +kernel
theorem dX11_plain_63 : decode cX11_plain 63 = .ok (.imul, 1) := by decide +kernel
theorem dX11_plain_64 : decode cX11_plain 64 = .ok (.iload_n 2, 1) := by decide +kernel
theorem dX11_plain_65 : decode cX11_plain 65 = .ok (.iadd, 1) := by decide +kernel
theorem dX11_plain_66 : decode cX11_plain 66 = .ok (.iconst 0, 1) := by decide +kernel
theorem dX11_plain_67 : decode cX11_plain 67 = .ok (.iastore, 1) := by decide +kernel
theorem dX11_plain_68 : decode cX11_plain 68 = .ok (.iinc 2 1, 3) := by decide +kernel
theorem dX11_plain_71 : decode cX11_plain 71 = .ok (.goto (-33), 3) := by decide +kernel
theorem dX11_plain_74 : decode cX11_plain 74 = .ok (.return_, 1) := by decide +kernel
theorem dX11_read_0 : decode cX11_read 0 = .ok (.aload_n 0, 1) := by decide +kernel
theorem dX11_read_1 : decode cX11_read 1 = .ok (.aload_n 0, 1) := by decide +kernel
theorem dX11_read_2 : decode cX11_read 2 = .ok (.getfield 166, 3) := by decide +kernel
theorem dX11_read_5 : decode cX11_read 5 = .ok (.putfield 172, 3) := by decide +kernel
theorem dX11_read_8 : decode cX11_read 8 = .ok (.iconst 0, 1) := by decide +kernel
theorem dX11_read_9 : decode cX11_read 9 = .ok (.istore_n 1, 1) := by decide +kernel
theorem dX11_read_10 : decode cX11_read 10 = .ok (.iload_n 1, 1) := by decide +kernel
theorem dX11_read_11 : decode cX11_read 11 = .ok (.aload_n 0, 1) := by decide +kernel
theorem dX11_read_12 : decode cX11_read 12 = .ok (.getfield 172, 3) := by decide +kernel
theorem dX11_read_15 : decode cX11_read 15 = .ok (.if_icmp .ge 21, 3) := by decide +kernel
theorem dX11_read_18 : decode cX11_read 18 = .ok (.aload_n 0, 1) := by decide +kernel
theorem dX11_read_19 : decode cX11_read 19 = .ok (.getfield 17, 3) := by decide +kernel
theorem dX11_read_22 : decode cX11_read 22 = .ok (.iload_n 1, 1) := by decide +kernel
theorem dX11_read_23 : decode cX11_read 23 = .ok (.aload_n 0, 1) := by decide +kernel
theorem dX11_read_24 : decode cX11_read 24 = .ok (.getfield 13, 3) := by decide +kernel
theorem dX11_read_27 : decode cX11_read 27 = .ok (.iload_n 1, 1) := by decide +kernel
theorem dX11_read_28 : decode cX11_read 28 = .ok (.baload, 1) := by decide +kernel
theorem dX11_read_29 : decode cX11_read 29 = .ok (.bastore, 1) := by decide +kernel
theorem dX11_read_30 : decode cX11_read 30 = .ok (.iinc 1 1, 3) := by decide +kernel
theorem dX11_read_33 : decode cX11_read 33 = .ok (.goto (-23), 3) := by decide +kernel
theorem dX11_read_36 : decode cX11_read 36 = .ok (.aload_n 0, 1) := by decide +kernel
theorem dX11_read_37 : decode cX11_read 37 = .ok (.iconst 0, 1) := by decide +kernel
theorem dX11_read_38 : decode cX11_read 38 = .ok (.putfield 166, 3) := by decide +kernel
theorem dX11_read_41 : decode cX11_read 41 = .ok (.aload_n 0, 1) := by decide +kernel
theorem dX11_read_42 : decode cX11_read 42 = .ok (.invokevirtual 227, 3) := by decide +kernel
theorem dX11_read_45 : decode cX11_read 45 = .ok (.aload_n 0, 1) := by decide +kernel
theorem dX11_read_46 : decode cX11_read 46 = .ok (.iconst 0, 1) := by decide +kernel
theorem dX11_read_47 : decode cX11_read 47 = .ok (.putfield 206, 3) := by decide +kernel
theorem dX11_read_50 : decode cX11_read 50 = .ok (.aload_n 0, 1) := by decide +kernel
theorem dX11_read_51 : decode cX11_read 51 = .ok (.iconst 0, 1) := by decide +kernel
theorem dX11_read_52 : decode cX11_read 52 = .ok (.putfield 230, 3) := by decide +kernel
theorem dX11_read_55 : decode cX11_read 55 = .ok (.aload_n 0, 1) := by decide +kernel
theorem dX11_read_56 : decode cX11_read 56 = .ok (.iconst 0, 1) := by decide +kernel
theorem dX11_read_57 : decode cX11_read 57 = .ok (.putfield 203, 3) := by decide +kernel
theorem dX11_read_60 : decode cX11_read 60 = .ok (.aload_n 0, 1) := by decide +kernel
theorem dX11_read_61 : decode cX11_read 61 = .ok (.iconst 0, 1) := by decide +kernel
theorem dX11_read_62 : decode cX11_read 62 = .ok (.putfield 212, 3) := by decide +kernel
theorem dX11_read_65 : decode cX11_read 65 = .ok (.aload_n 0, 1) := by decide +kernel
theorem dX11_read_66 : decode cX11_read 66 = .ok (.iconst 1, 1) := by decide +kernel
theorem dX11_read_67 : decode cX11_read 67 = .ok (.aload_n 0, 1) := by decide +kernel
theorem dX11_read_68 : decode cX11_read 68 = .ok (.getfield 233, 3) := by decide +kernel
theorem dX11_read_71 : decode cX11_read 71 = .ok (.isub, 1) := by decide +kernel
theorem dX11_read_72 : decode cX11_read 72 = .ok (.putfield 236, 3) := by decide +kernel
theorem dX11_read_75 : decode cX11_read 75 = .ok (.aload_n 0, 1) := by decide +kernel
theorem dX11_read_76 : decode cX11_read 76 = .ok (.iconst 0, 1) := by decide +kernel
theorem dX11_read_77 : decode cX11_read 77 = .ok (.putfield 239, 3) := by decide +kernel
theorem dX11_read_80 : decode cX11_read 80 = .ok (.aload_n 0, 1) := by decide +kernel
theorem dX11_read_81 : decode cX11_read 81 = .ok (.aload_n 0, 1) := by decide +kernel
theorem dX11_read_82 : decode cX11_read 82 = .ok (.getfield 236, 3) := by decide +kernel
theorem dX11_read_85 : decode cX11_read 85 = .ok (.invokevirtual 152, 3) := by decide +kernel
theorem dX11_read_88 : decode cX11_read 88 = .ok (.aload_n 0, 1) := by decide +kernel
theorem dX11_read_89 : decode cX11_read 89 = .ok (.sipush 130, 3) := by decide +kernel
theorem dX11_read_92 : decode cX11_read 92 = .ok (.aload_n 0, 1) := by decide +kernel
theorem dX11_read_93 : decode cX11_read 93 = .ok (.getfield 236, 3) := by decide +kernel
theorem dX11_read_96 : decode cX11_read 96 = .ok (.imul, 1) := by decide +kernel
theorem dX11_read_97 : decode cX11_read 97 = .ok (.putfield 242, 3) := by decide +kernel
theorem dX11_read_100 : decode cX11_read 100 = .ok (.aload_n 0, 1) := by decide +kernel
theorem dX11_read_101 : decode cX11_read 101 = .ok (.sipush 420, 3) := by decide +kernel
theorem dX11_read_104 : decode cX11_read 104 = .ok (.aload_n 0, 1) := by decide +kernel
theorem dX11_read_105 : decode cX11_read 105 = .ok (.getfield 236, 3) := by decide +kernel
theorem dX11_read_108 : decode cX11_read 108 = .ok (.imul, 1) := by decide +kernel
theorem dX11_read_109 : decode cX11_read 109 = .ok (.putfield 245, 3) := by decide +kernel
theorem dX11_read_112 : decode cX11_read 112 = .ok (.aload_n 0, 1) := by decide +kernel
theorem dX11_read_113 : decode cX11_read 113 = .ok (.getfield 203, 3) := by decide +kernel
theorem dX11_read_116 : decode cX11_read 116 = .ok (.ifCond .ne 18, 3) := by decide +kernel
theorem dX11_read_119 : decode cX11_read 119 = .ok (.aload_n 0, 1) := by decide +kernel
theorem dX11_read_120 : decode cX11_read 120 = .ok (.iconst 0, 1) := by decide +kernel
theorem dX11_read_121 : decode cX11_read 121 = .ok (.invokevirtual 221, 3) := by decide +kernel
theorem dX11_read_124 : decode cX11_read 124 = .ok (.ifCond .ne 10, 3) := by decide +kernel
theorem dX11_read_127 : decode cX11_read 127 = .ok (.aload_n 0, 1) := by decide +kernel
theorem dX11_read_128 : decode cX11_read 128 = .ok (.invokevirtual 248, 3) := by decide +kernel
theorem dX11_read_131 : decode cX11_read 131 = .ok (.goto (-19), 3) := by decide +kernel
theorem dX11_read_134 : decode cX11_read 134 = .ok (.aload_n 0, 1) := by decide +kernel
theorem dX11_read_135 : decode cX11_read 135 = .ok (.aload_n 0, 1) := by decide +kernel
theorem dX11_read_136 : decode cX11_read 136 = .ok (.getfield 203, 3) := by decide +kernel
theorem dX11_read_139 : decode cX11_read 139 = .ok (.ifCond .le 10, 3) := by decide +kernel
theorem dX11_read_142 : decode cX11_read 142 = .ok (.aload_n 0, 1) := by decide +kernel
theorem dX11_read_143 : decode cX11_read 143 = .ok (.getfield 209, 3) := by decide +kernel
theorem dX11_read_146 : decode cX11_read 146 = .ok (.goto 18, 3) := by decide +kernel
theorem dX11_read_149 : decode cX11_read 149 = .ok (.aload_n 0, 1) := by decide +kernel
theorem dX11_read_150 : decode cX11_read 150 = .ok (.getfield 212, 3) := by decide +kernel
theorem dX11_read_153 : decode cX11_read 153 = .ok (.ifCond .le 10, 3) := by decide +kernel
theorem dX11_read_156 : decode cX11_read 156 = .ok (.aload_n 0, 1) := by decide +kernel
theorem dX11_read_157 : decode cX11_read 157 = .ok (.getfield 215, 3) := by decide +kernel
theorem dX11_read_160 : decode cX11_read 160 = .ok (.goto 4, 3) := by decide +kernel
theorem dX11_read_163 : decode cX11_read 163 = .ok (.iconst (-1), 1) := by decide +kernel
theorem dX11_read_164 : decode cX11_read 164 = .ok (.putfield 37, 3) := by decide +kernel
theorem dX11_read_167 : decode cX11_read 167 = .ok (.aload_n 0, 1) := by decide +kernel
theorem dX11_read_168 : decode cX11_read 168 = .ok (.getfield 203, 3) := by decide +kernel
theorem dX11_read_171 : decode cX11_read 171 = .ok (.ifCond .le 8, 3) := by decide +kernel
theorem dX11_read_174 : decode cX11_read 174 = .ok (.aload_n 0, 1) := by decide +kernel
theorem dX11_read_175 : decode cX11_read 175 = .ok (.getfield 203, 3) := by decide +kernel
theorem dX11_read_178 : decode cX11_read 178 = .ok (.ireturn, 1) := by decide +kernel
theorem dX11_read_179 : decode cX11_read 179 = .ok (.aload_n 0, 1) := by decide +kernel
theorem dX11_read_180 : decode cX11_read 180 = .ok (.getfield 212, 3) := by decide +kernel
theorem dX11_read_183 : decode cX11_read 183 = .ok (.ifCond .le 8, 3) := by decide +kernel
theorem dX11_read_186 : decode cX11_read 186 = .ok (.aload_n 0, 1) := by decide +kernel
theorem dX11_read_187 : decode cX11_read 187 = .ok (.getfield 212, 3) := by decide +kernel
theorem dX11_read_190 : decode cX11_read 190 = .ok (.ireturn, 1) := by decide +kernel
theorem dX11_read_191 : decode cX11_read 191 = .ok (.aload_n 0, 1) := by decide +kernel
theorem dX11_read_192 : decode cX11_read 192 = .ok (.aload_n 0, 1) := by decide +kernel
theorem dX11_read_193 : decode cX11_read 193 = .ok (.getfield 236, 3) := by decide +kernel
theorem dX11_read_196 : decode cX11_read 196 = .ok (.putfield 233, 3) := by decide +kernel
theorem dX11_read_199 : decode cX11_read 199 = .ok (.aload_n 0, 1) := by decide +kernel
theorem dX11_read_200 : decode cX11_read 200 = .ok (.invokevirtual 160, 3) := by decide +kernel
theorem dX11_read_203 : decode cX11_read 203 = .ok (.aload_n 0, 1) := by decide +kernel
theorem dX11_read_204 : decode cX11_read 204 = .ok (.invokevirtual 163, 3) := by decide +kernel
theorem dX11_read_207 : decode cX11_read 207 = .ok (.aload_n 0, 1) := by decide +kernel
theorem dX11_read_208 : decode cX11_read 208 = .ok (.iconst 0, 1) := by decide +kernel
theorem dX11_read_209 : decode cX11_read 209 = .ok (.putfield 251, 3) := by decide +kernel
theorem dX11_read_212 : decode cX11_read 212 = .ok (.aload_n 0, 1) := by decide +kernel
theorem dX11_read_213 : decode cX11_read 213 = .ok (.iconst 0, 1) := by decide +kernel
theorem dX11_read_214 : decode cX11_read 214 = .ok (.putfield 254, 3) := by decide +kernel
theorem dX11_read_217 : decode cX11_read 217 = .ok (.iconst 0, 1) := by decide +kernel
theorem dX11_read_218 : decode cX11_read 218 = .ok (.istore_n 1, 1) := by decide +kernel
theorem dX11_read_219 : decode cX11_read 219 = .ok (.iload_n 1, 1) := by decide +kernel
theorem dX11_read_220 : decode cX11_read 220 = .ok (.iconst 3, 1) := by decide +kernel
theorem dX11_read_221 : decode cX11_read 221 = .ok (.if_icmp .ge 16, 3) := by decide +kernel
theorem dX11_read_224 : decode cX11_read 224 = .ok (.aload_n 0, 1) := by decide +kernel
theorem dX11_read_225 : decode cX11_read 225 = .ok (.getfield 146, 3) := by decide +kernel
theorem dX11_read_228 : decode cX11_read 228 = .ok (.iload_n 1, 1) := by decide +kernel
theorem dX11_read_229 : decode cX11_read 229 = .ok (.iconst 0, 1) := by decide +kernel
theorem dX11_read_230 : decode cX11_read 230 = .ok (.bastore, 1) := by decide +kernel
theorem dX11_read_231 : decode cX11_read 231 = .ok (.iinc 1 1, 3) := by decide +kernel
theorem dX11_read_234 : decode cX11_read 234 = .ok (.goto (-15), 3) := by decide +kernel
theorem dX11_read_237 : decode cX11_read 237 = .ok (.iconst 0, 1) := by decide +kernel
theorem dX11_read_238 : decode cX11_read 238 = .ok (.ireturn, 1) := by decide +kernel
theorem dX11_place_0 : decode cX11_place 0 = .ok (.aload_n 0, 1) := by decide +kernel
theorem dX11_place_1 : decode cX11_place 1 = .ok (.getfield 37, 3) := by decide +kernel
theorem dX11_place_4 : decode cX11_place 4 = .ok (.ireturn, 1) := by decide +kernel
theorem dX11_roomFor_0 : decode cX11_roomFor 0 = .ok (.iload_n 1, 1) := by decide +kernel
theorem dX11_roomFor_1 : decode cX11_roomFor 1 = .ok (.iload_n 2, 1) := by decide +kernel
theorem dX11_roomFor_2 : decode cX11_roomFor 2 = .ok (.if_icmp .ne 8, 3) := by decide +kernel
theorem dX11_roomFor_5 : decode cX11_roomFor 5 = .ok (.aload_n 0, 1) := by decide +kernel
theorem dX11_roomFor_6 : decode cX11_roomFor 6 = .ok (.iconst 2, 1) := by decide +kernel
theorem dX11_roomFor_7 : decode cX11_roomFor 7 = .ok (.invokevirtual 218, 3) := by decide +kernel
theorem dX11_roomFor_10 : decode cX11_roomFor 10 = .ok (.aload_n 0, 1) := by decide +kernel
theorem dX11_roomFor_11 : decode cX11_roomFor 11 = .ok (.getfield 203, 3) := by decide +kernel
theorem dX11_roomFor_14 : decode cX11_roomFor 14 = .ok (.ifCond .ne 7, 3) := by decide +kernel
theorem dX11_roomFor_17 : decode cX11_roomFor 17 = .ok (.aload_n 0, 1) := by decide +kernel
theorem dX11_roomFor_18 : decode cX11_roomFor 18 = .ok (.invokevirtual 224, 3) := by decide +kernel
theorem dX11_roomFor_21 : decode cX11_roomFor 21 = .ok (.return_, 1) := by decide +kernel
theorem dX11_tellOne_0 : decode cX11_tellOne 0 = .ok (.aload_n 0, 1) := by decide +kernel
theorem dX11_tellOne_1 : decode cX11_tellOne 1 = .ok (.getfield 20, 3) := by decide +kernel
theorem dX11_tellOne_4 : decode cX11_tellOne 4 = .ok (.aload_n 0, 1) := by decide +kernel
theorem dX11_tellOne_5 : decode cX11_tellOne 5 = .ok (.getfield 206, 3) := by decide +kernel
theorem dX11_tellOne_8 : decode cX11_tellOne 8 = .ok (.iaload, 1) := by decide +kernel
theorem dX11_tellOne_9 : decode cX11_tellOne 9 = .ok (.tableswitch 205 20 31 #[63, 92, 120, 205, 205, 205, 205, 205, 205, 205, 148, 176], 63) := by decide +kernel
theorem dX11_tellOne_72 : decode cX11_tellOne 72 = .ok (.aload_n 0, 1) := by decide +kernel
theorem dX11_tellOne_73 : decode cX11_tellOne 73 = .ok (.aload_n 0, 1) := by decide +kernel
theorem dX11_tellOne_74 : decode cX11_tellOne 74 = .ok (.getfield 46, 3) := by decide +kernel
theorem dX11_tellOne_77 : decode cX11_tellOne 77 = .ok (.aload_n 0, 1) := by decide +kernel
theorem dX11_tellOne_78 : decode cX11_tellOne 78 = .ok (.getfield 236, 3) := by decide +kernel
theorem dX11_tellOne_81 : decode cX11_tellOne 81 = .ok (.iaload, 1) := by decide +kernel
theorem dX11_tellOne_82 : decode cX11_tellOne 82 = .ok (.bipush 6, 2) := by decide +kernel
theorem dX11_tellOne_84 : decode cX11_tellOne 84 = .ok (.invokevirtual 257, 3) := by decide +kernel
theorem dX11_tellOne_87 : decode cX11_tellOne 87 = .ok (.aload_n 0, 1) := by decide +kernel
theorem dX11_tellOne_88 : decode cX11_tellOne 88 = .ok (.getfield 203, 3) := by decide +kernel
theorem dX11_tellOne_91 : decode cX11_tellOne 91 = .ok (.ifCond .ne 176, 3) := by decide +kernel
theorem dX11_tellOne_94 : decode cX11_tellOne 94 = .ok (.aload_n 0, 1) := by decide +kernel
theorem dX11_tellOne_95 : decode cX11_tellOne 95 = .ok (.invokevirtual 261, 3) := by decide +kernel
theorem dX11_tellOne_98 : decode cX11_tellOne 98 = .ok (.goto 169, 3) := by decide +kernel
theorem dX11_tellOne_101 : decode cX11_tellOne 101 = .ok (.aload_n 0, 1) := by decide +kernel
theorem dX11_tellOne_102 : decode cX11_tellOne 102 = .ok (.aload_n 0, 1) := by decide +kernel
theorem dX11_tellOne_103 : decode cX11_tellOne 103 = .ok (.getfield 55, 3) := by decide +kernel
theorem dX11_tellOne_106 : decode cX11_tellOne 106 = .ok (.aload_n 0, 1) := by decide +kernel
theorem dX11_tellOne_107 : decode cX11_tellOne 107 = .ok (.getfield 236, 3) := by decide +kernel
theorem dX11_tellOne_110 : decode cX11_tellOne 110 = .ok (.iaload, 1) := by decide +kernel
theorem dX11_tellOne_111 : decode cX11_tellOne 111 = .ok (.iconst 3, 1) := by decide +kernel
theorem dX11_tellOne_112 : decode cX11_tellOne 112 = .ok (.invokevirtual 257, 3) := by decide +kernel
theorem dX11_tellOne_115 : decode cX11_tellOne 115 = .ok (.aload_n 0, 1) := by decide +kernel
theorem dX11_tellOne_116 : decode cX11_tellOne 116 = .ok (.getfield 203, 3) := by decide +kernel
theorem dX11_tellOne_119 : decode cX11_tellOne 119 = .ok (.ifCond .ne 148, 3) := by decide +kernel
theorem dX11_tellOne_122 : decode cX11_tellOne 122 = .ok (.aload_n 0, 1) := by decide +kernel
theorem dX11_tellOne_123 : decode cX11_tellOne 123 = .ok (.invokevirtual 264, 3) := by decide +kernel
theorem dX11_tellOne_126 : decode cX11_tellOne 126 = .ok (.goto 141, 3) := by decide +kernel
theorem dX11_tellOne_129 : decode cX11_tellOne 129 = .ok (.aload_n 0, 1) := by decide +kernel
theorem dX11_tellOne_130 : decode cX11_tellOne 130 = .ok (.aload_n 0, 1) := by decide +kernel
theorem dX11_tellOne_131 : decode cX11_tellOne 131 = .ok (.getfield 61, 3) := by decide +kernel
theorem dX11_tellOne_134 : decode cX11_tellOne 134 = .ok (.aload_n 0, 1) := by decide +kernel
theorem dX11_tellOne_135 : decode cX11_tellOne 135 = .ok (.getfield 236, 3) := by decide +kernel
theorem dX11_tellOne_138 : decode cX11_tellOne 138 = .ok (.iaload, 1) := by decide +kernel
theorem dX11_tellOne_139 : decode cX11_tellOne 139 = .ok (.iconst 4, 1) := by decide +kernel
theorem dX11_tellOne_140 : decode cX11_tellOne 140 = .ok (.invokevirtual 257, 3) := by decide +kernel
theorem dX11_tellOne_143 : decode cX11_tellOne 143 = .ok (.aload_n 0, 1) := by decide +kernel
theorem dX11_tellOne_144 : decode cX11_tellOne 144 = .ok (.getfield 203, 3) := by decide +kernel
theorem dX11_tellOne_147 : decode cX11_tellOne 147 = .ok (.ifCond .ne 120, 3) := by decide +kernel
theorem dX11_tellOne_150 : decode cX11_tellOne 150 = .ok (.aload_n 0, 1) := by decide +kernel
theorem dX11_tellOne_151 : decode cX11_tellOne 151 = .ok (.invokevirtual 267, 3) := by decide +kernel
theorem dX11_tellOne_154 : decode cX11_tellOne 154 = .ok (.goto 113, 3) := by decide +kernel
theorem dX11_tellOne_157 : decode cX11_tellOne 157 = .ok (.aload_n 0, 1) := by decide +kernel
theorem dX11_tellOne_158 : decode cX11_tellOne 158 = .ok (.invokevirtual 224, 3) := by decide +kernel
theorem dX11_tellOne_161 : decode cX11_tellOne 161 = .ok (.aload_n 0, 1) := by decide +kernel
theorem dX11_tellOne_162 : decode cX11_tellOne 162 = .ok (.getfield 70, 3) := by decide +kernel
theorem dX11_tellOne_165 : decode cX11_tellOne 165 = .ok (.aload_n 0, 1) := by decide +kernel
theorem dX11_tellOne_166 : decode cX11_tellOne 166 = .ok (.getfield 236, 3) := by decide +kernel
theorem dX11_tellOne_169 : decode cX11_tellOne 169 = .ok (.aload_n 0, 1) := by decide +kernel
theorem dX11_tellOne_170 : decode cX11_tellOne 170 = .ok (.iconst 0, 1) := by decide +kernel
theorem dX11_tellOne_171 : decode cX11_tellOne 171 = .ok (.bipush 99, 2) := by decide +kernel
theorem dX11_tellOne_173 : decode cX11_tellOne 173 = .ok (.invokevirtual 270, 3) := by decide +kernel
theorem dX11_tellOne_176 : decode cX11_tellOne 176 = .ok (.iastore, 1) := by decide +kernel
theorem dX11_tellOne_177 : decode cX11_tellOne 177 = .ok (.aload_n 0, 1) := by decide +kernel
theorem dX11_tellOne_178 : decode cX11_tellOne 178 = .ok (.iconst 4, 1) := by decide +kernel
theorem dX11_tellOne_179 : decode cX11_tellOne 179 = .ok (.invokevirtual 274, 3) := by decide +kernel
theorem dX11_tellOne_182 : decode cX11_tellOne 182 = .ok (.goto 85, 3) := by decide +kernel
theorem dX11_tellOne_185 : decode cX11_tellOne 185 = .ok (.aload_n 0, 1) := by decide +kernel
theorem dX11_tellOne_186 : decode cX11_tellOne 186 = .ok (.invokevirtual 224, 3) := by decide +kernel
theorem dX11_tellOne_189 : decode cX11_tellOne 189 = .ok (.aload_n 0, 1) := by decide +kernel
theorem dX11_tellOne_190 : decode cX11_tellOne 190 = .ok (.getfield 73, 3) := by decide +kernel
theorem dX11_tellOne_193 : decode cX11_tellOne 193 = .ok (.aload_n 0, 1) := by decide +kernel
theorem dX11_tellOne_194 : decode cX11_tellOne 194 = .ok (.getfield 236, 3) := by decide +kernel
theorem dX11_tellOne_197 : decode cX11_tellOne 197 = .ok (.aload_n 0, 1) := by decide +kernel
theorem dX11_tellOne_198 : decode cX11_tellOne 198 = .ok (.iconst 0, 1) := by decide +kernel
theorem dX11_tellOne_199 : decode cX11_tellOne 199 = .ok (.sipush 9999, 3) := by decide +kernel
theorem dX11_tellOne_202 : decode cX11_tellOne 202 = .ok (.invokevirtual 270, 3) := by decide +kernel
theorem dX11_tellOne_205 : decode cX11_tellOne 205 = .ok (.iastore, 1) := by decide +kernel
theorem dX11_tellOne_206 : decode cX11_tellOne 206 = .ok (.aload_n 0, 1) := by decide +kernel
theorem dX11_tellOne_207 : decode cX11_tellOne 207 = .ok (.iconst 4, 1) := by decide +kernel
theorem dX11_tellOne_208 : decode cX11_tellOne 208 = .ok (.invokevirtual 274, 3) := by decide +kernel
theorem dX11_tellOne_211 : decode cX11_tellOne 211 = .ok (.goto 56, 3) := by decide +kernel
theorem dX11_tellOne_214 : decode cX11_tellOne 214 = .ok (.aload_n 0, 1) := by decide +kernel
theorem dX11_tellOne_215 : decode cX11_tellOne 215 = .ok (.getfield 20, 3) := by decide +kernel
theorem dX11_tellOne_218 : decode cX11_tellOne 218 = .ok (.aload_n 0, 1) := by decide +kernel
theorem dX11_tellOne_219 : decode cX11_tellOne 219 = .ok (.getfield 206, 3) := by decide +kernel
theorem dX11_tellOne_222 : decode cX11_tellOne 222 = .ok (.iaload, 1) := by decide +kernel
theorem dX11_tellOne_223 : decode cX11_tellOne 223 = .ok (.bipush 23, 2) := by decide +kernel
theorem dX11_tellOne_225 : decode cX11_tellOne 225 = .ok (.isub, 1) := by decide +kernel
theorem dX11_tellOne_226 : decode cX11_tellOne 226 = .ok (.istore_n 1, 1) := by decide +kernel
theorem dX11_tellOne_227 : decode cX11_tellOne 227 = .ok (.iload_n 1, 1) := by decide +kernel
theorem dX11_tellOne_228 : decode cX11_tellOne 228 = .ok (.ifCond .lt 17, 3) := by decide +kernel
theorem dX11_tellOne_231 : decode cX11_tellOne 231 = .ok (.aload_n 0, 1) := by decide +kernel
theorem dX11_tellOne_232 : decode cX11_tellOne 232 = .ok (.getfield 20, 3) := by decide +kernel
theorem dX11_tellOne_235 : decode cX11_tellOne 235 = .ok (.aload_n 0, 1) := by decide +kernel
theorem dX11_tellOne_236 : decode cX11_tellOne 236 = .ok (.getfield 206, 3) := by decide +kernel
theorem dX11_tellOne_239 : decode cX11_tellOne 239 = .ok (.iaload, 1) := by decide +kernel
theorem dX11_tellOne_240 : decode cX11_tellOne 240 = .ok (.bipush 29, 2) := by decide +kernel
theorem dX11_tellOne_242 : decode cX11_tellOne 242 = .ok (.if_icmp .le 8, 3) := by decide +kernel
theorem dX11_tellOne_245 : decode cX11_tellOne 245 = .ok (.aload_n 0, 1) := by decide +kernel
theorem dX11_tellOne_246 : decode cX11_tellOne 246 = .ok (.iconst 1, 1) := by decide +kernel
theorem dX11_tellOne_247 : decode cX11_tellOne 247 = .ok (.invokevirtual 218, 3) := by decide +kernel
theorem dX11_tellOne_250 : decode cX11_tellOne 250 = .ok (.aload_n 0, 1) := by decide +kernel
theorem dX11_tellOne_251 : decode cX11_tellOne 251 = .ok (.getfield 203, 3) := by decide +kernel
theorem dX11_tellOne_254 : decode cX11_tellOne 254 = .ok (.ifCond .le 4, 3) := by decide +kernel
theorem dX11_tellOne_257 : decode cX11_tellOne 257 = .ok (.return_, 1) := by decide +kernel
theorem dX11_tellOne_258 : decode cX11_tellOne 258 = .ok (.aload_n 0, 1) := by decide +kernel
theorem dX11_tellOne_259 : decode cX11_tellOne 259 = .ok (.invokevirtual 224, 3) := by decide +kernel
theorem dX11_tellOne_262 : decode cX11_tellOne 262 = .ok (.aload_n 0, 1) := by decide +kernel
theorem dX11_tellOne_263 : decode cX11_tellOne 263 = .ok (.iload_n 1, 1) := by decide +kernel
theorem dX11_tellOne_264 : decode cX11_tellOne 264 = .ok (.invokevirtual 277, 3) := by decide +kernel
theorem dX11_tellOne_267 : decode cX11_tellOne 267 = .ok (.return_, 1) := by decide +kernel
theorem dX11_named_0 : decode cX11_named 0 = .ok (.aload_n 0, 1) := by decide +kernel
theorem dX11_named_1 : decode cX11_named 1 = .ok (.getfield 206, 3) := by decide +kernel
theorem dX11_named_4 : decode cX11_named 4 = .ok (.istore_n 1, 1) := by decide +kernel
theorem dX11_named_5 : decode cX11_named 5 = .ok (.aload_n 0, 1) := by decide +kernel
theorem dX11_named_6 : decode cX11_named 6 = .ok (.iconst 1, 1) := by decide +kernel
theorem dX11_named_7 : decode cX11_named 7 = .ok (.invokevirtual 274, 3) := by decide +kernel
theorem dX11_named_10 : decode cX11_named 10 = .ok (.iconst 0, 1) := by decide +kernel
theorem dX11_named_11 : decode cX11_named 11 = .ok (.istore_n 2, 1) := by decide +kernel
theorem dX11_named_12 : decode cX11_named 12 = .ok (.iload_n 2, 1) := by decide +kernel
theorem dX11_named_13 : decode cX11_named 13 = .ok (.aload_n 0, 1) := by decide +kernel
theorem dX11_named_14 : decode cX11_named 14 = .ok (.getfield 239, 3) := by decide +kernel
theorem dX11_named_17 : decode cX11_named 17 = .ok (.if_icmp .ge 38, 3) := by decide +kernel
theorem dX11_named_20 : decode cX11_named 20 = .ok (.aload_n 0, 1) := by decide +kernel
theorem dX11_named_21 : decode cX11_named 21 = .ok (.getfield 203, 3) := by decide +kernel
theorem dX11_named_24 : decode cX11_named 24 = .ok (.ifCond .ne 31, 3) := by decide +kernel
theorem dX11_named_27 : decode cX11_named 27 = .ok (.aload_n 0, 1) := by decide +kernel
theorem dX11_named_28 : decode cX11_named 28 = .ok (.getfield 40, 3) := by decide +kernel
theorem dX11_named_31 : decode cX11_named 31 = .ok (.iload_n 2, 1) := by decide +kernel
theorem dX11_named_32 : decode cX11_named 32 = .ok (.laload, 1) := by decide +kernel
theorem dX11_named_33 : decode cX11_named 33 = .ok (.aload_n 0, 1) := by decide +kernel
theorem dX11_named_34 : decode cX11_named 34 = .ok (.getfield 30, 3) := by decide +kernel
theorem dX11_named_37 : decode cX11_named 37 = .ok (.iload_n 1, 1) := by decide +kernel
theorem dX11_named_38 : decode cX11_named 38 = .ok (.laload, 1) := by decide +kernel
theorem dX11_named_39 : decode cX11_named 39 = .ok (.lcmp, 1) := by decide +kernel
theorem dX11_named_40 : decode cX11_named 40 = .ok (.ifCond .ne 9, 3) := by decide +kernel
theorem dX11_named_43 : decode cX11_named 43 = .ok (.aload_n 0, 1) := by decide +kernel
theorem dX11_named_44 : decode cX11_named 44 = .ok (.iconst 3, 1) := by decide +kernel
theorem dX11_named_45 : decode cX11_named 45 = .ok (.iload_n 1, 1) := by decide +kernel
theorem dX11_named_46 : decode cX11_named 46 = .ok (.invokevirtual 280, 3) := by decide +kernel
theorem dX11_named_49 : decode cX11_named 49 = .ok (.iinc 2 1, 3) := by decide +kernel
theorem dX11_named_52 : decode cX11_named 52 = .ok (.goto (-40), 3) := by decide +kernel
theorem dX11_named_55 : decode cX11_named 55 = .ok (.iload_n 1, 1) := by decide +kernel
theorem dX11_named_56 : decode cX11_named 56 = .ok (.ireturn, 1) := by decide +kernel
theorem dX11_ends_0 : decode cX11_ends 0 = .ok (.aload_n 0, 1) := by decide +kernel
theorem dX11_ends_1 : decode cX11_ends 1 = .ok (.iconst 4, 1) := by decide +kernel
theorem dX11_ends_2 : decode cX11_ends 2 = .ok (.invokevirtual 274, 3) := by decide +kernel
theorem dX11_ends_5 : decode cX11_ends 5 = .ok (.aload_n 0, 1) := by decide +kernel
theorem dX11_ends_6 : decode cX11_ends 6 = .ok (.getfield 203, 3) := by decide +kernel
theorem dX11_ends_9 : decode cX11_ends 9 = .ok (.ifCond .le 4, 3) := by decide +kernel
theorem dX11_ends_12 : decode cX11_ends 12 = .ok (.return_, 1) := by decide +kernel
theorem dX11_ends_13 : decode cX11_ends 13 = .ok (.aload_n 0, 1) := by decide +kernel
theorem dX11_ends_14 : decode cX11_ends 14 = .ok (.getfield 40, 3) := by decide +kernel
theorem dX11_ends_17 : decode cX11_ends 17 = .ok (.aload_n 0, 1) := by decide +kernel
theorem dX11_ends_18 : decode cX11_ends 18 = .ok (.getfield 239, 3) := by decide +kernel
theorem dX11_ends_21 : decode cX11_ends 21 = .ok (.aload_n 0, 1) := by decide +kernel
theorem dX11_ends_22 : decode cX11_ends 22 = .ok (.getfield 30, 3) := by decide +kernel
theorem dX11_ends_25 : decode cX11_ends 25 = .ok (.iload_n 1, 1) := by decide +kernel
theorem dX11_ends_26 : decode cX11_ends 26 = .ok (.laload, 1) := by decide +kernel
theorem dX11_ends_27 : decode cX11_ends 27 = .ok (.lastore, 1) := by decide +kernel
theorem dX11_ends_28 : decode cX11_ends 28 = .ok (.aload_n 0, 1) := by decide +kernel
theorem dX11_ends_29 : decode cX11_ends 29 = .ok (.getfield 43, 3) := by decide +kernel
theorem dX11_ends_32 : decode cX11_ends 32 = .ok (.aload_n 0, 1) := by decide +kernel
theorem dX11_ends_33 : decode cX11_ends 33 = .ok (.getfield 239, 3) := by decide +kernel
theorem dX11_ends_36 : decode cX11_ends 36 = .ok (.iload_n 2, 1) := by decide +kernel
theorem dX11_ends_37 : decode cX11_ends 37 = .ok (.iastore, 1) := by decide +kernel
theorem dX11_ends_38 : decode cX11_ends 38 = .ok (.aload_n 0, 1) := by decide +kernel
theorem dX11_ends_39 : decode cX11_ends 39 = .ok (.dup, 1) := by decide +kernel
theorem dX11_ends_40 : decode cX11_ends 40 = .ok (.getfield 239, 3) := by decide +kernel
theorem dX11_ends_43 : decode cX11_ends 43 = .ok (.iconst 1, 1) := by decide +kernel
theorem dX11_ends_44 : decode cX11_ends 44 = .ok (.iadd, 1) := by decide +kernel
theorem dX11_ends_45 : decode cX11_ends 45 = .ok (.putfield 239, 3) := by decide +kernel
theorem dX11_ends_48 : decode cX11_ends 48 = .ok (.return_, 1) := by decide +kernel
theorem dX11_knownSpouse_0 : decode cX11_knownSpouse 0 = .ok (.aload_n 0, 1) := by decide +kernel
theorem dX11_knownSpouse_1 : decode cX11_knownSpouse 1 = .ok (.getfield 206, 3) := by decide +kernel
theorem dX11_knownSpouse_4 : decode cX11_knownSpouse 4 = .ok (.istore_n 1, 1) := by decide +kernel
theorem dX11_knownSpouse_5 : decode cX11_knownSpouse 5 = .ok (.aload_n 0, 1) := by decide +kernel
theorem dX11_knownSpouse_6 : decode cX11_knownSpouse 6 = .ok (.iconst 1, 1) := by decide +kernel
theorem dX11_knownSpouse_7 : decode cX11_knownSpouse 7 = .ok (.invokevirtual 274, 3) := by decide +kernel
theorem dX11_knownSpouse_10 : decode cX11_knownSpouse 10 = .ok (.aload_n 0, 1) := by decide +kernel
theorem dX11_knownSpouse_11 : decode cX11_knownSpouse 11 = .ok (.getfield 203, 3) := by decide +kernel
theorem dX11_knownSpouse_14 : decode cX11_knownSpouse 14 = .ok (.ifCond .le 5, 3) := by decide +kernel
theorem dX11_knownSpouse_17 : decode cX11_knownSpouse 17 = .ok (.iconst (-1), 1) := by decide +kernel
theorem dX11_knownSpouse_18 : decode cX11_knownSpouse 18 = .ok (.ireturn, 1) := by decide +kernel
theorem dX11_knownSpouse_19 : decode cX11_knownSpouse 19 = .ok (.iconst 0, 1) := by decide +kernel
theorem dX11_knownSpouse_20 : decode cX11_knownSpouse 20 = .ok (.istore_n 2, 1) := by decide +kernel
theorem dX11_knownSpouse_21 : decode cX11_knownSpouse 21 = .ok (.iload_n 2, 1) := by decide +kernel
theorem dX11_knownSpouse_22 : decode cX11_knownSpouse 22 = .ok (.aload_n 0, 1) := by decide +kernel
theorem dX11_knownSpouse_23 : decode cX11_knownSpouse 23 = .ok (.getfield 239, 3) := by decide +kernel
theorem dX11_knownSpouse_26 : decode cX11_knownSpouse 26 = .ok (.if_icmp .ge 41, 3) := by decide +kernel
theorem dX11_knownSpouse_29 : decode cX11_knownSpouse 29 = .ok (.aload_n 0, 1) := by decide +kernel
theorem dX11_knownSpouse_30 : decode cX11_knownSpouse 30 = .ok (.getfield 40, 3) := by decide +kernel
theorem dX11_knownSpouse_33 : decode cX11_knownSpouse 33 = .ok (.iload_n 2, 1) := by decide +kernel
theorem dX11_knownSpouse_34 : decode cX11_knownSpouse 34 = .ok (.laload, 1) := by decide +kernel
theorem dX11_knownSpouse_35 : decode cX11_knownSpouse 35 = .ok (.aload_n 0, 1) := by decide +kernel
theorem dX11_knownSpouse_36 : decode cX11_knownSpouse 36 = .ok (.getfield 30, 3) := by decide +kernel
theorem dX11_knownSpouse_39 : decode cX11_knownSpouse 39 = .ok (.iload_n 1, 1) := by decide +kernel
theorem dX11_knownSpouse_40 : decode cX11_knownSpouse 40 = .ok (.laload, 1) := by decide +kernel
theorem dX11_knownSpouse_41 : decode cX11_knownSpouse 41 = .ok (.lcmp, 1) := by decide +kernel
theorem dX11_knownSpouse_42 : decode cX11_knownSpouse 42 = .ok (.ifCond .ne 19, 3) := by decide +kernel
theorem dX11_knownSpouse_45 : decode cX11_knownSpouse 45 = .ok (.aload_n 0, 1) := by decide +kernel
theorem dX11_knownSpouse_46 : decode cX11_knownSpouse 46 = .ok (.getfield 43, 3) := by decide +kernel
theorem dX11_knownSpouse_49 : decode cX11_knownSpouse 49 = .ok (.iload_n 2, 1) := by decide +kernel
theorem dX11_knownSpouse_50 : decode cX11_knownSpouse 50 = .ok (.iaload, 1) := by decide +kernel
theorem dX11_knownSpouse_51 : decode cX11_knownSpouse 51 = .ok (.ifCond .lt 10, 3) := by decide +kernel
theorem dX11_knownSpouse_54 : decode cX11_knownSpouse 54 = .ok (.aload_n 0, 1) := by decide +kernel
theorem dX11_knownSpouse_55 : decode cX11_knownSpouse 55 = .ok (.getfield 43, 3) := by decide +kernel
theorem dX11_knownSpouse_58 : decode cX11_knownSpouse 58 = .ok (.iload_n 2, 1) := by decide +kernel
theorem dX11_knownSpouse_59 : decode cX11_knownSpouse 59 = .ok (.iaload, 1) := by decide +kernel
theorem dX11_knownSpouse_60 : decode cX11_knownSpouse 60 = .ok (.ireturn, 1) := by decide +kernel
theorem dX11_knownSpouse_61 : decode cX11_knownSpouse 61 = .ok (.iinc 2 1, 3) := by decide +kernel
theorem dX11_knownSpouse_64 : decode cX11_knownSpouse 64 = .ok (.goto (-43), 3) := by decide +kernel
theorem dX11_knownSpouse_67 : decode cX11_knownSpouse 67 = .ok (.aload_n 0, 1) := by decide +kernel
theorem dX11_knownSpouse_68 : decode cX11_knownSpouse 68 = .ok (.iconst 4, 1) := by decide +kernel
theorem dX11_knownSpouse_69 : decode cX11_knownSpouse 69 = .ok (.iload_n 1, 1) := by decide +kernel
theorem dX11_knownSpouse_70 : decode cX11_knownSpouse 70 = .ok (.invokevirtual 280, 3) := by decide +kernel
theorem dX11_knownSpouse_73 : decode cX11_knownSpouse 73 = .ok (.iconst (-1), 1) := by decide +kernel
theorem dX11_knownSpouse_74 : decode cX11_knownSpouse 74 = .ok (.ireturn, 1) := by decide +kernel
theorem dX11_bounded_0 : decode cX11_bounded 0 = .ok (.aload_n 0, 1) := by decide +kernel
theorem dX11_bounded_1 : decode cX11_bounded 1 = .ok (.getfield 203, 3) := by decide +kernel
theorem dX11_bounded_4 : decode cX11_bounded 4 = .ok (.ifCond .gt 11, 3) := by decide +kernel
theorem dX11_bounded_7 : decode cX11_bounded 7 = .ok (.aload_n 0, 1) := by decide +kernel
theorem dX11_bounded_8 : decode cX11_bounded 8 = .ok (.iconst 2, 1) := by decide +kernel
theorem dX11_bounded_9 : decode cX11_bounded 9 = .ok (.invokevirtual 221, 3) := by decide +kernel
theorem dX11_bounded_12 : decode cX11_bounded 12 = .ok (.ifCond .ne 10, 3) := by decide +kernel
theorem dX11_bounded_15 : decode cX11_bounded 15 = .ok (.aload_n 0, 1) := by decide +kernel
theorem dX11_bounded_16 : decode cX11_bounded 16 = .ok (.iconst 1, 1) := by decide +kernel
theorem dX11_bounded_17 : decode cX11_bounded 17 = .ok (.invokevirtual 218, 3) := by decide +kernel
theorem dX11_bounded_20 : decode cX11_bounded 20 = .ok (.iload_n 1, 1) := by decide +kernel
theorem dX11_bounded_21 : decode cX11_bounded 21 = .ok (.ireturn, 1) := by decide +kernel
theorem dX11_bounded_22 : decode cX11_bounded 22 = .ok (.aload_n 0, 1) := by decide +kernel
theorem dX11_bounded_23 : decode cX11_bounded 23 = .ok (.getfield 27, 3) := by decide +kernel
theorem dX11_bounded_26 : decode cX11_bounded 26 = .ok (.aload_n 0, 1) := by decide +kernel
theorem dX11_bounded_27 : decode cX11_bounded 27 = .ok (.getfield 206, 3) := by decide +kernel
theorem dX11_bounded_30 : decode cX11_bounded 30 = .ok (.iaload, 1) := by decide +kernel
theorem dX11_bounded_31 : decode cX11_bounded 31 = .ok (.istore_n 3, 1) := by decide +kernel
theorem dX11_bounded_32 : decode cX11_bounded 32 = .ok (.iload_n 3, 1) := by decide +kernel
theorem dX11_bounded_33 : decode cX11_bounded 33 = .ok (.iload_n 1, 1) := by decide +kernel
theorem dX11_bounded_34 : decode cX11_bounded 34 = .ok (.if_icmp .lt 8, 3) := by decide +kernel
theorem dX11_bounded_37 : decode cX11_bounded 37 = .ok (.iload_n 3, 1) := by decide +kernel
theorem dX11_bounded_38 : decode cX11_bounded 38 = .ok (.iload_n 2, 1) := by decide +kernel
theorem dX11_bounded_39 : decode cX11_bounded 39 = .ok (.if_icmp .le 12, 3) := by decide +kernel
theorem dX11_bounded_42 : decode cX11_bounded 42 = .ok (.aload_n 0, 1) := by decide +kernel
theorem dX11_bounded_43 : decode cX11_bounded 43 = .ok (.iconst 5, 1) := by decide +kernel
theorem dX11_bounded_44 : decode cX11_bounded 44 = .ok (.aload_n 0, 1) := by decide +kernel
theorem dX11_bounded_45 : decode cX11_bounded 45 = .ok (.getfield 206, 3) := by decide +kernel
theorem dX11_bounded_48 : decode cX11_bounded 48 = .ok (.invokevirtual 280, 3) := by decide +kernel
theorem dX11_bounded_51 : decode cX11_bounded 51 = .ok (.aload_n 0, 1) := by decide +kernel
theorem dX11_bounded_52 : decode cX11_bounded 52 = .ok (.invokevirtual 224, 3) := by decide +kernel
theorem dX11_bounded_55 : decode cX11_bounded 55 = .ok (.iload_n 3, 1) := by decide +kernel
theorem dX11_bounded_56 : decode cX11_bounded 56 = .ok (.ireturn, 1) := by decide +kernel
theorem dX11_tellSpouse_0 : decode cX11_tellSpouse 0 = .ok (.bipush 6, 2) := by decide +kernel
theorem dX11_tellSpouse_2 : decode cX11_tellSpouse 2 = .ok (.aload_n 0, 1) := by decide +kernel
theorem dX11_tellSpouse_3 : decode cX11_tellSpouse 3 = .ok (.getfield 236, 3) := by decide +kernel
theorem dX11_tellSpouse_6 : decode cX11_tellSpouse 6 = .ok (.imul, 1) := by decide +kernel
theorem dX11_tellSpouse_7 : decode cX11_tellSpouse 7 = .ok (.aload_n 0, 1) := by decide +kernel
theorem dX11_tellSpouse_8 : decode cX11_tellSpouse 8 = .ok (.getfield 46, 3) := by decide +kernel
theorem dX11_tellSpouse_11 : decode cX11_tellSpouse 11 = .ok (.aload_n 0, 1) := by decide +kernel
theorem dX11_tellSpouse_12 : decode cX11_tellSpouse 12 = .ok (.getfield 236, 3) := by decide +kernel
theorem dX11_tellSpouse_15 : decode cX11_tellSpouse 15 = .ok (.iaload, 1) := by decide +kernel
theorem dX11_tellSpouse_16 : decode cX11_tellSpouse 16 = .ok (.iadd, 1) := by decide +kernel
theorem dX11_tellSpouse_17 : decode cX11_tellSpouse 17 = .ok (.istore_n 1, 1) := by decide +kernel
theorem dX11_tellSpouse_18 : decode cX11_tellSpouse 18 = .ok (.aload_n 0, 1) := by decide +kernel
theorem dX11_tellSpouse_19 : decode cX11_tellSpouse 19 = .ok (.invokevirtual 283, 3) := by decide +kernel
theorem dX11_tellSpouse_22 : decode cX11_tellSpouse 22 = .ok (.istore_n 2, 1) := by decide +kernel
theorem dX11_tellSpouse_23 : decode cX11_tellSpouse 23 = .ok (.aload_n 0, 1) := by decide +kernel
theorem dX11_tellSpouse_24 : decode cX11_tellSpouse 24 = .ok (.getfield 49, 3) := by decide +kernel
theorem dX11_tellSpouse_27 : decode cX11_tellSpouse 27 = .ok (.iload_n 1, 1) := by decide +kernel
theorem dX11_tellSpouse_28 : decode cX11_tellSpouse 28 = .ok (.aload_n 0, 1) := by decide +kernel
theorem dX11_tellSpouse_29 : decode cX11_tellSpouse 29 = .ok (.iconst 0, 1) := by decide +kernel
theorem dX11_tellSpouse_30 : decode cX11_tellSpouse 30 = .ok (.bipush 99, 2) := by decide +kernel
theorem dX11_tellSpouse_32 : decode cX11_tellSpouse 32 = .ok (.invokevirtual 270, 3) := by decide +kernel
theorem dX11_tellSpouse_35 : decode cX11_tellSpouse 35 = .ok (.iastore, 1) := by decide +kernel
theorem dX11_tellSpouse_36 : decode cX11_tellSpouse 36 = .ok (.aload_n 0, 1) := by decide +kernel
theorem dX11_tellSpouse_37 : decode cX11_tellSpouse 37 = .ok (.getfield 52, 3) := by decide +kernel
theorem dX11_tellSpouse_40 : decode cX11_tellSpouse 40 = .ok (.iload_n 1, 1) := by decide +kernel
theorem dX11_tellSpouse_41 : decode cX11_tellSpouse 41 = .ok (.bipush (-2), 2) := by decide +kernel
theorem dX11_tellSpouse_43 : decode cX11_tellSpouse 43 = .ok (.iastore, 1) := by decide +kernel
theorem dX11_tellSpouse_44 : decode cX11_tellSpouse 44 = .ok (.aload_n 0, 1) := by decide +kernel
theorem dX11_tellSpouse_45 : decode cX11_tellSpouse 45 = .ok (.iload_n 2, 1) := by decide +kernel
theorem dX11_tellSpouse_46 : decode cX11_tellSpouse 46 = .ok (.aload_n 0, 1) := by decide +kernel
theorem dX11_tellSpouse_47 : decode cX11_tellSpouse 47 = .ok (.getfield 46, 3) := by decide +kernel
theorem dX11_tellSpouse_50 : decode cX11_tellSpouse 50 = .ok (.aload_n 0, 1) := by decide +kernel
theorem dX11_tellSpouse_51 : decode cX11_tellSpouse 51 = .ok (.getfield 236, 3) := by decide +kernel
theorem dX11_tellSpouse_54 : decode cX11_tellSpouse 54 = .ok (.iaload, 1) := by decide +kernel
theorem dX11_tellSpouse_55 : decode cX11_tellSpouse 55 = .ok (.invokevirtual 287, 3) := by decide +kernel
theorem dX11_tellSpouse_58 : decode cX11_tellSpouse 58 = .ok (.aload_n 0, 1) := by decide +kernel
theorem dX11_tellSpouse_59 : decode cX11_tellSpouse 59 = .ok (.getfield 203, 3) := by decide +kernel
theorem dX11_tellSpouse_62 : decode cX11_tellSpouse 62 = .ok (.ifCond .ne 16, 3) := by decide +kernel
theorem dX11_tellSpouse_65 : decode cX11_tellSpouse 65 = .ok (.aload_n 0, 1) := by decide +kernel
theorem dX11_tellSpouse_66 : decode cX11_tellSpouse 66 = .ok (.getfield 46, 3) := by decide +kernel
theorem dX11_tellSpouse_69 : decode cX11_tellSpouse 69 = .ok (.aload_n 0, 1) := by decide +kernel
theorem dX11_tellSpouse_70 : decode cX11_tellSpouse 70 = .ok (.getfield 236, 3) := by decide +kernel
theorem dX11_tellSpouse_73 : decode cX11_tellSpouse 73 = .ok (.dup2, 1) := by decide +kernel
theorem dX11_tellSpouse_74 : decode cX11_tellSpouse 74 = .ok (.iaload, 1) := by decide +kernel
theorem dX11_tellSpouse_75 : decode cX11_tellSpouse 75 = .ok (.iconst 1, 1) := by decide +kernel
theorem dX11_tellSpouse_76 : decode cX11_tellSpouse 76 = .ok (.iadd, 1) := by decide +kernel
theorem dX11_tellSpouse_77 : decode cX11_tellSpouse 77 = .ok (.iastore, 1) := by decide +kernel
theorem dX11_tellSpouse_78 : decode cX11_tellSpouse 78 = .ok (.return_, 1) := by decide +kernel
theorem dX11_tellCouple_0 : decode cX11_tellCouple 0 = .ok (.iconst 3, 1) := by decide +kernel
theorem dX11_tellCouple_1 : decode cX11_tellCouple 1 = .ok (.aload_n 0, 1) := by decide +kernel
theorem dX11_tellCouple_2 : decode cX11_tellCouple 2 = .ok (.getfield 236, 3) := by decide +kernel
theorem dX11_tellCouple_5 : decode cX11_tellCouple 5 = .ok (.imul, 1) := by decide +kernel
theorem dX11_tellCouple_6 : decode cX11_tellCouple 6 = .ok (.aload_n 0, 1) := by decide +kernel
theorem dX11_tellCouple_7 : decode cX11_tellCouple 7 = .ok (.getfield 55, 3) := by decide +kernel
theorem dX11_tellCouple_10 : decode cX11_tellCouple 10 = .ok (.aload_n 0, 1) := by decide +kernel
theorem dX11_tellCouple_11 : decode cX11_tellCouple 11 = .ok (.getfield 236, 3) := by decide +kernel
theorem dX11_tellCouple_14 : decode cX11_tellCouple 14 = .ok (.iaload, 1) := by decide +kernel
theorem dX11_tellCouple_15 : decode cX11_tellCouple 15 = .ok (.iadd, 1) := by decide +kernel
theorem dX11_tellCouple_16 : decode cX11_tellCouple 16 = .ok (.istore_n 1, 1) := by decide +kernel
theorem dX11_tellCouple_17 : decode cX11_tellCouple 17 = .ok (.aload_n 0, 1) := by decide +kernel
theorem dX11_tellCouple_18 : decode cX11_tellCouple 18 = .ok (.getfield 206, 3) := by decide +kernel
theorem dX11_tellCouple_21 : decode cX11_tellCouple 21 = .ok (.istore_n 2, 1) := by decide +kernel
theorem dX11_tellCouple_22 : decode cX11_tellCouple 22 = .ok (.aload_n 0, 1) := by decide +kernel
theorem dX11_tellCouple_23 : decode cX11_tellCouple 23 = .ok (.invokevirtual 290, 3) := by decide +kernel
theorem dX11_tellCouple_26 : decode cX11_tellCouple 26 = .ok (.istore_n 3, 1) := by decide +kernel
theorem dX11_tellCouple_27 : decode cX11_tellCouple 27 = .ok (.aload_n 0, 1) := by decide +kernel
theorem dX11_tellCouple_28 : decode cX11_tellCouple 28 = .ok (.getfield 203, 3) := by decide +kernel
theorem dX11_tellCouple_31 : decode cX11_tellCouple 31 = .ok (.ifCond .ne 30, 3) := by decide +kernel
theorem dX11_tellCouple_34 : decode cX11_tellCouple 34 = .ok (.iload_n 3, 1) := by decide +kernel
theorem dX11_tellCouple_35 : decode cX11_tellCouple 35 = .ok (.ifCond .lt 26, 3) := by decide +kernel
theorem dX11_tellCouple_38 : decode cX11_tellCouple 38 = .ok (.aload_n 0, 1) := by decide +kernel
theorem dX11_tellCouple_39 : decode cX11_tellCouple 39 = .ok (.getfield 52, 3) := by decide +kernel
theorem dX11_tellCouple_42 : decode cX11_tellCouple 42 = .ok (.bipush 6, 2) := by decide +kernel
theorem dX11_tellCouple_44 : decode cX11_tellCouple 44 = .ok (.aload_n 0, 1) := by decide +kernel
theorem dX11_tellCouple_45 : decode cX11_tellCouple 45 = .ok (.getfield 236, 3) := by decide +kernel
theorem dX11_tellCouple_48 : decode cX11_tellCouple 48 = .ok (.imul, 1) := by decide +kernel
theorem dX11_tellCouple_49 : decode cX11_tellCouple 49 = .ok (.iload_n 3, 1) := by decide +kernel
theorem dX11_tellCouple_50 : decode cX11_tellCouple 50 = .ok (.iadd, 1) := by decide +kernel
theorem dX11_tellCouple_51 : decode cX11_tellCouple 51 = .ok (.iaload, 1) := by decide +kernel
theorem dX11_tellCouple_52 : decode cX11_tellCouple 52 = .ok (.ifCond .lt 9, 3) := by decide +kernel
theorem dX11_tellCouple_55 : decode cX11_tellCouple 55 = .ok (.aload_n 0, 1) := by decide +kernel
theorem dX11_tellCouple_56 : decode cX11_tellCouple 56 = .ok (.iconst 3, 1) := by decide +kernel
theorem dX11_tellCouple_57 : decode cX11_tellCouple 57 = .ok (.iload_n 2, 1) := by decide +kernel
theorem dX11_tellCouple_58 : decode cX11_tellCouple 58 = .ok (.invokevirtual 280, 3) := by decide +kernel
theorem dX11_tellCouple_61 : decode cX11_tellCouple 61 = .ok (.aload_n 0, 1) := by decide +kernel
theorem dX11_tellCouple_62 : decode cX11_tellCouple 62 = .ok (.getfield 206, 3) := by decide +kernel
theorem dX11_tellCouple_65 : decode cX11_tellCouple 65 = .ok (.istore_n 2, 1) := by decide +kernel
theorem dX11_tellCouple_66 : decode cX11_tellCouple 66 = .ok (.aload_n 0, 1) := by decide +kernel
theorem dX11_tellCouple_67 : decode cX11_tellCouple 67 = .ok (.invokevirtual 290, 3) := by decide +kernel
theorem dX11_tellCouple_70 : decode cX11_tellCouple 70 = .ok (.istore 4, 2) := by decide +kernel
theorem dX11_tellCouple_72 : decode cX11_tellCouple 72 = .ok (.aload_n 0, 1) := by decide +kernel
theorem dX11_tellCouple_73 : decode cX11_tellCouple 73 = .ok (.getfield 203, 3) := by decide +kernel
theorem dX11_tellCouple_76 : decode cX11_tellCouple 76 = .ok (.ifCond .ne 38, 3) := by decide +kernel
theorem dX11_tellCouple_79 : decode cX11_tellCouple 79 = .ok (.iload 4, 2) := by decide +kernel
theorem dX11_tellCouple_81 : decode cX11_tellCouple 81 = .ok (.ifCond .lt 33, 3) := by decide +kernel
theorem dX11_tellCouple_84 : decode cX11_tellCouple 84 = .ok (.iload_n 3, 1) := by decide +kernel
theorem dX11_tellCouple_85 : decode cX11_tellCouple 85 = .ok (.iload 4, 2) := by decide +kernel
theorem dX11_tellCouple_87 : decode cX11_tellCouple 87 = .ok (.if_icmp .eq 21, 3) := by decide +kernel
theorem dX11_tellCouple_90 : decode cX11_tellCouple 90 = .ok (.aload_n 0, 1) := by decide +kernel
theorem dX11_tellCouple_91 : decode cX11_tellCouple 91 = .ok (.getfield 52, 3) := by decide +kernel
theorem dX11_tellCouple_94 : decode cX11_tellCouple 94 = .ok (.bipush 6, 2) := by decide +kernel
theorem dX11_tellCouple_96 : decode cX11_tellCouple 96 = .ok (.aload_n 0, 1) := by decide +kernel
theorem dX11_tellCouple_97 : decode cX11_tellCouple 97 = .ok (.getfield 236, 3) := by decide +kernel
theorem dX11_tellCouple_100 : decode cX11_tellCouple 100 = .ok (.imul, 1) := by decide +kernel
theorem dX11_tellCouple_101 : decode cX11_tellCouple 101 = .ok (.iload 4, 2) := by decide +kernel
theorem dX11_tellCouple_103 : decode cX11_tellCouple 103 = .ok (.iadd, 1) := by decide +kernel
theorem dX11_tellCouple_104 : decode cX11_tellCouple 104 = .ok (.iaload, 1) := by decide +kernel
theorem dX11_tellCouple_105 : decode cX11_tellCouple 105 = .ok (.ifCond .lt 9, 3) := by decide +kernel
theorem dX11_tellCouple_108 : decode cX11_tellCouple 108 = .ok (.aload_n 0, 1) := by decide +kernel
theorem dX11_tellCouple_109 : decode cX11_tellCouple 109 = .ok (.iconst 3, 1) := by decide +kernel
theorem dX11_tellCouple_110 : decode cX11_tellCouple 110 = .ok (.iload_n 2, 1) := by decide +kernel
theorem dX11_tellCouple_111 : decode cX11_tellCouple 111 = .ok (.invokevirtual 280, 3) := by decide +kernel
theorem dX11_tellCouple_114 : decode cX11_tellCouple 114 = .ok (.aload_n 0, 1) := by decide +kernel
theorem dX11_tellCouple_115 : decode cX11_tellCouple 115 = .ok (.iconst 4, 1) := by decide +kernel
theorem dX11_tellCouple_116 : decode cX11_tellCouple 116 = .ok (.invokevirtual 274, 3) := by decide +kernel
theorem dX11_tellCouple_119 : decode cX11_tellCouple 119 = .ok (.aload_n 0, 1) := by decide +kernel
theorem dX11_tellCouple_120 : decode cX11_tellCouple 120 = .ok (.getfield 203, 3) := by decide +kernel
theorem dX11_tellCouple_123 : decode cX11_tellCouple 123 = .ok (.ifCond .le 4, 3) := by decide +kernel
theorem dX11_tellCouple_126 : decode cX11_tellCouple 126 = .ok (.return_, 1) := by decide +kernel
theorem dX11_tellCouple_127 : decode cX11_tellCouple 127 = .ok (.aload_n 0, 1) := by decide +kernel
theorem dX11_tellCouple_128 : decode cX11_tellCouple 128 = .ok (.getfield 58, 3) := by decide +kernel
theorem dX11_tellCouple_131 : decode cX11_tellCouple 131 = .ok (.iconst 2, 1) := by decide +kernel
theorem dX11_tellCouple_132 : decode cX11_tellCouple 132 = .ok (.iload_n 1, 1) := by decide +kernel
theorem dX11_tellCouple_133 : decode cX11_tellCouple 133 = .ok (.imul, 1) := by decide +kernel
theorem dX11_tellCouple_134 : decode cX11_tellCouple 134 = .ok (.iload_n 3, 1) := by decide +kernel
theorem dX11_tellCouple_135 : decode cX11_tellCouple 135 = .ok (.iastore, 1) := by decide +kernel
theorem dX11_tellCouple_136 : decode cX11_tellCouple 136 = .ok (.aload_n 0, 1) := by decide +kernel
theorem dX11_tellCouple_137 : decode cX11_tellCouple 137 = .ok (.getfield 58, 3) := by decide +kernel
theorem dX11_tellCouple_140 : decode cX11_tellCouple 140 = .ok (.iconst 2, 1) := by decide +kernel
theorem dX11_tellCouple_141 : decode cX11_tellCouple 141 = .ok (.iload_n 1, 1) := by decide +kernel
theorem dX11_tellCouple_142 : decode cX11_tellCouple 142 = .ok (.imul, 1) := by decide +kernel
theorem dX11_tellCouple_143 : decode cX11_tellCouple 143 = .ok (.iconst 1, 1) := by decide +kernel
theorem dX11_tellCouple_144 : decode cX11_tellCouple 144 = .ok (.iadd, 1) := by decide +kernel
theorem dX11_tellCouple_145 : decode cX11_tellCouple 145 = .ok (.iload 4, 2) := by decide +kernel
theorem dX11_tellCouple_147 : decode cX11_tellCouple 147 = .ok (.iastore, 1) := by decide +kernel
theorem dX11_tellCouple_148 : decode cX11_tellCouple 148 = .ok (.iload_n 3, 1) := by decide +kernel
theorem dX11_tellCouple_149 : decode cX11_tellCouple 149 = .ok (.ifCond .lt 26, 3) := by decide +kernel
theorem dX11_tellCouple_152 : decode cX11_tellCouple 152 = .ok (.aload_n 0, 1) := by decide +kernel
theorem dX11_tellCouple_153 : decode cX11_tellCouple 153 = .ok (.getfield 52, 3) := by decide +kernel
theorem dX11_tellCouple_156 : decode cX11_tellCouple 156 = .ok (.bipush 6, 2) := by decide +kernel
theorem dX11_tellCouple_158 : decode cX11_tellCouple 158 = .ok (.aload_n 0, 1) := by decide +kernel
theorem dX11_tellCouple_159 : decode cX11_tellCouple 159 = .ok (.getfield 236, 3) := by decide +kernel
theorem dX11_tellCouple_162 : decode cX11_tellCouple 162 = .ok (.imul, 1) := by decide +kernel
theorem dX11_tellCouple_163 : decode cX11_tellCouple 163 = .ok (.iload_n 3, 1) := by decide +kernel
theorem dX11_tellCouple_164 : decode cX11_tellCouple 164 = .ok (.iadd, 1) := by decide +kernel
theorem dX11_tellCouple_165 : decode cX11_tellCouple 165 = .ok (.aload_n 0, 1) := by decide +kernel
theorem dX11_tellCouple_166 : decode cX11_tellCouple 166 = .ok (.getfield 55, 3) := by decide +kernel
theorem dX11_tellCouple_169 : decode cX11_tellCouple 169 = .ok (.aload_n 0, 1) := by decide +kernel
theorem dX11_tellCouple_170 : decode cX11_tellCouple 170 = .ok (.getfield 236, 3) := by decide +kernel
theorem dX11_tellCouple_173 : decode cX11_tellCouple 173 = .ok (.iaload, 1) := by decide +kernel
theorem dX11_tellCouple_174 : decode cX11_tellCouple 174 = .ok (.iastore, 1) := by decide +kernel
theorem dX11_tellCouple_175 : decode cX11_tellCouple 175 = .ok (.iload 4, 2) := by decide +kernel
theorem dX11_tellCouple_177 : decode cX11_tellCouple 177 = .ok (.ifCond .lt 27, 3) := by decide +kernel
theorem dX11_tellCouple_180 : decode cX11_tellCouple 180 = .ok (.aload_n 0, 1) := by decide +kernel
theorem dX11_tellCouple_181 : decode cX11_tellCouple 181 = .ok (.getfield 52, 3) := by decide +kernel
theorem dX11_tellCouple_184 : decode cX11_tellCouple 184 = .ok (.bipush 6, 2) := by decide +kernel
theorem dX11_tellCouple_186 : decode cX11_tellCouple 186 = .ok (.aload_n 0, 1) := by decide +kernel
theorem dX11_tellCouple_187 : decode cX11_tellCouple 187 = .ok (.getfield 236, 3) := by decide +kernel
theorem dX11_tellCouple_190 : decode cX11_tellCouple 190 = .ok (.imul, 1) := by decide +kernel
theorem dX11_tellCouple_191 : decode cX11_tellCouple 191 = .ok (.iload 4, 2) := by decide +kernel
theorem dX11_tellCouple_193 : decode cX11_tellCouple 193 = .ok (.iadd, 1) := by decide +kernel
theorem dX11_tellCouple_194 : decode cX11_tellCouple 194 = .ok (.aload_n 0, 1) := by decide +kernel
theorem dX11_tellCouple_195 : decode cX11_tellCouple 195 = .ok (.getfield 55, 3) := by decide +kernel
theorem dX11_tellCouple_198 : decode cX11_tellCouple 198 = .ok (.aload_n 0, 1) := by decide +kernel
theorem dX11_tellCouple_199 : decode cX11_tellCouple 199 = .ok (.getfield 236, 3) := by decide +kernel
theorem dX11_tellCouple_202 : decode cX11_tellCouple 202 = .ok (.iaload, 1) := by decide +kernel
theorem dX11_tellCouple_203 : decode cX11_tellCouple 203 = .ok (.iastore, 1) := by decide +kernel
theorem dX11_tellCouple_204 : decode cX11_tellCouple 204 = .ok (.aload_n 0, 1) := by decide +kernel
theorem dX11_tellCouple_205 : decode cX11_tellCouple 205 = .ok (.getfield 55, 3) := by decide +kernel
theorem dX11_tellCouple_208 : decode cX11_tellCouple 208 = .ok (.aload_n 0, 1) := by decide +kernel
theorem dX11_tellCouple_209 : decode cX11_tellCouple 209 = .ok (.getfield 236, 3) := by decide +kernel
theorem dX11_tellCouple_212 : decode cX11_tellCouple 212 = .ok (.dup2, 1) := by decide +kernel
theorem dX11_tellCouple_213 : decode cX11_tellCouple 213 = .ok (.iaload, 1) := by decide +kernel
theorem dX11_tellCouple_214 : decode cX11_tellCouple 214 = .ok (.iconst 1, 1) := by decide +kernel
theorem dX11_tellCouple_215 : decode cX11_tellCouple 215 = .ok (.iadd, 1) := by decide +kernel
theorem dX11_tellCouple_216 : decode cX11_tellCouple 216 = .ok (.iastore, 1) := by decide +kernel
theorem dX11_tellCouple_217 : decode cX11_tellCouple 217 = .ok (.return_, 1) := by decide +kernel
theorem dX11_tellThird_0 : decode cX11_tellThird 0 = .ok (.iconst 4, 1) := by decide +kernel
theorem dX11_tellThird_1 : decode cX11_tellThird 1 = .ok (.aload_n 0, 1) := by decide +kernel
theorem dX11_tellThird_2 : decode cX11_tellThird 2 = .ok (.getfield 236, 3) := by decide +kernel
theorem dX11_tellThird_5 : decode cX11_tellThird 5 = .ok (.imul, 1) := by decide +kernel
theorem dX11_tellThird_6 : decode cX11_tellThird 6 = .ok (.aload_n 0, 1) := by decide +kernel
theorem dX11_tellThird_7 : decode cX11_tellThird 7 = .ok (.getfield 61, 3) := by decide +kernel
theorem dX11_tellThird_10 : decode cX11_tellThird 10 = .ok (.aload_n 0, 1) := by decide +kernel
theorem dX11_tellThird_11 : decode cX11_tellThird 11 = .ok (.getfield 236, 3) := by decide +kernel
theorem dX11_tellThird_14 : decode cX11_tellThird 14 = .ok (.iaload, 1) := by decide +kernel
theorem dX11_tellThird_15 : decode cX11_tellThird 15 = .ok (.iadd, 1) := by decide +kernel
theorem dX11_tellThird_16 : decode cX11_tellThird 16 = .ok (.istore_n 1, 1) := by decide +kernel
theorem dX11_tellThird_17 : decode cX11_tellThird 17 = .ok (.aload_n 0, 1) := by decide +kernel
theorem dX11_tellThird_18 : decode cX11_tellThird 18 = .ok (.invokevirtual 283, 3) := by decide +kernel
theorem dX11_tellThird_21 : decode cX11_tellThird 21 = .ok (.istore_n 2, 1) := by decide +kernel
theorem dX11_tellThird_22 : decode cX11_tellThird 22 = .ok (.aload_n 0, 1) := by decide +kernel
theorem dX11_tellThird_23 : decode cX11_tellThird 23 = .ok (.getfield 64, 3) := by decide +kernel
theorem dX11_tellThird_26 : decode cX11_tellThird 26 = .ok (.iload_n 1, 1) := by decide +kernel
theorem dX11_tellThird_27 : decode cX11_tellThird 27 = .ok (.aload_n 0, 1) := by decide +kernel
theorem dX11_tellThird_28 : decode cX11_tellThird 28 = .ok (.iconst 0, 1) := by decide +kernel
theorem dX11_tellThird_29 : decode cX11_tellThird 29 = .ok (.bipush 9, 2) := by decide +kernel
theorem dX11_tellThird_31 : decode cX11_tellThird 31 = .ok (.invokevirtual 270, 3) := by decide +kernel
theorem dX11_tellThird_34 : decode cX11_tellThird 34 = .ok (.iastore, 1) := by decide +kernel
theorem dX11_tellThird_35 : decode cX11_tellThird 35 = .ok (.aload_n 0, 1) := by decide +kernel
theorem dX11_tellThird_36 : decode cX11_tellThird 36 = .ok (.getfield 67, 3) := by decide +kernel
theorem dX11_tellThird_39 : decode cX11_tellThird 39 = .ok (.iload_n 1, 1) := by decide +kernel
theorem dX11_tellThird_40 : decode cX11_tellThird 40 = .ok (.aload_n 0, 1) := by decide +kernel
theorem dX11_tellThird_41 : decode cX11_tellThird 41 = .ok (.iconst 0, 1) := by decide +kernel
theorem dX11_tellThird_42 : decode cX11_tellThird 42 = .ok (.bipush 99, 2) := by decide +kernel
theorem dX11_tellThird_44 : decode cX11_tellThird 44 = .ok (.invokevirtual 270, 3) := by decide +kernel
theorem dX11_tellThird_47 : decode cX11_tellThird 47 = .ok (.iastore, 1) := by decide +kernel
theorem dX11_tellThird_48 : decode cX11_tellThird 48 = .ok (.aload_n 0, 1) := by decide +kernel
theorem dX11_tellThird_49 : decode cX11_tellThird 49 = .ok (.iload_n 2, 1) := by decide +kernel
theorem dX11_tellThird_50 : decode cX11_tellThird 50 = .ok (.iconst (-1), 1) := by decide +kernel
theorem dX11_tellThird_51 : decode cX11_tellThird 51 = .ok (.invokevirtual 287, 3) := by decide +kernel
theorem dX11_tellThird_54 : decode cX11_tellThird 54 = .ok (.aload_n 0, 1) := by decide +kernel
theorem dX11_tellThird_55 : decode cX11_tellThird 55 = .ok (.getfield 203, 3) := by decide +kernel
theorem dX11_tellThird_58 : decode cX11_tellThird 58 = .ok (.ifCond .ne 16, 3) := by decide +kernel
theorem dX11_tellThird_61 : decode cX11_tellThird 61 = .ok (.aload_n 0, 1) := by decide +kernel
theorem dX11_tellThird_62 : decode cX11_tellThird 62 = .ok (.getfield 61, 3) := by decide +kernel
theorem dX11_tellThird_65 : decode cX11_tellThird 65 = .ok (.aload_n 0, 1) := by decide +kernel
theorem dX11_tellThird_66 : decode cX11_tellThird 66 = .ok (.getfield 236, 3) := by decide +kernel
theorem dX11_tellThird_69 : decode cX11_tellThird 69 = .ok (.dup2, 1) := by decide +kernel
theorem dX11_tellThird_70 : decode cX11_tellThird 70 = .ok (.iaload, 1) := by decide +kernel
theorem dX11_tellThird_71 : decode cX11_tellThird 71 = .ok (.iconst 1, 1) := by decide +kernel
theorem dX11_tellThird_72 : decode cX11_tellThird 72 = .ok (.iadd, 1) := by decide +kernel
theorem dX11_tellThird_73 : decode cX11_tellThird 73 = .ok (.iastore, 1) := by decide +kernel
theorem dX11_tellThird_74 : decode cX11_tellThird 74 = .ok (.return_, 1) := by decide +kernel
theorem dX11_tellLaw_0 : decode cX11_tellLaw 0 = .ok (.aload_n 0, 1) := by decide +kernel
theorem dX11_tellLaw_1 : decode cX11_tellLaw 1 = .ok (.iconst 5, 1) := by decide +kernel
theorem dX11_tellLaw_2 : decode cX11_tellLaw 2 = .ok (.invokevirtual 274, 3) := by decide +kernel
theorem dX11_tellLaw_5 : decode cX11_tellLaw 5 = .ok (.aload_n 0, 1) := by decide +kernel
theorem dX11_tellLaw_6 : decode cX11_tellLaw 6 = .ok (.getfield 242, 3) := by decide +kernel
theorem dX11_tellLaw_9 : decode cX11_tellLaw 9 = .ok (.istore_n 2, 1) := by decide +kernel
theorem dX11_tellLaw_10 : decode cX11_tellLaw 10 = .ok (.iconst 0, 1) := by decide +kernel
theorem dX11_tellLaw_11 : decode cX11_tellLaw 11 = .ok (.istore_n 3, 1) := by decide +kernel
theorem dX11_tellLaw_12 : decode cX11_tellLaw 12 = .ok (.aload_n 0, 1) := by decide +kernel
theorem dX11_tellLaw_13 : decode cX11_tellLaw 13 = .ok (.getfield 203, 3) := by decide +kernel
theorem dX11_tellLaw_16 : decode cX11_tellLaw 16 = .ok (.ifCond .ne 113, 3) := by decide +kernel
theorem dX11_tellLaw_19 : decode cX11_tellLaw 19 = .ok (.aload_n 0, 1) := by decide +kernel
theorem dX11_tellLaw_20 : decode cX11_tellLaw 20 = .ok (.bipush 32, 2) := by decide +kernel
theorem dX11_tellLaw_22 : decode cX11_tellLaw 22 = .ok (.invokevirtual 221, 3) := by decide +kernel
theorem dX11_tellLaw_25 : decode cX11_tellLaw 25 = .ok (.ifCond .eq 104, 3) := by decide +kernel
theorem dX11_tellLaw_28 : decode cX11_tellLaw 28 = .ok (.iload_n 3, 1) := by decide +kernel
theorem dX11_tellLaw_29 : decode cX11_tellLaw 29 = .ok (.iconst 4, 1) := by decide +kernel
theorem dX11_tellLaw_30 : decode cX11_tellLaw 30 = .ok (.if_icmp .ne 8, 3) := by decide +kernel
theorem dX11_tellLaw_33 : decode cX11_tellLaw 33 = .ok (.aload_n 0, 1) := by decide +kernel
theorem dX11_tellLaw_34 : decode cX11_tellLaw 34 = .ok (.iconst 2, 1) := by decide +kernel
theorem dX11_tellLaw_35 : decode cX11_tellLaw 35 = .ok (.invokevirtual 218, 3) := by decide +kernel
theorem dX11_tellLaw_38 : decode cX11_tellLaw 38 = .ok (.aload_n 0, 1) := by decide +kernel
theorem dX11_tellLaw_39 : decode cX11_tellLaw 39 = .ok (.getfield 203, 3) := by decide +kernel
theorem dX11_tellLaw_42 : decode cX11_tellLaw 42 = .ok (.ifCond .le 4, 3) := by decide +kernel
theorem dX11_tellLaw_45 : decode cX11_tellLaw 45 = .ok (.return_, 1) := by decide +kernel
theorem dX11_tellLaw_46 : decode cX11_tellLaw 46 = .ok (.iinc 3 1, 3) := by decide +kernel
theorem dX11_tellLaw_49 : decode cX11_tellLaw 49 = .ok (.aload_n 0, 1) := by decide +kernel
theorem dX11_tellLaw_50 : decode cX11_tellLaw 50 = .ok (.invokevirtual 224, 3) := by decide +kernel
theorem dX11_tellLaw_53 : decode cX11_tellLaw 53 = .ok (.aload_n 0, 1) := by decide +kernel
theorem dX11_tellLaw_54 : decode cX11_tellLaw 54 = .ok (.getfield 82, 3) := by decide +kernel
