theorem dX12_init_0 : decode cX12_init 0 = .ok (.aload_n 0, 1) := by decide +kernel
theorem dX12_init_1 : decode cX12_init 1 = .ok (.invokespecial 7, 3) := by decide +kernel
theorem dX12_init_4 : decode cX12_init 4 = .ok (.aload_n 0, 1) := by decide +kernel
theorem dX12_init_5 : decode cX12_init 5 = .ok (.sipush 2000, 3) := by decide +kernel
theorem dX12_init_8 : decode cX12_init 8 = .ok (.newarray .byte, 2) := by decide +kernel
theorem dX12_init_10 : decode cX12_init 10 = .ok (.putfield 13, 3) := by decide +kernel
theorem dX12_init_13 : decode cX12_init 13 = .ok (.aload_n 0, 1) := by decide +kernel
theorem dX12_init_14 : decode cX12_init 14 = .ok (.sipush 2000, 3) := by decide +kernel
theorem dX12_init_17 : decode cX12_init 17 = .ok (.newarray .byte, 2) := by decide +kernel
theorem dX12_init_19 : decode cX12_init 19 = .ok (.putfield 17, 3) := by decide +kernel
theorem dX12_init_22 : decode cX12_init 22 = .ok (.aload_n 0, 1) := by decide +kernel
theorem dX12_init_23 : decode cX12_init 23 = .ok (.sipush 403, 3) := by decide +kernel
theorem dX12_init_26 : decode cX12_init 26 = .ok (.newarray .int, 2) := by decide +kernel
theorem dX12_init_28 : decode cX12_init 28 = .ok (.putfield 20, 3) := by decide +kernel
theorem dX12_init_31 : decode cX12_init 31 = .ok (.aload_n 0, 1) := by decide +kernel
theorem dX12_init_32 : decode cX12_init 32 = .ok (.sipush 403, 3) := by decide +kernel
theorem dX12_init_35 : decode cX12_init 35 = .ok (.newarray .int, 2) := by decide +kernel
theorem dX12_init_37 : decode cX12_init 37 = .ok (.putfield 24, 3) := by decide +kernel
theorem dX12_init_40 : decode cX12_init 40 = .ok (.aload_n 0, 1) := by decide +kernel
theorem dX12_init_41 : decode cX12_init 41 = .ok (.sipush 403, 3) := by decide +kernel
theorem dX12_init_44 : decode cX12_init 44 = .ok (.newarray .int, 2) := by decide +kernel
theorem dX12_init_46 : decode cX12_init 46 = .ok (.putfield 27, 3) := by decide +kernel
theorem dX12_init_49 : decode cX12_init 49 = .ok (.aload_n 0, 1) := by decide +kernel
theorem dX12_init_50 : decode cX12_init 50 = .ok (.sipush 403, 3) := by decide +kernel
theorem dX12_init_53 : decode cX12_init 53 = .ok (.newarray .long, 2) := by decide +kernel
theorem dX12_init_55 : decode cX12_init 55 = .ok (.putfield 30, 3) := by decide +kernel
theorem dX12_init_58 : decode cX12_init 58 = .ok (.aload_n 0, 1) := by decide +kernel
theorem dX12_init_59 : decode cX12_init 59 = .ok (.bipush 11, 2) := by decide +kernel
theorem dX12_init_61 : decode cX12_init 61 = .ok (.newarray .long, 2) := by decide +kernel
theorem dX12_init_63 : decode cX12_init 63 = .ok (.putfield 34, 3) := by decide +kernel
theorem dX12_init_66 : decode cX12_init 66 = .ok (.aload_n 0, 1) := by decide +kernel
theorem dX12_init_67 : decode cX12_init 67 = .ok (.iconst (-1), 1) := by decide +kernel
theorem dX12_init_68 : decode cX12_init 68 = .ok (.putfield 37, 3) := by decide +kernel
theorem dX12_init_71 : decode cX12_init 71 = .ok (.aload_n 0, 1) := by decide +kernel
theorem dX12_init_72 : decode cX12_init 72 = .ok (.bipush 20, 2) := by decide +kernel
theorem dX12_init_74 : decode cX12_init 74 = .ok (.newarray .long, 2) := by decide +kernel
theorem dX12_init_76 : decode cX12_init 76 = .ok (.putfield 40, 3) := by decide +kernel
theorem dX12_init_79 : decode cX12_init 79 = .ok (.aload_n 0, 1) := by decide +kernel
theorem dX12_init_80 : decode cX12_init 80 = .ok (.bipush 20, 2) := by decide +kernel
theorem dX12_init_82 : decode cX12_init 82 = .ok (.newarray .int, 2) := by decide +kernel
theorem dX12_init_84 : decode cX12_init 84 = .ok (.putfield 43, 3) := by decide +kernel
theorem dX12_init_87 : decode cX12_init 87 = .ok (.aload_n 0, 1) := by decide +kernel
theorem dX12_init_88 : decode cX12_init 88 = .ok (.bipush 20, 2) := by decide +kernel
theorem dX12_init_90 : decode cX12_init 90 = .ok (.newarray .int, 2) := by decide +kernel
theorem dX12_init_92 : decode cX12_init 92 = .ok (.putfield 46, 3) := by decide +kernel
theorem dX12_init_95 : decode cX12_init 95 = .ok (.aload_n 0, 1) := by decide +kernel
theorem dX12_init_96 : decode cX12_init 96 = .ok (.iconst 2, 1) := by decide +kernel
theorem dX12_init_97 : decode cX12_init 97 = .ok (.newarray .int, 2) := by decide +kernel
theorem dX12_init_99 : decode cX12_init 99 = .ok (.putfield 49, 3) := by decide +kernel
theorem dX12_init_102 : decode cX12_init 102 = .ok (.aload_n 0, 1) := by decide +kernel
theorem dX12_init_103 : decode cX12_init 103 = .ok (.bipush 16, 2) := by decide +kernel
theorem dX12_init_105 : decode cX12_init 105 = .ok (.newarray .int, 2) := by decide +kernel
theorem dX12_init_107 : decode cX12_init 107 = .ok (.putfield 52, 3) := by decide +kernel
theorem dX12_init_110 : decode cX12_init 110 = .ok (.aload_n 0, 1) := by decide +kernel
theorem dX12_init_111 : decode cX12_init 111 = .ok (.sipush 2048, 3) := by decide +kernel
theorem dX12_init_114 : decode cX12_init 114 = .ok (.newarray .int, 2) := by decide +kernel
theorem dX12_init_116 : decode cX12_init 116 = .ok (.putfield 55, 3) := by decide +kernel
theorem dX12_init_119 : decode cX12_init 119 = .ok (.aload_n 0, 1) := by decide +kernel
theorem dX12_init_120 : decode cX12_init 120 = .ok (.iconst 2, 1) := by decide +kernel
theorem dX12_init_121 : decode cX12_init 121 = .ok (.newarray .int, 2) := by decide +kernel
theorem dX12_init_123 : decode cX12_init 123 = .ok (.putfield 58, 3) := by decide +kernel
theorem dX12_init_126 : decode cX12_init 126 = .ok (.aload_n 0, 1) := by decide +kernel
theorem dX12_init_127 : decode cX12_init 127 = .ok (.bipush 12, 2) := by decide +kernel
theorem dX12_init_129 : decode cX12_init 129 = .ok (.newarray .int, 2) := by decide +kernel
theorem dX12_init_131 : decode cX12_init 131 = .ok (.putfield 61, 3) := by decide +kernel
theorem dX12_init_134 : decode cX12_init 134 = .ok (.aload_n 0, 1) := by decide +kernel
theorem dX12_init_135 : decode cX12_init 135 = .ok (.bipush 12, 2) := by decide +kernel
theorem dX12_init_137 : decode cX12_init 137 = .ok (.newarray .int, 2) := by decide +kernel
theorem dX12_init_139 : decode cX12_init 139 = .ok (.putfield 64, 3) := by decide +kernel
theorem dX12_init_142 : decode cX12_init 142 = .ok (.aload_n 0, 1) := by decide +kernel
theorem dX12_init_143 : decode cX12_init 143 = .ok (.bipush 12, 2) := by decide +kernel
theorem dX12_init_145 : decode cX12_init 145 = .ok (.newarray .int, 2) := by decide +kernel
theorem dX12_init_147 : decode cX12_init 147 = .ok (.putfield 67, 3) := by decide +kernel
theorem dX12_init_150 : decode cX12_init 150 = .ok (.aload_n 0, 1) := by decide +kernel
theorem dX12_init_151 : decode cX12_init 151 = .ok (.iconst 2, 1) := by decide +kernel
theorem dX12_init_152 : decode cX12_init 152 = .ok (.newarray .int, 2) := by decide +kernel
theorem dX12_init_154 : decode cX12_init 154 = .ok (.putfield 70, 3) := by decide +kernel
theorem dX12_init_157 : decode cX12_init 157 = .ok (.aload_n 0, 1) := by decide +kernel
theorem dX12_init_158 : decode cX12_init 158 = .ok (.bipush 12, 2) := by decide +kernel
theorem dX12_init_160 : decode cX12_init 160 = .ok (.newarray .int, 2) := by decide +kernel
theorem dX12_init_162 : decode cX12_init 162 = .ok (.putfield 73, 3) := by decide +kernel
theorem dX12_init_165 : decode cX12_init 165 = .ok (.aload_n 0, 1) := by decide +kernel
theorem dX12_init_166 : decode cX12_init 166 = .ok (.bipush 12, 2) := by decide +kernel
theorem dX12_init_168 : decode cX12_init 168 = .ok (.newarray .int, 2) := by decide +kernel
theorem dX12_init_170 : decode cX12_init 170 = .ok (.putfield 76, 3) := by decide +kernel
theorem dX12_init_173 : decode cX12_init 173 = .ok (.aload_n 0, 1) := by decide +kernel
theorem dX12_init_174 : decode cX12_init 174 = .ok (.bipush 12, 2) := by decide +kernel
theorem dX12_init_176 : decode cX12_init 176 = .ok (.newarray .int, 2) := by decide +kernel
theorem dX12_init_178 : decode cX12_init 178 = .ok (.putfield 79, 3) := by decide +kernel
theorem dX12_init_181 : decode cX12_init 181 = .ok (.aload_n 0, 1) := by decide +kernel
theorem dX12_init_182 : decode cX12_init 182 = .ok (.bipush 12, 2) := by decide +kernel
theorem dX12_init_184 : decode cX12_init 184 = .ok (.newarray .int, 2) := by decide +kernel
theorem dX12_init_186 : decode cX12_init 186 = .ok (.putfield 82, 3) := by decide +kernel
theorem dX12_init_189 : decode cX12_init 189 = .ok (.aload_n 0, 1) := by decide +kernel
theorem dX12_init_190 : decode cX12_init 190 = .ok (.bipush 12, 2) := by decide +kernel
theorem dX12_init_192 : decode cX12_init 192 = .ok (.newarray .int, 2) := by decide +kernel
theorem dX12_init_194 : decode cX12_init 194 = .ok (.putfield 85, 3) := by decide +kernel
theorem dX12_init_197 : decode cX12_init 197 = .ok (.aload_n 0, 1) := by decide +kernel
theorem dX12_init_198 : decode cX12_init 198 = .ok (.bipush 12, 2) := by decide +kernel
theorem dX12_init_200 : decode cX12_init 200 = .ok (.newarray .int, 2) := by decide +kernel
theorem dX12_init_202 : decode cX12_init 202 = .ok (.putfield 88, 3) := by decide +kernel
theorem dX12_init_205 : decode cX12_init 205 = .ok (.aload_n 0, 1) := by decide +kernel
theorem dX12_init_206 : decode cX12_init 206 = .ok (.iconst 2, 1) := by decide +kernel
theorem dX12_init_207 : decode cX12_init 207 = .ok (.newarray .int, 2) := by decide +kernel
theorem dX12_init_209 : decode cX12_init 209 = .ok (.putfield 91, 3) := by decide +kernel
theorem dX12_init_212 : decode cX12_init 212 = .ok (.aload_n 0, 1) := by decide +kernel
theorem dX12_init_213 : decode cX12_init 213 = .ok (.bipush 12, 2) := by decide +kernel
theorem dX12_init_215 : decode cX12_init 215 = .ok (.newarray .int, 2) := by decide +kernel
theorem dX12_init_217 : decode cX12_init 217 = .ok (.putfield 94, 3) := by decide +kernel
theorem dX12_init_220 : decode cX12_init 220 = .ok (.aload_n 0, 1) := by decide +kernel
theorem dX12_init_221 : decode cX12_init 221 = .ok (.bipush 12, 2) := by decide +kernel
theorem dX12_init_223 : decode cX12_init 223 = .ok (.newarray .int, 2) := by decide +kernel
theorem dX12_init_225 : decode cX12_init 225 = .ok (.putfield 97, 3) := by decide +kernel
theorem dX12_init_228 : decode cX12_init 228 = .ok (.aload_n 0, 1) := by decide +kernel
theorem dX12_init_229 : decode cX12_init 229 = .ok (.bipush 12, 2) := by decide +kernel
theorem dX12_init_231 : decode cX12_init 231 = .ok (.newarray .int, 2) := by decide +kernel
theorem dX12_init_233 : decode cX12_init 233 = .ok (.putfield 100, 3) := by decide +kernel
theorem dX12_init_236 : decode cX12_init 236 = .ok (.aload_n 0, 1) := by decide +kernel
theorem dX12_init_237 : decode cX12_init 237 = .ok (.iconst 2, 1) := by decide +kernel
theorem dX12_init_238 : decode cX12_init 238 = .ok (.newarray .int, 2) := by decide +kernel
theorem dX12_init_240 : decode cX12_init 240 = .ok (.putfield 103, 3) := by decide +kernel
theorem dX12_init_243 : decode cX12_init 243 = .ok (.aload_n 0, 1) := by decide +kernel
theorem dX12_init_244 : decode cX12_init 244 = .ok (.bipush 8, 2) := by decide +kernel
theorem dX12_init_246 : decode cX12_init 246 = .ok (.newarray .int, 2) := by decide +kernel
theorem dX12_init_248 : decode cX12_init 248 = .ok (.putfield 106, 3) := by decide +kernel
theorem dX12_init_251 : decode cX12_init 251 = .ok (.aload_n 0, 1) := by decide +kernel
theorem dX12_init_252 : decode cX12_init 252 = .ok (.bipush 8, 2) := by decide +kernel
theorem dX12_init_254 : decode cX12_init 254 = .ok (.newarray .int, 2) := by decide +kernel
theorem dX12_init_256 : decode cX12_init 256 = .ok (.putfield 109, 3) := by decide +kernel
theorem dX12_init_259 : decode cX12_init 259 = .ok (.aload_n 0, 1) := by decide +kernel
theorem dX12_init_260 : decode cX12_init 260 = .ok (.bipush 8, 2) := by decide +kernel
theorem dX12_init_262 : decode cX12_init 262 = .ok (.newarray .int, 2) := by decide +kernel
theorem dX12_init_264 : decode cX12_init 264 = .ok (.putfield 112, 3) := by decide +kernel
theorem dX12_init_267 : decode cX12_init 267 = .ok (.aload_n 0, 1) := by decide +kernel
theorem dX12_init_268 : decode cX12_init 268 = .ok (.bipush 8, 2) := by decide +kernel
theorem dX12_init_270 : decode cX12_init 270 = .ok (.newarray .int, 2) := by decide +kernel
theorem dX12_init_272 : decode cX12_init 272 = .ok (.putfield 115, 3) := by decide +kernel
theorem dX12_init_275 : decode cX12_init 275 = .ok (.aload_n 0, 1) := by decide +kernel
theorem dX12_init_276 : decode cX12_init 276 = .ok (.iconst 2, 1) := by decide +kernel
theorem dX12_init_277 : decode cX12_init 277 = .ok (.newarray .int, 2) := by decide +kernel
theorem dX12_init_279 : decode cX12_init 279 = .ok (.putfield 118, 3) := by decide +kernel
theorem dX12_init_282 : decode cX12_init 282 = .ok (.aload_n 0, 1) := by decide +kernel
theorem dX12_init_283 : decode cX12_init 283 = .ok (.iconst 2, 1) := by decide +kernel
theorem dX12_init_284 : decode cX12_init 284 = .ok (.newarray .int, 2) := by decide +kernel
theorem dX12_init_286 : decode cX12_init 286 = .ok (.putfield 121, 3) := by decide +kernel
theorem dX12_init_289 : decode cX12_init 289 = .ok (.aload_n 0, 1) := by decide +kernel
theorem dX12_init_290 : decode cX12_init 290 = .ok (.iconst 2, 1) := by decide +kernel
theorem dX12_init_291 : decode cX12_init 291 = .ok (.newarray .int, 2) := by decide +kernel
theorem dX12_init_293 : decode cX12_init 293 = .ok (.putfield 124, 3) := by decide +kernel
theorem dX12_init_296 : decode cX12_init 296 = .ok (.aload_n 0, 1) := by decide +kernel
theorem dX12_init_297 : decode cX12_init 297 = .ok (.sipush 3072, 3) := by decide +kernel
theorem dX12_init_300 : decode cX12_init 300 = .ok (.newarray .byte, 2) := by decide +kernel
theorem dX12_init_302 : decode cX12_init 302 = .ok (.putfield 127, 3) := by decide +kernel
theorem dX12_init_305 : decode cX12_init 305 = .ok (.aload_n 0, 1) := by decide +kernel
theorem dX12_init_306 : decode cX12_init 306 = .ok (.sipush 3072, 3) := by decide +kernel
theorem dX12_init_309 : decode cX12_init 309 = .ok (.newarray .byte, 2) := by decide +kernel
theorem dX12_init_311 : decode cX12_init 311 = .ok (.putfield 130, 3) := by decide +kernel
theorem dX12_init_314 : decode cX12_init 314 = .ok (.aload_n 0, 1) := by decide +kernel
theorem dX12_init_315 : decode cX12_init 315 = .ok (.sipush 1024, 3) := by decide +kernel
theorem dX12_init_318 : decode cX12_init 318 = .ok (.newarray .int, 2) := by decide +kernel
theorem dX12_init_320 : decode cX12_init 320 = .ok (.putfield 133, 3) := by decide +kernel
theorem dX12_init_323 : decode cX12_init 323 = .ok (.aload_n 0, 1) := by decide +kernel
theorem dX12_init_324 : decode cX12_init 324 = .ok (.sipush 1024, 3) := by decide +kernel
theorem dX12_init_327 : decode cX12_init 327 = .ok (.newarray .int, 2) := by decide +kernel
theorem dX12_init_329 : decode cX12_init 329 = .ok (.putfield 136, 3) := by decide +kernel
theorem dX12_init_332 : decode cX12_init 332 = .ok (.aload_n 0, 1) := by decide +kernel
theorem dX12_init_333 : decode cX12_init 333 = .ok (.sipush 260, 3) := by decide +kernel
theorem dX12_init_336 : decode cX12_init 336 = .ok (.newarray .int, 2) := by decide +kernel
theorem dX12_init_338 : decode cX12_init 338 = .ok (.putfield 139, 3) := by decide +kernel
theorem dX12_init_341 : decode cX12_init 341 = .ok (.aload_n 0, 1) := by decide +kernel
theorem dX12_init_342 : decode cX12_init 342 = .ok (.sipush 260, 3) := by decide +kernel
theorem dX12_init_345 : decode cX12_init 345 = .ok (.newarray .int, 2) := by decide +kernel
theorem dX12_init_347 : decode cX12_init 347 = .ok (.putfield 142, 3) := by decide +kernel
theorem dX12_init_350 : decode cX12_init 350 = .ok (.aload_n 0, 1) := by decide +kernel
theorem dX12_init_351 : decode cX12_init 351 = .ok (.sipush 260, 3) := by decide +kernel
theorem dX12_init_354 : decode cX12_init 354 = .ok (.newarray .int, 2) := by decide +kernel
theorem dX12_init_356 : decode cX12_init 356 = .ok (.putfield 145, 3) := by decide +kernel
theorem dX12_init_359 : decode cX12_init 359 = .ok (.aload_n 0, 1) := by decide +kernel
theorem dX12_init_360 : decode cX12_init 360 = .ok (.sipush 260, 3) := by decide +kernel
theorem dX12_init_363 : decode cX12_init 363 = .ok (.newarray .int, 2) := by decide +kernel
theorem dX12_init_365 : decode cX12_init 365 = .ok (.putfield 148, 3) := by decide +kernel
theorem dX12_init_368 : decode cX12_init 368 = .ok (.aload_n 0, 1) := by decide +kernel
theorem dX12_init_369 : decode cX12_init 369 = .ok (.bipush 64, 2) := by decide +kernel
theorem dX12_init_371 : decode cX12_init 371 = .ok (.newarray .boolean, 2) := by decide +kernel
theorem dX12_init_373 : decode cX12_init 373 = .ok (.putfield 151, 3) := by decide +kernel
theorem dX12_init_376 : decode cX12_init 376 = .ok (.aload_n 0, 1) := by decide +kernel
theorem dX12_init_377 : decode cX12_init 377 = .ok (.sipush 128, 3) := by decide +kernel
theorem dX12_init_380 : decode cX12_init 380 = .ok (.newarray .long, 2) := by decide +kernel
theorem dX12_init_382 : decode cX12_init 382 = .ok (.putfield 155, 3) := by decide +kernel
theorem dX12_init_385 : decode cX12_init 385 = .ok (.aload_n 0, 1) := by decide +kernel
theorem dX12_init_386 : decode cX12_init 386 = .ok (.sipush 512, 3) := by decide +kernel
theorem dX12_init_389 : decode cX12_init 389 = .ok (.newarray .long, 2) := by decide +kernel
theorem dX12_init_391 : decode cX12_init 391 = .ok (.putfield 158, 3) := by decide +kernel
theorem dX12_init_394 : decode cX12_init 394 = .ok (.aload_n 0, 1) := by decide +kernel
theorem dX12_init_395 : decode cX12_init 395 = .ok (.sipush 512, 3) := by decide +kernel
theorem dX12_init_398 : decode cX12_init 398 = .ok (.newarray .boolean, 2) := by decide +kernel
theorem dX12_init_400 : decode cX12_init 400 = .ok (.putfield 161, 3) := by decide +kernel
theorem dX12_init_403 : decode cX12_init 403 = .ok (.aload_n 0, 1) := by decide +kernel
theorem dX12_init_404 : decode cX12_init 404 = .ok (.iconst 3, 1) := by decide +kernel
theorem dX12_init_405 : decode cX12_init 405 = .ok (.newarray .boolean, 2) := by decide +kernel
theorem dX12_init_407 : decode cX12_init 407 = .ok (.putfield 164, 3) := by decide +kernel
theorem dX12_init_410 : decode cX12_init 410 = .ok (.aload_n 0, 1) := by decide +kernel
theorem dX12_init_411 : decode cX12_init 411 = .ok (.sipush 3072, 3) := by decide +kernel
theorem dX12_init_414 : decode cX12_init 414 = .ok (.newarray .int, 2) := by decide +kernel
theorem dX12_init_416 : decode cX12_init 416 = .ok (.putfield 167, 3) := by decide +kernel
theorem dX12_init_419 : decode cX12_init 419 = .ok (.aload_n 0, 1) := by decide +kernel
theorem dX12_init_420 : decode cX12_init 420 = .ok (.getfield 124, 3) := by decide +kernel
theorem dX12_init_423 : decode cX12_init 423 = .ok (.iconst 0, 1) := by decide +kernel
theorem dX12_init_424 : decode cX12_init 424 = .ok (.sipush 256, 3) := by decide +kernel
theorem dX12_init_427 : decode cX12_init 427 = .ok (.iastore, 1) := by decide +kernel
theorem dX12_init_428 : decode cX12_init 428 = .ok (.aload_n 0, 1) := by decide +kernel
theorem dX12_init_429 : decode cX12_init 429 = .ok (.getfield 34, 3) := by decide +kernel
theorem dX12_init_432 : decode cX12_init 432 = .ok (.iconst 0, 1) := by decide +kernel
theorem dX12_init_433 : decode cX12_init 433 = .ok (.bipush 114, 2) := by decide +kernel
theorem dX12_init_435 : decode cX12_init 435 = .ok (.bipush 101, 2) := by decide +kernel
theorem dX12_init_437 : decode cX12_init 437 = .ok (.bipush 103, 2) := by decide +kernel
theorem dX12_init_439 : decode cX12_init 439 = .ok (.iconst 0, 1) := by decide +kernel
theorem dX12_init_440 : decode cX12_init 440 = .ok (.iconst 0, 1) := by decide +kernel
theorem dX12_init_441 : decode cX12_init 441 = .ok (.iconst 0, 1) := by decide +kernel
theorem dX12_init_442 : decode cX12_init 442 = .ok (.iconst 0, 1) := by decide +kernel
theorem dX12_init_443 : decode cX12_init 443 = .ok (.invokestatic 170, 3) := by decide +kernel
theorem dX12_init_446 : decode cX12_init 446 = .ok (.lastore, 1) := by decide +kernel
theorem dX12_init_447 : decode cX12_init 447 = .ok (.aload_n 0, 1) := by decide +kernel
theorem dX12_init_448 : decode cX12_init 448 = .ok (.getfield 34, 3) := by decide +kernel
theorem dX12_init_451 : decode cX12_init 451 = .ok (.iconst 1, 1) := by decide +kernel
theorem dX12_init_452 : decode cX12_init 452 = .ok (.bipush 119, 2) := by decide +kernel
theorem dX12_init_454 : decode cX12_init 454 = .ok (.bipush 97, 2) := by decide +kernel
theorem dX12_init_456 : decode cX12_init 456 = .ok (.bipush 108, 2) := by decide +kernel
theorem dX12_init_458 : decode cX12_init 458 = .ok (.bipush 115, 2) := by decide +kernel
theorem dX12_init_460 : decode cX12_init 460 = .ok (.bipush 104, 2) := by decide +kernel
theorem dX12_init_462 : decode cX12_init 462 = .ok (.iconst 0, 1) := by decide +kernel
theorem dX12_init_463 : decode cX12_init 463 = .ok (.iconst 0, 1) := by decide +kernel
theorem dX12_init_464 : decode cX12_init 464 = .ok (.invokestatic 170, 3) := by decide +kernel
theorem dX12_init_467 : decode cX12_init 467 = .ok (.lastore, 1) := by decide +kernel
theorem dX12_init_468 : decode cX12_init 468 = .ok (.aload_n 0, 1) := by decide +kernel
theorem dX12_init_469 : decode cX12_init 469 = .ok (.getfield 34, 3) := by decide +kernel
theorem dX12_init_472 : decode cX12_init 472 = .ok (.iconst 2, 1) := by decide +kernel
theorem dX12_init_473 : decode cX12_init 473 = .ok (.bipush 98, 2) := by decide +kernel
theorem dX12_init_475 : decode cX12_init 475 = .ok (.bipush 105, 2) := by decide +kernel
theorem dX12_init_477 : decode cX12_init 477 = .ok (.bipush 116, 2) := by decide +kernel
theorem dX12_init_479 : decode cX12_init 479 = .ok (.bipush 115, 2) := by decide +kernel
theorem dX12_init_481 : decode cX12_init 481 = .ok (.iconst 0, 1) := by decide +kernel
theorem dX12_init_482 : decode cX12_init 482 = .ok (.iconst 0, 1) := by decide +kernel
theorem dX12_init_483 : decode cX12_init 483 = .ok (.iconst 0, 1) := by decide +kernel
theorem dX12_init_484 : decode cX12_init 484 = .ok (.invokestatic 170, 3) := by decide +kernel
theorem dX12_init_487 : decode cX12_init 487 = .ok (.lastore, 1) := by decide +kernel
theorem dX12_init_488 : decode cX12_init 488 = .ok (.aload_n 0, 1) := by decide +kernel
theorem dX12_init_489 : decode cX12_init 489 = .ok (.getfield 34, 3) := by decide +kernel
theorem dX12_init_492 : decode cX12_init 492 = .ok (.iconst 3, 1) := by decide +kernel
theorem dX12_init_493 : decode cX12_init 493 = .ok (.bipush 98, 2) := by decide +kernel
theorem dX12_init_495 : decode cX12_init 495 = .ok (.bipush 111, 2) := by decide +kernel
theorem dX12_init_497 : decode cX12_init 497 = .ok (.bipush 116, 2) := by decide +kernel
theorem dX12_init_499 : decode cX12_init 499 = .ok (.bipush 104, 2) := by decide +kernel
theorem dX12_init_501 : decode cX12_init 501 = .ok (.iconst 0, 1) := by decide +kernel
theorem dX12_init_502 : decode cX12_init 502 = .ok (.iconst 0, 1) := by decide +kernel
theorem dX12_init_503 : decode cX12_init 503 = .ok (.iconst 0, 1) := by decide +kernel
theorem dX12_init_504 : decode cX12_init 504 = .ok (.invokestatic 170, 3) := by decide +kernel
theorem dX12_init_507 : decode cX12_init 507 = .ok (.lastore, 1) := by decide +kernel
theorem dX12_init_508 : decode cX12_init 508 = .ok (.aload_n 0, 1) := by decide +kernel
theorem dX12_init_509 : decode cX12_init 509 = .ok (.getfield 34, 3) := by decide +kernel
theorem dX12_init_512 : decode cX12_init 512 = .ok (.iconst 4, 1) := by decide +kernel
theorem dX12_init_513 : decode cX12_init 513 = .ok (.bipush 104, 2) := by decide +kernel
theorem dX12_init_515 : decode cX12_init 515 = .ok (.bipush 111, 2) := by decide +kernel
theorem dX12_init_517 : decode cX12_init 517 = .ok (.bipush 112, 2) := by decide +kernel
theorem dX12_init_519 : decode cX12_init 519 = .ok (.iconst 0, 1) := by decide +kernel
theorem dX12_init_520 : decode cX12_init 520 = .ok (.iconst 0, 1) := by decide +kernel
theorem dX12_init_521 : decode cX12_init 521 = .ok (.iconst 0, 1) := by decide +kernel
theorem dX12_init_522 : decode cX12_init 522 = .ok (.iconst 0, 1) := by decide +kernel
theorem dX12_init_523 : decode cX12_init 523 = .ok (.invokestatic 170, 3) := by decide +kernel
theorem dX12_init_526 : decode cX12_init 526 = .ok (.lastore, 1) := by decide +kernel
theorem dX12_init_527 : decode cX12_init 527 = .ok (.aload_n 0, 1) := by decide +kernel
theorem dX12_init_528 : decode cX12_init 528 = .ok (.getfield 34, 3) := by decide +kernel
theorem dX12_init_531 : decode cX12_init 531 = .ok (.iconst 5, 1) := by decide +kernel
theorem dX12_init_532 : decode cX12_init 532 = .ok (.bipush 115, 2) := by decide +kernel
theorem dX12_init_534 : decode cX12_init 534 = .ok (.bipush 101, 2) := by decide +kernel
theorem dX12_init_536 : decode cX12_init 536 = .ok (.bipush 110, 2) := by decide +kernel
theorem dX12_init_538 : decode cX12_init 538 = .ok (.bipush 100, 2) := by decide +kernel
theorem dX12_init_540 : decode cX12_init 540 = .ok (.iconst 0, 1) := by decide +kernel
theorem dX12_init_541 : decode cX12_init 541 = .ok (.iconst 0, 1) := by decide +kernel
theorem dX12_init_542 : decode cX12_init 542 = .ok (.iconst 0, 1) := by decide +kernel
theorem dX12_init_543 : decode cX12_init 543 = .ok (.invokestatic 170, 3) := by decide +kernel
theorem dX12_init_546 : decode cX12_init 546 = .ok (.lastore, 1) := by decide +kernel
theorem dX12_init_547 : decode cX12_init 547 = .ok (.aload_n 0, 1) := by decide +kernel
theorem dX12_init_548 : decode cX12_init 548 = .ok (.getfield 34, 3) := by decide +kernel
theorem dX12_init_551 : decode cX12_init 551 = .ok (.bipush 6, 2) := by decide +kernel
theorem dX12_init_553 : decode cX12_init 553 = .ok (.bipush 101, 2) := by decide +kernel
theorem dX12_init_555 : decode cX12_init 555 = .ok (.bipush 99, 2) := by decide +kernel
theorem dX12_init_557 : decode cX12_init 557 = .ok (.bipush 104, 2) := by decide +kernel
theorem dX12_init_559 : decode cX12_init 559 = .ok (.bipush 111, 2) := by decide +kernel
theorem dX12_init_561 : decode cX12_init 561 = .ok (.iconst 0, 1) := by decide +kernel
theorem dX12_init_562 : decode cX12_init 562 = .ok (.iconst 0, 1) := by decide +kernel
theorem dX12_init_563 : decode cX12_init 563 = .ok (.iconst 0, 1) := by decide +kernel
theorem dX12_init_564 : decode cX12_init 564 = .ok (.invokestatic 170, 3) := by decide +kernel
theorem dX12_init_567 : decode cX12_init 567 = .ok (.lastore, 1) := by decide +kernel
theorem dX12_init_568 : decode cX12_init 568 = .ok (.aload_n 0, 1) := by decide +kernel
theorem dX12_init_569 : decode cX12_init 569 = .ok (.getfield 34, 3) := by decide +kernel
theorem dX12_init_572 : decode cX12_init 572 = .ok (.bipush 7, 2) := by decide +kernel
theorem dX12_init_574 : decode cX12_init 574 = .ok (.bipush 106, 2) := by decide +kernel
theorem dX12_init_576 : decode cX12_init 576 = .ok (.bipush 97, 2) := by decide +kernel
theorem dX12_init_578 : decode cX12_init 578 = .ok (.bipush 109, 2) := by decide +kernel
theorem dX12_init_580 : decode cX12_init 580 = .ok (.iconst 0, 1) := by decide +kernel
theorem dX12_init_581 : decode cX12_init 581 = .ok (.iconst 0, 1) := by decide +kernel
theorem dX12_init_582 : decode cX12_init 582 = .ok (.iconst 0, 1) := by decide +kernel
theorem dX12_init_583 : decode cX12_init 583 = .ok (.iconst 0, 1) := by decide +kernel
theorem dX12_init_584 : decode cX12_init 584 = .ok (.invokestatic 170, 3) := by decide +kernel
theorem dX12_init_587 : decode cX12_init 587 = .ok (.lastore, 1) := by decide +kernel
theorem dX12_init_588 : decode cX12_init 588 = .ok (.aload_n 0, 1) := by decide +kernel
theorem dX12_init_589 : decode cX12_init 589 = .ok (.getfield 34, 3) := by decide +kernel
theorem dX12_init_592 : decode cX12_init 592 = .ok (.bipush 8, 2) := by decide +kernel
theorem dX12_init_594 : decode cX12_init 594 = .ok (.bipush 110, 2) := by decide +kernel
theorem dX12_init_596 : decode cX12_init 596 = .ok (.bipush 111, 2) := by decide +kernel
theorem dX12_init_598 : decode cX12_init 598 = .ok (.bipush 105, 2) := by decide +kernel
theorem dX12_init_600 : decode cX12_init 600 = .ok (.bipush 115, 2) := by decide +kernel
theorem dX12_init_602 : decode cX12_init 602 = .ok (.bipush 101, 2) := by decide +kernel
theorem dX12_init_604 : decode cX12_init 604 = .ok (.iconst 0, 1) := by decide +kernel
theorem dX12_init_605 : decode cX12_init 605 = .ok (.iconst 0, 1) := by decide +kernel
theorem dX12_init_606 : decode cX12_init 606 = .ok (.invokestatic 170, 3) := by decide +kernel
theorem dX12_init_609 : decode cX12_init 609 = .ok (.lastore, 1) := by decide +kernel
theorem dX12_init_610 : decode cX12_init 610 = .ok (.aload_n 0, 1) := by decide +kernel
theorem dX12_init_611 : decode cX12_init 611 = .ok (.getfield 34, 3) := by decide +kernel
theorem dX12_init_614 : decode cX12_init 614 = .ok (.bipush 9, 2) := by decide +kernel
theorem dX12_init_616 : decode cX12_init 616 = .ok (.bipush 115, 2) := by decide +kernel
theorem dX12_init_618 : decode cX12_init 618 = .ok (.bipush 97, 2) := by decide +kernel
theorem dX12_init_620 : decode cX12_init 620 = .ok (.bipush 109, 2) := by decide +kernel
theorem dX12_init_622 : decode cX12_init 622 = .ok (.bipush 112, 2) := by decide +kernel
theorem dX12_init_624 : decode cX12_init 624 = .ok (.bipush 108, 2) := by decide +kernel
theorem dX12_init_626 : decode cX12_init 626 = .ok (.bipush 101, 2) := by decide +kernel
theorem dX12_init_628 : decode cX12_init 628 = .ok (.bipush 115, 2) := by decide +kernel
theorem dX12_init_630 : decode cX12_init 630 = .ok (.invokestatic 170, 3) := by decide +kernel
theorem dX12_init_633 : decode cX12_init 633 = .ok (.lastore, 1) := by decide +kernel
theorem dX12_init_634 : decode cX12_init 634 = .ok (.aload_n 0, 1) := by decide +kernel
theorem dX12_init_635 : decode cX12_init 635 = .ok (.getfield 34, 3) := by decide +kernel
theorem dX12_init_638 : decode cX12_init 638 = .ok (.bipush 10, 2) := by decide +kernel
theorem dX12_init_640 : decode cX12_init 640 = .ok (.bipush 100, 2) := by decide +kernel
theorem dX12_init_642 : decode cX12_init 642 = .ok (.bipush 114, 2) := by decide +kernel
theorem dX12_init_644 : decode cX12_init 644 = .ok (.bipush 105, 2) := by decide +kernel
theorem dX12_init_646 : decode cX12_init 646 = .ok (.bipush 102, 2) := by decide +kernel
theorem dX12_init_648 : decode cX12_init 648 = .ok (.bipush 116, 2) := by decide +kernel
theorem dX12_init_650 : decode cX12_init 650 = .ok (.iconst 0, 1) := by decide +kernel
theorem dX12_init_651 : decode cX12_init 651 = .ok (.iconst 0, 1) := by decide +kernel
theorem dX12_init_652 : decode cX12_init 652 = .ok (.invokestatic 170, 3) := by decide +kernel
theorem dX12_init_655 : decode cX12_init 655 = .ok (.lastore, 1) := by decide +kernel
theorem dX12_init_656 : decode cX12_init 656 = .ok (.return_, 1) := by decide +kernel
set_option maxHeartbeats 10000000 in
set_option maxRecDepth 100000 in
theorem iX12_init (l : Launch) (D : q_D) (b : Nat) (C : List q_Ce) (x0 : Nat) (C0 : List q_Ce) (hm : IX12_init C x0 = some C0) : q_Mi l yX12_init cX12_init 1 none 2 48 D b [.ref (b + x0)] C none C0 50 21462 := by
  refine q_Mi.of (by decide) (Nat.le_of_ble_eq_true rfl) ?_
  intro p e s m args below meth c ls Y hin hW hl
  have hx := Y.1
  have hb := Y.2.1
  have hown := Y.2.2.2.2.2.1
  have hts := Y.2.2.2.2.2.2.1
  have hs0 : s.heap.size = b + List.length C := hW.2.1
  have hS : va_S (fun q => b ≤ q) s.heap s.heap [] := va_S.rf
  have hl : lv_has ls 1 [(0, .ref (b + x0))] := hl
  unfold IX12_init at hm
  have hin := hin rfl
  have hn : List.length C = List.length C + 0 := rfl
  refine lv_aload_n hx hb dX12_init_0 rfl (lv_at hl 0 rfl) ?_
  refine W.objInit hx hb hown (hts _ wob_RX12_7) (hts _ woi) (hts _ woc) rfl (hl.1.trans Y.2.2.1.symm) rfl dX12_init_1 (Nat.le_of_ble_eq_true rfl) (Nat.le_of_ble_eq_true rfl) ?_
  refine W.eq (g2 := F0 m 4 ls []) rfl ?_
  refine lv_aload_n hx hb dX12_init_4 rfl (lv_at hl 0 rfl) ?_
  refine lv_sipush (v := 2000) hx hb dX12_init_5 (by decide) ?_
  refine i_newa Y hW hS hm .byte (N := 2000) (t0 := 0) (by simp) rfl ⟨fun h => absurd h (by decide), fun h => rfl⟩ (by decide) rfl (fun _ _ h => h) wa_byte (by decide) dX12_init_8 (Nat.le_of_ble_eq_true rfl) (Nat.le_of_ble_eq_true rfl) (fun C1000001 H hl1 hm hW hS => ?_)
  have hn : List.length C1000001 = List.length C + 1 := hl1.trans (congrArg (· + 1) hn)
  refine i_putR Y hW hS hm (by decide) (by decide) cl_12 gl_RX12_13 hin (fun _ _ _ h _ => by cases h; rfl) rfl (fun _ => rfl) (fun _ => rfl) dX12_init_10 (fun C1000002 H locs hl1 hm hW hS => ?_)
  have hn : List.length C1000002 = List.length C + 1 := hl1.trans hn
  refine lv_aload_n hx hb dX12_init_13 rfl (lv_at hl 0 rfl) ?_
  refine lv_sipush (v := 2000) hx hb dX12_init_14 (by decide) ?_
  refine i_newa Y hW hS hm .byte (N := 2000) (t0 := 0) (by simp) rfl ⟨fun h => absurd h (by decide), fun h => rfl⟩ (by decide) rfl (fun _ _ h => h) wa_byte (by decide) dX12_init_17 (Nat.le_of_ble_eq_true rfl) (Nat.le_of_ble_eq_true rfl) (fun C1000003 H hl1 hm hW hS => ?_)
  have hn : List.length C1000003 = List.length C + 2 := hl1.trans (congrArg (· + 1) hn)
  refine i_putR Y hW hS hm (by decide) (by decide) cl_12 gl_RX12_17 hin (fun _ _ _ h _ => by cases h; rfl) rfl (fun _ => rfl) (fun _ => rfl) dX12_init_19 (fun C1000004 H locs hl1 hm hW hS => ?_)
  have hn : List.length C1000004 = List.length C + 2 := hl1.trans hn
  refine lv_aload_n hx hb dX12_init_22 rfl (lv_at hl 0 rfl) ?_
  refine lv_sipush (v := 403) hx hb dX12_init_23 (by decide) ?_
  refine i_newa Y hW hS hm .int (N := 403) (t0 := 1) (by simp) rfl ⟨fun h => absurd h (by decide), fun h => rfl⟩ (by decide) rfl (fun _ _ h => h) wa_int (by decide) dX12_init_26 (Nat.le_of_ble_eq_true rfl) (Nat.le_of_ble_eq_true rfl) (fun C1000005 H hl1 hm hW hS => ?_)
  have hn : List.length C1000005 = List.length C + 3 := hl1.trans (congrArg (· + 1) hn)
  refine i_putR Y hW hS hm (by decide) (by decide) cl_12 gl_RX12_20 hin (fun _ _ _ h _ => by cases h; rfl) rfl (fun _ => rfl) (fun _ => rfl) dX12_init_28 (fun C1000006 H locs hl1 hm hW hS => ?_)
  have hn : List.length C1000006 = List.length C + 3 := hl1.trans hn
  refine lv_aload_n hx hb dX12_init_31 rfl (lv_at hl 0 rfl) ?_
  refine lv_sipush (v := 403) hx hb dX12_init_32 (by decide) ?_
  refine i_newa Y hW hS hm .int (N := 403) (t0 := 1) (by simp) rfl ⟨fun h => absurd h (by decide), fun h => rfl⟩ (by decide) rfl (fun _ _ h => h) wa_int (by decide) dX12_init_35 (Nat.le_of_ble_eq_true rfl) (Nat.le_of_ble_eq_true rfl) (fun C1000007 H hl1 hm hW hS => ?_)
  have hn : List.length C1000007 = List.length C + 4 := hl1.trans (congrArg (· + 1) hn)
  refine i_putR Y hW hS hm (by decide) (by decide) cl_12 gl_RX12_24 hin (fun _ _ _ h _ => by cases h; rfl) rfl (fun _ => rfl) (fun _ => rfl) dX12_init_37 (fun C1000008 H locs hl1 hm hW hS => ?_)
  have hn : List.length C1000008 = List.length C + 4 := hl1.trans hn
  refine lv_aload_n hx hb dX12_init_40 rfl (lv_at hl 0 rfl) ?_
  refine lv_sipush (v := 403) hx hb dX12_init_41 (by decide) ?_
  refine i_newa Y hW hS hm .int (N := 403) (t0 := 1) (by simp) rfl ⟨fun h => absurd h (by decide), fun h => rfl⟩ (by decide) rfl (fun _ _ h => h) wa_int (by decide) dX12_init_44 (Nat.le_of_ble_eq_true rfl) (Nat.le_of_ble_eq_true rfl) (fun C1000009 H hl1 hm hW hS => ?_)
  have hn : List.length C1000009 = List.length C + 5 := hl1.trans (congrArg (· + 1) hn)
  refine i_putR Y hW hS hm (by decide) (by decide) cl_12 gl_RX12_27 hin (fun _ _ _ h _ => by cases h; rfl) rfl (fun _ => rfl) (fun _ => rfl) dX12_init_46 (fun C1000010 H locs hl1 hm hW hS => ?_)
  have hn : List.length C1000010 = List.length C + 5 := hl1.trans hn
  refine lv_aload_n hx hb dX12_init_49 rfl (lv_at hl 0 rfl) ?_
  refine lv_sipush (v := 403) hx hb dX12_init_50 (by decide) ?_
  refine i_newa Y hW hS hm .long (N := 403) (t0 := 2) (by simp) rfl ⟨fun h => rfl, fun h => absurd rfl h⟩ (by decide) rfl (fun _ _ h => h) wa_long (by decide) dX12_init_53 (Nat.le_of_ble_eq_true rfl) (Nat.le_of_ble_eq_true rfl) (fun C1000011 H hl1 hm hW hS => ?_)
  have hn : List.length C1000011 = List.length C + 6 := hl1.trans (congrArg (· + 1) hn)
  refine i_putR Y hW hS hm (by decide) (by decide) cl_12 gl_RX12_30 hin (fun _ _ _ h _ => by cases h; rfl) rfl (fun _ => rfl) (fun _ => rfl) dX12_init_55 (fun C1000012 H locs hl1 hm hW hS => ?_)
  have hn : List.length C1000012 = List.length C + 6 := hl1.trans hn
  refine lv_aload_n hx hb dX12_init_58 rfl (lv_at hl 0 rfl) ?_
  refine lv_bipush (v := 11) hx hb dX12_init_59 (by decide) ?_
  refine i_newa Y hW hS hm .long (N := 11) (t0 := 2) (by simp) rfl ⟨fun h => rfl, fun h => absurd rfl h⟩ (by decide) rfl (fun _ _ h => h) wa_long (by decide) dX12_init_61 (Nat.le_of_ble_eq_true rfl) (Nat.le_of_ble_eq_true rfl) (fun C1000013 H hl1 hm hW hS => ?_)
  have hn : List.length C1000013 = List.length C + 7 := hl1.trans (congrArg (· + 1) hn)
  refine i_putR Y hW hS hm (by decide) (by decide) cl_12 gl_RX12_34 hin (fun _ _ _ h _ => by cases h; rfl) rfl (fun _ => rfl) (fun _ => rfl) dX12_init_63 (fun C1000014 H locs hl1 hm hW hS => ?_)
  have hn : List.length C1000014 = List.length C + 7 := hl1.trans hn
  refine lv_aload_n hx hb dX12_init_66 rfl (lv_at hl 0 rfl) ?_
  refine lv_iconst (v := (-1)) hx hb dX12_init_67 (by decide) ?_
  refine i_putI Y hW hS hm ff_12_17 cl_12 gl_RX12_37 hin (fun _ _ _ h _ => by cases h; rfl) rfl dX12_init_68 (fun C1000015 H locs hl1 hm hW hS => ?_)
  have hn : List.length C1000015 = List.length C + 7 := hl1.trans hn
  refine lv_aload_n hx hb dX12_init_71 rfl (lv_at hl 0 rfl) ?_
  refine lv_bipush (v := 20) hx hb dX12_init_72 (by decide) ?_
  refine i_newa Y hW hS hm .long (N := 20) (t0 := 2) (by simp) rfl ⟨fun h => rfl, fun h => absurd rfl h⟩ (by decide) rfl (fun _ _ h => h) wa_long (by decide) dX12_init_74 (Nat.le_of_ble_eq_true rfl) (Nat.le_of_ble_eq_true rfl) (fun C1000016 H hl1 hm hW hS => ?_)
  have hn : List.length C1000016 = List.length C + 8 := hl1.trans (congrArg (· + 1) hn)
  refine i_putR Y hW hS hm (by decide) (by decide) cl_12 gl_RX12_40 hin (fun _ _ _ h _ => by cases h; rfl) rfl (fun _ => rfl) (fun _ => rfl) dX12_init_76 (fun C1000017 H locs hl1 hm hW hS => ?_)
  have hn : List.length C1000017 = List.length C + 8 := hl1.trans hn
  refine lv_aload_n hx hb dX12_init_79 rfl (lv_at hl 0 rfl) ?_
  refine lv_bipush (v := 20) hx hb dX12_init_80 (by decide) ?_
  refine i_newa Y hW hS hm .int (N := 20) (t0 := 1) (by simp) rfl ⟨fun h => absurd h (by decide), fun h => rfl⟩ (by decide) rfl (fun _ _ h => h) wa_int (by decide) dX12_init_82 (Nat.le_of_ble_eq_true rfl) (Nat.le_of_ble_eq_true rfl) (fun C1000018 H hl1 hm hW hS => ?_)
  have hn : List.length C1000018 = List.length C + 9 := hl1.trans (congrArg (· + 1) hn)
  refine i_putR Y hW hS hm (by decide) (by decide) cl_12 gl_RX12_43 hin (fun _ _ _ h _ => by cases h; rfl) rfl (fun _ => rfl) (fun _ => rfl) dX12_init_84 (fun C1000019 H locs hl1 hm hW hS => ?_)
  have hn : List.length C1000019 = List.length C + 9 := hl1.trans hn
  refine lv_aload_n hx hb dX12_init_87 rfl (lv_at hl 0 rfl) ?_
  refine lv_bipush (v := 20) hx hb dX12_init_88 (by decide) ?_
  refine i_newa Y hW hS hm .int (N := 20) (t0 := 1) (by simp) rfl ⟨fun h => absurd h (by decide), fun h => rfl⟩ (by decide) rfl (fun _ _ h => h) wa_int (by decide) dX12_init_90 (Nat.le_of_ble_eq_true rfl) (Nat.le_of_ble_eq_true rfl) (fun C1000020 H hl1 hm hW hS => ?_)
  have hn : List.length C1000020 = List.length C + 10 := hl1.trans (congrArg (· + 1) hn)
  refine i_putR Y hW hS hm (by decide) (by decide) cl_12 gl_RX12_46 hin (fun _ _ _ h _ => by cases h; rfl) rfl (fun _ => rfl) (fun _ => rfl) dX12_init_92 (fun C1000021 H locs hl1 hm hW hS => ?_)
  have hn : List.length C1000021 = List.length C + 10 := hl1.trans hn
  refine lv_aload_n hx hb dX12_init_95 rfl (lv_at hl 0 rfl) ?_
  refine lv_iconst (v := 2) hx hb dX12_init_96 (by decide) ?_
  refine i_newa Y hW hS hm .int (N := 2) (t0 := 1) (by simp) rfl ⟨fun h => absurd h (by decide), fun h => rfl⟩ (by decide) rfl (fun _ _ h => h) wa_int (by decide) dX12_init_97 (Nat.le_of_ble_eq_true rfl) (Nat.le_of_ble_eq_true rfl) (fun C1000022 H hl1 hm hW hS => ?_)
  have hn : List.length C1000022 = List.length C + 11 := hl1.trans (congrArg (· + 1) hn)
  refine i_putR Y hW hS hm (by decide) (by decide) cl_12 gl_RX12_49 hin (fun _ _ _ h _ => by cases h; rfl) rfl (fun _ => rfl) (fun _ => rfl) dX12_init_99 (fun C1000023 H locs hl1 hm hW hS => ?_)
  have hn : List.length C1000023 = List.length C + 11 := hl1.trans hn
  refine lv_aload_n hx hb dX12_init_102 rfl (lv_at hl 0 rfl) ?_
  refine lv_bipush (v := 16) hx hb dX12_init_103 (by decide) ?_
  refine i_newa Y hW hS hm .int (N := 16) (t0 := 1) (by simp) rfl ⟨fun h => absurd h (by decide), fun h => rfl⟩ (by decide) rfl (fun _ _ h => h) wa_int (by decide) dX12_init_105 (Nat.le_of_ble_eq_true rfl) (Nat.le_of_ble_eq_true rfl) (fun C1000024 H hl1 hm hW hS => ?_)
  have hn : List.length C1000024 = List.length C + 12 := hl1.trans (congrArg (· + 1) hn)
  refine i_putR Y hW hS hm (by decide) (by decide) cl_12 gl_RX12_52 hin (fun _ _ _ h _ => by cases h; rfl) rfl (fun _ => rfl) (fun _ => rfl) dX12_init_107 (fun C1000025 H locs hl1 hm hW hS => ?_)
  have hn : List.length C1000025 = List.length C + 12 := hl1.trans hn
  refine lv_aload_n hx hb dX12_init_110 rfl (lv_at hl 0 rfl) ?_
  refine lv_sipush (v := 2048) hx hb dX12_init_111 (by decide) ?_
  refine i_newa Y hW hS hm .int (N := 2048) (t0 := 1) (by simp) rfl ⟨fun h => absurd h (by decide), fun h => rfl⟩ (by decide) rfl (fun _ _ h => h) wa_int (by decide) dX12_init_114 (Nat.le_of_ble_eq_true rfl) (Nat.le_of_ble_eq_true rfl) (fun C1000026 H hl1 hm hW hS => ?_)
  have hn : List.length C1000026 = List.length C + 13 := hl1.trans (congrArg (· + 1) hn)
  refine i_putR Y hW hS hm (by decide) (by decide) cl_12 gl_RX12_55 hin (fun _ _ _ h _ => by cases h; rfl) rfl (fun _ => rfl) (fun _ => rfl) dX12_init_116 (fun C1000027 H locs hl1 hm hW hS => ?_)
  have hn : List.length C1000027 = List.length C + 13 := hl1.trans hn
  refine lv_aload_n hx hb dX12_init_119 rfl (lv_at hl 0 rfl) ?_
  refine lv_iconst (v := 2) hx hb dX12_init_120 (by decide) ?_
  refine i_newa Y hW hS hm .int (N := 2) (t0 := 1) (by simp) rfl ⟨fun h => absurd h (by decide), fun h => rfl⟩ (by decide) rfl (fun _ _ h => h) wa_int (by decide) dX12_init_121 (Nat.le_of_ble_eq_true rfl) (Nat.le_of_ble_eq_true rfl) (fun C1000028 H hl1 hm hW hS => ?_)
  have hn : List.length C1000028 = List.length C + 14 := hl1.trans (congrArg (· + 1) hn)
  refine i_putR Y hW hS hm (by decide) (by decide) cl_12 gl_RX12_58 hin (fun _ _ _ h _ => by cases h; rfl) rfl (fun _ => rfl) (fun _ => rfl) dX12_init_123 (fun C1000029 H locs hl1 hm hW hS => ?_)
  have hn : List.length C1000029 = List.length C + 14 := hl1.trans hn
  refine lv_aload_n hx hb dX12_init_126 rfl (lv_at hl 0 rfl) ?_
  refine lv_bipush (v := 12) hx hb dX12_init_127 (by decide) ?_
  refine i_newa Y hW hS hm .int (N := 12) (t0 := 1) (by simp) rfl ⟨fun h => absurd h (by decide), fun h => rfl⟩ (by decide) rfl (fun _ _ h => h) wa_int (by decide) dX12_init_129 (Nat.le_of_ble_eq_true rfl) (Nat.le_of_ble_eq_true rfl) (fun C1000030 H hl1 hm hW hS => ?_)
  have hn : List.length C1000030 = List.length C + 15 := hl1.trans (congrArg (· + 1) hn)
  refine i_putR Y hW hS hm (by decide) (by decide) cl_12 gl_RX12_61 hin (fun _ _ _ h _ => by cases h; rfl) rfl (fun _ => rfl) (fun _ => rfl) dX12_init_131 (fun C1000031 H locs hl1 hm hW hS => ?_)
  have hn : List.length C1000031 = List.length C + 15 := hl1.trans hn
  refine lv_aload_n hx hb dX12_init_134 rfl (lv_at hl 0 rfl) ?_
  refine lv_bipush (v := 12) hx hb dX12_init_135 (by decide) ?_
  refine i_newa Y hW hS hm .int (N := 12) (t0 := 1) (by simp) rfl ⟨fun h => absurd h (by decide), fun h => rfl⟩ (by decide) rfl (fun _ _ h => h) wa_int (by decide) dX12_init_137 (Nat.le_of_ble_eq_true rfl) (Nat.le_of_ble_eq_true rfl) (fun C1000032 H hl1 hm hW hS => ?_)
  have hn : List.length C1000032 = List.length C + 16 := hl1.trans (congrArg (· + 1) hn)
  refine i_putR Y hW hS hm (by decide) (by decide) cl_12 gl_RX12_64 hin (fun _ _ _ h _ => by cases h; rfl) rfl (fun _ => rfl) (fun _ => rfl) dX12_init_139 (fun C1000033 H locs hl1 hm hW hS => ?_)
  have hn : List.length C1000033 = List.length C + 16 := hl1.trans hn
  refine lv_aload_n hx hb dX12_init_142 rfl (lv_at hl 0 rfl) ?_
  refine lv_bipush (v := 12) hx hb dX12_init_143 (by decide) ?_
  refine i_newa Y hW hS hm .int (N := 12) (t0 := 1) (by simp) rfl ⟨fun h => absurd h (by decide), fun h => rfl⟩ (by decide) rfl (fun _ _ h => h) wa_int (by decide) dX12_init_145 (Nat.le_of_ble_eq_true rfl) (Nat.le_of_ble_eq_true rfl) (fun C1000034 H hl1 hm hW hS => ?_)
  have hn : List.length C1000034 = List.length C + 17 := hl1.trans (congrArg (· + 1) hn)
  refine i_putR Y hW hS hm (by decide) (by decide) cl_12 gl_RX12_67 hin (fun _ _ _ h _ => by cases h; rfl) rfl (fun _ => rfl) (fun _ => rfl) dX12_init_147 (fun C1000035 H locs hl1 hm hW hS => ?_)
  have hn : List.length C1000035 = List.length C + 17 := hl1.trans hn
  refine lv_aload_n hx hb dX12_init_150 rfl (lv_at hl 0 rfl) ?_
  refine lv_iconst (v := 2) hx hb dX12_init_151 (by decide) ?_
  refine i_newa Y hW hS hm .int (N := 2) (t0 := 1) (by simp) rfl ⟨fun h => absurd h (by decide), fun h => rfl⟩ (by decide) rfl (fun _ _ h => h) wa_int (by decide) dX12_init_152 (Nat.le_of_ble_eq_true rfl) (Nat.le_of_ble_eq_true rfl) (fun C1000036 H hl1 hm hW hS => ?_)
  have hn : List.length C1000036 = List.length C + 18 := hl1.trans (congrArg (· + 1) hn)
  refine i_putR Y hW hS hm (by decide) (by decide) cl_12 gl_RX12_70 hin (fun _ _ _ h _ => by cases h; rfl) rfl (fun _ => rfl) (fun _ => rfl) dX12_init_154 (fun C1000037 H locs hl1 hm hW hS => ?_)
  have hn : List.length C1000037 = List.length C + 18 := hl1.trans hn
  refine lv_aload_n hx hb dX12_init_157 rfl (lv_at hl 0 rfl) ?_
  refine lv_bipush (v := 12) hx hb dX12_init_158 (by decide) ?_
  refine i_newa Y hW hS hm .int (N := 12) (t0 := 1) (by simp) rfl ⟨fun h => absurd h (by decide), fun h => rfl⟩ (by decide) rfl (fun _ _ h => h) wa_int (by decide) dX12_init_160 (Nat.le_of_ble_eq_true rfl) (Nat.le_of_ble_eq_true rfl) (fun C1000038 H hl1 hm hW hS => ?_)
  have hn : List.length C1000038 = List.length C + 19 := hl1.trans (congrArg (· + 1) hn)
  refine i_putR Y hW hS hm (by decide) (by decide) cl_12 gl_RX12_73 hin (fun _ _ _ h _ => by cases h; rfl) rfl (fun _ => rfl) (fun _ => rfl) dX12_init_162 (fun C1000039 H locs hl1 hm hW hS => ?_)
  have hn : List.length C1000039 = List.length C + 19 := hl1.trans hn
  refine lv_aload_n hx hb dX12_init_165 rfl (lv_at hl 0 rfl) ?_
  refine lv_bipush (v := 12) hx hb dX12_init_166 (by decide) ?_
  refine i_newa Y hW hS hm .int (N := 12) (t0 := 1) (by simp) rfl ⟨fun h => absurd h (by decide), fun h => rfl⟩ (by decide) rfl (fun _ _ h => h) wa_int (by decide) dX12_init_168 (Nat.le_of_ble_eq_true rfl) (Nat.le_of_ble_eq_true rfl) (fun C1000040 H hl1 hm hW hS => ?_)
  have hn : List.length C1000040 = List.length C + 20 := hl1.trans (congrArg (· + 1) hn)
  refine i_putR Y hW hS hm (by decide) (by decide) cl_12 gl_RX12_76 hin (fun _ _ _ h _ => by cases h; rfl) rfl (fun _ => rfl) (fun _ => rfl) dX12_init_170 (fun C1000041 H locs hl1 hm hW hS => ?_)
  have hn : List.length C1000041 = List.length C + 20 := hl1.trans hn
  refine lv_aload_n hx hb dX12_init_173 rfl (lv_at hl 0 rfl) ?_
  refine lv_bipush (v := 12) hx hb dX12_init_174 (by decide) ?_
  refine i_newa Y hW hS hm .int (N := 12) (t0 := 1) (by simp) rfl ⟨fun h => absurd h (by decide), fun h => rfl⟩ (by decide) rfl (fun _ _ h => h) wa_int (by decide) dX12_init_176 (Nat.le_of_ble_eq_true rfl) (Nat.le_of_ble_eq_true rfl) (fun C1000042 H hl1 hm hW hS => ?_)
  have hn : List.length C1000042 = List.length C + 21 := hl1.trans (congrArg (· + 1) hn)
  refine i_putR Y hW hS hm (by decide) (by decide) cl_12 gl_RX12_79 hin (fun _ _ _ h _ => by cases h; rfl) rfl (fun _ => rfl) (fun _ => rfl) dX12_init_178 (fun C1000043 H locs hl1 hm hW hS => ?_)
  have hn : List.length C1000043 = List.length C + 21 := hl1.trans hn
  refine lv_aload_n hx hb dX12_init_181 rfl (lv_at hl 0 rfl) ?_
  refine lv_bipush (v := 12) hx hb dX12_init_182 (by decide) ?_
  refine i_newa Y hW hS hm .int (N := 12) (t0 := 1) (by simp) rfl ⟨fun h => absurd h (by decide), fun h => rfl⟩ (by decide) rfl (fun _ _ h => h) wa_int (by decide) dX12_init_184 (Nat.le_of_ble_eq_true rfl) (Nat.le_of_ble_eq_true rfl) (fun C1000044 H hl1 hm hW hS => ?_)
  have hn : List.length C1000044 = List.length C + 22 := hl1.trans (congrArg (· + 1) hn)
  refine i_putR Y hW hS hm (by decide) (by decide) cl_12 gl_RX12_82 hin (fun _ _ _ h _ => by cases h; rfl) rfl (fun _ => rfl) (fun _ => rfl) dX12_init_186 (fun C1000045 H locs hl1 hm hW hS => ?_)
  have hn : List.length C1000045 = List.length C + 22 := hl1.trans hn
  refine lv_aload_n hx hb dX12_init_189 rfl (lv_at hl 0 rfl) ?_
  refine lv_bipush (v := 12) hx hb dX12_init_190 (by decide) ?_
  refine i_newa Y hW hS hm .int (N := 12) (t0 := 1) (by simp) rfl ⟨fun h => absurd h (by decide), fun h => rfl⟩ (by decide) rfl (fun _ _ h => h) wa_int (by decide) dX12_init_192 (Nat.le_of_ble_eq_true rfl) (Nat.le_of_ble_eq_true rfl) (fun C1000046 H hl1 hm hW hS => ?_)
  have hn : List.length C1000046 = List.length C + 23 := hl1.trans (congrArg (· + 1) hn)
  refine i_putR Y hW hS hm (by decide) (by decide) cl_12 gl_RX12_85 hin (fun _ _ _ h _ => by cases h; rfl) rfl (fun _ => rfl) (fun _ => rfl) dX12_init_194 (fun C1000047 H locs hl1 hm hW hS => ?_)
  have hn : List.length C1000047 = List.length C + 23 := hl1.trans hn
  refine lv_aload_n hx hb dX12_init_197 rfl (lv_at hl 0 rfl) ?_
  refine lv_bipush (v := 12) hx hb dX12_init_198 (by decide) ?_
  refine i_newa Y hW hS hm .int (N := 12) (t0 := 1) (by simp) rfl ⟨fun h => absurd h (by decide), fun h => rfl⟩ (by decide) rfl (fun _ _ h => h) wa_int (by decide) dX12_init_200 (Nat.le_of_ble_eq_true rfl) (Nat.le_of_ble_eq_true rfl) (fun C1000048 H hl1 hm hW hS => ?_)
  have hn : List.length C1000048 = List.length C + 24 := hl1.trans (congrArg (· + 1) hn)
  refine i_putR Y hW hS hm (by decide) (by decide) cl_12 gl_RX12_88 hin (fun _ _ _ h _ => by cases h; rfl) rfl (fun _ => rfl) (fun _ => rfl) dX12_init_202 (fun C1000049 H locs hl1 hm hW hS => ?_)
  have hn : List.length C1000049 = List.length C + 24 := hl1.trans hn
  refine lv_aload_n hx hb dX12_init_205 rfl (lv_at hl 0 rfl) ?_
  refine lv_iconst (v := 2) hx hb dX12_init_206 (by decide) ?_
  refine i_newa Y hW hS hm .int (N := 2) (t0 := 1) (by simp) rfl ⟨fun h => absurd h (by decide), fun h => rfl⟩ (by decide) rfl (fun _ _ h => h) wa_int (by decide) dX12_init_207 (Nat.le_of_ble_eq_true rfl) (Nat.le_of_ble_eq_true rfl) (fun C1000050 H hl1 hm hW hS => ?_)
  have hn : List.length C1000050 = List.length C + 25 := hl1.trans (congrArg (· + 1) hn)
  refine i_putR Y hW hS hm (by decide) (by decide) cl_12 gl_RX12_91 hin (fun _ _ _ h _ => by cases h; rfl) rfl (fun _ => rfl) (fun _ => rfl) dX12_init_209 (fun C1000051 H locs hl1 hm hW hS => ?_)
  have hn : List.length C1000051 = List.length C + 25 := hl1.trans hn
  refine lv_aload_n hx hb dX12_init_212 rfl (lv_at hl 0 rfl) ?_
  refine lv_bipush (v := 12) hx hb dX12_init_213 (by decide) ?_
  refine i_newa Y hW hS hm .int (N := 12) (t0 := 1) (by simp) rfl ⟨fun h => absurd h (by decide), fun h => rfl⟩ (by decide) rfl (fun _ _ h => h) wa_int (by decide) dX12_init_215 (Nat.le_of_ble_eq_true rfl) (Nat.le_of_ble_eq_true rfl) (fun C1000052 H hl1 hm hW hS => ?_)
  have hn : List.length C1000052 = List.length C + 26 := hl1.trans (congrArg (· + 1) hn)
  refine i_putR Y hW hS hm (by decide) (by decide) cl_12 gl_RX12_94 hin (fun _ _ _ h _ => by cases h; rfl) rfl (fun _ => rfl) (fun _ => rfl) dX12_init_217 (fun C1000053 H locs hl1 hm hW hS => ?_)
  have hn : List.length C1000053 = List.length C + 26 := hl1.trans hn
  refine lv_aload_n hx hb dX12_init_220 rfl (lv_at hl 0 rfl) ?_
  refine lv_bipush (v := 12) hx hb dX12_init_221 (by decide) ?_
  refine i_newa Y hW hS hm .int (N := 12) (t0 := 1) (by simp) rfl ⟨fun h => absurd h (by decide), fun h => rfl⟩ (by decide) rfl (fun _ _ h => h) wa_int (by decide) dX12_init_223 (Nat.le_of_ble_eq_true rfl) (Nat.le_of_ble_eq_true rfl) (fun C1000054 H hl1 hm hW hS => ?_)
  have hn : List.length C1000054 = List.length C + 27 := hl1.trans (congrArg (· + 1) hn)
  refine i_putR Y hW hS hm (by decide) (by decide) cl_12 gl_RX12_97 hin (fun _ _ _ h _ => by cases h; rfl) rfl (fun _ => rfl) (fun _ => rfl) dX12_init_225 (fun C1000055 H locs hl1 hm hW hS => ?_)
  have hn : List.length C1000055 = List.length C + 27 := hl1.trans hn
  refine lv_aload_n hx hb dX12_init_228 rfl (lv_at hl 0 rfl) ?_
  refine lv_bipush (v := 12) hx hb dX12_init_229 (by decide) ?_
  refine i_newa Y hW hS hm .int (N := 12) (t0 := 1) (by simp) rfl ⟨fun h => absurd h (by decide), fun h => rfl⟩ (by decide) rfl (fun _ _ h => h) wa_int (by decide) dX12_init_231 (Nat.le_of_ble_eq_true rfl) (Nat.le_of_ble_eq_true rfl) (fun C1000056 H hl1 hm hW hS => ?_)
  have hn : List.length C1000056 = List.length C + 28 := hl1.trans (congrArg (· + 1) hn)
  refine i_putR Y hW hS hm (by decide) (by decide) cl_12 gl_RX12_100 hin (fun _ _ _ h _ => by cases h; rfl) rfl (fun _ => rfl) (fun _ => rfl) dX12_init_233 (fun C1000057 H locs hl1 hm hW hS => ?_)
  have hn : List.length C1000057 = List.length C + 28 := hl1.trans hn
  refine lv_aload_n hx hb dX12_init_236 rfl (lv_at hl 0 rfl) ?_
  refine lv_iconst (v := 2) hx hb dX12_init_237 (by decide) ?_
  refine i_newa Y hW hS hm .int (N := 2) (t0 := 1) (by simp) rfl ⟨fun h => absurd h (by decide), fun h => rfl⟩ (by decide) rfl (fun _ _ h => h) wa_int (by decide) dX12_init_238 (Nat.le_of_ble_eq_true rfl) (Nat.le_of_ble_eq_true rfl) (fun C1000058 H hl1 hm hW hS => ?_)
  have hn : List.length C1000058 = List.length C + 29 := hl1.trans (congrArg (· + 1) hn)
  refine i_putR Y hW hS hm (by decide) (by decide) cl_12 gl_RX12_103 hin (fun _ _ _ h _ => by cases h; rfl) rfl (fun _ => rfl) (fun _ => rfl) dX12_init_240 (fun C1000059 H locs hl1 hm hW hS => ?_)
  have hn : List.length C1000059 = List.length C + 29 := hl1.trans hn
  refine lv_aload_n hx hb dX12_init_243 rfl (lv_at hl 0 rfl) ?_
  refine lv_bipush (v := 8) hx hb dX12_init_244 (by decide) ?_
  refine i_newa Y hW hS hm .int (N := 8) (t0 := 1) (by simp) rfl ⟨fun h => absurd h (by decide), fun h => rfl⟩ (by decide) rfl (fun _ _ h => h) wa_int (by decide) dX12_init_246 (Nat.le_of_ble_eq_true rfl) (Nat.le_of_ble_eq_true rfl) (fun C1000060 H hl1 hm hW hS => ?_)
  have hn : List.length C1000060 = List.length C + 30 := hl1.trans (congrArg (· + 1) hn)
  refine i_putR Y hW hS hm (by decide) (by decide) cl_12 gl_RX12_106 hin (fun _ _ _ h _ => by cases h; rfl) rfl (fun _ => rfl) (fun _ => rfl) dX12_init_248 (fun C1000061 H locs hl1 hm hW hS => ?_)
  have hn : List.length C1000061 = List.length C + 30 := hl1.trans hn
  refine lv_aload_n hx hb dX12_init_251 rfl (lv_at hl 0 rfl) ?_
  refine lv_bipush (v := 8) hx hb dX12_init_252 (by decide) ?_
  refine i_newa Y hW hS hm .int (N := 8) (t0 := 1) (by simp) rfl ⟨fun h => absurd h (by decide), fun h => rfl⟩ (by decide) rfl (fun _ _ h => h) wa_int (by decide) dX12_init_254 (Nat.le_of_ble_eq_true rfl) (Nat.le_of_ble_eq_true rfl) (fun C1000062 H hl1 hm hW hS => ?_)
  have hn : List.length C1000062 = List.length C + 31 := hl1.trans (congrArg (· + 1) hn)
  refine i_putR Y hW hS hm (by decide) (by decide) cl_12 gl_RX12_109 hin (fun _ _ _ h _ => by cases h; rfl) rfl (fun _ => rfl) (fun _ => rfl) dX12_init_256 (fun C1000063 H locs hl1 hm hW hS => ?_)
  have hn : List.length C1000063 = List.length C + 31 := hl1.trans hn
  refine lv_aload_n hx hb dX12_init_259 rfl (lv_at hl 0 rfl) ?_
  refine lv_bipush (v := 8) hx hb dX12_init_260 (by decide) ?_
  refine i_newa Y hW hS hm .int (N := 8) (t0 := 1) (by simp) rfl ⟨fun h => absurd h (by decide), fun h => rfl⟩ (by decide) rfl (fun _ _ h => h) wa_int (by decide) dX12_init_262 (Nat.le_of_ble_eq_true rfl) (Nat.le_of_ble_eq_true rfl) (fun C1000064 H hl1 hm hW hS => ?_)
  have hn : List.length C1000064 = List.length C + 32 := hl1.trans (congrArg (· + 1) hn)
  refine i_putR Y hW hS hm (by decide) (by decide) cl_12 gl_RX12_112 hin (fun _ _ _ h _ => by cases h; rfl) rfl (fun _ => rfl) (fun _ => rfl) dX12_init_264 (fun C1000065 H locs hl1 hm hW hS => ?_)
  have hn : List.length C1000065 = List.length C + 32 := hl1.trans hn
  refine lv_aload_n hx hb dX12_init_267 rfl (lv_at hl 0 rfl) ?_
  refine lv_bipush (v := 8) hx hb dX12_init_268 (by decide) ?_
  refine i_newa Y hW hS hm .int (N := 8) (t0 := 1) (by simp) rfl ⟨fun h => absurd h (by decide), fun h => rfl⟩ (by decide) rfl (fun _ _ h => h) wa_int (by decide) dX12_init_270 (Nat.le_of_ble_eq_true rfl) (Nat.le_of_ble_eq_true rfl) (fun C1000066 H hl1 hm hW hS => ?_)
  have hn : List.length C1000066 = List.length C + 33 := hl1.trans (congrArg (· + 1) hn)
  refine i_putR Y hW hS hm (by decide) (by decide) cl_12 gl_RX12_115 hin (fun _ _ _ h _ => by cases h; rfl) rfl (fun _ => rfl) (fun _ => rfl) dX12_init_272 (fun C1000067 H locs hl1 hm hW hS => ?_)
  have hn : List.length C1000067 = List.length C + 33 := hl1.trans hn
  refine lv_aload_n hx hb dX12_init_275 rfl (lv_at hl 0 rfl) ?_
  refine lv_iconst (v := 2) hx hb dX12_init_276 (by decide) ?_
  refine i_newa Y hW hS hm .int (N := 2) (t0 := 1) (by simp) rfl ⟨fun h => absurd h (by decide), fun h => rfl⟩ (by decide) rfl (fun _ _ h => h) wa_int (by decide) dX12_init_277 (Nat.le_of_ble_eq_true rfl) (Nat.le_of_ble_eq_true rfl) (fun C1000068 H hl1 hm hW hS => ?_)
  have hn : List.length C1000068 = List.length C + 34 := hl1.trans (congrArg (· + 1) hn)
  refine i_putR Y hW hS hm (by decide) (by decide) cl_12 gl_RX12_118 hin (fun _ _ _ h _ => by cases h; rfl) rfl (fun _ => rfl) (fun _ => rfl) dX12_init_279 (fun C1000069 H locs hl1 hm hW hS => ?_)
  have hn : List.length C1000069 = List.length C + 34 := hl1.trans hn
  refine lv_aload_n hx hb dX12_init_282 rfl (lv_at hl 0 rfl) ?_
  refine lv_iconst (v := 2) hx hb dX12_init_283 (by decide) ?_
  refine i_newa Y hW hS hm .int (N := 2) (t0 := 1) (by simp) rfl ⟨fun h => absurd h (by decide), fun h => rfl⟩ (by decide) rfl (fun _ _ h => h) wa_int (by decide) dX12_init_284 (Nat.le_of_ble_eq_true rfl) (Nat.le_of_ble_eq_true rfl) (fun C1000070 H hl1 hm hW hS => ?_)
  have hn : List.length C1000070 = List.length C + 35 := hl1.trans (congrArg (· + 1) hn)
  refine i_putR Y hW hS hm (by decide) (by decide) cl_12 gl_RX12_121 hin (fun _ _ _ h _ => by cases h; rfl) rfl (fun _ => rfl) (fun _ => rfl) dX12_init_286 (fun C1000071 H locs hl1 hm hW hS => ?_)
  have hn : List.length C1000071 = List.length C + 35 := hl1.trans hn
  refine lv_aload_n hx hb dX12_init_289 rfl (lv_at hl 0 rfl) ?_
  refine lv_iconst (v := 2) hx hb dX12_init_290 (by decide) ?_
  refine i_newa Y hW hS hm .int (N := 2) (t0 := 1) (by simp) rfl ⟨fun h => absurd h (by decide), fun h => rfl⟩ (by decide) rfl (fun _ _ h => h) wa_int (by decide) dX12_init_291 (Nat.le_of_ble_eq_true rfl) (Nat.le_of_ble_eq_true rfl) (fun C1000072 H hl1 hm hW hS => ?_)
  have hn : List.length C1000072 = List.length C + 36 := hl1.trans (congrArg (· + 1) hn)
  refine i_putR Y hW hS hm (by decide) (by decide) cl_12 gl_RX12_124 hin (fun _ _ _ h _ => by cases h; rfl) rfl (fun _ => rfl) (fun _ => rfl) dX12_init_293 (fun C1000073 H locs hl1 hm hW hS => ?_)
  have hn : List.length C1000073 = List.length C + 36 := hl1.trans hn
  refine lv_aload_n hx hb dX12_init_296 rfl (lv_at hl 0 rfl) ?_
  refine lv_sipush (v := 3072) hx hb dX12_init_297 (by decide) ?_
  refine i_newa Y hW hS hm .byte (N := 3072) (t0 := 0) (by simp) rfl ⟨fun h => absurd h (by decide), fun h => rfl⟩ (by decide) rfl (fun _ _ h => h) wa_byte (by decide) dX12_init_300 (Nat.le_of_ble_eq_true rfl) (Nat.le_of_ble_eq_true rfl) (fun C1000074 H hl1 hm hW hS => ?_)
  have hn : List.length C1000074 = List.length C + 37 := hl1.trans (congrArg (· + 1) hn)
  refine i_putR Y hW hS hm (by decide) (by decide) cl_12 gl_RX12_127 hin (fun _ _ _ h _ => by cases h; rfl) rfl (fun _ => rfl) (fun _ => rfl) dX12_init_302 (fun C1000075 H locs hl1 hm hW hS => ?_)
  have hn : List.length C1000075 = List.length C + 37 := hl1.trans hn
  refine lv_aload_n hx hb dX12_init_305 rfl (lv_at hl 0 rfl) ?_
  refine lv_sipush (v := 3072) hx hb dX12_init_306 (by decide) ?_
  refine i_newa Y hW hS hm .byte (N := 3072) (t0 := 0) (by simp) rfl ⟨fun h => absurd h (by decide), fun h => rfl⟩ (by decide) rfl (fun _ _ h => h) wa_byte (by decide) dX12_init_309 (Nat.le_of_ble_eq_true rfl) (Nat.le_of_ble_eq_true rfl) (fun C1000076 H hl1 hm hW hS => ?_)
  have hn : List.length C1000076 = List.length C + 38 := hl1.trans (congrArg (· + 1) hn)
  refine i_putR Y hW hS hm (by decide) (by decide) cl_12 gl_RX12_130 hin (fun _ _ _ h _ => by cases h; rfl) rfl (fun _ => rfl) (fun _ => rfl) dX12_init_311 (fun C1000077 H locs hl1 hm hW hS => ?_)
  have hn : List.length C1000077 = List.length C + 38 := hl1.trans hn
  refine lv_aload_n hx hb dX12_init_314 rfl (lv_at hl 0 rfl) ?_
  refine lv_sipush (v := 1024) hx hb dX12_init_315 (by decide) ?_
  refine i_newa Y hW hS hm .int (N := 1024) (t0 := 1) (by simp) rfl ⟨fun h => absurd h (by decide), fun h => rfl⟩ (by decide) rfl (fun _ _ h => h) wa_int (by decide) dX12_init_318 (Nat.le_of_ble_eq_true rfl) (Nat.le_of_ble_eq_true rfl) (fun C1000078 H hl1 hm hW hS => ?_)
  have hn : List.length C1000078 = List.length C + 39 := hl1.trans (congrArg (· + 1) hn)
  refine i_putR Y hW hS hm (by decide) (by decide) cl_12 gl_RX12_133 hin (fun _ _ _ h _ => by cases h; rfl) rfl (fun _ => rfl) (fun _ => rfl) dX12_init_320 (fun C1000079 H locs hl1 hm hW hS => ?_)
  have hn : List.length C1000079 = List.length C + 39 := hl1.trans hn
  refine lv_aload_n hx hb dX12_init_323 rfl (lv_at hl 0 rfl) ?_
  refine lv_sipush (v := 1024) hx hb dX12_init_324 (by decide) ?_
  refine i_newa Y hW hS hm .int (N := 1024) (t0 := 1) (by simp) rfl ⟨fun h => absurd h (by decide), fun h => rfl⟩ (by decide) rfl (fun _ _ h => h) wa_int (by decide) dX12_init_327 (Nat.le_of_ble_eq_true rfl) (Nat.le_of_ble_eq_true rfl) (fun C1000080 H hl1 hm hW hS => ?_)
  have hn : List.length C1000080 = List.length C + 40 := hl1.trans (congrArg (· + 1) hn)
  refine i_putR Y hW hS hm (by decide) (by decide) cl_12 gl_RX12_136 hin (fun _ _ _ h _ => by cases h; rfl) rfl (fun _ => rfl) (fun _ => rfl) dX12_init_329 (fun C1000081 H locs hl1 hm hW hS => ?_)
  have hn : List.length C1000081 = List.length C + 40 := hl1.trans hn
  refine lv_aload_n hx hb dX12_init_332 rfl (lv_at hl 0 rfl) ?_
  refine lv_sipush (v := 260) hx hb dX12_init_333 (by decide) ?_
  refine i_newa Y hW hS hm .int (N := 260) (t0 := 1) (by simp) rfl ⟨fun h => absurd h (by decide), fun h => rfl⟩ (by decide) rfl (fun _ _ h => h) wa_int (by decide) dX12_init_336 (Nat.le_of_ble_eq_true rfl) (Nat.le_of_ble_eq_true rfl) (fun C1000082 H hl1 hm hW hS => ?_)
  have hn : List.length C1000082 = List.length C + 41 := hl1.trans (congrArg (· + 1) hn)
  refine i_putR Y hW hS hm (by decide) (by decide) cl_12 gl_RX12_139 hin (fun _ _ _ h _ => by cases h; rfl) rfl (fun _ => rfl) (fun _ => rfl) dX12_init_338 (fun C1000083 H locs hl1 hm hW hS => ?_)
  have hn : List.length C1000083 = List.length C + 41 := hl1.trans hn
  refine lv_aload_n hx hb dX12_init_341 rfl (lv_at hl 0 rfl) ?_
  refine lv_sipush (v := 260) hx hb dX12_init_342 (by decide) ?_
  refine i_newa Y hW hS hm .int (N := 260) (t0 := 1) (by simp) rfl ⟨fun h => absurd h (by decide), fun h => rfl⟩ (by decide) rfl (fun _ _ h => h) wa_int (by decide) dX12_init_345 (Nat.le_of_ble_eq_true rfl) (Nat.le_of_ble_eq_true rfl) (fun C1000084 H hl1 hm hW hS => ?_)
  have hn : List.length C1000084 = List.length C + 42 := hl1.trans (congrArg (· + 1) hn)
  refine i_putR Y hW hS hm (by decide) (by decide) cl_12 gl_RX12_142 hin (fun _ _ _ h _ => by cases h; rfl) rfl (fun _ => rfl) (fun _ => rfl) dX12_init_347 (fun C1000085 H locs hl1 hm hW hS => ?_)
  have hn : List.length C1000085 = List.length C + 42 := hl1.trans hn
  refine lv_aload_n hx hb dX12_init_350 rfl (lv_at hl 0 rfl) ?_
  refine lv_sipush (v := 260) hx hb dX12_init_351 (by decide) ?_
  refine i_newa Y hW hS hm .int (N := 260) (t0 := 1) (by simp) rfl ⟨fun h => absurd h (by decide), fun h => rfl⟩ (by decide) rfl (fun _ _ h => h) wa_int (by decide) dX12_init_354 (Nat.le_of_ble_eq_true rfl) (Nat.le_of_ble_eq_true rfl) (fun C1000086 H hl1 hm hW hS => ?_)
  have hn : List.length C1000086 = List.length C + 43 := hl1.trans (congrArg (· + 1) hn)
  refine i_putR Y hW hS hm (by decide) (by decide) cl_12 gl_RX12_145 hin (fun _ _ _ h _ => by cases h; rfl) rfl (fun _ => rfl) (fun _ => rfl) dX12_init_356 (fun C1000087 H locs hl1 hm hW hS => ?_)
  have hn : List.length C1000087 = List.length C + 43 := hl1.trans hn
  refine lv_aload_n hx hb dX12_init_359 rfl (lv_at hl 0 rfl) ?_
  refine lv_sipush (v := 260) hx hb dX12_init_360 (by decide) ?_
  refine i_newa Y hW hS hm .int (N := 260) (t0 := 1) (by simp) rfl ⟨fun h => absurd h (by decide), fun h => rfl⟩ (by decide) rfl (fun _ _ h => h) wa_int (by decide) dX12_init_363 (Nat.le_of_ble_eq_true rfl) (Nat.le_of_ble_eq_true rfl) (fun C1000088 H hl1 hm hW hS => ?_)
  have hn : List.length C1000088 = List.length C + 44 := hl1.trans (congrArg (· + 1) hn)
  refine i_putR Y hW hS hm (by decide) (by decide) cl_12 gl_RX12_148 hin (fun _ _ _ h _ => by cases h; rfl) rfl (fun _ => rfl) (fun _ => rfl) dX12_init_365 (fun C1000089 H locs hl1 hm hW hS => ?_)
  have hn : List.length C1000089 = List.length C + 44 := hl1.trans hn
  refine lv_aload_n hx hb dX12_init_368 rfl (lv_at hl 0 rfl) ?_
  refine lv_bipush (v := 64) hx hb dX12_init_369 (by decide) ?_
  refine i_newa Y hW hS hm .boolean (N := 64) (t0 := 3) (by simp) rfl ⟨fun h => absurd h (by decide), fun h => rfl⟩ (by decide) rfl (fun _ _ h => h) wa_boolean (by decide) dX12_init_371 (Nat.le_of_ble_eq_true rfl) (Nat.le_of_ble_eq_true rfl) (fun C1000090 H hl1 hm hW hS => ?_)
  have hn : List.length C1000090 = List.length C + 45 := hl1.trans (congrArg (· + 1) hn)
  refine i_putR Y hW hS hm (by decide) (by decide) cl_12 gl_RX12_151 hin (fun _ _ _ h _ => by cases h; rfl) rfl (fun _ => rfl) (fun _ => rfl) dX12_init_373 (fun C1000091 H locs hl1 hm hW hS => ?_)
  have hn : List.length C1000091 = List.length C + 45 := hl1.trans hn
  refine lv_aload_n hx hb dX12_init_376 rfl (lv_at hl 0 rfl) ?_
  refine lv_sipush (v := 128) hx hb dX12_init_377 (by decide) ?_
  refine i_newa Y hW hS hm .long (N := 128) (t0 := 2) (by simp) rfl ⟨fun h => rfl, fun h => absurd rfl h⟩ (by decide) rfl (fun _ _ h => h) wa_long (by decide) dX12_init_380 (Nat.le_of_ble_eq_true rfl) (Nat.le_of_ble_eq_true rfl) (fun C1000092 H hl1 hm hW hS => ?_)
  have hn : List.length C1000092 = List.length C + 46 := hl1.trans (congrArg (· + 1) hn)
  refine i_putR Y hW hS hm (by decide) (by decide) cl_12 gl_RX12_155 hin (fun _ _ _ h _ => by cases h; rfl) rfl (fun _ => rfl) (fun _ => rfl) dX12_init_382 (fun C1000093 H locs hl1 hm hW hS => ?_)
  have hn : List.length C1000093 = List.length C + 46 := hl1.trans hn
  refine lv_aload_n hx hb dX12_init_385 rfl (lv_at hl 0 rfl) ?_
  refine lv_sipush (v := 512) hx hb dX12_init_386 (by decide) ?_
  refine i_newa Y hW hS hm .long (N := 512) (t0 := 2) (by simp) rfl ⟨fun h => rfl, fun h => absurd rfl h⟩ (by decide) rfl (fun _ _ h => h) wa_long (by decide) dX12_init_389 (Nat.le_of_ble_eq_true rfl) (Nat.le_of_ble_eq_true rfl) (fun C1000094 H hl1 hm hW hS => ?_)
  have hn : List.length C1000094 = List.length C + 47 := hl1.trans (congrArg (· + 1) hn)
  refine i_putR Y hW hS hm (by decide) (by decide) cl_12 gl_RX12_158 hin (fun _ _ _ h _ => by cases h; rfl) rfl (fun _ => rfl) (fun _ => rfl) dX12_init_391 (fun C1000095 H locs hl1 hm hW hS => ?_)
  have hn : List.length C1000095 = List.length C + 47 := hl1.trans hn
  refine lv_aload_n hx hb dX12_init_394 rfl (lv_at hl 0 rfl) ?_
  refine lv_sipush (v := 512) hx hb dX12_init_395 (by decide) ?_
  refine i_newa Y hW hS hm .boolean (N := 512) (t0 := 3) (by simp) rfl ⟨fun h => absurd h (by decide), fun h => rfl⟩ (by decide) rfl (fun _ _ h => h) wa_boolean (by decide) dX12_init_398 (Nat.le_of_ble_eq_true rfl) (Nat.le_of_ble_eq_true rfl) (fun C1000096 H hl1 hm hW hS => ?_)
  have hn : List.length C1000096 = List.length C + 48 := hl1.trans (congrArg (· + 1) hn)
  refine i_putR Y hW hS hm (by decide) (by decide) cl_12 gl_RX12_161 hin (fun _ _ _ h _ => by cases h; rfl) rfl (fun _ => rfl) (fun _ => rfl) dX12_init_400 (fun C1000097 H locs hl1 hm hW hS => ?_)
  have hn : List.length C1000097 = List.length C + 48 := hl1.trans hn
  refine lv_aload_n hx hb dX12_init_403 rfl (lv_at hl 0 rfl) ?_
  refine lv_iconst (v := 3) hx hb dX12_init_404 (by decide) ?_
  refine i_newa Y hW hS hm .boolean (N := 3) (t0 := 3) (by simp) rfl ⟨fun h => absurd h (by decide), fun h => rfl⟩ (by decide) rfl (fun _ _ h => h) wa_boolean (by decide) dX12_init_405 (Nat.le_of_ble_eq_true rfl) (Nat.le_of_ble_eq_true rfl) (fun C1000098 H hl1 hm hW hS => ?_)
  have hn : List.length C1000098 = List.length C + 49 := hl1.trans (congrArg (· + 1) hn)
  refine i_putR Y hW hS hm (by decide) (by decide) cl_12 gl_RX12_164 hin (fun _ _ _ h _ => by cases h; rfl) rfl (fun _ => rfl) (fun _ => rfl) dX12_init_407 (fun C1000099 H locs hl1 hm hW hS => ?_)
  have hn : List.length C1000099 = List.length C + 49 := hl1.trans hn
  refine lv_aload_n hx hb dX12_init_410 rfl (lv_at hl 0 rfl) ?_
  refine lv_sipush (v := 3072) hx hb dX12_init_411 (by decide) ?_
  refine i_newa Y hW hS hm .int (N := 3072) (t0 := 1) (by simp) rfl ⟨fun h => absurd h (by decide), fun h => rfl⟩ (by decide) rfl (fun _ _ h => h) wa_int (by decide) dX12_init_414 (Nat.le_of_ble_eq_true rfl) (Nat.le_of_ble_eq_true rfl) (fun C1000100 H hl1 hm hW hS => ?_)
  have hn : List.length C1000100 = List.length C + 50 := hl1.trans (congrArg (· + 1) hn)
  refine i_putR Y hW hS hm (by decide) (by decide) cl_12 gl_RX12_167 hin (fun _ _ _ h _ => by cases h; rfl) rfl (fun _ => rfl) (fun _ => rfl) dX12_init_416 (fun C1000101 H locs hl1 hm hW hS => ?_)
  have hn : List.length C1000101 = List.length C + 50 := hl1.trans hn
  refine lv_aload_n hx hb dX12_init_419 rfl (lv_at hl 0 rfl) ?_
  refine i_getR Y hW hm (by decide) (by decide) cl_12 fl_RX12_124 dX12_init_420 (fun o1000102 hm => ?_)
  refine lv_iconst (v := 0) hx hb dX12_init_423 (by decide) ?_
  refine lv_sipush (v := 256) hx hb dX12_init_424 (by decide) ?_
  refine i_iast Y hW hS hm dX12_init_427 (fun C1000103 H locs hl1 hm hW hS => ?_)
  have hn : List.length C1000103 = List.length C + 50 := hl1.trans hn
  refine lv_aload_n hx hb dX12_init_428 rfl (lv_at hl 0 rfl) ?_
  refine i_getR Y hW hm (by decide) (by decide) cl_12 fl_RX12_34 dX12_init_429 (fun o1000104 hm => ?_)
  refine lv_iconst (v := 0) hx hb dX12_init_432 (by decide) ?_
  refine lv_bipush (v := 114) hx hb dX12_init_433 (by decide) ?_
  refine lv_bipush (v := 101) hx hb dX12_init_435 (by decide) ?_
  refine lv_bipush (v := 103) hx hb dX12_init_437 (by decide) ?_
  refine lv_iconst (v := 0) hx hb dX12_init_439 (by decide) ?_
  refine lv_iconst (v := 0) hx hb dX12_init_440 (by decide) ?_
  refine lv_iconst (v := 0) hx hb dX12_init_441 (by decide) ?_
  refine lv_iconst (v := 0) hx hb dX12_init_442 (by decide) ?_
  obtain ⟨v1000105, hc1000106, hm⟩ := q_b1i hm
  refine i_callS0 Y hW hS (by rw [hs0, hn]; exact Nat.add_assoc _ _ _) (As := [.int 114, .int 101, .int 103, .int 0, .int 0, .int 0, .int 0]) (rest := [.int 0, .ref (b + o1000104)]) (st1 := [.long v1000105, .int 0, .ref (b + o1000104)]) (c_X12_word l D (q_ca b C1000103) (q_cd b C1000103) 114 101 103 0 0 0 0 v1000105 hc1000106) yl_X12_word sl_X12_word ml_RX12_170 rfl ⟨(Nat.le_of_ble_eq_true rfl), (Nat.le_of_ble_eq_true rfl)⟩ hl rfl (Nat.le_of_ble_eq_true rfl) dX12_init_443 ⟨(Nat.le_of_ble_eq_true rfl), (Nat.le_of_ble_eq_true rfl)⟩ rfl (fun H locs hW hS => ?_)
  refine i_last Y hW hS hm dX12_init_446 (fun C1000107 H locs hl1 hm hW hS => ?_)
  have hn : List.length C1000107 = List.length C + 50 := hl1.trans hn
  refine lv_aload_n hx hb dX12_init_447 rfl (lv_at hl 0 rfl) ?_
  refine i_getR Y hW hm (by decide) (by decide) cl_12 fl_RX12_34 dX12_init_448 (fun o1000108 hm => ?_)
  refine lv_iconst (v := 1) hx hb dX12_init_451 (by decide) ?_
  refine lv_bipush (v := 119) hx hb dX12_init_452 (by decide) ?_
  refine lv_bipush (v := 97) hx hb dX12_init_454 (by decide) ?_
  refine lv_bipush (v := 108) hx hb dX12_init_456 (by decide) ?_
  refine lv_bipush (v := 115) hx hb dX12_init_458 (by decide) ?_
  refine lv_bipush (v := 104) hx hb dX12_init_460 (by decide) ?_
  refine lv_iconst (v := 0) hx hb dX12_init_462 (by decide) ?_
  refine lv_iconst (v := 0) hx hb dX12_init_463 (by decide) ?_
  obtain ⟨v1000109, hc1000110, hm⟩ := q_b1i hm
  refine i_callS0 Y hW hS (by rw [hs0, hn]; exact Nat.add_assoc _ _ _) (As := [.int 119, .int 97, .int 108, .int 115, .int 104, .int 0, .int 0]) (rest := [.int 1, .ref (b + o1000108)]) (st1 := [.long v1000109, .int 1, .ref (b + o1000108)]) (c_X12_word l D (q_ca b C1000107) (q_cd b C1000107) 119 97 108 115 104 0 0 v1000109 hc1000110) yl_X12_word sl_X12_word ml_RX12_170 rfl ⟨(Nat.le_of_ble_eq_true rfl), (Nat.le_of_ble_eq_true rfl)⟩ hl rfl (Nat.le_of_ble_eq_true rfl) dX12_init_464 ⟨(Nat.le_of_ble_eq_true rfl), (Nat.le_of_ble_eq_true rfl)⟩ rfl (fun H locs hW hS => ?_)
  refine i_last Y hW hS hm dX12_init_467 (fun C1000111 H locs hl1 hm hW hS => ?_)
  have hn : List.length C1000111 = List.length C + 50 := hl1.trans hn
  refine lv_aload_n hx hb dX12_init_468 rfl (lv_at hl 0 rfl) ?_
  refine i_getR Y hW hm (by decide) (by decide) cl_12 fl_RX12_34 dX12_init_469 (fun o1000112 hm => ?_)
  refine lv_iconst (v := 2) hx hb dX12_init_472 (by decide) ?_
  refine lv_bipush (v := 98) hx hb dX12_init_473 (by decide) ?_
  refine lv_bipush (v := 105) hx hb dX12_init_475 (by decide) ?_
  refine lv_bipush (v := 116) hx hb dX12_init_477 (by decide) ?_
  refine lv_bipush (v := 115) hx hb dX12_init_479 (by decide) ?_
  refine lv_iconst (v := 0) hx hb dX12_init_481 (by decide) ?_
  refine lv_iconst (v := 0) hx hb dX12_init_482 (by decide) ?_
  refine lv_iconst (v := 0) hx hb dX12_init_483 (by decide) ?_
  obtain ⟨v1000113, hc1000114, hm⟩ := q_b1i hm
  refine i_callS0 Y hW hS (by rw [hs0, hn]; exact Nat.add_assoc _ _ _) (As := [.int 98, .int 105, .int 116, .int 115, .int 0, .int 0, .int 0]) (rest := [.int 2, .ref (b + o1000112)]) (st1 := [.long v1000113, .int 2, .ref (b + o1000112)]) (c_X12_word l D (q_ca b C1000111) (q_cd b C1000111) 98 105 116 115 0 0 0 v1000113 hc1000114) yl_X12_word sl_X12_word ml_RX12_170 rfl ⟨(Nat.le_of_ble_eq_true rfl), (Nat.le_of_ble_eq_true rfl)⟩ hl rfl (Nat.le_of_ble_eq_true rfl) dX12_init_484 ⟨(Nat.le_of_ble_eq_true rfl), (Nat.le_of_ble_eq_true rfl)⟩ rfl (fun H locs hW hS => ?_)
  refine i_last Y hW hS hm dX12_init_487 (fun C1000115 H locs hl1 hm hW hS => ?_)
  have hn : List.length C1000115 = List.length C + 50 := hl1.trans hn
  refine lv_aload_n hx hb dX12_init_488 rfl (lv_at hl 0 rfl) ?_
  refine i_getR Y hW hm (by decide) (by decide) cl_12 fl_RX12_34 dX12_init_489 (fun o1000116 hm => ?_)
  refine lv_iconst (v := 3) hx hb dX12_init_492 (by decide) ?_
  refine lv_bipush (v := 98) hx hb dX12_init_493 (by decide) ?_
  refine lv_bipush (v := 111) hx hb dX12_init_495 (by decide) ?_
  refine lv_bipush (v := 116) hx hb dX12_init_497 (by decide) ?_
  refine lv_bipush (v := 104) hx hb dX12_init_499 (by decide) ?_
  refine lv_iconst (v := 0) hx hb dX12_init_501 (by decide) ?_
  refine lv_iconst (v := 0) hx hb dX12_init_502 (by decide) ?_
  refine lv_iconst (v := 0) hx hb dX12_init_503 (by decide) ?_
  obtain ⟨v1000117, hc1000118, hm⟩ := q_b1i hm
  refine i_callS0 Y hW hS (by rw [hs0, hn]; exact Nat.add_assoc _ _ _) (As := [.int 98, .int 111, .int 116, .int 104, .int 0, .int 0, .int 0]) (rest := [.int 3, .ref (b + o1000116)]) (st1 := [.long v1000117, .int 3, .ref (b + o1000116)]) (c_X12_word l D (q_ca b C1000115) (q_cd b C1000115) 98 111 116 104 0 0 0 v1000117 hc1000118) yl_X12_word sl_X12_word ml_RX12_170 rfl ⟨(Nat.le_of_ble_eq_true rfl), (Nat.le_of_ble_eq_true rfl)⟩ hl rfl (Nat.le_of_ble_eq_true rfl) dX12_init_504 ⟨(Nat.le_of_ble_eq_true rfl), (Nat.le_of_ble_eq_true rfl)⟩ rfl (fun H locs hW hS => ?_)
  refine i_last Y hW hS hm dX12_init_507 (fun C1000119 H locs hl1 hm hW hS => ?_)
  have hn : List.length C1000119 = List.length C + 50 := hl1.trans hn
  refine lv_aload_n hx hb dX12_init_508 rfl (lv_at hl 0 rfl) ?_
  refine i_getR Y hW hm (by decide) (by decide) cl_12 fl_RX12_34 dX12_init_509 (fun o1000120 hm => ?_)
  refine lv_iconst (v := 4) hx hb dX12_init_512 (by decide) ?_
  refine lv_bipush (v := 104) hx hb dX12_init_513 (by decide) ?_
  refine lv_bipush (v := 111) hx hb dX12_init_515 (by decide) ?_
  refine lv_bipush (v := 112) hx hb dX12_init_517 (by decide) ?_
  refine lv_iconst (v := 0) hx hb dX12_init_519 (by decide) ?_
  refine lv_iconst (v := 0) hx hb dX12_init_520 (by decide) ?_
  refine lv_iconst (v := 0) hx hb dX12_init_521 (by decide) ?_
  refine lv_iconst (v := 0) hx hb dX12_init_522 (by decide) ?_
  obtain ⟨v1000121, hc1000122, hm⟩ := q_b1i hm
  refine i_callS0 Y hW hS (by rw [hs0, hn]; exact Nat.add_assoc _ _ _) (As := [.int 104, .int 111, .int 112, .int 0, .int 0, .int 0, .int 0]) (rest := [.int 4, .ref (b + o1000120)]) (st1 := [.long v1000121, .int 4, .ref (b + o1000120)]) (c_X12_word l D (q_ca b C1000119) (q_cd b C1000119) 104 111 112 0 0 0 0 v1000121 hc1000122) yl_X12_word sl_X12_word ml_RX12_170 rfl ⟨(Nat.le_of_ble_eq_true rfl), (Nat.le_of_ble_eq_true rfl)⟩ hl rfl (Nat.le_of_ble_eq_true rfl) dX12_init_523 ⟨(Nat.le_of_ble_eq_true rfl), (Nat.le_of_ble_eq_true rfl)⟩ rfl (fun H locs hW hS => ?_)
  refine i_last Y hW hS hm dX12_init_526 (fun C1000123 H locs hl1 hm hW hS => ?_)
  have hn : List.length C1000123 = List.length C + 50 := hl1.trans hn
  refine lv_aload_n hx hb dX12_init_527 rfl (lv_at hl 0 rfl) ?_
  refine i_getR Y hW hm (by decide) (by decide) cl_12 fl_RX12_34 dX12_init_528 (fun o1000124 hm => ?_)
  refine lv_iconst (v := 5) hx hb dX12_init_531 (by decide) ?_
  refine lv_bipush (v := 115) hx hb dX12_init_532 (by decide) ?_
  refine lv_bipush (v := 101) hx hb dX12_init_534 (by decide) ?_
  refine lv_bipush (v := 110) hx hb dX12_init_536 (by decide) ?_
  refine lv_bipush (v := 100) hx hb dX12_init_538 (by decide) ?_
  refine lv_iconst (v := 0) hx hb dX12_init_540 (by decide) ?_
  refine lv_iconst (v := 0) hx hb dX12_init_541 (by decide) ?_
  refine lv_iconst (v := 0) hx hb dX12_init_542 (by decide) ?_
  obtain ⟨v1000125, hc1000126, hm⟩ := q_b1i hm
  refine i_callS0 Y hW hS (by rw [hs0, hn]; exact Nat.add_assoc _ _ _) (As := [.int 115, .int 101, .int 110, .int 100, .int 0, .int 0, .int 0]) (rest := [.int 5, .ref (b + o1000124)]) (st1 := [.long v1000125, .int 5, .ref (b + o1000124)]) (c_X12_word l D (q_ca b C1000123) (q_cd b C1000123) 115 101 110 100 0 0 0 v1000125 hc1000126) yl_X12_word sl_X12_word ml_RX12_170 rfl ⟨(Nat.le_of_ble_eq_true rfl), (Nat.le_of_ble_eq_true rfl)⟩ hl rfl (Nat.le_of_ble_eq_true rfl) dX12_init_543 ⟨(Nat.le_of_ble_eq_true rfl), (Nat.le_of_ble_eq_true rfl)⟩ rfl (fun H locs hW hS => ?_)
  refine i_last Y hW hS hm dX12_init_546 (fun C1000127 H locs hl1 hm hW hS => ?_)
  have hn : List.length C1000127 = List.length C + 50 := hl1.trans hn
  refine lv_aload_n hx hb dX12_init_547 rfl (lv_at hl 0 rfl) ?_
  refine i_getR Y hW hm (by decide) (by decide) cl_12 fl_RX12_34 dX12_init_548 (fun o1000128 hm => ?_)
  refine lv_bipush (v := 6) hx hb dX12_init_551 (by decide) ?_
  refine lv_bipush (v := 101) hx hb dX12_init_553 (by decide) ?_
  refine lv_bipush (v := 99) hx hb dX12_init_555 (by decide) ?_
  refine lv_bipush (v := 104) hx hb dX12_init_557 (by decide) ?_
  refine lv_bipush (v := 111) hx hb dX12_init_559 (by decide) ?_
  refine lv_iconst (v := 0) hx hb dX12_init_561 (by decide) ?_
  refine lv_iconst (v := 0) hx hb dX12_init_562 (by decide) ?_
  refine lv_iconst (v := 0) hx hb dX12_init_563 (by decide) ?_
  obtain ⟨v1000129, hc1000130, hm⟩ := q_b1i hm
  refine i_callS0 Y hW hS (by rw [hs0, hn]; exact Nat.add_assoc _ _ _) (As := [.int 101, .int 99, .int 104, .int 111, .int 0, .int 0, .int 0]) (rest := [.int 6, .ref (b + o1000128)]) (st1 := [.long v1000129, .int 6, .ref (b + o1000128)]) (c_X12_word l D (q_ca b C1000127) (q_cd b C1000127) 101 99 104 111 0 0 0 v1000129 hc1000130) yl_X12_word sl_X12_word ml_RX12_170 rfl ⟨(Nat.le_of_ble_eq_true rfl), (Nat.le_of_ble_eq_true rfl)⟩ hl rfl (Nat.le_of_ble_eq_true rfl) dX12_init_564 ⟨(Nat.le_of_ble_eq_true rfl), (Nat.le_of_ble_eq_true rfl)⟩ rfl (fun H locs hW hS => ?_)
  refine i_last Y hW hS hm dX12_init_567 (fun C1000131 H locs hl1 hm hW hS => ?_)
  have hn : List.length C1000131 = List.length C + 50 := hl1.trans hn
  refine lv_aload_n hx hb dX12_init_568 rfl (lv_at hl 0 rfl) ?_
  refine i_getR Y hW hm (by decide) (by decide) cl_12 fl_RX12_34 dX12_init_569 (fun o1000132 hm => ?_)
  refine lv_bipush (v := 7) hx hb dX12_init_572 (by decide) ?_
  refine lv_bipush (v := 106) hx hb dX12_init_574 (by decide) ?_
  refine lv_bipush (v := 97) hx hb dX12_init_576 (by decide) ?_
  refine lv_bipush (v := 109) hx hb dX12_init_578 (by decide) ?_
  refine lv_iconst (v := 0) hx hb dX12_init_580 (by decide) ?_
  refine lv_iconst (v := 0) hx hb dX12_init_581 (by decide) ?_
  refine lv_iconst (v := 0) hx hb dX12_init_582 (by decide) ?_
  refine lv_iconst (v := 0) hx hb dX12_init_583 (by decide) ?_
  obtain ⟨v1000133, hc1000134, hm⟩ := q_b1i hm
  refine i_callS0 Y hW hS (by rw [hs0, hn]; exact Nat.add_assoc _ _ _) (As := [.int 106, .int 97, .int 109, .int 0, .int 0, .int 0, .int 0]) (rest := [.int 7, .ref (b + o1000132)]) (st1 := [.long v1000133, .int 7, .ref (b + o1000132)]) (c_X12_word l D (q_ca b C1000131) (q_cd b C1000131) 106 97 109 0 0 0 0 v1000133 hc1000134) yl_X12_word sl_X12_word ml_RX12_170 rfl ⟨(Nat.le_of_ble_eq_true rfl), (Nat.le_of_ble_eq_true rfl)⟩ hl rfl (Nat.le_of_ble_eq_true rfl) dX12_init_584 ⟨(Nat.le_of_ble_eq_true rfl), (Nat.le_of_ble_eq_true rfl)⟩ rfl (fun H locs hW hS => ?_)
  refine i_last Y hW hS hm dX12_init_587 (fun C1000135 H locs hl1 hm hW hS => ?_)
  have hn : List.length C1000135 = List.length C + 50 := hl1.trans hn
  refine lv_aload_n hx hb dX12_init_588 rfl (lv_at hl 0 rfl) ?_
  refine i_getR Y hW hm (by decide) (by decide) cl_12 fl_RX12_34 dX12_init_589 (fun o1000136 hm => ?_)
  refine lv_bipush (v := 8) hx hb dX12_init_592 (by decide) ?_
  refine lv_bipush (v := 110) hx hb dX12_init_594 (by decide) ?_
  refine lv_bipush (v := 111) hx hb dX12_init_596 (by decide) ?_
  refine lv_bipush (v := 105) hx hb dX12_init_598 (by decide) ?_
  refine lv_bipush (v := 115) hx hb dX12_init_600 (by decide) ?_
  refine lv_bipush (v := 101) hx hb dX12_init_602 (by decide) ?_
  refine lv_iconst (v := 0) hx hb dX12_init_604 (by decide) ?_
  refine lv_iconst (v := 0) hx hb dX12_init_605 (by decide) ?_
  obtain ⟨v1000137, hc1000138, hm⟩ := q_b1i hm
  refine i_callS0 Y hW hS (by rw [hs0, hn]; exact Nat.add_assoc _ _ _) (As := [.int 110, .int 111, .int 105, .int 115, .int 101, .int 0, .int 0]) (rest := [.int 8, .ref (b + o1000136)]) (st1 := [.long v1000137, .int 8, .ref (b + o1000136)]) (c_X12_word l D (q_ca b C1000135) (q_cd b C1000135) 110 111 105 115 101 0 0 v1000137 hc1000138) yl_X12_word sl_X12_word ml_RX12_170 rfl ⟨(Nat.le_of_ble_eq_true rfl), (Nat.le_of_ble_eq_true rfl)⟩ hl rfl (Nat.le_of_ble_eq_true rfl) dX12_init_606 ⟨(Nat.le_of_ble_eq_true rfl), (Nat.le_of_ble_eq_true rfl)⟩ rfl (fun H locs hW hS => ?_)
  refine i_last Y hW hS hm dX12_init_609 (fun C1000139 H locs hl1 hm hW hS => ?_)
  have hn : List.length C1000139 = List.length C + 50 := hl1.trans hn
  refine lv_aload_n hx hb dX12_init_610 rfl (lv_at hl 0 rfl) ?_
  refine i_getR Y hW hm (by decide) (by decide) cl_12 fl_RX12_34 dX12_init_611 (fun o1000140 hm => ?_)
  refine lv_bipush (v := 9) hx hb dX12_init_614 (by decide) ?_
  refine lv_bipush (v := 115) hx hb dX12_init_616 (by decide) ?_
  refine lv_bipush (v := 97) hx hb dX12_init_618 (by decide) ?_
  refine lv_bipush (v := 109) hx hb dX12_init_620 (by decide) ?_
  refine lv_bipush (v := 112) hx hb dX12_init_622 (by decide) ?_
  refine lv_bipush (v := 108) hx hb dX12_init_624 (by decide) ?_
  refine lv_bipush (v := 101) hx hb dX12_init_626 (by decide) ?_
  refine lv_bipush (v := 115) hx hb dX12_init_628 (by decide) ?_
  obtain ⟨v1000141, hc1000142, hm⟩ := q_b1i hm
  refine i_callS0 Y hW hS (by rw [hs0, hn]; exact Nat.add_assoc _ _ _) (As := [.int 115, .int 97, .int 109, .int 112, .int 108, .int 101, .int 115]) (rest := [.int 9, .ref (b + o1000140)]) (st1 := [.long v1000141, .int 9, .ref (b + o1000140)]) (c_X12_word l D (q_ca b C1000139) (q_cd b C1000139) 115 97 109 112 108 101 115 v1000141 hc1000142) yl_X12_word sl_X12_word ml_RX12_170 rfl ⟨(Nat.le_of_ble_eq_true rfl), (Nat.le_of_ble_eq_true rfl)⟩ hl rfl (Nat.le_of_ble_eq_true rfl) dX12_init_630 ⟨(Nat.le_of_ble_eq_true rfl), (Nat.le_of_ble_eq_true rfl)⟩ rfl (fun H locs hW hS => ?_)
  refine i_last Y hW hS hm dX12_init_633 (fun C1000143 H locs hl1 hm hW hS => ?_)
  have hn : List.length C1000143 = List.length C + 50 := hl1.trans hn
  refine lv_aload_n hx hb dX12_init_634 rfl (lv_at hl 0 rfl) ?_
  refine i_getR Y hW hm (by decide) (by decide) cl_12 fl_RX12_34 dX12_init_635 (fun o1000144 hm => ?_)
  refine lv_bipush (v := 10) hx hb dX12_init_638 (by decide) ?_
  refine lv_bipush (v := 100) hx hb dX12_init_640 (by decide) ?_
  refine lv_bipush (v := 114) hx hb dX12_init_642 (by decide) ?_
  refine lv_bipush (v := 105) hx hb dX12_init_644 (by decide) ?_
  refine lv_bipush (v := 102) hx hb dX12_init_646 (by decide) ?_
  refine lv_bipush (v := 116) hx hb dX12_init_648 (by decide) ?_
  refine lv_iconst (v := 0) hx hb dX12_init_650 (by decide) ?_
  refine lv_iconst (v := 0) hx hb dX12_init_651 (by decide) ?_
  obtain ⟨v1000145, hc1000146, hm⟩ := q_b1i hm
  refine i_callS0 Y hW hS (by rw [hs0, hn]; exact Nat.add_assoc _ _ _) (As := [.int 100, .int 114, .int 105, .int 102, .int 116, .int 0, .int 0]) (rest := [.int 10, .ref (b + o1000144)]) (st1 := [.long v1000145, .int 10, .ref (b + o1000144)]) (c_X12_word l D (q_ca b C1000143) (q_cd b C1000143) 100 114 105 102 116 0 0 v1000145 hc1000146) yl_X12_word sl_X12_word ml_RX12_170 rfl ⟨(Nat.le_of_ble_eq_true rfl), (Nat.le_of_ble_eq_true rfl)⟩ hl rfl (Nat.le_of_ble_eq_true rfl) dX12_init_652 ⟨(Nat.le_of_ble_eq_true rfl), (Nat.le_of_ble_eq_true rfl)⟩ rfl (fun H locs hW hS => ?_)
  refine i_last Y hW hS hm dX12_init_655 (fun C1000147 H locs hl1 hm hW hS => ?_)
  have hn : List.length C1000147 = List.length C + 50 := hl1.trans hn
  exact j_v Y hW hS hm (Nat.le_of_ble_eq_true rfl) (Nat.le_of_ble_eq_true rfl) dX12_init_656
