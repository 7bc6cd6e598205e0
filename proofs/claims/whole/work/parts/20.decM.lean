theorem dX12_init_0 : decode cX12_init 0 = .ok (.aload_n 0, 1) := by decide +kernel
theorem dX12_init_1 : decode cX12_init 1 = .ok (.invokespecial 1, 3) := by decide +kernel
theorem dX12_init_4 : decode cX12_init 4 = .ok (.aload_n 0, 1) := by decide +kernel
theorem dX12_init_5 : decode cX12_init 5 = .ok (.sipush 1600, 3) := by decide +kernel
theorem dX12_init_8 : decode cX12_init 8 = .ok (.newarray .int, 2) := by decide +kernel
theorem dX12_init_10 : decode cX12_init 10 = .ok (.putfield 7, 3) := by decide +kernel
theorem dX12_init_13 : decode cX12_init 13 = .ok (.aload_n 0, 1) := by decide +kernel
theorem dX12_init_14 : decode cX12_init 14 = .ok (.iconst (-1), 1) := by decide +kernel
theorem dX12_init_15 : decode cX12_init 15 = .ok (.putfield 13, 3) := by decide +kernel
theorem dX12_init_18 : decode cX12_init 18 = .ok (.aload_n 0, 1) := by decide +kernel
theorem dX12_init_19 : decode cX12_init 19 = .ok (.bipush 6, 2) := by decide +kernel
theorem dX12_init_21 : decode cX12_init 21 = .ok (.newarray .long, 2) := by decide +kernel
theorem dX12_init_23 : decode cX12_init 23 = .ok (.putfield 17, 3) := by decide +kernel
theorem dX12_init_26 : decode cX12_init 26 = .ok (.aload_n 0, 1) := by decide +kernel
theorem dX12_init_27 : decode cX12_init 27 = .ok (.sipush 960, 3) := by decide +kernel
theorem dX12_init_30 : decode cX12_init 30 = .ok (.newarray .int, 2) := by decide +kernel
theorem dX12_init_32 : decode cX12_init 32 = .ok (.putfield 21, 3) := by decide +kernel
theorem dX12_init_35 : decode cX12_init 35 = .ok (.aload_n 0, 1) := by decide +kernel
theorem dX12_init_36 : decode cX12_init 36 = .ok (.sipush 960, 3) := by decide +kernel
theorem dX12_init_39 : decode cX12_init 39 = .ok (.newarray .int, 2) := by decide +kernel
theorem dX12_init_41 : decode cX12_init 41 = .ok (.putfield 24, 3) := by decide +kernel
theorem dX12_init_44 : decode cX12_init 44 = .ok (.aload_n 0, 1) := by decide +kernel
theorem dX12_init_45 : decode cX12_init 45 = .ok (.iconst 3, 1) := by decide +kernel
theorem dX12_init_46 : decode cX12_init 46 = .ok (.newarray .int, 2) := by decide +kernel
theorem dX12_init_48 : decode cX12_init 48 = .ok (.putfield 27, 3) := by decide +kernel
theorem dX12_init_51 : decode cX12_init 51 = .ok (.aload_n 0, 1) := by decide +kernel
theorem dX12_init_52 : decode cX12_init 52 = .ok (.sipush 960, 3) := by decide +kernel
theorem dX12_init_55 : decode cX12_init 55 = .ok (.newarray .int, 2) := by decide +kernel
theorem dX12_init_57 : decode cX12_init 57 = .ok (.putfield 30, 3) := by decide +kernel
theorem dX12_init_60 : decode cX12_init 60 = .ok (.aload_n 0, 1) := by decide +kernel
theorem dX12_init_61 : decode cX12_init 61 = .ok (.sipush 960, 3) := by decide +kernel
theorem dX12_init_64 : decode cX12_init 64 = .ok (.newarray .int, 2) := by decide +kernel
theorem dX12_init_66 : decode cX12_init 66 = .ok (.putfield 33, 3) := by decide +kernel
theorem dX12_init_69 : decode cX12_init 69 = .ok (.aload_n 0, 1) := by decide +kernel
theorem dX12_init_70 : decode cX12_init 70 = .ok (.iconst 3, 1) := by decide +kernel
theorem dX12_init_71 : decode cX12_init 71 = .ok (.newarray .int, 2) := by decide +kernel
theorem dX12_init_73 : decode cX12_init 73 = .ok (.putfield 36, 3) := by decide +kernel
theorem dX12_init_76 : decode cX12_init 76 = .ok (.aload_n 0, 1) := by decide +kernel
theorem dX12_init_77 : decode cX12_init 77 = .ok (.sipush 160, 3) := by decide +kernel
theorem dX12_init_80 : decode cX12_init 80 = .ok (.newarray .int, 2) := by decide +kernel
theorem dX12_init_82 : decode cX12_init 82 = .ok (.putfield 39, 3) := by decide +kernel
theorem dX12_init_85 : decode cX12_init 85 = .ok (.aload_n 0, 1) := by decide +kernel
theorem dX12_init_86 : decode cX12_init 86 = .ok (.bipush 64, 2) := by decide +kernel
theorem dX12_init_88 : decode cX12_init 88 = .ok (.newarray .int, 2) := by decide +kernel
theorem dX12_init_90 : decode cX12_init 90 = .ok (.putfield 42, 3) := by decide +kernel
theorem dX12_init_93 : decode cX12_init 93 = .ok (.aload_n 0, 1) := by decide +kernel
theorem dX12_init_94 : decode cX12_init 94 = .ok (.bipush 7, 2) := by decide +kernel
theorem dX12_init_96 : decode cX12_init 96 = .ok (.newarray .int, 2) := by decide +kernel
theorem dX12_init_98 : decode cX12_init 98 = .ok (.putfield 45, 3) := by decide +kernel
theorem dX12_init_101 : decode cX12_init 101 = .ok (.aload_n 0, 1) := by decide +kernel
theorem dX12_init_102 : decode cX12_init 102 = .ok (.bipush 6, 2) := by decide +kernel
theorem dX12_init_104 : decode cX12_init 104 = .ok (.newarray .int, 2) := by decide +kernel
theorem dX12_init_106 : decode cX12_init 106 = .ok (.putfield 48, 3) := by decide +kernel
theorem dX12_init_109 : decode cX12_init 109 = .ok (.aload_n 0, 1) := by decide +kernel
theorem dX12_init_110 : decode cX12_init 110 = .ok (.bipush 6, 2) := by decide +kernel
theorem dX12_init_112 : decode cX12_init 112 = .ok (.newarray .int, 2) := by decide +kernel
theorem dX12_init_114 : decode cX12_init 114 = .ok (.putfield 51, 3) := by decide +kernel
theorem dX12_init_117 : decode cX12_init 117 = .ok (.aload_n 0, 1) := by decide +kernel
theorem dX12_init_118 : decode cX12_init 118 = .ok (.bipush 6, 2) := by decide +kernel
theorem dX12_init_120 : decode cX12_init 120 = .ok (.newarray .int, 2) := by decide +kernel
theorem dX12_init_122 : decode cX12_init 122 = .ok (.putfield 54, 3) := by decide +kernel
theorem dX12_init_125 : decode cX12_init 125 = .ok (.aload_n 0, 1) := by decide +kernel
theorem dX12_init_126 : decode cX12_init 126 = .ok (.bipush 6, 2) := by decide +kernel
theorem dX12_init_128 : decode cX12_init 128 = .ok (.newarray .int, 2) := by decide +kernel
theorem dX12_init_130 : decode cX12_init 130 = .ok (.putfield 57, 3) := by decide +kernel
theorem dX12_init_133 : decode cX12_init 133 = .ok (.aload_n 0, 1) := by decide +kernel
theorem dX12_init_134 : decode cX12_init 134 = .ok (.bipush 6, 2) := by decide +kernel
theorem dX12_init_136 : decode cX12_init 136 = .ok (.newarray .int, 2) := by decide +kernel
theorem dX12_init_138 : decode cX12_init 138 = .ok (.putfield 60, 3) := by decide +kernel
theorem dX12_init_141 : decode cX12_init 141 = .ok (.aload_n 0, 1) := by decide +kernel
theorem dX12_init_142 : decode cX12_init 142 = .ok (.bipush 6, 2) := by decide +kernel
theorem dX12_init_144 : decode cX12_init 144 = .ok (.newarray .int, 2) := by decide +kernel
theorem dX12_init_146 : decode cX12_init 146 = .ok (.putfield 63, 3) := by decide +kernel
theorem dX12_init_149 : decode cX12_init 149 = .ok (.aload_n 0, 1) := by decide +kernel
theorem dX12_init_150 : decode cX12_init 150 = .ok (.bipush 6, 2) := by decide +kernel
theorem dX12_init_152 : decode cX12_init 152 = .ok (.newarray .int, 2) := by decide +kernel
theorem dX12_init_154 : decode cX12_init 154 = .ok (.putfield 66, 3) := by decide +kernel
theorem dX12_init_157 : decode cX12_init 157 = .ok (.aload_n 0, 1) := by decide +kernel
theorem dX12_init_158 : decode cX12_init 158 = .ok (.bipush 36, 2) := by decide +kernel
theorem dX12_init_160 : decode cX12_init 160 = .ok (.newarray .int, 2) := by decide +kernel
theorem dX12_init_162 : decode cX12_init 162 = .ok (.putfield 69, 3) := by decide +kernel
theorem dX12_init_165 : decode cX12_init 165 = .ok (.aload_n 0, 1) := by decide +kernel
theorem dX12_init_166 : decode cX12_init 166 = .ok (.bipush 6, 2) := by decide +kernel
theorem dX12_init_168 : decode cX12_init 168 = .ok (.newarray .int, 2) := by decide +kernel
theorem dX12_init_170 : decode cX12_init 170 = .ok (.putfield 72, 3) := by decide +kernel
theorem dX12_init_173 : decode cX12_init 173 = .ok (.aload_n 0, 1) := by decide +kernel
theorem dX12_init_174 : decode cX12_init 174 = .ok (.bipush 6, 2) := by decide +kernel
theorem dX12_init_176 : decode cX12_init 176 = .ok (.newarray .int, 2) := by decide +kernel
theorem dX12_init_178 : decode cX12_init 178 = .ok (.putfield 75, 3) := by decide +kernel
theorem dX12_init_181 : decode cX12_init 181 = .ok (.aload_n 0, 1) := by decide +kernel
theorem dX12_init_182 : decode cX12_init 182 = .ok (.bipush 6, 2) := by decide +kernel
theorem dX12_init_184 : decode cX12_init 184 = .ok (.newarray .int, 2) := by decide +kernel
theorem dX12_init_186 : decode cX12_init 186 = .ok (.putfield 78, 3) := by decide +kernel
theorem dX12_init_189 : decode cX12_init 189 = .ok (.aload_n 0, 1) := by decide +kernel
theorem dX12_init_190 : decode cX12_init 190 = .ok (.bipush 6, 2) := by decide +kernel
theorem dX12_init_192 : decode cX12_init 192 = .ok (.newarray .int, 2) := by decide +kernel
theorem dX12_init_194 : decode cX12_init 194 = .ok (.putfield 81, 3) := by decide +kernel
theorem dX12_init_197 : decode cX12_init 197 = .ok (.aload_n 0, 1) := by decide +kernel
theorem dX12_init_198 : decode cX12_init 198 = .ok (.bipush 6, 2) := by decide +kernel
theorem dX12_init_200 : decode cX12_init 200 = .ok (.newarray .int, 2) := by decide +kernel
theorem dX12_init_202 : decode cX12_init 202 = .ok (.putfield 84, 3) := by decide +kernel
theorem dX12_init_205 : decode cX12_init 205 = .ok (.aload_n 0, 1) := by decide +kernel
theorem dX12_init_206 : decode cX12_init 206 = .ok (.bipush 6, 2) := by decide +kernel
theorem dX12_init_208 : decode cX12_init 208 = .ok (.newarray .int, 2) := by decide +kernel
theorem dX12_init_210 : decode cX12_init 210 = .ok (.putfield 87, 3) := by decide +kernel
theorem dX12_init_213 : decode cX12_init 213 = .ok (.aload_n 0, 1) := by decide +kernel
theorem dX12_init_214 : decode cX12_init 214 = .ok (.bipush 6, 2) := by decide +kernel
theorem dX12_init_216 : decode cX12_init 216 = .ok (.newarray .int, 2) := by decide +kernel
theorem dX12_init_218 : decode cX12_init 218 = .ok (.putfield 90, 3) := by decide +kernel
theorem dX12_init_221 : decode cX12_init 221 = .ok (.aload_n 0, 1) := by decide +kernel
theorem dX12_init_222 : decode cX12_init 222 = .ok (.bipush 36, 2) := by decide +kernel
theorem dX12_init_224 : decode cX12_init 224 = .ok (.newarray .int, 2) := by decide +kernel
theorem dX12_init_226 : decode cX12_init 226 = .ok (.putfield 93, 3) := by decide +kernel
theorem dX12_init_229 : decode cX12_init 229 = .ok (.aload_n 0, 1) := by decide +kernel
theorem dX12_init_230 : decode cX12_init 230 = .ok (.bipush 10, 2) := by decide +kernel
theorem dX12_init_232 : decode cX12_init 232 = .ok (.putfield 96, 3) := by decide +kernel
theorem dX12_init_235 : decode cX12_init 235 = .ok (.aload_n 0, 1) := by decide +kernel
theorem dX12_init_236 : decode cX12_init 236 = .ok (.bipush 64, 2) := by decide +kernel
theorem dX12_init_238 : decode cX12_init 238 = .ok (.newarray .int, 2) := by decide +kernel
theorem dX12_init_240 : decode cX12_init 240 = .ok (.putfield 99, 3) := by decide +kernel
theorem dX12_init_243 : decode cX12_init 243 = .ok (.aload_n 0, 1) := by decide +kernel
theorem dX12_init_244 : decode cX12_init 244 = .ok (.bipush 6, 2) := by decide +kernel
theorem dX12_init_246 : decode cX12_init 246 = .ok (.newarray .int, 2) := by decide +kernel
theorem dX12_init_248 : decode cX12_init 248 = .ok (.putfield 102, 3) := by decide +kernel
theorem dX12_init_251 : decode cX12_init 251 = .ok (.aload_n 0, 1) := by decide +kernel
theorem dX12_init_252 : decode cX12_init 252 = .ok (.bipush 6, 2) := by decide +kernel
theorem dX12_init_254 : decode cX12_init 254 = .ok (.newarray .int, 2) := by decide +kernel
theorem dX12_init_256 : decode cX12_init 256 = .ok (.putfield 105, 3) := by decide +kernel
theorem dX12_init_259 : decode cX12_init 259 = .ok (.aload_n 0, 1) := by decide +kernel
theorem dX12_init_260 : decode cX12_init 260 = .ok (.bipush 6, 2) := by decide +kernel
theorem dX12_init_262 : decode cX12_init 262 = .ok (.newarray .int, 2) := by decide +kernel
theorem dX12_init_264 : decode cX12_init 264 = .ok (.putfield 108, 3) := by decide +kernel
theorem dX12_init_267 : decode cX12_init 267 = .ok (.aload_n 0, 1) := by decide +kernel
theorem dX12_init_268 : decode cX12_init 268 = .ok (.bipush 6, 2) := by decide +kernel
theorem dX12_init_270 : decode cX12_init 270 = .ok (.newarray .int, 2) := by decide +kernel
theorem dX12_init_272 : decode cX12_init 272 = .ok (.putfield 111, 3) := by decide +kernel
theorem dX12_init_275 : decode cX12_init 275 = .ok (.aload_n 0, 1) := by decide +kernel
theorem dX12_init_276 : decode cX12_init 276 = .ok (.bipush 36, 2) := by decide +kernel
theorem dX12_init_278 : decode cX12_init 278 = .ok (.newarray .int, 2) := by decide +kernel
theorem dX12_init_280 : decode cX12_init 280 = .ok (.putfield 114, 3) := by decide +kernel
theorem dX12_init_283 : decode cX12_init 283 = .ok (.aload_n 0, 1) := by decide +kernel
theorem dX12_init_284 : decode cX12_init 284 = .ok (.bipush 6, 2) := by decide +kernel
theorem dX12_init_286 : decode cX12_init 286 = .ok (.newarray .int, 2) := by decide +kernel
theorem dX12_init_288 : decode cX12_init 288 = .ok (.putfield 117, 3) := by decide +kernel
theorem dX12_init_291 : decode cX12_init 291 = .ok (.aload_n 0, 1) := by decide +kernel
theorem dX12_init_292 : decode cX12_init 292 = .ok (.bipush 6, 2) := by decide +kernel
theorem dX12_init_294 : decode cX12_init 294 = .ok (.newarray .boolean, 2) := by decide +kernel
theorem dX12_init_296 : decode cX12_init 296 = .ok (.putfield 120, 3) := by decide +kernel
theorem dX12_init_299 : decode cX12_init 299 = .ok (.aload_n 0, 1) := by decide +kernel
theorem dX12_init_300 : decode cX12_init 300 = .ok (.bipush 6, 2) := by decide +kernel
theorem dX12_init_302 : decode cX12_init 302 = .ok (.newarray .boolean, 2) := by decide +kernel
theorem dX12_init_304 : decode cX12_init 304 = .ok (.putfield 124, 3) := by decide +kernel
theorem dX12_init_307 : decode cX12_init 307 = .ok (.aload_n 0, 1) := by decide +kernel
theorem dX12_init_308 : decode cX12_init 308 = .ok (.bipush 6, 2) := by decide +kernel
theorem dX12_init_310 : decode cX12_init 310 = .ok (.newarray .boolean, 2) := by decide +kernel
theorem dX12_init_312 : decode cX12_init 312 = .ok (.putfield 127, 3) := by decide +kernel
theorem dX12_init_315 : decode cX12_init 315 = .ok (.aload_n 0, 1) := by decide +kernel
theorem dX12_init_316 : decode cX12_init 316 = .ok (.bipush 6, 2) := by decide +kernel
theorem dX12_init_318 : decode cX12_init 318 = .ok (.newarray .int, 2) := by decide +kernel
theorem dX12_init_320 : decode cX12_init 320 = .ok (.putfield 130, 3) := by decide +kernel
theorem dX12_init_323 : decode cX12_init 323 = .ok (.aload_n 0, 1) := by decide +kernel
theorem dX12_init_324 : decode cX12_init 324 = .ok (.sipush 2560, 3) := by decide +kernel
theorem dX12_init_327 : decode cX12_init 327 = .ok (.newarray .int, 2) := by decide +kernel
theorem dX12_init_329 : decode cX12_init 329 = .ok (.putfield 133, 3) := by decide +kernel
theorem dX12_init_332 : decode cX12_init 332 = .ok (.aload_n 0, 1) := by decide +kernel
theorem dX12_init_333 : decode cX12_init 333 = .ok (.bipush 6, 2) := by decide +kernel
theorem dX12_init_335 : decode cX12_init 335 = .ok (.newarray .int, 2) := by decide +kernel
theorem dX12_init_337 : decode cX12_init 337 = .ok (.putfield 136, 3) := by decide +kernel
theorem dX12_init_340 : decode cX12_init 340 = .ok (.aload_n 0, 1) := by decide +kernel
theorem dX12_init_341 : decode cX12_init 341 = .ok (.bipush 6, 2) := by decide +kernel
theorem dX12_init_343 : decode cX12_init 343 = .ok (.newarray .int, 2) := by decide +kernel
theorem dX12_init_345 : decode cX12_init 345 = .ok (.putfield 139, 3) := by decide +kernel
theorem dX12_init_348 : decode cX12_init 348 = .ok (.aload_n 0, 1) := by decide +kernel
theorem dX12_init_349 : decode cX12_init 349 = .ok (.bipush 8, 2) := by decide +kernel
theorem dX12_init_351 : decode cX12_init 351 = .ok (.newarray .int, 2) := by decide +kernel
theorem dX12_init_353 : decode cX12_init 353 = .ok (.putfield 142, 3) := by decide +kernel
theorem dX12_init_356 : decode cX12_init 356 = .ok (.aload_n 0, 1) := by decide +kernel
theorem dX12_init_357 : decode cX12_init 357 = .ok (.bipush 8, 2) := by decide +kernel
theorem dX12_init_359 : decode cX12_init 359 = .ok (.newarray .int, 2) := by decide +kernel
theorem dX12_init_361 : decode cX12_init 361 = .ok (.putfield 145, 3) := by decide +kernel
theorem dX12_init_364 : decode cX12_init 364 = .ok (.aload_n 0, 1) := by decide +kernel
theorem dX12_init_365 : decode cX12_init 365 = .ok (.bipush 8, 2) := by decide +kernel
theorem dX12_init_367 : decode cX12_init 367 = .ok (.newarray .int, 2) := by decide +kernel
theorem dX12_init_369 : decode cX12_init 369 = .ok (.putfield 148, 3) := by decide +kernel
theorem dX12_init_372 : decode cX12_init 372 = .ok (.aload_n 0, 1) := by decide +kernel
theorem dX12_init_373 : decode cX12_init 373 = .ok (.bipush 30, 2) := by decide +kernel
theorem dX12_init_375 : decode cX12_init 375 = .ok (.newarray .int, 2) := by decide +kernel
theorem dX12_init_377 : decode cX12_init 377 = .ok (.putfield 151, 3) := by decide +kernel
theorem dX12_init_380 : decode cX12_init 380 = .ok (.aload_n 0, 1) := by decide +kernel
theorem dX12_init_381 : decode cX12_init 381 = .ok (.bipush 30, 2) := by decide +kernel
theorem dX12_init_383 : decode cX12_init 383 = .ok (.newarray .int, 2) := by decide +kernel
theorem dX12_init_385 : decode cX12_init 385 = .ok (.putfield 154, 3) := by decide +kernel
theorem dX12_init_388 : decode cX12_init 388 = .ok (.aload_n 0, 1) := by decide +kernel
theorem dX12_init_389 : decode cX12_init 389 = .ok (.bipush 30, 2) := by decide +kernel
theorem dX12_init_391 : decode cX12_init 391 = .ok (.newarray .int, 2) := by decide +kernel
theorem dX12_init_393 : decode cX12_init 393 = .ok (.putfield 157, 3) := by decide +kernel
theorem dX12_init_396 : decode cX12_init 396 = .ok (.aload_n 0, 1) := by decide +kernel
theorem dX12_init_397 : decode cX12_init 397 = .ok (.bipush 30, 2) := by decide +kernel
theorem dX12_init_399 : decode cX12_init 399 = .ok (.newarray .int, 2) := by decide +kernel
theorem dX12_init_401 : decode cX12_init 401 = .ok (.putfield 160, 3) := by decide +kernel
theorem dX12_init_404 : decode cX12_init 404 = .ok (.aload_n 0, 1) := by decide +kernel
theorem dX12_init_405 : decode cX12_init 405 = .ok (.bipush 30, 2) := by decide +kernel
theorem dX12_init_407 : decode cX12_init 407 = .ok (.newarray .int, 2) := by decide +kernel
theorem dX12_init_409 : decode cX12_init 409 = .ok (.putfield 163, 3) := by decide +kernel
theorem dX12_init_412 : decode cX12_init 412 = .ok (.aload_n 0, 1) := by decide +kernel
theorem dX12_init_413 : decode cX12_init 413 = .ok (.iconst 3, 1) := by decide +kernel
theorem dX12_init_414 : decode cX12_init 414 = .ok (.newarray .boolean, 2) := by decide +kernel
theorem dX12_init_416 : decode cX12_init 416 = .ok (.putfield 166, 3) := by decide +kernel
theorem dX12_init_419 : decode cX12_init 419 = .ok (.aload_n 0, 1) := by decide +kernel
theorem dX12_init_420 : decode cX12_init 420 = .ok (.sipush 192, 3) := by decide +kernel
theorem dX12_init_423 : decode cX12_init 423 = .ok (.newarray .int, 2) := by decide +kernel
theorem dX12_init_425 : decode cX12_init 425 = .ok (.putfield 169, 3) := by decide +kernel
theorem dX12_init_428 : decode cX12_init 428 = .ok (.return_, 1) := by decide +kernel
theorem dX12_feed_0 : decode cX12_feed 0 = .ok (.aload_n 0, 1) := by decide +kernel
theorem dX12_feed_1 : decode cX12_feed 1 = .ok (.getfield 172, 3) := by decide +kernel
theorem dX12_feed_4 : decode cX12_feed 4 = .ok (.bipush 20, 2) := by decide +kernel
theorem dX12_feed_6 : decode cX12_feed 6 = .ok (.iadd, 1) := by decide +kernel
theorem dX12_feed_7 : decode cX12_feed 7 = .ok (.sipush 1600, 3) := by decide +kernel
theorem dX12_feed_10 : decode cX12_feed 10 = .ok (.if_icmp .le 5, 3) := by decide +kernel
theorem dX12_feed_13 : decode cX12_feed 13 = .ok (.iconst (-1), 1) := by decide +kernel
theorem dX12_feed_14 : decode cX12_feed 14 = .ok (.ireturn, 1) := by decide +kernel
theorem dX12_feed_15 : decode cX12_feed 15 = .ok (.aload_n 0, 1) := by decide +kernel
theorem dX12_feed_16 : decode cX12_feed 16 = .ok (.iload_n 1, 1) := by decide +kernel
theorem dX12_feed_17 : decode cX12_feed 17 = .ok (.invokevirtual 175, 3) := by decide +kernel
theorem dX12_feed_20 : decode cX12_feed 20 = .ok (.aload_n 0, 1) := by decide +kernel
theorem dX12_feed_21 : decode cX12_feed 21 = .ok (.iload_n 2, 1) := by decide +kernel
theorem dX12_feed_22 : decode cX12_feed 22 = .ok (.invokevirtual 175, 3) := by decide +kernel
theorem dX12_feed_25 : decode cX12_feed 25 = .ok (.aload_n 0, 1) := by decide +kernel
theorem dX12_feed_26 : decode cX12_feed 26 = .ok (.iload_n 3, 1) := by decide +kernel
theorem dX12_feed_27 : decode cX12_feed 27 = .ok (.invokevirtual 175, 3) := by decide +kernel
theorem dX12_feed_30 : decode cX12_feed 30 = .ok (.aload_n 0, 1) := by decide +kernel
theorem dX12_feed_31 : decode cX12_feed 31 = .ok (.iload 4, 2) := by decide +kernel
theorem dX12_feed_33 : decode cX12_feed 33 = .ok (.invokevirtual 175, 3) := by decide +kernel
theorem dX12_feed_36 : decode cX12_feed 36 = .ok (.aload_n 0, 1) := by decide +kernel
theorem dX12_feed_37 : decode cX12_feed 37 = .ok (.iload 5, 2) := by decide +kernel
theorem dX12_feed_39 : decode cX12_feed 39 = .ok (.invokevirtual 175, 3) := by decide +kernel
theorem dX12_feed_42 : decode cX12_feed 42 = .ok (.aload_n 0, 1) := by decide +kernel
theorem dX12_feed_43 : decode cX12_feed 43 = .ok (.getfield 172, 3) := by decide +kernel
theorem dX12_feed_46 : decode cX12_feed 46 = .ok (.ireturn, 1) := by decide +kernel
theorem dX12_four_0 : decode cX12_four 0 = .ok (.bipush 24, 2) := by decide +kernel
theorem dX12_four_2 : decode cX12_four 2 = .ok (.istore_n 2, 1) := by decide +kernel
theorem dX12_four_3 : decode cX12_four 3 = .ok (.iload_n 2, 1) := by decide +kernel
theorem dX12_four_4 : decode cX12_four 4 = .ok (.ifCond .lt 35, 3) := by decide +kernel
theorem dX12_four_7 : decode cX12_four 7 = .ok (.aload_n 0, 1) := by decide +kernel
theorem dX12_four_8 : decode cX12_four 8 = .ok (.getfield 7, 3) := by decide +kernel
theorem dX12_four_11 : decode cX12_four 11 = .ok (.aload_n 0, 1) := by decide +kernel
theorem dX12_four_12 : decode cX12_four 12 = .ok (.getfield 172, 3) := by decide +kernel
theorem dX12_four_15 : decode cX12_four 15 = .ok (.iload_n 1, 1) := by decide +kernel
theorem dX12_four_16 : decode cX12_four 16 = .ok (.iload_n 2, 1) := by decide +kernel
theorem dX12_four_17 : decode cX12_four 17 = .ok (.ishr, 1) := by decide +kernel
theorem dX12_four_18 : decode cX12_four 18 = .ok (.sipush 255, 3) := by decide +kernel
theorem dX12_four_21 : decode cX12_four 21 = .ok (.iand, 1) := by decide +kernel
theorem dX12_four_22 : decode cX12_four 22 = .ok (.iastore, 1) := by decide +kernel
theorem dX12_four_23 : decode cX12_four 23 = .ok (.aload_n 0, 1) := by decide +kernel
theorem dX12_four_24 : decode cX12_four 24 = .ok (.dup, 1) := by decide +kernel
theorem dX12_four_25 : decode cX12_four 25 = .ok (.getfield 172, 3) := by decide +kernel
theorem dX12_four_28 : decode cX12_four 28 = .ok (.iconst 1, 1) := by decide +kernel
theorem dX12_four_29 : decode cX12_four 29 = .ok (.iadd, 1) := by decide +kernel
theorem dX12_four_30 : decode cX12_four 30 = .ok (.putfield 172, 3) := by decide +kernel
theorem dX12_four_33 : decode cX12_four 33 = .ok (.iinc 2 (-8), 3) := by decide +kernel
theorem dX12_four_36 : decode cX12_four 36 = .ok (.goto (-33), 3) := by decide +kernel
theorem dX12_four_39 : decode cX12_four 39 = .ok (.return_, 1) := by decide +kernel
theorem dX12_end_0 : decode cX12_end 0 = .ok (.iload_n 1, 1) := by decide +kernel
theorem dX12_end_1 : decode cX12_end 1 = .ok (.ifCond .lt 11, 3) := by decide +kernel
theorem dX12_end_4 : decode cX12_end 4 = .ok (.iload_n 1, 1) := by decide +kernel
theorem dX12_end_5 : decode cX12_end 5 = .ok (.aload_n 0, 1) := by decide +kernel
theorem dX12_end_6 : decode cX12_end 6 = .ok (.getfield 172, 3) := by decide +kernel
theorem dX12_end_9 : decode cX12_end 9 = .ok (.if_icmp .le 5, 3) := by decide +kernel
theorem dX12_end_12 : decode cX12_end 12 = .ok (.iconst (-1), 1) := by decide +kernel
theorem dX12_end_13 : decode cX12_end 13 = .ok (.ireturn, 1) := by decide +kernel
theorem dX12_end_14 : decode cX12_end 14 = .ok (.aload_n 0, 1) := by decide +kernel
theorem dX12_end_15 : decode cX12_end 15 = .ok (.iload_n 1, 1) := by decide +kernel
theorem dX12_end_16 : decode cX12_end 16 = .ok (.putfield 172, 3) := by decide +kernel
theorem dX12_end_19 : decode cX12_end 19 = .ok (.iload_n 1, 1) := by decide +kernel
theorem dX12_end_20 : decode cX12_end 20 = .ok (.ireturn, 1) := by decide +kernel
theorem dX12_here_0 : decode cX12_here 0 = .ok (.aload_n 0, 1) := by decide +kernel
theorem dX12_here_1 : decode cX12_here 1 = .ok (.getfield 179, 3) := by decide +kernel
theorem dX12_here_4 : decode cX12_here 4 = .ok (.iload_n 1, 1) := by decide +kernel
theorem dX12_here_5 : decode cX12_here 5 = .ok (.iadd, 1) := by decide +kernel
theorem dX12_here_6 : decode cX12_here 6 = .ok (.aload_n 0, 1) := by decide +kernel
theorem dX12_here_7 : decode cX12_here 7 = .ok (.getfield 182, 3) := by decide +kernel
theorem dX12_here_10 : decode cX12_here 10 = .ok (.if_icmp .ge 17, 3) := by decide +kernel
theorem dX12_here_13 : decode cX12_here 13 = .ok (.aload_n 0, 1) := by decide +kernel
theorem dX12_here_14 : decode cX12_here 14 = .ok (.getfield 7, 3) := by decide +kernel
theorem dX12_here_17 : decode cX12_here 17 = .ok (.aload_n 0, 1) := by decide +kernel
theorem dX12_here_18 : decode cX12_here 18 = .ok (.getfield 179, 3) := by decide +kernel
theorem dX12_here_21 : decode cX12_here 21 = .ok (.iload_n 1, 1) := by decide +kernel
theorem dX12_here_22 : decode cX12_here 22 = .ok (.iadd, 1) := by decide +kernel
theorem dX12_here_23 : decode cX12_here 23 = .ok (.iaload, 1) := by decide +kernel
theorem dX12_here_24 : decode cX12_here 24 = .ok (.goto 4, 3) := by decide +kernel
theorem dX12_here_27 : decode cX12_here 27 = .ok (.iconst (-1), 1) := by decide +kernel
theorem dX12_here_28 : decode cX12_here 28 = .ok (.ireturn, 1) := by decide +kernel
theorem dX12_isLetter_0 : decode cX12_isLetter 0 = .ok (.iload_n 0, 1) := by decide +kernel
theorem dX12_isLetter_1 : decode cX12_isLetter 1 = .ok (.bipush 97, 2) := by decide +kernel
theorem dX12_isLetter_3 : decode cX12_isLetter 3 = .ok (.if_icmp .lt 13, 3) := by decide +kernel
theorem dX12_isLetter_6 : decode cX12_isLetter 6 = .ok (.iload_n 0, 1) := by decide +kernel
theorem dX12_isLetter_7 : decode cX12_isLetter 7 = .ok (.bipush 122, 2) := by decide +kernel
theorem dX12_isLetter_9 : decode cX12_isLetter 9 = .ok (.if_icmp .gt 7, 3) := by decide +kernel
theorem dX12_isLetter_12 : decode cX12_isLetter 12 = .ok (.iconst 1, 1) := by decide +kernel
theorem dX12_isLetter_13 : decode cX12_isLetter 13 = .ok (.goto 4, 3) := by decide +kernel
theorem dX12_isLetter_16 : decode cX12_isLetter 16 = .ok (.iconst 0, 1) := by decide +kernel
theorem dX12_isLetter_17 : decode cX12_isLetter 17 = .ok (.ireturn, 1) := by decide +kernel
theorem dX12_isDigit_0 : decode cX12_isDigit 0 = .ok (.iload_n 0, 1) := by decide +kernel
theorem dX12_isDigit_1 : decode cX12_isDigit 1 = .ok (.bipush 48, 2) := by decide +kernel
theorem dX12_isDigit_3 : decode cX12_isDigit 3 = .ok (.if_icmp .lt 13, 3) := by decide +kernel
theorem dX12_isDigit_6 : decode cX12_isDigit 6 = .ok (.iload_n 0, 1) := by decide +kernel
theorem dX12_isDigit_7 : decode cX12_isDigit 7 = .ok (.bipush 57, 2) := by decide +kernel
theorem dX12_isDigit_9 : decode cX12_isDigit 9 = .ok (.if_icmp .gt 7, 3) := by decide +kernel
theorem dX12_isDigit_12 : decode cX12_isDigit 12 = .ok (.iconst 1, 1) := by decide +kernel
theorem dX12_isDigit_13 : decode cX12_isDigit 13 = .ok (.goto 4, 3) := by decide +kernel
theorem dX12_isDigit_16 : decode cX12_isDigit 16 = .ok (.iconst 0, 1) := by decide +kernel
theorem dX12_isDigit_17 : decode cX12_isDigit 17 = .ok (.ireturn, 1) := by decide +kernel
theorem dX12_isSign_0 : decode cX12_isSign 0 = .ok (.iload_n 0, 1) := by decide +kernel
theorem dX12_isSign_1 : decode cX12_isSign 1 = .ok (.bipush 59, 2) := by decide +kernel
theorem dX12_isSign_3 : decode cX12_isSign 3 = .ok (.if_icmp .eq 63, 3) := by decide +kernel
theorem dX12_isSign_6 : decode cX12_isSign 6 = .ok (.iload_n 0, 1) := by decide +kernel
theorem dX12_isSign_7 : decode cX12_isSign 7 = .ok (.bipush 40, 2) := by decide +kernel
theorem dX12_isSign_9 : decode cX12_isSign 9 = .ok (.if_icmp .eq 57, 3) := by decide +kernel
theorem dX12_isSign_12 : decode cX12_isSign 12 = .ok (.iload_n 0, 1) := by decide +kernel
theorem dX12_isSign_13 : decode cX12_isSign 13 = .ok (.bipush 41, 2) := by decide +kernel
theorem dX12_isSign_15 : decode cX12_isSign 15 = .ok (.if_icmp .eq 51, 3) := by decide +kernel
theorem dX12_isSign_18 : decode cX12_isSign 18 = .ok (.iload_n 0, 1) := by decide +kernel
theorem dX12_isSign_19 : decode cX12_isSign 19 = .ok (.bipush 60, 2) := by decide +kernel
theorem dX12_isSign_21 : decode cX12_isSign 21 = .ok (.if_icmp .eq 45, 3) := by decide +kernel
theorem dX12_isSign_24 : decode cX12_isSign 24 = .ok (.iload_n 0, 1) := by decide +kernel
theorem dX12_isSign_25 : decode cX12_isSign 25 = .ok (.bipush 62, 2) := by decide +kernel
theorem dX12_isSign_27 : decode cX12_isSign 27 = .ok (.if_icmp .eq 39, 3) := by decide +kernel
theorem dX12_isSign_30 : decode cX12_isSign 30 = .ok (.iload_n 0, 1) := by decide +kernel
theorem dX12_isSign_31 : decode cX12_isSign 31 = .ok (.bipush 61, 2) := by decide +kernel
theorem dX12_isSign_33 : decode cX12_isSign 33 = .ok (.if_icmp .eq 33, 3) := by decide +kernel
theorem dX12_isSign_36 : decode cX12_isSign 36 = .ok (.iload_n 0, 1) := by decide +kernel
theorem dX12_isSign_37 : decode cX12_isSign 37 = .ok (.bipush 43, 2) := by decide +kernel
theorem dX12_isSign_39 : decode cX12_isSign 39 = .ok (.if_icmp .eq 27, 3) := by decide +kernel
theorem dX12_isSign_42 : decode cX12_isSign 42 = .ok (.iload_n 0, 1) := by decide +kernel
theorem dX12_isSign_43 : decode cX12_isSign 43 = .ok (.bipush 45, 2) := by decide +kernel
theorem dX12_isSign_45 : decode cX12_isSign 45 = .ok (.if_icmp .eq 21, 3) := by decide +kernel
theorem dX12_isSign_48 : decode cX12_isSign 48 = .ok (.iload_n 0, 1) := by decide +kernel
theorem dX12_isSign_49 : decode cX12_isSign 49 = .ok (.bipush 42, 2) := by decide +kernel
theorem dX12_isSign_51 : decode cX12_isSign 51 = .ok (.if_icmp .eq 15, 3) := by decide +kernel
theorem dX12_isSign_54 : decode cX12_isSign 54 = .ok (.iload_n 0, 1) := by decide +kernel
theorem dX12_isSign_55 : decode cX12_isSign 55 = .ok (.bipush 47, 2) := by decide +kernel
theorem dX12_isSign_57 : decode cX12_isSign 57 = .ok (.if_icmp .eq 9, 3) := by decide +kernel
theorem dX12_isSign_60 : decode cX12_isSign 60 = .ok (.iload_n 0, 1) := by decide +kernel
theorem dX12_isSign_61 : decode cX12_isSign 61 = .ok (.bipush 37, 2) := by decide +kernel
theorem dX12_isSign_63 : decode cX12_isSign 63 = .ok (.if_icmp .ne 7, 3) := by decide +kernel
theorem dX12_isSign_66 : decode cX12_isSign 66 = .ok (.iconst 1, 1) := by decide +kernel
theorem dX12_isSign_67 : decode cX12_isSign 67 = .ok (.goto 4, 3) := by decide +kernel
theorem dX12_isSign_70 : decode cX12_isSign 70 = .ok (.iconst 0, 1) := by decide +kernel
theorem dX12_isSign_71 : decode cX12_isSign 71 = .ok (.ireturn, 1) := by decide +kernel
theorem dX12_token_0 : decode cX12_token 0 = .ok (.aload_n 0, 1) := by decide +kernel
theorem dX12_token_1 : decode cX12_token 1 = .ok (.iconst 0, 1) := by decide +kernel
theorem dX12_token_2 : decode cX12_token 2 = .ok (.invokevirtual 185, 3) := by decide +kernel
theorem dX12_token_5 : decode cX12_token 5 = .ok (.bipush 32, 2) := by decide +kernel
theorem dX12_token_7 : decode cX12_token 7 = .ok (.if_icmp .eq 13, 3) := by decide +kernel
theorem dX12_token_10 : decode cX12_token 10 = .ok (.aload_n 0, 1) := by decide +kernel
theorem dX12_token_11 : decode cX12_token 11 = .ok (.iconst 0, 1) := by decide +kernel
theorem dX12_token_12 : decode cX12_token 12 = .ok (.invokevirtual 185, 3) := by decide +kernel
theorem dX12_token_15 : decode cX12_token 15 = .ok (.bipush 10, 2) := by decide +kernel
theorem dX12_token_17 : decode cX12_token 17 = .ok (.if_icmp .ne 16, 3) := by decide +kernel
theorem dX12_token_20 : decode cX12_token 20 = .ok (.aload_n 0, 1) := by decide +kernel
theorem dX12_token_21 : decode cX12_token 21 = .ok (.dup, 1) := by decide +kernel
theorem dX12_token_22 : decode cX12_token 22 = .ok (.getfield 179, 3) := by decide +kernel
theorem dX12_token_25 : decode cX12_token 25 = .ok (.iconst 1, 1) := by decide +kernel
theorem dX12_token_26 : decode cX12_token 26 = .ok (.iadd, 1) := by decide +kernel
theorem dX12_token_27 : decode cX12_token 27 = .ok (.putfield 179, 3) := by decide +kernel
theorem dX12_token_30 : decode cX12_token 30 = .ok (.goto (-30), 3) := by decide +kernel
theorem dX12_token_33 : decode cX12_token 33 = .ok (.aload_n 0, 1) := by decide +kernel
theorem dX12_token_34 : decode cX12_token 34 = .ok (.aload_n 0, 1) := by decide +kernel
theorem dX12_token_35 : decode cX12_token 35 = .ok (.getfield 179, 3) := by decide +kernel
theorem dX12_token_38 : decode cX12_token 38 = .ok (.putfield 189, 3) := by decide +kernel
theorem dX12_token_41 : decode cX12_token 41 = .ok (.aload_n 0, 1) := by decide +kernel
theorem dX12_token_42 : decode cX12_token 42 = .ok (.iconst 0, 1) := by decide +kernel
theorem dX12_token_43 : decode cX12_token 43 = .ok (.invokevirtual 185, 3) := by decide +kernel
theorem dX12_token_46 : decode cX12_token 46 = .ok (.istore_n 1, 1) := by decide +kernel
theorem dX12_token_47 : decode cX12_token 47 = .ok (.iconst 0, 1) := by decide +kernel
theorem dX12_token_48 : decode cX12_token 48 = .ok (.istore_n 2, 1) := by decide +kernel
theorem dX12_token_49 : decode cX12_token 49 = .ok (.aload_n 0, 1) := by decide +kernel
theorem dX12_token_50 : decode cX12_token 50 = .ok (.lconst 0, 1) := by decide +kernel
theorem dX12_token_51 : decode cX12_token 51 = .ok (.putfield 192, 3) := by decide +kernel
theorem dX12_token_54 : decode cX12_token 54 = .ok (.aload_n 0, 1) := by decide +kernel
theorem dX12_token_55 : decode cX12_token 55 = .ok (.iconst 0, 1) := by decide +kernel
theorem dX12_token_56 : decode cX12_token 56 = .ok (.putfield 196, 3) := by decide +kernel
theorem dX12_token_59 : decode cX12_token 59 = .ok (.iload_n 1, 1) := by decide +kernel
theorem dX12_token_60 : decode cX12_token 60 = .ok (.ifCond .ge 11, 3) := by decide +kernel
theorem dX12_token_63 : decode cX12_token 63 = .ok (.aload_n 0, 1) := by decide +kernel
theorem dX12_token_64 : decode cX12_token 64 = .ok (.iconst 0, 1) := by decide +kernel
theorem dX12_token_65 : decode cX12_token 65 = .ok (.putfield 199, 3) := by decide +kernel
theorem dX12_token_68 : decode cX12_token 68 = .ok (.goto 164, 3) := by decide +kernel
theorem dX12_token_71 : decode cX12_token 71 = .ok (.iload_n 1, 1) := by decide +kernel
theorem dX12_token_72 : decode cX12_token 72 = .ok (.invokestatic 202, 3) := by decide +kernel
theorem dX12_token_75 : decode cX12_token 75 = .ok (.ifCond .eq 62, 3) := by decide +kernel
theorem dX12_token_78 : decode cX12_token 78 = .ok (.aload_n 0, 1) := by decide +kernel
theorem dX12_token_79 : decode cX12_token 79 = .ok (.iload_n 2, 1) := by decide +kernel
theorem dX12_token_80 : decode cX12_token 80 = .ok (.invokevirtual 185, 3) := by decide +kernel
theorem dX12_token_83 : decode cX12_token 83 = .ok (.invokestatic 202, 3) := by decide +kernel
theorem dX12_token_86 : decode cX12_token 86 = .ok (.ifCond .eq 33, 3) := by decide +kernel
theorem dX12_token_89 : decode cX12_token 89 = .ok (.iload_n 2, 1) := by decide +kernel
theorem dX12_token_90 : decode cX12_token 90 = .ok (.bipush 8, 2) := by decide +kernel
theorem dX12_token_92 : decode cX12_token 92 = .ok (.if_icmp .ge 21, 3) := by decide +kernel
theorem dX12_token_95 : decode cX12_token 95 = .ok (.aload_n 0, 1) := by decide +kernel
theorem dX12_token_96 : decode cX12_token 96 = .ok (.aload_n 0, 1) := by decide +kernel
theorem dX12_token_97 : decode cX12_token 97 = .ok (.getfield 192, 3) := by decide +kernel
theorem dX12_token_100 : decode cX12_token 100 = .ok (.bipush 8, 2) := by decide +kernel
theorem dX12_token_102 : decode cX12_token 102 = .ok (.lshl, 1) := by decide +kernel
theorem dX12_token_103 : decode cX12_token 103 = .ok (.aload_n 0, 1) := by decide +kernel
theorem dX12_token_104 : decode cX12_token 104 = .ok (.iload_n 2, 1) := by decide +kernel
theorem dX12_token_105 : decode cX12_token 105 = .ok (.invokevirtual 185, 3) := by decide +kernel
theorem dX12_token_108 : decode cX12_token 108 = .ok (.i2l, 1) := by decide +kernel
theorem dX12_token_109 : decode cX12_token 109 = .ok (.lor, 1) := by decide +kernel
theorem dX12_token_110 : decode cX12_token 110 = .ok (.putfield 192, 3) := by decide +kernel
theorem dX12_token_113 : decode cX12_token 113 = .ok (.iinc 2 1, 3) := by decide +kernel
theorem dX12_token_116 : decode cX12_token 116 = .ok (.goto (-38), 3) := by decide +kernel
theorem dX12_token_119 : decode cX12_token 119 = .ok (.aload_n 0, 1) := by decide +kernel
theorem dX12_token_120 : decode cX12_token 120 = .ok (.iload_n 2, 1) := by decide +kernel
theorem dX12_token_121 : decode cX12_token 121 = .ok (.bipush 8, 2) := by decide +kernel
theorem dX12_token_123 : decode cX12_token 123 = .ok (.if_icmp .le 7, 3) := by decide +kernel
theorem dX12_token_126 : decode cX12_token 126 = .ok (.iconst 3, 1) := by decide +kernel
theorem dX12_token_127 : decode cX12_token 127 = .ok (.goto 4, 3) := by decide +kernel
theorem dX12_token_130 : decode cX12_token 130 = .ok (.iconst 1, 1) := by decide +kernel
theorem dX12_token_131 : decode cX12_token 131 = .ok (.putfield 199, 3) := by decide +kernel
theorem dX12_token_134 : decode cX12_token 134 = .ok (.goto 98, 3) := by decide +kernel
theorem dX12_token_137 : decode cX12_token 137 = .ok (.iload_n 1, 1) := by decide +kernel
theorem dX12_token_138 : decode cX12_token 138 = .ok (.invokestatic 206, 3) := by decide +kernel
theorem dX12_token_141 : decode cX12_token 141 = .ok (.ifCond .eq 73, 3) := by decide +kernel
theorem dX12_token_144 : decode cX12_token 144 = .ok (.aload_n 0, 1) := by decide +kernel
theorem dX12_token_145 : decode cX12_token 145 = .ok (.iload_n 2, 1) := by decide +kernel
theorem dX12_token_146 : decode cX12_token 146 = .ok (.invokevirtual 185, 3) := by decide +kernel
theorem dX12_token_149 : decode cX12_token 149 = .ok (.invokestatic 206, 3) := by decide +kernel
theorem dX12_token_152 : decode cX12_token 152 = .ok (.ifCond .eq 34, 3) := by decide +kernel
theorem dX12_token_155 : decode cX12_token 155 = .ok (.iload_n 2, 1) := by decide +kernel
theorem dX12_token_156 : decode cX12_token 156 = .ok (.iconst 4, 1) := by decide +kernel
theorem dX12_token_157 : decode cX12_token 157 = .ok (.if_icmp .ge 23, 3) := by decide +kernel
theorem dX12_token_160 : decode cX12_token 160 = .ok (.aload_n 0, 1) := by decide +kernel
theorem dX12_token_161 : decode cX12_token 161 = .ok (.bipush 10, 2) := by decide +kernel
theorem dX12_token_163 : decode cX12_token 163 = .ok (.aload_n 0, 1) := by decide +kernel
theorem dX12_token_164 : decode cX12_token 164 = .ok (.getfield 196, 3) := by decide +kernel
theorem dX12_token_167 : decode cX12_token 167 = .ok (.imul, 1) := by decide +kernel
theorem dX12_token_168 : decode cX12_token 168 = .ok (.aload_n 0, 1) := by decide +kernel
theorem dX12_token_169 : decode cX12_token 169 = .ok (.iload_n 2, 1) := by decide +kernel
theorem dX12_token_170 : decode cX12_token 170 = .ok (.invokevirtual 185, 3) := by decide +kernel
theorem dX12_token_173 : decode cX12_token 173 = .ok (.iadd, 1) := by decide +kernel
theorem dX12_token_174 : decode cX12_token 174 = .ok (.bipush 48, 2) := by decide +kernel
theorem dX12_token_176 : decode cX12_token 176 = .ok (.isub, 1) := by decide +kernel
theorem dX12_token_177 : decode cX12_token 177 = .ok (.putfield 196, 3) := by decide +kernel
theorem dX12_token_180 : decode cX12_token 180 = .ok (.iinc 2 1, 3) := by decide +kernel
theorem dX12_token_183 : decode cX12_token 183 = .ok (.goto (-39), 3) := by decide +kernel
theorem dX12_token_186 : decode cX12_token 186 = .ok (.aload_n 0, 1) := by decide +kernel
theorem dX12_token_187 : decode cX12_token 187 = .ok (.iload_n 2, 1) := by decide +kernel
theorem dX12_token_188 : decode cX12_token 188 = .ok (.iconst 4, 1) := by decide +kernel
theorem dX12_token_189 : decode cX12_token 189 = .ok (.if_icmp .gt 14, 3) := by decide +kernel
theorem dX12_token_192 : decode cX12_token 192 = .ok (.aload_n 0, 1) := by decide +kernel
theorem dX12_token_193 : decode cX12_token 193 = .ok (.iload_n 2, 1) := by decide +kernel
theorem dX12_token_194 : decode cX12_token 194 = .ok (.invokevirtual 185, 3) := by decide +kernel
theorem dX12_token_197 : decode cX12_token 197 = .ok (.invokestatic 202, 3) := by decide +kernel
theorem dX12_token_200 : decode cX12_token 200 = .ok (.ifCond .eq 7, 3) := by decide +kernel
theorem dX12_token_203 : decode cX12_token 203 = .ok (.iconst 3, 1) := by decide +kernel
theorem dX12_token_204 : decode cX12_token 204 = .ok (.goto 4, 3) := by decide +kernel
theorem dX12_token_207 : decode cX12_token 207 = .ok (.iconst 2, 1) := by decide +kernel
theorem dX12_token_208 : decode cX12_token 208 = .ok (.putfield 199, 3) := by decide +kernel
theorem dX12_token_211 : decode cX12_token 211 = .ok (.goto 21, 3) := by decide +kernel
theorem dX12_token_214 : decode cX12_token 214 = .ok (.iconst 1, 1) := by decide +kernel
theorem dX12_token_215 : decode cX12_token 215 = .ok (.istore_n 2, 1) := by decide +kernel
theorem dX12_token_216 : decode cX12_token 216 = .ok (.aload_n 0, 1) := by decide +kernel
theorem dX12_token_217 : decode cX12_token 217 = .ok (.iload_n 1, 1) := by decide +kernel
theorem dX12_token_218 : decode cX12_token 218 = .ok (.invokestatic 209, 3) := by decide +kernel
theorem dX12_token_221 : decode cX12_token 221 = .ok (.ifCond .eq 7, 3) := by decide +kernel
theorem dX12_token_224 : decode cX12_token 224 = .ok (.iload_n 1, 1) := by decide +kernel
theorem dX12_token_225 : decode cX12_token 225 = .ok (.goto 4, 3) := by decide +kernel
theorem dX12_token_228 : decode cX12_token 228 = .ok (.iconst 3, 1) := by decide +kernel
theorem dX12_token_229 : decode cX12_token 229 = .ok (.putfield 199, 3) := by decide +kernel
theorem dX12_token_232 : decode cX12_token 232 = .ok (.aload_n 0, 1) := by decide +kernel
theorem dX12_token_233 : decode cX12_token 233 = .ok (.getfield 199, 3) := by decide +kernel
theorem dX12_token_236 : decode cX12_token 236 = .ok (.iconst 3, 1) := by decide +kernel
theorem dX12_token_237 : decode cX12_token 237 = .ok (.if_icmp .eq 13, 3) := by decide +kernel
theorem dX12_token_240 : decode cX12_token 240 = .ok (.aload_n 0, 1) := by decide +kernel
theorem dX12_token_241 : decode cX12_token 241 = .ok (.dup, 1) := by decide +kernel
theorem dX12_token_242 : decode cX12_token 242 = .ok (.getfield 179, 3) := by decide +kernel
theorem dX12_token_245 : decode cX12_token 245 = .ok (.iload_n 2, 1) := by decide +kernel
theorem dX12_token_246 : decode cX12_token 246 = .ok (.iadd, 1) := by decide +kernel
theorem dX12_token_247 : decode cX12_token 247 = .ok (.putfield 179, 3) := by decide +kernel
theorem dX12_token_250 : decode cX12_token 250 = .ok (.return_, 1) := by decide +kernel
theorem dX12_wrong_0 : decode cX12_wrong 0 = .ok (.aload_n 0, 1) := by decide +kernel
theorem dX12_wrong_1 : decode cX12_wrong 1 = .ok (.getfield 212, 3) := by decide +kernel
theorem dX12_wrong_4 : decode cX12_wrong 4 = .ok (.ifCond .le 4, 3) := by decide +kernel
theorem dX12_wrong_7 : decode cX12_wrong 7 = .ok (.return_, 1) := by decide +kernel
theorem dX12_wrong_8 : decode cX12_wrong 8 = .ok (.aload_n 0, 1) := by decide +kernel
theorem dX12_wrong_9 : decode cX12_wrong 9 = .ok (.aload_n 0, 1) := by decide +kernel
theorem dX12_wrong_10 : decode cX12_wrong 10 = .ok (.getfield 199, 3) := by decide +kernel
theorem dX12_wrong_13 : decode cX12_wrong 13 = .ok (.iconst 3, 1) := by decide +kernel
theorem dX12_wrong_14 : decode cX12_wrong 14 = .ok (.if_icmp .ne 7, 3) := by decide +kernel
theorem dX12_wrong_17 : decode cX12_wrong 17 = .ok (.iconst 1, 1) := by decide +kernel
theorem dX12_wrong_18 : decode cX12_wrong 18 = .ok (.goto 4, 3) := by decide +kernel
theorem dX12_wrong_21 : decode cX12_wrong 21 = .ok (.iload_n 1, 1) := by decide +kernel
theorem dX12_wrong_22 : decode cX12_wrong 22 = .ok (.putfield 212, 3) := by decide +kernel
theorem dX12_wrong_25 : decode cX12_wrong 25 = .ok (.aload_n 0, 1) := by decide +kernel
theorem dX12_wrong_26 : decode cX12_wrong 26 = .ok (.aload_n 0, 1) := by decide +kernel
theorem dX12_wrong_27 : decode cX12_wrong 27 = .ok (.getfield 189, 3) := by decide +kernel
theorem dX12_wrong_30 : decode cX12_wrong 30 = .ok (.putfield 13, 3) := by decide +kernel
theorem dX12_wrong_33 : decode cX12_wrong 33 = .ok (.return_, 1) := by decide +kernel
theorem dX12_isWord_0 : decode cX12_isWord 0 = .ok (.aload_n 0, 1) := by decide +kernel
theorem dX12_isWord_1 : decode cX12_isWord 1 = .ok (.getfield 199, 3) := by decide +kernel
theorem dX12_isWord_4 : decode cX12_isWord 4 = .ok (.iconst 1, 1) := by decide +kernel
theorem dX12_isWord_5 : decode cX12_isWord 5 = .ok (.if_icmp .ne 16, 3) := by decide +kernel
theorem dX12_isWord_8 : decode cX12_isWord 8 = .ok (.aload_n 0, 1) := by decide +kernel
theorem dX12_isWord_9 : decode cX12_isWord 9 = .ok (.getfield 192, 3) := by decide +kernel
theorem dX12_isWord_12 : decode cX12_isWord 12 = .ok (.lload_n 1, 1) := by decide +kernel
theorem dX12_isWord_13 : decode cX12_isWord 13 = .ok (.lcmp, 1) := by decide +kernel
theorem dX12_isWord_14 : decode cX12_isWord 14 = .ok (.ifCond .ne 7, 3) := by decide +kernel
theorem dX12_isWord_17 : decode cX12_isWord 17 = .ok (.iconst 1, 1) := by decide +kernel
theorem dX12_isWord_18 : decode cX12_isWord 18 = .ok (.goto 4, 3) := by decide +kernel
theorem dX12_isWord_21 : decode cX12_isWord 21 = .ok (.iconst 0, 1) := by decide +kernel
theorem dX12_isWord_22 : decode cX12_isWord 22 = .ok (.ireturn, 1) := by decide +kernel
theorem dX12_isOwn_0 : decode cX12_isOwn 0 = .ok (.aload_n 0, 1) := by decide +kernel
theorem dX12_isOwn_1 : decode cX12_isOwn 1 = .ok (.getfield 192, 3) := by decide +kernel
theorem dX12_isOwn_4 : decode cX12_isOwn 4 = .ok (.ldc2_w 215, 3) := by decide +kernel
theorem dX12_isOwn_7 : decode cX12_isOwn 7 = .ok (.lcmp, 1) := by decide +kernel
theorem dX12_isOwn_8 : decode cX12_isOwn 8 = .ok (.ifCond .eq 245, 3) := by decide +kernel
theorem dX12_isOwn_11 : decode cX12_isOwn 11 = .ok (.aload_n 0, 1) := by decide +kernel
theorem dX12_isOwn_12 : decode cX12_isOwn 12 = .ok (.getfield 192, 3) := by decide +kernel
theorem dX12_isOwn_15 : decode cX12_isOwn 15 = .ok (.ldc2_w 217, 3) := by decide +kernel
theorem dX12_isOwn_18 : decode cX12_isOwn 18 = .ok (.lcmp, 1) := by decide +kernel
theorem dX12_isOwn_19 : decode cX12_isOwn 19 = .ok (.ifCond .eq 234, 3) := by decide +kernel
theorem dX12_isOwn_22 : decode cX12_isOwn 22 = .ok (.aload_n 0, 1) := by decide +kernel
theorem dX12_isOwn_23 : decode cX12_isOwn 23 = .ok (.getfield 192, 3) := by decide +kernel
theorem dX12_isOwn_26 : decode cX12_isOwn 26 = .ok (.ldc2_w 219, 3) := by decide +kernel
theorem dX12_isOwn_29 : decode cX12_isOwn 29 = .ok (.lcmp, 1) := by decide +kernel
theorem dX12_isOwn_30 : decode cX12_isOwn 30 = .ok (.ifCond .eq 223, 3) := by decide +kernel
theorem dX12_isOwn_33 : decode cX12_isOwn 33 = .ok (.aload_n 0, 1) := by decide +kernel
theorem dX12_isOwn_34 : decode cX12_isOwn 34 = .ok (.getfield 192, 3) := by decide +kernel
theorem dX12_isOwn_37 : decode cX12_isOwn 37 = .ok (.ldc2_w 221, 3) := by decide +kernel
theorem dX12_isOwn_40 : decode cX12_isOwn 40 = .ok (.lcmp, 1) := by decide +kernel
theorem dX12_isOwn_41 : decode cX12_isOwn 41 = .ok (.ifCond .eq 212, 3) := by decide +kernel
theorem dX12_isOwn_44 : decode cX12_isOwn 44 = .ok (.aload_n 0, 1) := by decide +kernel
theorem dX12_isOwn_45 : decode cX12_isOwn 45 = .ok (.getfield 192, 3) := by decide +kernel
theorem dX12_isOwn_48 : decode cX12_isOwn 48 = .ok (.ldc2_w 223, 3) := by decide +kernel
theorem dX12_isOwn_51 : decode cX12_isOwn 51 = .ok (.lcmp, 1) := by decide +kernel
theorem dX12_isOwn_52 : decode cX12_isOwn 52 = .ok (.ifCond .eq 201, 3) := by decide +kernel
theorem dX12_isOwn_55 : decode cX12_isOwn 55 = .ok (.aload_n 0, 1) := by decide +kernel
theorem dX12_isOwn_56 : decode cX12_isOwn 56 = .ok (.getfield 192, 3) := by decide +kernel
theorem dX12_isOwn_59 : decode cX12_isOwn 59 = .ok (.ldc2_w 225, 3) := by decide +kernel
theorem dX12_isOwn_62 : decode cX12_isOwn 62 = .ok (.lcmp, 1) := by decide +kernel
theorem dX12_isOwn_63 : decode cX12_isOwn 63 = .ok (.ifCond .eq 190, 3) := by decide +kernel
theorem dX12_isOwn_66 : decode cX12_isOwn 66 = .ok (.aload_n 0, 1) := by decide +kernel
theorem dX12_isOwn_67 : decode cX12_isOwn 67 = .ok (.getfield 192, 3) := by decide +kernel
theorem dX12_isOwn_70 : decode cX12_isOwn 70 = .ok (.ldc2_w 227, 3) := by decide +kernel
theorem dX12_isOwn_73 : decode cX12_isOwn 73 = .ok (.lcmp, 1) := by decide +kernel
theorem dX12_isOwn_74 : decode cX12_isOwn 74 = .ok (.ifCond .eq 179, 3) := by decide +kernel
theorem dX12_isOwn_77 : decode cX12_isOwn 77 = .ok (.aload_n 0, 1) := by decide +kernel
theorem dX12_isOwn_78 : decode cX12_isOwn 78 = .ok (.getfield 192, 3) := by decide +kernel
theorem dX12_isOwn_81 : decode cX12_isOwn 81 = .ok (.ldc2_w 229, 3) := by decide +kernel
theorem dX12_isOwn_84 : decode cX12_isOwn 84 = .ok (.lcmp, 1) := by decide +kernel
theorem dX12_isOwn_85 : decode cX12_isOwn 85 = .ok (.ifCond .eq 168, 3) := by decide +kernel
theorem dX12_isOwn_88 : decode cX12_isOwn 88 = .ok (.aload_n 0, 1) := by decide +kernel
theorem dX12_isOwn_89 : decode cX12_isOwn 89 = .ok (.getfield 192, 3) := by decide +kernel
theorem dX12_isOwn_92 : decode cX12_isOwn 92 = .ok (.ldc2_w 231, 3) := by decide +kernel
theorem dX12_isOwn_95 : decode cX12_isOwn 95 = .ok (.lcmp, 1) := by decide +kernel
theorem dX12_isOwn_96 : decode cX12_isOwn 96 = .ok (.ifCond .eq 157, 3) := by decide +kernel
theorem dX12_isOwn_99 : decode cX12_isOwn 99 = .ok (.aload_n 0, 1) := by decide +kernel
theorem dX12_isOwn_100 : decode cX12_isOwn 100 = .ok (.getfield 192, 3) := by decide +kernel
theorem dX12_isOwn_103 : decode cX12_isOwn 103 = .ok (.ldc2_w 233, 3) := by decide +kernel
theorem dX12_isOwn_106 : decode cX12_isOwn 106 = .ok (.lcmp, 1) := by decide +kernel
theorem dX12_isOwn_107 : decode cX12_isOwn 107 = .ok (.ifCond .eq 146, 3) := by decide +kernel
theorem dX12_isOwn_110 : decode cX12_isOwn 110 = .ok (.aload_n 0, 1) := by decide +kernel
theorem dX12_isOwn_111 : decode cX12_isOwn 111 = .ok (.getfield 192, 3) := by decide +kernel
theorem dX12_isOwn_114 : decode cX12_isOwn 114 = .ok (.ldc2_w 235, 3) := by decide +kernel
theorem dX12_isOwn_117 : decode cX12_isOwn 117 = .ok (.lcmp, 1) := by decide +kernel
theorem dX12_isOwn_118 : decode cX12_isOwn 118 = .ok (.ifCond .eq 135, 3) := by decide +kernel
theorem dX12_isOwn_121 : decode cX12_isOwn 121 = .ok (.aload_n 0, 1) := by decide +kernel
theorem dX12_isOwn_122 : decode cX12_isOwn 122 = .ok (.getfield 192, 3) := by decide +kernel
theorem dX12_isOwn_125 : decode cX12_isOwn 125 = .ok (.ldc2_w 237, 3) := by decide +kernel
theorem dX12_isOwn_128 : decode cX12_isOwn 128 = .ok (.lcmp, 1) := by decide +kernel
theorem dX12_isOwn_129 : decode cX12_isOwn 129 = .ok (.ifCond .eq 124, 3) := by decide +kernel
theorem dX12_isOwn_132 : decode cX12_isOwn 132 = .ok (.aload_n 0, 1) := by decide +kernel
theorem dX12_isOwn_133 : decode cX12_isOwn 133 = .ok (.getfield 192, 3) := by decide +kernel
theorem dX12_isOwn_136 : decode cX12_isOwn 136 = .ok (.ldc2_w 239, 3) := by decide +kernel
theorem dX12_isOwn_139 : decode cX12_isOwn 139 = .ok (.lcmp, 1) := by decide +kernel
theorem dX12_isOwn_140 : decode cX12_isOwn 140 = .ok (.ifCond .eq 113, 3) := by decide +kernel
theorem dX12_isOwn_143 : decode cX12_isOwn 143 = .ok (.aload_n 0, 1) := by decide +kernel
theorem dX12_isOwn_144 : decode cX12_isOwn 144 = .ok (.getfield 192, 3) := by decide +kernel
theorem dX12_isOwn_147 : decode cX12_isOwn 147 = .ok (.ldc2_w 241, 3) := by decide +kernel
theorem dX12_isOwn_150 : decode cX12_isOwn 150 = .ok (.lcmp, 1) := by decide +kernel
theorem dX12_isOwn_151 : decode cX12_isOwn 151 = .ok (.ifCond .eq 102, 3) := by decide +kernel
theorem dX12_isOwn_154 : decode cX12_isOwn 154 = .ok (.aload_n 0, 1) := by decide +kernel
theorem dX12_isOwn_155 : decode cX12_isOwn 155 = .ok (.getfield 192, 3) := by decide +kernel
theorem dX12_isOwn_158 : decode cX12_isOwn 158 = .ok (.ldc2_w 243, 3) := by decide +kernel
theorem dX12_isOwn_161 : decode cX12_isOwn 161 = .ok (.lcmp, 1) := by decide +kernel
theorem dX12_isOwn_162 : decode cX12_isOwn 162 = .ok (.ifCond .eq 91, 3) := by decide +kernel
theorem dX12_isOwn_165 : decode cX12_isOwn 165 = .ok (.aload_n 0, 1) := by decide +kernel
theorem dX12_isOwn_166 : decode cX12_isOwn 166 = .ok (.getfield 192, 3) := by decide +kernel
theorem dX12_isOwn_169 : decode cX12_isOwn 169 = .ok (.ldc2_w 245, 3) := by decide +kernel
theorem dX12_isOwn_172 : decode cX12_isOwn 172 = .ok (.lcmp, 1) := by decide +kernel
theorem dX12_isOwn_173 : decode cX12_isOwn 173 = .ok (.ifCond .eq 80, 3) := by decide +kernel
theorem dX12_isOwn_176 : decode cX12_isOwn 176 = .ok (.aload_n 0, 1) := by decide +kernel
theorem dX12_isOwn_177 : decode cX12_isOwn 177 = .ok (.getfield 192, 3) := by decide +kernel
theorem dX12_isOwn_180 : decode cX12_isOwn 180 = .ok (.ldc2_w 247, 3) := by decide +kernel
theorem dX12_isOwn_183 : decode cX12_isOwn 183 = .ok (.lcmp, 1) := by decide +kernel
theorem dX12_isOwn_184 : decode cX12_isOwn 184 = .ok (.ifCond .eq 69, 3) := by decide +kernel
theorem dX12_isOwn_187 : decode cX12_isOwn 187 = .ok (.aload_n 0, 1) := by decide +kernel
theorem dX12_isOwn_188 : decode cX12_isOwn 188 = .ok (.getfield 192, 3) := by decide +kernel
theorem dX12_isOwn_191 : decode cX12_isOwn 191 = .ok (.ldc2_w 249, 3) := by decide +kernel
theorem dX12_isOwn_194 : decode cX12_isOwn 194 = .ok (.lcmp, 1) := by decide +kernel
theorem dX12_isOwn_195 : decode cX12_isOwn 195 = .ok (.ifCond .eq 58, 3) := by decide +kernel
theorem dX12_isOwn_198 : decode cX12_isOwn 198 = .ok (.aload_n 0, 1) := by decide +kernel
theorem dX12_isOwn_199 : decode cX12_isOwn 199 = .ok (.getfield 192, 3) := by decide +kernel
theorem dX12_isOwn_202 : decode cX12_isOwn 202 = .ok (.ldc2_w 251, 3) := by decide +kernel
theorem dX12_isOwn_205 : decode cX12_isOwn 205 = .ok (.lcmp, 1) := by decide +kernel
theorem dX12_isOwn_206 : decode cX12_isOwn 206 = .ok (.ifCond .eq 47, 3) := by decide +kernel
theorem dX12_isOwn_209 : decode cX12_isOwn 209 = .ok (.aload_n 0, 1) := by decide +kernel
theorem dX12_isOwn_210 : decode cX12_isOwn 210 = .ok (.getfield 192, 3) := by decide +kernel
theorem dX12_isOwn_213 : decode cX12_isOwn 213 = .ok (.ldc2_w 253, 3) := by decide +kernel
theorem dX12_isOwn_216 : decode cX12_isOwn 216 = .ok (.lcmp, 1) := by decide +kernel
theorem dX12_isOwn_217 : decode cX12_isOwn 217 = .ok (.ifCond .eq 36, 3) := by decide +kernel
theorem dX12_isOwn_220 : decode cX12_isOwn 220 = .ok (.aload_n 0, 1) := by decide +kernel
theorem dX12_isOwn_221 : decode cX12_isOwn 221 = .ok (.getfield 192, 3) := by decide +kernel
theorem dX12_isOwn_224 : decode cX12_isOwn 224 = .ok (.ldc2_w 255, 3) := by decide +kernel
theorem dX12_isOwn_227 : decode cX12_isOwn 227 = .ok (.lcmp, 1) := by decide +kernel
theorem dX12_isOwn_228 : decode cX12_isOwn 228 = .ok (.ifCond .eq 25, 3) := by decide +kernel
theorem dX12_isOwn_231 : decode cX12_isOwn 231 = .ok (.aload_n 0, 1) := by decide +kernel
theorem dX12_isOwn_232 : decode cX12_isOwn 232 = .ok (.getfield 192, 3) := by decide +kernel
theorem dX12_isOwn_235 : decode cX12_isOwn 235 = .ok (.ldc2_w 257, 3) := by decide +kernel
theorem dX12_isOwn_238 : decode cX12_isOwn 238 = .ok (.lcmp, 1) := by decide +kernel
theorem dX12_isOwn_239 : decode cX12_isOwn 239 = .ok (.ifCond .eq 14, 3) := by decide +kernel
theorem dX12_isOwn_242 : decode cX12_isOwn 242 = .ok (.aload_n 0, 1) := by decide +kernel
theorem dX12_isOwn_243 : decode cX12_isOwn 243 = .ok (.getfield 192, 3) := by decide +kernel
theorem dX12_isOwn_246 : decode cX12_isOwn 246 = .ok (.ldc2_w 259, 3) := by decide +kernel
theorem dX12_isOwn_249 : decode cX12_isOwn 249 = .ok (.lcmp, 1) := by decide +kernel
theorem dX12_isOwn_250 : decode cX12_isOwn 250 = .ok (.ifCond .ne 7, 3) := by decide +kernel
theorem dX12_isOwn_253 : decode cX12_isOwn 253 = .ok (.iconst 1, 1) := by decide +kernel
theorem dX12_isOwn_254 : decode cX12_isOwn 254 = .ok (.goto 4, 3) := by decide +kernel
theorem dX12_isOwn_257 : decode cX12_isOwn 257 = .ok (.iconst 0, 1) := by decide +kernel
theorem dX12_isOwn_258 : decode cX12_isOwn 258 = .ok (.ireturn, 1) := by decide +kernel
theorem dX12_isName_0 : decode cX12_isName 0 = .ok (.aload_n 0, 1) := by decide +kernel
theorem dX12_isName_1 : decode cX12_isName 1 = .ok (.getfield 199, 3) := by decide +kernel
theorem dX12_isName_4 : decode cX12_isName 4 = .ok (.iconst 1, 1) := by decide +kernel
theorem dX12_isName_5 : decode cX12_isName 5 = .ok (.if_icmp .ne 14, 3) := by decide +kernel
theorem dX12_isName_8 : decode cX12_isName 8 = .ok (.aload_n 0, 1) := by decide +kernel
theorem dX12_isName_9 : decode cX12_isName 9 = .ok (.invokevirtual 261, 3) := by decide +kernel
theorem dX12_isName_12 : decode cX12_isName 12 = .ok (.ifCond .ne 7, 3) := by decide +kernel
theorem dX12_isName_15 : decode cX12_isName 15 = .ok (.iconst 1, 1) := by decide +kernel
theorem dX12_isName_16 : decode cX12_isName 16 = .ok (.goto 4, 3) := by decide +kernel
theorem dX12_isName_19 : decode cX12_isName 19 = .ok (.iconst 0, 1) := by decide +kernel
theorem dX12_isName_20 : decode cX12_isName 20 = .ok (.ireturn, 1) := by decide +kernel
theorem dX12_want_0 : decode cX12_want 0 = .ok (.aload_n 0, 1) := by decide +kernel
theorem dX12_want_1 : decode cX12_want 1 = .ok (.getfield 212, 3) := by decide +kernel
theorem dX12_want_4 : decode cX12_want 4 = .ok (.ifCond .le 4, 3) := by decide +kernel
theorem dX12_want_7 : decode cX12_want 7 = .ok (.return_, 1) := by decide +kernel
theorem dX12_want_8 : decode cX12_want 8 = .ok (.aload_n 0, 1) := by decide +kernel
theorem dX12_want_9 : decode cX12_want 9 = .ok (.lload_n 1, 1) := by decide +kernel
theorem dX12_want_10 : decode cX12_want 10 = .ok (.invokevirtual 265, 3) := by decide +kernel
theorem dX12_want_13 : decode cX12_want 13 = .ok (.ifCond .ne 11, 3) := by decide +kernel
theorem dX12_want_16 : decode cX12_want 16 = .ok (.aload_n 0, 1) := by decide +kernel
theorem dX12_want_17 : decode cX12_want 17 = .ok (.iconst 2, 1) := by decide +kernel
theorem dX12_want_18 : decode cX12_want 18 = .ok (.invokevirtual 269, 3) := by decide +kernel
theorem dX12_want_21 : decode cX12_want 21 = .ok (.goto 7, 3) := by decide +kernel
theorem dX12_want_24 : decode cX12_want 24 = .ok (.aload_n 0, 1) := by decide +kernel
theorem dX12_want_25 : decode cX12_want 25 = .ok (.invokevirtual 272, 3) := by decide +kernel
theorem dX12_want_28 : decode cX12_want 28 = .ok (.return_, 1) := by decide +kernel
theorem dX12_toldNumber_0 : decode cX12_toldNumber 0 = .ok (.aload_n 0, 1) := by decide +kernel
theorem dX12_toldNumber_1 : decode cX12_toldNumber 1 = .ok (.getfield 212, 3) := by decide +kernel
theorem dX12_toldNumber_4 : decode cX12_toldNumber 4 = .ok (.ifCond .le 5, 3) := by decide +kernel
theorem dX12_toldNumber_7 : decode cX12_toldNumber 7 = .ok (.iconst 0, 1) := by decide +kernel
theorem dX12_toldNumber_8 : decode cX12_toldNumber 8 = .ok (.ireturn, 1) := by decide +kernel
theorem dX12_toldNumber_9 : decode cX12_toldNumber 9 = .ok (.aload_n 0, 1) := by decide +kernel
theorem dX12_toldNumber_10 : decode cX12_toldNumber 10 = .ok (.getfield 199, 3) := by decide +kernel
theorem dX12_toldNumber_13 : decode cX12_toldNumber 13 = .ok (.iconst 2, 1) := by decide +kernel
theorem dX12_toldNumber_14 : decode cX12_toldNumber 14 = .ok (.if_icmp .eq 11, 3) := by decide +kernel
theorem dX12_toldNumber_17 : decode cX12_toldNumber 17 = .ok (.aload_n 0, 1) := by decide +kernel
theorem dX12_toldNumber_18 : decode cX12_toldNumber 18 = .ok (.iconst 2, 1) := by decide +kernel
theorem dX12_toldNumber_19 : decode cX12_toldNumber 19 = .ok (.invokevirtual 269, 3) := by decide +kernel
theorem dX12_toldNumber_22 : decode cX12_toldNumber 22 = .ok (.goto 24, 3) := by decide +kernel
theorem dX12_toldNumber_25 : decode cX12_toldNumber 25 = .ok (.aload_n 0, 1) := by decide +kernel
theorem dX12_toldNumber_26 : decode cX12_toldNumber 26 = .ok (.getfield 196, 3) := by decide +kernel
theorem dX12_toldNumber_29 : decode cX12_toldNumber 29 = .ok (.iload_n 1, 1) := by decide +kernel
theorem dX12_toldNumber_30 : decode cX12_toldNumber 30 = .ok (.if_icmp .lt 11, 3) := by decide +kernel
theorem dX12_toldNumber_33 : decode cX12_toldNumber 33 = .ok (.aload_n 0, 1) := by decide +kernel
theorem dX12_toldNumber_34 : decode cX12_toldNumber 34 = .ok (.getfield 196, 3) := by decide +kernel
theorem dX12_toldNumber_37 : decode cX12_toldNumber 37 = .ok (.iload_n 2, 1) := by decide +kernel
theorem dX12_toldNumber_38 : decode cX12_toldNumber 38 = .ok (.if_icmp .le 8, 3) := by decide +kernel
theorem dX12_toldNumber_41 : decode cX12_toldNumber 41 = .ok (.aload_n 0, 1) := by decide +kernel
theorem dX12_toldNumber_42 : decode cX12_toldNumber 42 = .ok (.iconst 4, 1) := by decide +kernel
theorem dX12_toldNumber_43 : decode cX12_toldNumber 43 = .ok (.invokevirtual 269, 3) := by decide +kernel
theorem dX12_toldNumber_46 : decode cX12_toldNumber 46 = .ok (.aload_n 0, 1) := by decide +kernel
theorem dX12_toldNumber_47 : decode cX12_toldNumber 47 = .ok (.getfield 196, 3) := by decide +kernel
theorem dX12_toldNumber_50 : decode cX12_toldNumber 50 = .ok (.istore_n 3, 1) := by decide +kernel
theorem dX12_toldNumber_51 : decode cX12_toldNumber 51 = .ok (.aload_n 0, 1) := by decide +kernel
theorem dX12_toldNumber_52 : decode cX12_toldNumber 52 = .ok (.getfield 212, 3) := by decide +kernel
theorem dX12_toldNumber_55 : decode cX12_toldNumber 55 = .ok (.ifCond .ne 7, 3) := by decide +kernel
theorem dX12_toldNumber_58 : decode cX12_toldNumber 58 = .ok (.aload_n 0, 1) := by decide +kernel
theorem dX12_toldNumber_59 : decode cX12_toldNumber 59 = .ok (.invokevirtual 272, 3) := by decide +kernel
theorem dX12_toldNumber_62 : decode cX12_toldNumber 62 = .ok (.iload_n 3, 1) := by decide +kernel
theorem dX12_toldNumber_63 : decode cX12_toldNumber 63 = .ok (.ireturn, 1) := by decide +kernel
theorem dX12_told_0 : decode cX12_told 0 = .ok (.aload_n 0, 1) := by decide +kernel
theorem dX12_told_1 : decode cX12_told 1 = .ok (.lload_n 1, 1) := by decide +kernel
theorem dX12_told_2 : decode cX12_told 2 = .ok (.invokevirtual 275, 3) := by decide +kernel
theorem dX12_told_5 : decode cX12_told 5 = .ok (.aload_n 0, 1) := by decide +kernel
theorem dX12_told_6 : decode cX12_told 6 = .ok (.iload_n 3, 1) := by decide +kernel
theorem dX12_told_7 : decode cX12_told 7 = .ok (.iload 4, 2) := by decide +kernel
theorem dX12_told_9 : decode cX12_told 9 = .ok (.invokevirtual 279, 3) := by decide +kernel
theorem dX12_told_12 : decode cX12_told 12 = .ok (.ireturn, 1) := by decide +kernel
theorem dX12_option_0 : decode cX12_option 0 = .ok (.aload_n 0, 1) := by decide +kernel
theorem dX12_option_1 : decode cX12_option 1 = .ok (.getfield 212, 3) := by decide +kernel
theorem dX12_option_4 : decode cX12_option 4 = .ok (.ifCond .ne 21, 3) := by decide +kernel
theorem dX12_option_7 : decode cX12_option 7 = .ok (.aload_n 0, 1) := by decide +kernel
theorem dX12_option_8 : decode cX12_option 8 = .ok (.lload_n 1, 1) := by decide +kernel
theorem dX12_option_9 : decode cX12_option 9 = .ok (.invokevirtual 265, 3) := by decide +kernel
theorem dX12_option_12 : decode cX12_option 12 = .ok (.ifCond .eq 13, 3) := by decide +kernel
theorem dX12_option_15 : decode cX12_option 15 = .ok (.aload_n 0, 1) := by decide +kernel
theorem dX12_option_16 : decode cX12_option 16 = .ok (.lload_n 1, 1) := by decide +kernel
theorem dX12_option_17 : decode cX12_option 17 = .ok (.iconst 0, 1) := by decide +kernel
theorem dX12_option_18 : decode cX12_option 18 = .ok (.iload_n 3, 1) := by decide +kernel
theorem dX12_option_19 : decode cX12_option 19 = .ok (.invokevirtual 283, 3) := by decide +kernel
theorem dX12_option_22 : decode cX12_option 22 = .ok (.goto 4, 3) := by decide +kernel
theorem dX12_option_25 : decode cX12_option 25 = .ok (.iconst 0, 1) := by decide +kernel
theorem dX12_option_26 : decode cX12_option 26 = .ok (.ireturn, 1) := by decide +kernel
theorem dX12_find_0 : decode cX12_find 0 = .ok (.iconst (-1), 1) := by decide +kernel
theorem dX12_find_1 : decode cX12_find 1 = .ok (.istore_n 1, 1) := by decide +kernel
theorem dX12_find_2 : decode cX12_find 2 = .ok (.iconst 0, 1) := by decide +kernel
theorem dX12_find_3 : decode cX12_find 3 = .ok (.istore_n 2, 1) := by decide +kernel
theorem dX12_find_4 : decode cX12_find 4 = .ok (.iload_n 2, 1) := by decide +kernel
theorem dX12_find_5 : decode cX12_find 5 = .ok (.aload_n 0, 1) := by decide +kernel
theorem dX12_find_6 : decode cX12_find 6 = .ok (.getfield 287, 3) := by decide +kernel
theorem dX12_find_9 : decode cX12_find 9 = .ok (.if_icmp .ge 29, 3) := by decide +kernel
theorem dX12_find_12 : decode cX12_find 12 = .ok (.aload_n 0, 1) := by decide +kernel
theorem dX12_find_13 : decode cX12_find 13 = .ok (.getfield 17, 3) := by decide +kernel
theorem dX12_find_16 : decode cX12_find 16 = .ok (.iload_n 2, 1) := by decide +kernel
theorem dX12_find_17 : decode cX12_find 17 = .ok (.laload, 1) := by decide +kernel
theorem dX12_find_18 : decode cX12_find 18 = .ok (.aload_n 0, 1) := by decide +kernel
theorem dX12_find_19 : decode cX12_find 19 = .ok (.getfield 192, 3) := by decide +kernel
theorem dX12_find_22 : decode cX12_find 22 = .ok (.lcmp, 1) := by decide +kernel
theorem dX12_find_23 : decode cX12_find 23 = .ok (.ifCond .ne 7, 3) := by decide +kernel
theorem dX12_find_26 : decode cX12_find 26 = .ok (.iload_n 2, 1) := by decide +kernel
theorem dX12_find_27 : decode cX12_find 27 = .ok (.goto 4, 3) := by decide +kernel
theorem dX12_find_30 : decode cX12_find 30 = .ok (.iload_n 1, 1) := by decide +kernel
theorem dX12_find_31 : decode cX12_find 31 = .ok (.istore_n 1, 1) := by decide +kernel
theorem dX12_find_32 : decode cX12_find 32 = .ok (.iinc 2 1, 3) := by decide +kernel
theorem dX12_find_35 : decode cX12_find 35 = .ok (.goto (-31), 3) := by decide +kernel
theorem dX12_find_38 : decode cX12_find 38 = .ok (.iload_n 1, 1) := by decide +kernel
theorem dX12_find_39 : decode cX12_find 39 = .ok (.ireturn, 1) := by decide +kernel
theorem dX12_add_0 : decode cX12_add 0 = .ok (.aload_n 0, 1) := by decide +kernel
theorem dX12_add_1 : decode cX12_add 1 = .ok (.getfield 21, 3) := by decide +kernel
theorem dX12_add_4 : decode cX12_add 4 = .ok (.sipush 320, 3) := by decide +kernel
theorem dX12_add_7 : decode cX12_add 7 = .ok (.aload_n 0, 1) := by decide +kernel
theorem dX12_add_8 : decode cX12_add 8 = .ok (.getfield 290, 3) := by decide +kernel
theorem dX12_add_11 : decode cX12_add 11 = .ok (.imul, 1) := by decide +kernel
theorem dX12_add_12 : decode cX12_add 12 = .ok (.aload_n 0, 1) := by decide +kernel
theorem dX12_add_13 : decode cX12_add 13 = .ok (.getfield 27, 3) := by decide +kernel
theorem dX12_add_16 : decode cX12_add 16 = .ok (.aload_n 0, 1) := by decide +kernel
theorem dX12_add_17 : decode cX12_add 17 = .ok (.getfield 290, 3) := by decide +kernel
theorem dX12_add_20 : decode cX12_add 20 = .ok (.iaload, 1) := by decide +kernel
theorem dX12_add_21 : decode cX12_add 21 = .ok (.iadd, 1) := by decide +kernel
theorem dX12_add_22 : decode cX12_add 22 = .ok (.iload_n 1, 1) := by decide +kernel
theorem dX12_add_23 : decode cX12_add 23 = .ok (.iastore, 1) := by decide +kernel
theorem dX12_add_24 : decode cX12_add 24 = .ok (.aload_n 0, 1) := by decide +kernel
theorem dX12_add_25 : decode cX12_add 25 = .ok (.getfield 24, 3) := by decide +kernel
theorem dX12_add_28 : decode cX12_add 28 = .ok (.sipush 320, 3) := by decide +kernel
theorem dX12_add_31 : decode cX12_add 31 = .ok (.aload_n 0, 1) := by decide +kernel
theorem dX12_add_32 : decode cX12_add 32 = .ok (.getfield 290, 3) := by decide +kernel
theorem dX12_add_35 : decode cX12_add 35 = .ok (.imul, 1) := by decide +kernel
theorem dX12_add_36 : decode cX12_add 36 = .ok (.aload_n 0, 1) := by decide +kernel
theorem dX12_add_37 : decode cX12_add 37 = .ok (.getfield 27, 3) := by decide +kernel
theorem dX12_add_40 : decode cX12_add 40 = .ok (.aload_n 0, 1) := by decide +kernel
theorem dX12_add_41 : decode cX12_add 41 = .ok (.getfield 290, 3) := by decide +kernel
theorem dX12_add_44 : decode cX12_add 44 = .ok (.iaload, 1) := by decide +kernel
theorem dX12_add_45 : decode cX12_add 45 = .ok (.iadd, 1) := by decide +kernel
theorem dX12_add_46 : decode cX12_add 46 = .ok (.iload_n 2, 1) := by decide +kernel
theorem dX12_add_47 : decode cX12_add 47 = .ok (.iastore, 1) := by decide +kernel
theorem dX12_add_48 : decode cX12_add 48 = .ok (.aload_n 0, 1) := by decide +kernel
theorem dX12_add_49 : decode cX12_add 49 = .ok (.getfield 27, 3) := by decide +kernel
theorem dX12_add_52 : decode cX12_add 52 = .ok (.aload_n 0, 1) := by decide +kernel
theorem dX12_add_53 : decode cX12_add 53 = .ok (.getfield 290, 3) := by decide +kernel
theorem dX12_add_56 : decode cX12_add 56 = .ok (.dup2, 1) := by decide +kernel
theorem dX12_add_57 : decode cX12_add 57 = .ok (.iaload, 1) := by decide +kernel
theorem dX12_add_58 : decode cX12_add 58 = .ok (.iconst 1, 1) := by decide +kernel
theorem dX12_add_59 : decode cX12_add 59 = .ok (.iadd, 1) := by decide +kernel
theorem dX12_add_60 : decode cX12_add 60 = .ok (.iastore, 1) := by decide +kernel
theorem dX12_add_61 : decode cX12_add 61 = .ok (.return_, 1) := by decide +kernel
theorem dX12_tight_0 : decode cX12_tight 0 = .ok (.iload_n 0, 1) := by decide +kernel
theorem dX12_tight_1 : decode cX12_tight 1 = .ok (.lookupswitch 85 #[(21, 79), (38, 77), (43, 83), (45, 83), (60, 81), (61, 81), (62, 81), (124, 75)], 75) := by decide +kernel
theorem dX12_tight_76 : decode cX12_tight 76 = .ok (.iconst 1, 1) := by decide +kernel
theorem dX12_tight_77 : decode cX12_tight 77 = .ok (.ireturn, 1) := by decide +kernel
theorem dX12_tight_78 : decode cX12_tight 78 = .ok (.iconst 2, 1) := by decide +kernel
theorem dX12_tight_79 : decode cX12_tight 79 = .ok (.ireturn, 1) := by decide +kernel
theorem dX12_tight_80 : decode cX12_tight 80 = .ok (.iconst 3, 1) := by decide +kernel
theorem dX12_tight_81 : decode cX12_tight 81 = .ok (.ireturn, 1) := by decide +kernel
theorem dX12_tight_82 : decode cX12_tight 82 = .ok (.iconst 4, 1) := by decide +kernel
theorem dX12_tight_83 : decode cX12_tight 83 = .ok (.ireturn, 1) := by decide +kernel
theorem dX12_tight_84 : decode cX12_tight 84 = .ok (.iconst 5, 1) := by decide +kernel
theorem dX12_tight_85 : decode cX12_tight 85 = .ok (.ireturn, 1) := by decide +kernel
theorem dX12_tight_86 : decode cX12_tight 86 = .ok (.bipush 6, 2) := by decide +kernel
theorem dX12_tight_88 : decode cX12_tight 88 = .ok (.ireturn, 1) := by decide +kernel
theorem dX12_close_0 : decode cX12_close 0 = .ok (.aload_n 0, 1) := by decide +kernel
theorem dX12_close_1 : decode cX12_close 1 = .ok (.getfield 293, 3) := by decide +kernel
theorem dX12_close_4 : decode cX12_close 4 = .ok (.ifCond .le 97, 3) := by decide +kernel
theorem dX12_close_7 : decode cX12_close 7 = .ok (.aload_n 0, 1) := by decide +kernel
theorem dX12_close_8 : decode cX12_close 8 = .ok (.getfield 39, 3) := by decide +kernel
theorem dX12_close_11 : decode cX12_close 11 = .ok (.aload_n 0, 1) := by decide +kernel
theorem dX12_close_12 : decode cX12_close 12 = .ok (.getfield 293, 3) := by decide +kernel
theorem dX12_close_15 : decode cX12_close 15 = .ok (.iconst 1, 1) := by decide +kernel
theorem dX12_close_16 : decode cX12_close 16 = .ok (.isub, 1) := by decide +kernel
theorem dX12_close_17 : decode cX12_close 17 = .ok (.iaload, 1) := by decide +kernel
theorem dX12_close_18 : decode cX12_close 18 = .ok (.bipush 20, 2) := by decide +kernel
theorem dX12_close_20 : decode cX12_close 20 = .ok (.if_icmp .eq 81, 3) := by decide +kernel
theorem dX12_close_23 : decode cX12_close 23 = .ok (.aload_n 0, 1) := by decide +kernel
theorem dX12_close_24 : decode cX12_close 24 = .ok (.getfield 39, 3) := by decide +kernel
theorem dX12_close_27 : decode cX12_close 27 = .ok (.aload_n 0, 1) := by decide +kernel
theorem dX12_close_28 : decode cX12_close 28 = .ok (.getfield 293, 3) := by decide +kernel
theorem dX12_close_31 : decode cX12_close 31 = .ok (.iconst 1, 1) := by decide +kernel
theorem dX12_close_32 : decode cX12_close 32 = .ok (.isub, 1) := by decide +kernel
theorem dX12_close_33 : decode cX12_close 33 = .ok (.iaload, 1) := by decide +kernel
theorem dX12_close_34 : decode cX12_close 34 = .ok (.invokestatic 296, 3) := by decide +kernel
theorem dX12_close_37 : decode cX12_close 37 = .ok (.iload_n 1, 1) := by decide +kernel
theorem dX12_close_38 : decode cX12_close 38 = .ok (.if_icmp .lt 63, 3) := by decide +kernel
theorem dX12_close_41 : decode cX12_close 41 = .ok (.aload_n 0, 1) := by decide +kernel
theorem dX12_close_42 : decode cX12_close 42 = .ok (.dup, 1) := by decide +kernel
theorem dX12_close_43 : decode cX12_close 43 = .ok (.getfield 293, 3) := by decide +kernel
theorem dX12_close_46 : decode cX12_close 46 = .ok (.iconst 1, 1) := by decide +kernel
theorem dX12_close_47 : decode cX12_close 47 = .ok (.isub, 1) := by decide +kernel
theorem dX12_close_48 : decode cX12_close 48 = .ok (.putfield 293, 3) := by decide +kernel
theorem dX12_close_51 : decode cX12_close 51 = .ok (.aload_n 0, 1) := by decide +kernel
theorem dX12_close_52 : decode cX12_close 52 = .ok (.getfield 39, 3) := by decide +kernel
theorem dX12_close_55 : decode cX12_close 55 = .ok (.aload_n 0, 1) := by decide +kernel
theorem dX12_close_56 : decode cX12_close 56 = .ok (.getfield 293, 3) := by decide +kernel
theorem dX12_close_59 : decode cX12_close 59 = .ok (.iaload, 1) := by decide +kernel
theorem dX12_close_60 : decode cX12_close 60 = .ok (.bipush 21, 2) := by decide +kernel
theorem dX12_close_62 : decode cX12_close 62 = .ok (.if_icmp .ne 22, 3) := by decide +kernel
theorem dX12_close_65 : decode cX12_close 65 = .ok (.aload_n 0, 1) := by decide +kernel
theorem dX12_close_66 : decode cX12_close 66 = .ok (.iconst 2, 1) := by decide +kernel
theorem dX12_close_67 : decode cX12_close 67 = .ok (.iconst 0, 1) := by decide +kernel
theorem dX12_close_68 : decode cX12_close 68 = .ok (.invokevirtual 299, 3) := by decide +kernel
theorem dX12_close_71 : decode cX12_close 71 = .ok (.aload_n 0, 1) := by decide +kernel
theorem dX12_close_72 : decode cX12_close 72 = .ok (.dup, 1) := by decide +kernel
theorem dX12_close_73 : decode cX12_close 73 = .ok (.getfield 303, 3) := by decide +kernel
theorem dX12_close_76 : decode cX12_close 76 = .ok (.iconst 1, 1) := by decide +kernel
theorem dX12_close_77 : decode cX12_close 77 = .ok (.isub, 1) := by decide +kernel
theorem dX12_close_78 : decode cX12_close 78 = .ok (.putfield 303, 3) := by decide +kernel
theorem dX12_close_81 : decode cX12_close 81 = .ok (.goto (-81), 3) := by decide +kernel
theorem dX12_close_84 : decode cX12_close 84 = .ok (.aload_n 0, 1) := by decide +kernel
theorem dX12_close_85 : decode cX12_close 85 = .ok (.iconst 3, 1) := by decide +kernel
theorem dX12_close_86 : decode cX12_close 86 = .ok (.aload_n 0, 1) := by decide +kernel
theorem dX12_close_87 : decode cX12_close 87 = .ok (.getfield 39, 3) := by decide +kernel
theorem dX12_close_90 : decode cX12_close 90 = .ok (.aload_n 0, 1) := by decide +kernel
theorem dX12_close_91 : decode cX12_close 91 = .ok (.getfield 293, 3) := by decide +kernel
theorem dX12_close_94 : decode cX12_close 94 = .ok (.iaload, 1) := by decide +kernel
theorem dX12_close_95 : decode cX12_close 95 = .ok (.invokevirtual 299, 3) := by decide +kernel
theorem dX12_close_98 : decode cX12_close 98 = .ok (.goto (-98), 3) := by decide +kernel
theorem dX12_close_101 : decode cX12_close 101 = .ok (.return_, 1) := by decide +kernel
theorem dX12_hasRelation_0 : decode cX12_hasRelation 0 = .ok (.aload_n 0, 1) := by decide +kernel
theorem dX12_hasRelation_1 : decode cX12_hasRelation 1 = .ok (.getfield 293, 3) := by decide +kernel
theorem dX12_hasRelation_4 : decode cX12_hasRelation 4 = .ok (.iconst 1, 1) := by decide +kernel
theorem dX12_hasRelation_5 : decode cX12_hasRelation 5 = .ok (.isub, 1) := by decide +kernel
theorem dX12_hasRelation_6 : decode cX12_hasRelation 6 = .ok (.istore_n 1, 1) := by decide +kernel
theorem dX12_hasRelation_7 : decode cX12_hasRelation 7 = .ok (.iload_n 1, 1) := by decide +kernel
theorem dX12_hasRelation_8 : decode cX12_hasRelation 8 = .ok (.ifCond .lt 33, 3) := by decide +kernel
theorem dX12_hasRelation_11 : decode cX12_hasRelation 11 = .ok (.aload_n 0, 1) := by decide +kernel
theorem dX12_hasRelation_12 : decode cX12_hasRelation 12 = .ok (.getfield 39, 3) := by decide +kernel
theorem dX12_hasRelation_15 : decode cX12_hasRelation 15 = .ok (.iload_n 1, 1) := by decide +kernel
theorem dX12_hasRelation_16 : decode cX12_hasRelation 16 = .ok (.iaload, 1) := by decide +kernel
theorem dX12_hasRelation_17 : decode cX12_hasRelation 17 = .ok (.bipush 20, 2) := by decide +kernel
theorem dX12_hasRelation_19 : decode cX12_hasRelation 19 = .ok (.if_icmp .eq 22, 3) := by decide +kernel
theorem dX12_hasRelation_22 : decode cX12_hasRelation 22 = .ok (.aload_n 0, 1) := by decide +kernel
theorem dX12_hasRelation_23 : decode cX12_hasRelation 23 = .ok (.getfield 39, 3) := by decide +kernel
theorem dX12_hasRelation_26 : decode cX12_hasRelation 26 = .ok (.iload_n 1, 1) := by decide +kernel
theorem dX12_hasRelation_27 : decode cX12_hasRelation 27 = .ok (.iaload, 1) := by decide +kernel
theorem dX12_hasRelation_28 : decode cX12_hasRelation 28 = .ok (.invokestatic 296, 3) := by decide +kernel
theorem dX12_hasRelation_31 : decode cX12_hasRelation 31 = .ok (.iconst 4, 1) := by decide +kernel
theorem dX12_hasRelation_32 : decode cX12_hasRelation 32 = .ok (.if_icmp .le 9, 3) := by decide +kernel
theorem dX12_hasRelation_35 : decode cX12_hasRelation 35 = .ok (.iinc 1 (-1), 3) := by decide +kernel
theorem dX12_hasRelation_38 : decode cX12_hasRelation 38 = .ok (.goto (-31), 3) := by decide +kernel
theorem dX12_hasRelation_41 : decode cX12_hasRelation 41 = .ok (.iload_n 1, 1) := by decide +kernel
theorem dX12_hasRelation_42 : decode cX12_hasRelation 42 = .ok (.ifCond .lt 31, 3) := by decide +kernel
theorem dX12_hasRelation_45 : decode cX12_hasRelation 45 = .ok (.aload_n 0, 1) := by decide +kernel
theorem dX12_hasRelation_46 : decode cX12_hasRelation 46 = .ok (.getfield 39, 3) := by decide +kernel
theorem dX12_hasRelation_49 : decode cX12_hasRelation 49 = .ok (.iload_n 1, 1) := by decide +kernel
theorem dX12_hasRelation_50 : decode cX12_hasRelation 50 = .ok (.iaload, 1) := by decide +kernel
theorem dX12_hasRelation_51 : decode cX12_hasRelation 51 = .ok (.bipush 20, 2) := by decide +kernel
theorem dX12_hasRelation_53 : decode cX12_hasRelation 53 = .ok (.if_icmp .eq 20, 3) := by decide +kernel
theorem dX12_hasRelation_56 : decode cX12_hasRelation 56 = .ok (.aload_n 0, 1) := by decide +kernel
theorem dX12_hasRelation_57 : decode cX12_hasRelation 57 = .ok (.getfield 39, 3) := by decide +kernel
theorem dX12_hasRelation_60 : decode cX12_hasRelation 60 = .ok (.iload_n 1, 1) := by decide +kernel
theorem dX12_hasRelation_61 : decode cX12_hasRelation 61 = .ok (.iaload, 1) := by decide +kernel
theorem dX12_hasRelation_62 : decode cX12_hasRelation 62 = .ok (.invokestatic 296, 3) := by decide +kernel
theorem dX12_hasRelation_65 : decode cX12_hasRelation 65 = .ok (.iconst 4, 1) := by decide +kernel
theorem dX12_hasRelation_66 : decode cX12_hasRelation 66 = .ok (.if_icmp .ne 7, 3) := by decide +kernel
theorem dX12_hasRelation_69 : decode cX12_hasRelation 69 = .ok (.iconst 1, 1) := by decide +kernel
theorem dX12_hasRelation_70 : decode cX12_hasRelation 70 = .ok (.goto 4, 3) := by decide +kernel
theorem dX12_hasRelation_73 : decode cX12_hasRelation 73 = .ok (.iconst 0, 1) := by decide +kernel
theorem dX12_hasRelation_74 : decode cX12_hasRelation 74 = .ok (.ireturn, 1) := by decide +kernel
theorem dX12_mayNot_0 : decode cX12_mayNot 0 = .ok (.aload_n 0, 1) := by decide +kernel
theorem dX12_mayNot_1 : decode cX12_mayNot 1 = .ok (.getfield 293, 3) := by decide +kernel
theorem dX12_mayNot_4 : decode cX12_mayNot 4 = .ok (.ifCond .eq 37, 3) := by decide +kernel
theorem dX12_mayNot_7 : decode cX12_mayNot 7 = .ok (.aload_n 0, 1) := by decide +kernel
theorem dX12_mayNot_8 : decode cX12_mayNot 8 = .ok (.getfield 39, 3) := by decide +kernel
theorem dX12_mayNot_11 : decode cX12_mayNot 11 = .ok (.aload_n 0, 1) := by decide +kernel
theorem dX12_mayNot_12 : decode cX12_mayNot 12 = .ok (.getfield 293, 3) := by decide +kernel
theorem dX12_mayNot_15 : decode cX12_mayNot 15 = .ok (.iconst 1, 1) := by decide +kernel
theorem dX12_mayNot_16 : decode cX12_mayNot 16 = .ok (.isub, 1) := by decide +kernel
theorem dX12_mayNot_17 : decode cX12_mayNot 17 = .ok (.iaload, 1) := by decide +kernel
theorem dX12_mayNot_18 : decode cX12_mayNot 18 = .ok (.bipush 20, 2) := by decide +kernel
theorem dX12_mayNot_20 : decode cX12_mayNot 20 = .ok (.if_icmp .eq 21, 3) := by decide +kernel
theorem dX12_mayNot_23 : decode cX12_mayNot 23 = .ok (.aload_n 0, 1) := by decide +kernel
theorem dX12_mayNot_24 : decode cX12_mayNot 24 = .ok (.getfield 39, 3) := by decide +kernel
theorem dX12_mayNot_27 : decode cX12_mayNot 27 = .ok (.aload_n 0, 1) := by decide +kernel
theorem dX12_mayNot_28 : decode cX12_mayNot 28 = .ok (.getfield 293, 3) := by decide +kernel
theorem dX12_mayNot_31 : decode cX12_mayNot 31 = .ok (.iconst 1, 1) := by decide +kernel
theorem dX12_mayNot_32 : decode cX12_mayNot 32 = .ok (.isub, 1) := by decide +kernel
theorem dX12_mayNot_33 : decode cX12_mayNot 33 = .ok (.iaload, 1) := by decide +kernel
theorem dX12_mayNot_34 : decode cX12_mayNot 34 = .ok (.invokestatic 296, 3) := by decide +kernel
theorem dX12_mayNot_37 : decode cX12_mayNot 37 = .ok (.iconst 4, 1) := by decide +kernel
theorem dX12_mayNot_38 : decode cX12_mayNot 38 = .ok (.if_icmp .ge 7, 3) := by decide +kernel
theorem dX12_mayNot_41 : decode cX12_mayNot 41 = .ok (.iconst 1, 1) := by decide +kernel
theorem dX12_mayNot_42 : decode cX12_mayNot 42 = .ok (.goto 4, 3) := by decide +kernel
theorem dX12_mayNot_45 : decode cX12_mayNot 45 = .ok (.iconst 0, 1) := by decide +kernel
theorem dX12_mayNot_46 : decode cX12_mayNot 46 = .ok (.ireturn, 1) := by decide +kernel
theorem dX12_asked_0 : decode cX12_asked 0 = .ok (.aload_n 0, 1) := by decide +kernel
theorem dX12_asked_1 : decode cX12_asked 1 = .ok (.getfield 199, 3) := by decide +kernel
theorem dX12_asked_4 : decode cX12_asked 4 = .ok (.iconst 1, 1) := by decide +kernel
theorem dX12_asked_5 : decode cX12_asked 5 = .ok (.if_icmp .eq 5, 3) := by decide +kernel
theorem dX12_asked_8 : decode cX12_asked 8 = .ok (.iconst (-1), 1) := by decide +kernel
theorem dX12_asked_9 : decode cX12_asked 9 = .ok (.ireturn, 1) := by decide +kernel
theorem dX12_asked_10 : decode cX12_asked 10 = .ok (.aload_n 0, 1) := by decide +kernel
theorem dX12_asked_11 : decode cX12_asked 11 = .ok (.getfield 192, 3) := by decide +kernel
theorem dX12_asked_14 : decode cX12_asked 14 = .ok (.ldc2_w 241, 3) := by decide +kernel
theorem dX12_asked_17 : decode cX12_asked 17 = .ok (.lcmp, 1) := by decide +kernel
theorem dX12_asked_18 : decode cX12_asked 18 = .ok (.ifCond .ne 5, 3) := by decide +kernel
theorem dX12_asked_21 : decode cX12_asked 21 = .ok (.iconst 0, 1) := by decide +kernel
theorem dX12_asked_22 : decode cX12_asked 22 = .ok (.ireturn, 1) := by decide +kernel
theorem dX12_asked_23 : decode cX12_asked 23 = .ok (.aload_n 0, 1) := by decide +kernel
theorem dX12_asked_24 : decode cX12_asked 24 = .ok (.getfield 192, 3) := by decide +kernel
theorem dX12_asked_27 : decode cX12_asked 27 = .ok (.ldc2_w 243, 3) := by decide +kernel
theorem dX12_asked_30 : decode cX12_asked 30 = .ok (.lcmp, 1) := by decide +kernel
theorem dX12_asked_31 : decode cX12_asked 31 = .ok (.ifCond .ne 5, 3) := by decide +kernel
theorem dX12_asked_34 : decode cX12_asked 34 = .ok (.iconst 1, 1) := by decide +kernel
theorem dX12_asked_35 : decode cX12_asked 35 = .ok (.ireturn, 1) := by decide +kernel
theorem dX12_asked_36 : decode cX12_asked 36 = .ok (.aload_n 0, 1) := by decide +kernel
theorem dX12_asked_37 : decode cX12_asked 37 = .ok (.getfield 192, 3) := by decide +kernel
theorem dX12_asked_40 : decode cX12_asked 40 = .ok (.ldc2_w 245, 3) := by decide +kernel
theorem dX12_asked_43 : decode cX12_asked 43 = .ok (.lcmp, 1) := by decide +kernel
theorem dX12_asked_44 : decode cX12_asked 44 = .ok (.ifCond .ne 5, 3) := by decide +kernel
theorem dX12_asked_47 : decode cX12_asked 47 = .ok (.iconst 2, 1) := by decide +kernel
theorem dX12_asked_48 : decode cX12_asked 48 = .ok (.ireturn, 1) := by decide +kernel
theorem dX12_asked_49 : decode cX12_asked 49 = .ok (.aload_n 0, 1) := by decide +kernel
theorem dX12_asked_50 : decode cX12_asked 50 = .ok (.getfield 192, 3) := by decide +kernel
theorem dX12_asked_53 : decode cX12_asked 53 = .ok (.ldc2_w 247, 3) := by decide +kernel
theorem dX12_asked_56 : decode cX12_asked 56 = .ok (.lcmp, 1) := by decide +kernel
theorem dX12_asked_57 : decode cX12_asked 57 = .ok (.ifCond .ne 5, 3) := by decide +kernel
theorem dX12_asked_60 : decode cX12_asked 60 = .ok (.iconst 3, 1) := by decide +kernel
theorem dX12_asked_61 : decode cX12_asked 61 = .ok (.ireturn, 1) := by decide +kernel
theorem dX12_asked_62 : decode cX12_asked 62 = .ok (.aload_n 0, 1) := by decide +kernel
theorem dX12_asked_63 : decode cX12_asked 63 = .ok (.getfield 192, 3) := by decide +kernel
theorem dX12_asked_66 : decode cX12_asked 66 = .ok (.ldc2_w 249, 3) := by decide +kernel
theorem dX12_asked_69 : decode cX12_asked 69 = .ok (.lcmp, 1) := by decide +kernel
theorem dX12_asked_70 : decode cX12_asked 70 = .ok (.ifCond .ne 5, 3) := by decide +kernel
theorem dX12_asked_73 : decode cX12_asked 73 = .ok (.iconst 4, 1) := by decide +kernel
theorem dX12_asked_74 : decode cX12_asked 74 = .ok (.ireturn, 1) := by decide +kernel
theorem dX12_asked_75 : decode cX12_asked 75 = .ok (.aload_n 0, 1) := by decide +kernel
theorem dX12_asked_76 : decode cX12_asked 76 = .ok (.getfield 192, 3) := by decide +kernel
theorem dX12_asked_79 : decode cX12_asked 79 = .ok (.ldc2_w 251, 3) := by decide +kernel
theorem dX12_asked_82 : decode cX12_asked 82 = .ok (.lcmp, 1) := by decide +kernel
theorem dX12_asked_83 : decode cX12_asked 83 = .ok (.ifCond .ne 5, 3) := by decide +kernel
theorem dX12_asked_86 : decode cX12_asked 86 = .ok (.iconst 5, 1) := by decide +kernel
theorem dX12_asked_87 : decode cX12_asked 87 = .ok (.ireturn, 1) := by decide +kernel
theorem dX12_asked_88 : decode cX12_asked 88 = .ok (.aload_n 0, 1) := by decide +kernel
theorem dX12_asked_89 : decode cX12_asked 89 = .ok (.getfield 192, 3) := by decide +kernel
theorem dX12_asked_92 : decode cX12_asked 92 = .ok (.ldc2_w 253, 3) := by decide +kernel
theorem dX12_asked_95 : decode cX12_asked 95 = .ok (.lcmp, 1) := by decide +kernel
theorem dX12_asked_96 : decode cX12_asked 96 = .ok (.ifCond .ne 8, 3) := by decide +kernel
theorem dX12_asked_99 : decode cX12_asked 99 = .ok (.bipush 6, 2) := by decide +kernel
theorem dX12_asked_101 : decode cX12_asked 101 = .ok (.goto 4, 3) := by decide +kernel
theorem dX12_asked_104 : decode cX12_asked 104 = .ok (.iconst (-1), 1) := by decide +kernel
theorem dX12_asked_105 : decode cX12_asked 105 = .ok (.ireturn, 1) := by decide +kernel
theorem dX12_isFull_0 : decode cX12_isFull 0 = .ok (.aload_n 0, 1) := by decide +kernel
theorem dX12_isFull_1 : decode cX12_isFull 1 = .ok (.getfield 306, 3) := by decide +kernel
theorem dX12_isFull_4 : decode cX12_isFull 4 = .ok (.bipush 80, 2) := by decide +kernel
theorem dX12_isFull_6 : decode cX12_isFull 6 = .ok (.if_icmp .eq 12, 3) := by decide +kernel
theorem dX12_isFull_9 : decode cX12_isFull 9 = .ok (.aload_n 0, 1) := by decide +kernel
theorem dX12_isFull_10 : decode cX12_isFull 10 = .ok (.getfield 309, 3) := by decide +kernel
theorem dX12_isFull_13 : decode cX12_isFull 13 = .ok (.bipush 30, 2) := by decide +kernel
theorem dX12_isFull_15 : decode cX12_isFull 15 = .ok (.if_icmp .ne 7, 3) := by decide +kernel
theorem dX12_isFull_18 : decode cX12_isFull 18 = .ok (.iconst 1, 1) := by decide +kernel
theorem dX12_isFull_19 : decode cX12_isFull 19 = .ok (.goto 4, 3) := by decide +kernel
theorem dX12_isFull_22 : decode cX12_isFull 22 = .ok (.iconst 0, 1) := by decide +kernel
theorem dX12_isFull_23 : decode cX12_isFull 23 = .ok (.ireturn, 1) := by decide +kernel
theorem dX12_countUnit_0 : decode cX12_countUnit 0 = .ok (.aload_n 0, 1) := by decide +kernel
theorem dX12_countUnit_1 : decode cX12_countUnit 1 = .ok (.dup, 1) := by decide +kernel
theorem dX12_countUnit_2 : decode cX12_countUnit 2 = .ok (.getfield 306, 3) := by decide +kernel
theorem dX12_countUnit_5 : decode cX12_countUnit 5 = .ok (.iconst 1, 1) := by decide +kernel
theorem dX12_countUnit_6 : decode cX12_countUnit 6 = .ok (.iadd, 1) := by decide +kernel
theorem dX12_countUnit_7 : decode cX12_countUnit 7 = .ok (.putfield 306, 3) := by decide +kernel
theorem dX12_countUnit_10 : decode cX12_countUnit 10 = .ok (.aload_n 0, 1) := by decide +kernel
theorem dX12_countUnit_11 : decode cX12_countUnit 11 = .ok (.dup, 1) := by decide +kernel
theorem dX12_countUnit_12 : decode cX12_countUnit 12 = .ok (.getfield 309, 3) := by decide +kernel
theorem dX12_countUnit_15 : decode cX12_countUnit 15 = .ok (.iconst 1, 1) := by decide +kernel
theorem dX12_countUnit_16 : decode cX12_countUnit 16 = .ok (.iadd, 1) := by decide +kernel
theorem dX12_countUnit_17 : decode cX12_countUnit 17 = .ok (.putfield 309, 3) := by decide +kernel
theorem dX12_countUnit_20 : decode cX12_countUnit 20 = .ok (.return_, 1) := by decide +kernel
theorem dX12_openUp_0 : decode cX12_openUp 0 = .ok (.aload_n 0, 1) := by decide +kernel
theorem dX12_openUp_1 : decode cX12_openUp 1 = .ok (.getfield 39, 3) := by decide +kernel
theorem dX12_openUp_4 : decode cX12_openUp 4 = .ok (.aload_n 0, 1) := by decide +kernel
theorem dX12_openUp_5 : decode cX12_openUp 5 = .ok (.getfield 293, 3) := by decide +kernel
theorem dX12_openUp_8 : decode cX12_openUp 8 = .ok (.iload_n 1, 1) := by decide +kernel
theorem dX12_openUp_9 : decode cX12_openUp 9 = .ok (.iastore, 1) := by decide +kernel
theorem dX12_openUp_10 : decode cX12_openUp 10 = .ok (.aload_n 0, 1) := by decide +kernel
theorem dX12_openUp_11 : decode cX12_openUp 11 = .ok (.dup, 1) := by decide +kernel
theorem dX12_openUp_12 : decode cX12_openUp 12 = .ok (.getfield 293, 3) := by decide +kernel
theorem dX12_openUp_15 : decode cX12_openUp 15 = .ok (.iconst 1, 1) := by decide +kernel
theorem dX12_openUp_16 : decode cX12_openUp 16 = .ok (.iadd, 1) := by decide +kernel
theorem dX12_openUp_17 : decode cX12_openUp 17 = .ok (.putfield 293, 3) := by decide +kernel
theorem dX12_openUp_20 : decode cX12_openUp 20 = .ok (.aload_n 0, 1) := by decide +kernel
theorem dX12_openUp_21 : decode cX12_openUp 21 = .ok (.dup, 1) := by decide +kernel
theorem dX12_openUp_22 : decode cX12_openUp 22 = .ok (.getfield 303, 3) := by decide +kernel
theorem dX12_openUp_25 : decode cX12_openUp 25 = .ok (.iconst 1, 1) := by decide +kernel
theorem dX12_openUp_26 : decode cX12_openUp 26 = .ok (.iadd, 1) := by decide +kernel
theorem dX12_openUp_27 : decode cX12_openUp 27 = .ok (.putfield 303, 3) := by decide +kernel
theorem dX12_openUp_30 : decode cX12_openUp 30 = .ok (.aload_n 0, 1) := by decide +kernel
theorem dX12_openUp_31 : decode cX12_openUp 31 = .ok (.getfield 212, 3) := by decide +kernel
theorem dX12_openUp_34 : decode cX12_openUp 34 = .ok (.ifCond .ne 7, 3) := by decide +kernel
theorem dX12_openUp_37 : decode cX12_openUp 37 = .ok (.aload_n 0, 1) := by decide +kernel
theorem dX12_openUp_38 : decode cX12_openUp 38 = .ok (.invokevirtual 272, 3) := by decide +kernel
theorem dX12_openUp_41 : decode cX12_openUp 41 = .ok (.return_, 1) := by decide +kernel
theorem dX12_unit_0 : decode cX12_unit 0 = .ok (.iconst 1, 1) := by decide +kernel
theorem dX12_unit_1 : decode cX12_unit 1 = .ok (.istore_n 1, 1) := by decide +kernel
theorem dX12_unit_2 : decode cX12_unit 2 = .ok (.iload_n 1, 1) := by decide +kernel
theorem dX12_unit_3 : decode cX12_unit 3 = .ok (.ifCond .eq 98, 3) := by decide +kernel
theorem dX12_unit_6 : decode cX12_unit 6 = .ok (.aload_n 0, 1) := by decide +kernel
theorem dX12_unit_7 : decode cX12_unit 7 = .ok (.getfield 212, 3) := by decide +kernel
theorem dX12_unit_10 : decode cX12_unit 10 = .ok (.ifCond .ne 91, 3) := by decide +kernel
theorem dX12_unit_13 : decode cX12_unit 13 = .ok (.aload_n 0, 1) := by decide +kernel
theorem dX12_unit_14 : decode cX12_unit 14 = .ok (.ldc2_w 259, 3) := by decide +kernel
theorem dX12_unit_17 : decode cX12_unit 17 = .ok (.invokevirtual 265, 3) := by decide +kernel
theorem dX12_unit_20 : decode cX12_unit 20 = .ok (.ifCond .eq 33, 3) := by decide +kernel
theorem dX12_unit_23 : decode cX12_unit 23 = .ok (.aload_n 0, 1) := by decide +kernel
theorem dX12_unit_24 : decode cX12_unit 24 = .ok (.invokevirtual 312, 3) := by decide +kernel
theorem dX12_unit_27 : decode cX12_unit 27 = .ok (.ifCond .eq 26, 3) := by decide +kernel
theorem dX12_unit_30 : decode cX12_unit 30 = .ok (.aload_n 0, 1) := by decide +kernel
theorem dX12_unit_31 : decode cX12_unit 31 = .ok (.getfield 303, 3) := by decide +kernel
theorem dX12_unit_34 : decode cX12_unit 34 = .ok (.bipush 6, 2) := by decide +kernel
theorem dX12_unit_36 : decode cX12_unit 36 = .ok (.if_icmp .le 8, 3) := by decide +kernel
theorem dX12_unit_39 : decode cX12_unit 39 = .ok (.aload_n 0, 1) := by decide +kernel
theorem dX12_unit_40 : decode cX12_unit 40 = .ok (.iconst 2, 1) := by decide +kernel
theorem dX12_unit_41 : decode cX12_unit 41 = .ok (.invokevirtual 269, 3) := by decide +kernel
theorem dX12_unit_44 : decode cX12_unit 44 = .ok (.aload_n 0, 1) := by decide +kernel
theorem dX12_unit_45 : decode cX12_unit 45 = .ok (.bipush 21, 2) := by decide +kernel
theorem dX12_unit_47 : decode cX12_unit 47 = .ok (.invokevirtual 315, 3) := by decide +kernel
theorem dX12_unit_50 : decode cX12_unit 50 = .ok (.goto (-48), 3) := by decide +kernel
theorem dX12_unit_53 : decode cX12_unit 53 = .ok (.aload_n 0, 1) := by decide +kernel
theorem dX12_unit_54 : decode cX12_unit 54 = .ok (.getfield 199, 3) := by decide +kernel
theorem dX12_unit_57 : decode cX12_unit 57 = .ok (.bipush 40, 2) := by decide +kernel
theorem dX12_unit_59 : decode cX12_unit 59 = .ok (.if_icmp .ne 37, 3) := by decide +kernel
theorem dX12_unit_62 : decode cX12_unit 62 = .ok (.aload_n 0, 1) := by decide +kernel
theorem dX12_unit_63 : decode cX12_unit 63 = .ok (.invokevirtual 318, 3) := by decide +kernel
theorem dX12_unit_66 : decode cX12_unit 66 = .ok (.ifCond .ne 12, 3) := by decide +kernel
theorem dX12_unit_69 : decode cX12_unit 69 = .ok (.aload_n 0, 1) := by decide +kernel
theorem dX12_unit_70 : decode cX12_unit 70 = .ok (.getfield 303, 3) := by decide +kernel
theorem dX12_unit_73 : decode cX12_unit 73 = .ok (.bipush 6, 2) := by decide +kernel
theorem dX12_unit_75 : decode cX12_unit 75 = .ok (.if_icmp .le 8, 3) := by decide +kernel
theorem dX12_unit_78 : decode cX12_unit 78 = .ok (.aload_n 0, 1) := by decide +kernel
theorem dX12_unit_79 : decode cX12_unit 79 = .ok (.iconst 2, 1) := by decide +kernel
theorem dX12_unit_80 : decode cX12_unit 80 = .ok (.invokevirtual 269, 3) := by decide +kernel
theorem dX12_unit_83 : decode cX12_unit 83 = .ok (.aload_n 0, 1) := by decide +kernel
theorem dX12_unit_84 : decode cX12_unit 84 = .ok (.invokevirtual 321, 3) := by decide +kernel
theorem dX12_unit_87 : decode cX12_unit 87 = .ok (.aload_n 0, 1) := by decide +kernel
theorem dX12_unit_88 : decode cX12_unit 88 = .ok (.bipush 20, 2) := by decide +kernel
theorem dX12_unit_90 : decode cX12_unit 90 = .ok (.invokevirtual 315, 3) := by decide +kernel
theorem dX12_unit_93 : decode cX12_unit 93 = .ok (.goto (-91), 3) := by decide +kernel
theorem dX12_unit_96 : decode cX12_unit 96 = .ok (.iconst 0, 1) := by decide +kernel
theorem dX12_unit_97 : decode cX12_unit 97 = .ok (.istore_n 1, 1) := by decide +kernel
theorem dX12_unit_98 : decode cX12_unit 98 = .ok (.goto (-96), 3) := by decide +kernel
theorem dX12_unit_101 : decode cX12_unit 101 = .ok (.aload_n 0, 1) := by decide +kernel
theorem dX12_unit_102 : decode cX12_unit 102 = .ok (.getfield 212, 3) := by decide +kernel
theorem dX12_unit_105 : decode cX12_unit 105 = .ok (.ifCond .le 4, 3) := by decide +kernel
theorem dX12_unit_108 : decode cX12_unit 108 = .ok (.return_, 1) := by decide +kernel
theorem dX12_unit_109 : decode cX12_unit 109 = .ok (.aload_n 0, 1) := by decide +kernel
theorem dX12_unit_110 : decode cX12_unit 110 = .ok (.invokevirtual 324, 3) := by decide +kernel
theorem dX12_unit_113 : decode cX12_unit 113 = .ok (.istore_n 2, 1) := by decide +kernel
theorem dX12_unit_114 : decode cX12_unit 114 = .ok (.aload_n 0, 1) := by decide +kernel
theorem dX12_unit_115 : decode cX12_unit 115 = .ok (.getfield 199, 3) := by decide +kernel
theorem dX12_unit_118 : decode cX12_unit 118 = .ok (.iconst 2, 1) := by decide +kernel
theorem dX12_unit_119 : decode cX12_unit 119 = .ok (.if_icmp .eq 7, 3) := by decide +kernel
theorem dX12_unit_122 : decode cX12_unit 122 = .ok (.iload_n 2, 1) := by decide +kernel
theorem dX12_unit_123 : decode cX12_unit 123 = .ok (.ifCond .lt 10, 3) := by decide +kernel
theorem dX12_unit_126 : decode cX12_unit 126 = .ok (.aload_n 0, 1) := by decide +kernel
theorem dX12_unit_127 : decode cX12_unit 127 = .ok (.invokevirtual 318, 3) := by decide +kernel
theorem dX12_unit_130 : decode cX12_unit 130 = .ok (.ifCond .eq 8, 3) := by decide +kernel
theorem dX12_unit_133 : decode cX12_unit 133 = .ok (.aload_n 0, 1) := by decide +kernel
theorem dX12_unit_134 : decode cX12_unit 134 = .ok (.iconst 2, 1) := by decide +kernel
theorem dX12_unit_135 : decode cX12_unit 135 = .ok (.invokevirtual 269, 3) := by decide +kernel
theorem dX12_unit_138 : decode cX12_unit 138 = .ok (.aload_n 0, 1) := by decide +kernel
theorem dX12_unit_139 : decode cX12_unit 139 = .ok (.getfield 212, 3) := by decide +kernel
theorem dX12_unit_142 : decode cX12_unit 142 = .ok (.ifCond .le 4, 3) := by decide +kernel
theorem dX12_unit_145 : decode cX12_unit 145 = .ok (.return_, 1) := by decide +kernel
theorem dX12_unit_146 : decode cX12_unit 146 = .ok (.aload_n 0, 1) := by decide +kernel
theorem dX12_unit_147 : decode cX12_unit 147 = .ok (.invokevirtual 321, 3) := by decide +kernel
theorem dX12_unit_150 : decode cX12_unit 150 = .ok (.aload_n 0, 1) := by decide +kernel
theorem dX12_unit_151 : decode cX12_unit 151 = .ok (.iload_n 2, 1) := by decide +kernel
theorem dX12_unit_152 : decode cX12_unit 152 = .ok (.ifCond .ge 7, 3) := by decide +kernel
theorem dX12_unit_155 : decode cX12_unit 155 = .ok (.iconst 0, 1) := by decide +kernel
theorem dX12_unit_156 : decode cX12_unit 156 = .ok (.goto 4, 3) := by decide +kernel
theorem dX12_unit_159 : decode cX12_unit 159 = .ok (.iconst 1, 1) := by decide +kernel
theorem dX12_unit_160 : decode cX12_unit 160 = .ok (.iload_n 2, 1) := by decide +kernel
theorem dX12_unit_161 : decode cX12_unit 161 = .ok (.ifCond .ge 10, 3) := by decide +kernel
theorem dX12_unit_164 : decode cX12_unit 164 = .ok (.aload_n 0, 1) := by decide +kernel
theorem dX12_unit_165 : decode cX12_unit 165 = .ok (.getfield 196, 3) := by decide +kernel
theorem dX12_unit_168 : decode cX12_unit 168 = .ok (.goto 4, 3) := by decide +kernel
theorem dX12_unit_171 : decode cX12_unit 171 = .ok (.iload_n 2, 1) := by decide +kernel
theorem dX12_unit_172 : decode cX12_unit 172 = .ok (.invokevirtual 299, 3) := by decide +kernel
theorem dX12_unit_175 : decode cX12_unit 175 = .ok (.aload_n 0, 1) := by decide +kernel
theorem dX12_unit_176 : decode cX12_unit 176 = .ok (.invokevirtual 272, 3) := by decide +kernel
theorem dX12_unit_179 : decode cX12_unit 179 = .ok (.return_, 1) := by decide +kernel
theorem dX12_sign_0 : decode cX12_sign 0 = .ok (.aload_n 0, 1) := by decide +kernel
theorem dX12_sign_1 : decode cX12_sign 1 = .ok (.ldc2_w 255, 3) := by decide +kernel
theorem dX12_sign_4 : decode cX12_sign 4 = .ok (.invokevirtual 265, 3) := by decide +kernel
theorem dX12_sign_7 : decode cX12_sign 7 = .ok (.ifCond .eq 6, 3) := by decide +kernel
theorem dX12_sign_10 : decode cX12_sign 10 = .ok (.bipush 38, 2) := by decide +kernel
theorem dX12_sign_12 : decode cX12_sign 12 = .ok (.ireturn, 1) := by decide +kernel
theorem dX12_sign_13 : decode cX12_sign 13 = .ok (.aload_n 0, 1) := by decide +kernel
theorem dX12_sign_14 : decode cX12_sign 14 = .ok (.ldc2_w 257, 3) := by decide +kernel
theorem dX12_sign_17 : decode cX12_sign 17 = .ok (.invokevirtual 265, 3) := by decide +kernel
theorem dX12_sign_20 : decode cX12_sign 20 = .ok (.ifCond .eq 6, 3) := by decide +kernel
theorem dX12_sign_23 : decode cX12_sign 23 = .ok (.bipush 124, 2) := by decide +kernel
theorem dX12_sign_25 : decode cX12_sign 25 = .ok (.ireturn, 1) := by decide +kernel
theorem dX12_sign_26 : decode cX12_sign 26 = .ok (.aload_n 0, 1) := by decide +kernel
theorem dX12_sign_27 : decode cX12_sign 27 = .ok (.getfield 199, 3) := by decide +kernel
theorem dX12_sign_30 : decode cX12_sign 30 = .ok (.bipush 60, 2) := by decide +kernel
theorem dX12_sign_32 : decode cX12_sign 32 = .ok (.if_icmp .eq 66, 3) := by decide +kernel
theorem dX12_sign_35 : decode cX12_sign 35 = .ok (.aload_n 0, 1) := by decide +kernel
theorem dX12_sign_36 : decode cX12_sign 36 = .ok (.getfield 199, 3) := by decide +kernel
theorem dX12_sign_39 : decode cX12_sign 39 = .ok (.bipush 62, 2) := by decide +kernel
theorem dX12_sign_41 : decode cX12_sign 41 = .ok (.if_icmp .eq 57, 3) := by decide +kernel
theorem dX12_sign_44 : decode cX12_sign 44 = .ok (.aload_n 0, 1) := by decide +kernel
theorem dX12_sign_45 : decode cX12_sign 45 = .ok (.getfield 199, 3) := by decide +kernel
theorem dX12_sign_48 : decode cX12_sign 48 = .ok (.bipush 61, 2) := by decide +kernel
theorem dX12_sign_50 : decode cX12_sign 50 = .ok (.if_icmp .eq 48, 3) := by decide +kernel
theorem dX12_sign_53 : decode cX12_sign 53 = .ok (.aload_n 0, 1) := by decide +kernel
theorem dX12_sign_54 : decode cX12_sign 54 = .ok (.getfield 199, 3) := by decide +kernel
theorem dX12_sign_57 : decode cX12_sign 57 = .ok (.bipush 43, 2) := by decide +kernel
theorem dX12_sign_59 : decode cX12_sign 59 = .ok (.if_icmp .eq 39, 3) := by decide +kernel
theorem dX12_sign_62 : decode cX12_sign 62 = .ok (.aload_n 0, 1) := by decide +kernel
theorem dX12_sign_63 : decode cX12_sign 63 = .ok (.getfield 199, 3) := by decide +kernel
theorem dX12_sign_66 : decode cX12_sign 66 = .ok (.bipush 45, 2) := by decide +kernel
theorem dX12_sign_68 : decode cX12_sign 68 = .ok (.if_icmp .eq 30, 3) := by decide +kernel
theorem dX12_sign_71 : decode cX12_sign 71 = .ok (.aload_n 0, 1) := by decide +kernel
theorem dX12_sign_72 : decode cX12_sign 72 = .ok (.getfield 199, 3) := by decide +kernel
theorem dX12_sign_75 : decode cX12_sign 75 = .ok (.bipush 42, 2) := by decide +kernel
theorem dX12_sign_77 : decode cX12_sign 77 = .ok (.if_icmp .eq 21, 3) := by decide +kernel
theorem dX12_sign_80 : decode cX12_sign 80 = .ok (.aload_n 0, 1) := by decide +kernel
theorem dX12_sign_81 : decode cX12_sign 81 = .ok (.getfield 199, 3) := by decide +kernel
theorem dX12_sign_84 : decode cX12_sign 84 = .ok (.bipush 47, 2) := by decide +kernel
theorem dX12_sign_86 : decode cX12_sign 86 = .ok (.if_icmp .eq 12, 3) := by decide +kernel
theorem dX12_sign_89 : decode cX12_sign 89 = .ok (.aload_n 0, 1) := by decide +kernel
theorem dX12_sign_90 : decode cX12_sign 90 = .ok (.getfield 199, 3) := by decide +kernel
theorem dX12_sign_93 : decode cX12_sign 93 = .ok (.bipush 37, 2) := by decide +kernel
theorem dX12_sign_95 : decode cX12_sign 95 = .ok (.if_icmp .ne 10, 3) := by decide +kernel
theorem dX12_sign_98 : decode cX12_sign 98 = .ok (.aload_n 0, 1) := by decide +kernel
theorem dX12_sign_99 : decode cX12_sign 99 = .ok (.getfield 199, 3) := by decide +kernel
theorem dX12_sign_102 : decode cX12_sign 102 = .ok (.goto 4, 3) := by decide +kernel
theorem dX12_sign_105 : decode cX12_sign 105 = .ok (.iconst 0, 1) := by decide +kernel
theorem dX12_sign_106 : decode cX12_sign 106 = .ok (.ireturn, 1) := by decide +kernel
theorem dX12_hasBracket_0 : decode cX12_hasBracket 0 = .ok (.iconst 0, 1) := by decide +kernel
theorem dX12_hasBracket_1 : decode cX12_hasBracket 1 = .ok (.istore_n 1, 1) := by decide +kernel
theorem dX12_hasBracket_2 : decode cX12_hasBracket 2 = .ok (.iconst 0, 1) := by decide +kernel
theorem dX12_hasBracket_3 : decode cX12_hasBracket 3 = .ok (.istore_n 2, 1) := by decide +kernel
theorem dX12_hasBracket_4 : decode cX12_hasBracket 4 = .ok (.iload_n 2, 1) := by decide +kernel
theorem dX12_hasBracket_5 : decode cX12_hasBracket 5 = .ok (.aload_n 0, 1) := by decide +kernel
theorem dX12_hasBracket_6 : decode cX12_hasBracket 6 = .ok (.getfield 293, 3) := by decide +kernel
theorem dX12_hasBracket_9 : decode cX12_hasBracket 9 = .ok (.if_icmp .ge 30, 3) := by decide +kernel
theorem dX12_hasBracket_12 : decode cX12_hasBracket 12 = .ok (.iload_n 1, 1) := by decide +kernel
theorem dX12_hasBracket_13 : decode cX12_hasBracket 13 = .ok (.ifCond .ne 14, 3) := by decide +kernel
theorem dX12_hasBracket_16 : decode cX12_hasBracket 16 = .ok (.aload_n 0, 1) := by decide +kernel
theorem dX12_hasBracket_17 : decode cX12_hasBracket 17 = .ok (.getfield 39, 3) := by decide +kernel
theorem dX12_hasBracket_20 : decode cX12_hasBracket 20 = .ok (.iload_n 2, 1) := by decide +kernel
theorem dX12_hasBracket_21 : decode cX12_hasBracket 21 = .ok (.iaload, 1) := by decide +kernel
theorem dX12_hasBracket_22 : decode cX12_hasBracket 22 = .ok (.bipush 20, 2) := by decide +kernel
theorem dX12_hasBracket_24 : decode cX12_hasBracket 24 = .ok (.if_icmp .ne 7, 3) := by decide +kernel
theorem dX12_hasBracket_27 : decode cX12_hasBracket 27 = .ok (.iconst 1, 1) := by decide +kernel
theorem dX12_hasBracket_28 : decode cX12_hasBracket 28 = .ok (.goto 4, 3) := by decide +kernel
theorem dX12_hasBracket_31 : decode cX12_hasBracket 31 = .ok (.iconst 0, 1) := by decide +kernel
theorem dX12_hasBracket_32 : decode cX12_hasBracket 32 = .ok (.istore_n 1, 1) := by decide +kernel
theorem dX12_hasBracket_33 : decode cX12_hasBracket 33 = .ok (.iinc 2 1, 3) := by decide +kernel
theorem dX12_hasBracket_36 : decode cX12_hasBracket 36 = .ok (.goto (-32), 3) := by decide +kernel
theorem dX12_hasBracket_39 : decode cX12_hasBracket 39 = .ok (.iload_n 1, 1) := by decide +kernel
theorem dX12_hasBracket_40 : decode cX12_hasBracket 40 = .ok (.ireturn, 1) := by decide +kernel
theorem dX12_formula_0 : decode cX12_formula 0 = .ok (.aload_n 0, 1) := by decide +kernel
theorem dX12_formula_1 : decode cX12_formula 1 = .ok (.invokevirtual 272, 3) := by decide +kernel
theorem dX12_formula_4 : decode cX12_formula 4 = .ok (.aload_n 0, 1) := by decide +kernel
theorem dX12_formula_5 : decode cX12_formula 5 = .ok (.iload_n 1, 1) := by decide +kernel
theorem dX12_formula_6 : decode cX12_formula 6 = .ok (.putfield 290, 3) := by decide +kernel
theorem dX12_formula_9 : decode cX12_formula 9 = .ok (.aload_n 0, 1) := by decide +kernel
theorem dX12_formula_10 : decode cX12_formula 10 = .ok (.getfield 27, 3) := by decide +kernel
theorem dX12_formula_13 : decode cX12_formula 13 = .ok (.aload_n 0, 1) := by decide +kernel
theorem dX12_formula_14 : decode cX12_formula 14 = .ok (.getfield 290, 3) := by decide +kernel
theorem dX12_formula_17 : decode cX12_formula 17 = .ok (.iconst 0, 1) := by decide +kernel
theorem dX12_formula_18 : decode cX12_formula 18 = .ok (.iastore, 1) := by decide +kernel
theorem dX12_formula_19 : decode cX12_formula 19 = .ok (.aload_n 0, 1) := by decide +kernel
theorem dX12_formula_20 : decode cX12_formula 20 = .ok (.iconst 0, 1) := by decide +kernel
theorem dX12_formula_21 : decode cX12_formula 21 = .ok (.putfield 293, 3) := by decide +kernel
theorem dX12_formula_24 : decode cX12_formula 24 = .ok (.aload_n 0, 1) := by decide +kernel
theorem dX12_formula_25 : decode cX12_formula 25 = .ok (.iconst 0, 1) := by decide +kernel
theorem dX12_formula_26 : decode cX12_formula 26 = .ok (.putfield 303, 3) := by decide +kernel
theorem dX12_formula_29 : decode cX12_formula 29 = .ok (.aload_n 0, 1) := by decide +kernel
theorem dX12_formula_30 : decode cX12_formula 30 = .ok (.iconst 0, 1) := by decide +kernel
theorem dX12_formula_31 : decode cX12_formula 31 = .ok (.putfield 309, 3) := by decide +kernel
theorem dX12_formula_34 : decode cX12_formula 34 = .ok (.aload_n 0, 1) := by decide +kernel
theorem dX12_formula_35 : decode cX12_formula 35 = .ok (.invokevirtual 328, 3) := by decide +kernel
theorem dX12_formula_38 : decode cX12_formula 38 = .ok (.iconst 1, 1) := by decide +kernel
theorem dX12_formula_39 : decode cX12_formula 39 = .ok (.istore_n 2, 1) := by decide +kernel
theorem dX12_formula_40 : decode cX12_formula 40 = .ok (.iload_n 2, 1) := by decide +kernel
theorem dX12_formula_41 : decode cX12_formula 41 = .ok (.ifCond .eq 126, 3) := by decide +kernel
theorem dX12_formula_44 : decode cX12_formula 44 = .ok (.aload_n 0, 1) := by decide +kernel
theorem dX12_formula_45 : decode cX12_formula 45 = .ok (.getfield 212, 3) := by decide +kernel
theorem dX12_formula_48 : decode cX12_formula 48 = .ok (.ifCond .ne 119, 3) := by decide +kernel
theorem dX12_formula_51 : decode cX12_formula 51 = .ok (.aload_n 0, 1) := by decide +kernel
theorem dX12_formula_52 : decode cX12_formula 52 = .ok (.invokevirtual 331, 3) := by decide +kernel
theorem dX12_formula_55 : decode cX12_formula 55 = .ok (.istore_n 3, 1) := by decide +kernel
theorem dX12_formula_56 : decode cX12_formula 56 = .ok (.aload_n 0, 1) := by decide +kernel
theorem dX12_formula_57 : decode cX12_formula 57 = .ok (.getfield 199, 3) := by decide +kernel
theorem dX12_formula_60 : decode cX12_formula 60 = .ok (.bipush 41, 2) := by decide +kernel
theorem dX12_formula_62 : decode cX12_formula 62 = .ok (.if_icmp .ne 42, 3) := by decide +kernel
theorem dX12_formula_65 : decode cX12_formula 65 = .ok (.aload_n 0, 1) := by decide +kernel
theorem dX12_formula_66 : decode cX12_formula 66 = .ok (.invokevirtual 334, 3) := by decide +kernel
theorem dX12_formula_69 : decode cX12_formula 69 = .ok (.ifCond .eq 35, 3) := by decide +kernel
theorem dX12_formula_72 : decode cX12_formula 72 = .ok (.aload_n 0, 1) := by decide +kernel
theorem dX12_formula_73 : decode cX12_formula 73 = .ok (.iconst 0, 1) := by decide +kernel
theorem dX12_formula_74 : decode cX12_formula 74 = .ok (.invokevirtual 337, 3) := by decide +kernel
theorem dX12_formula_77 : decode cX12_formula 77 = .ok (.aload_n 0, 1) := by decide +kernel
theorem dX12_formula_78 : decode cX12_formula 78 = .ok (.dup, 1) := by decide +kernel
theorem dX12_formula_79 : decode cX12_formula 79 = .ok (.getfield 293, 3) := by decide +kernel
theorem dX12_formula_82 : decode cX12_formula 82 = .ok (.iconst 1, 1) := by decide +kernel
theorem dX12_formula_83 : decode cX12_formula 83 = .ok (.isub, 1) := by decide +kernel
theorem dX12_formula_84 : decode cX12_formula 84 = .ok (.putfield 293, 3) := by decide +kernel
theorem dX12_formula_87 : decode cX12_formula 87 = .ok (.aload_n 0, 1) := by decide +kernel
theorem dX12_formula_88 : decode cX12_formula 88 = .ok (.dup, 1) := by decide +kernel
theorem dX12_formula_89 : decode cX12_formula 89 = .ok (.getfield 303, 3) := by decide +kernel
theorem dX12_formula_92 : decode cX12_formula 92 = .ok (.iconst 1, 1) := by decide +kernel
theorem dX12_formula_93 : decode cX12_formula 93 = .ok (.isub, 1) := by decide +kernel
theorem dX12_formula_94 : decode cX12_formula 94 = .ok (.putfield 303, 3) := by decide +kernel
theorem dX12_formula_97 : decode cX12_formula 97 = .ok (.aload_n 0, 1) := by decide +kernel
theorem dX12_formula_98 : decode cX12_formula 98 = .ok (.invokevirtual 272, 3) := by decide +kernel
theorem dX12_formula_101 : decode cX12_formula 101 = .ok (.goto 63, 3) := by decide +kernel
theorem dX12_formula_104 : decode cX12_formula 104 = .ok (.iload_n 3, 1) := by decide +kernel
theorem dX12_formula_105 : decode cX12_formula 105 = .ok (.ifCond .eq 57, 3) := by decide +kernel
theorem dX12_formula_108 : decode cX12_formula 108 = .ok (.iload_n 3, 1) := by decide +kernel
theorem dX12_formula_109 : decode cX12_formula 109 = .ok (.invokestatic 296, 3) := by decide +kernel
theorem dX12_formula_112 : decode cX12_formula 112 = .ok (.iconst 4, 1) := by decide +kernel
theorem dX12_formula_113 : decode cX12_formula 113 = .ok (.if_icmp .ne 10, 3) := by decide +kernel
theorem dX12_formula_116 : decode cX12_formula 116 = .ok (.aload_n 0, 1) := by decide +kernel
theorem dX12_formula_117 : decode cX12_formula 117 = .ok (.invokevirtual 340, 3) := by decide +kernel
theorem dX12_formula_120 : decode cX12_formula 120 = .ok (.ifCond .ne 42, 3) := by decide +kernel
theorem dX12_formula_123 : decode cX12_formula 123 = .ok (.aload_n 0, 1) := by decide +kernel
theorem dX12_formula_124 : decode cX12_formula 124 = .ok (.iload_n 3, 1) := by decide +kernel
theorem dX12_formula_125 : decode cX12_formula 125 = .ok (.invokestatic 296, 3) := by decide +kernel
theorem dX12_formula_128 : decode cX12_formula 128 = .ok (.invokevirtual 337, 3) := by decide +kernel
theorem dX12_formula_131 : decode cX12_formula 131 = .ok (.aload_n 0, 1) := by decide +kernel
theorem dX12_formula_132 : decode cX12_formula 132 = .ok (.getfield 39, 3) := by decide +kernel
theorem dX12_formula_135 : decode cX12_formula 135 = .ok (.aload_n 0, 1) := by decide +kernel
theorem dX12_formula_136 : decode cX12_formula 136 = .ok (.getfield 293, 3) := by decide +kernel
theorem dX12_formula_139 : decode cX12_formula 139 = .ok (.iload_n 3, 1) := by decide +kernel
theorem dX12_formula_140 : decode cX12_formula 140 = .ok (.iastore, 1) := by decide +kernel
theorem dX12_formula_141 : decode cX12_formula 141 = .ok (.aload_n 0, 1) := by decide +kernel
theorem dX12_formula_142 : decode cX12_formula 142 = .ok (.dup, 1) := by decide +kernel
theorem dX12_formula_143 : decode cX12_formula 143 = .ok (.getfield 293, 3) := by decide +kernel
theorem dX12_formula_146 : decode cX12_formula 146 = .ok (.iconst 1, 1) := by decide +kernel
theorem dX12_formula_147 : decode cX12_formula 147 = .ok (.iadd, 1) := by decide +kernel
theorem dX12_formula_148 : decode cX12_formula 148 = .ok (.putfield 293, 3) := by decide +kernel
theorem dX12_formula_151 : decode cX12_formula 151 = .ok (.aload_n 0, 1) := by decide +kernel
theorem dX12_formula_152 : decode cX12_formula 152 = .ok (.invokevirtual 272, 3) := by decide +kernel
theorem dX12_formula_155 : decode cX12_formula 155 = .ok (.aload_n 0, 1) := by decide +kernel
theorem dX12_formula_156 : decode cX12_formula 156 = .ok (.invokevirtual 328, 3) := by decide +kernel
theorem dX12_formula_159 : decode cX12_formula 159 = .ok (.goto 5, 3) := by decide +kernel
theorem dX12_formula_162 : decode cX12_formula 162 = .ok (.iconst 0, 1) := by decide +kernel
theorem dX12_formula_163 : decode cX12_formula 163 = .ok (.istore_n 2, 1) := by decide +kernel
theorem dX12_formula_164 : decode cX12_formula 164 = .ok (.goto (-124), 3) := by decide +kernel
theorem dX12_formula_167 : decode cX12_formula 167 = .ok (.aload_n 0, 1) := by decide +kernel
theorem dX12_formula_168 : decode cX12_formula 168 = .ok (.getfield 212, 3) := by decide +kernel
theorem dX12_formula_171 : decode cX12_formula 171 = .ok (.ifCond .ne 15, 3) := by decide +kernel
theorem dX12_formula_174 : decode cX12_formula 174 = .ok (.aload_n 0, 1) := by decide +kernel
theorem dX12_formula_175 : decode cX12_formula 175 = .ok (.invokevirtual 334, 3) := by decide +kernel
theorem dX12_formula_178 : decode cX12_formula 178 = .ok (.ifCond .eq 8, 3) := by decide +kernel
theorem dX12_formula_181 : decode cX12_formula 181 = .ok (.aload_n 0, 1) := by decide +kernel
theorem dX12_formula_182 : decode cX12_formula 182 = .ok (.iconst 2, 1) := by decide +kernel
theorem dX12_formula_183 : decode cX12_formula 183 = .ok (.invokevirtual 269, 3) := by decide +kernel
theorem dX12_formula_186 : decode cX12_formula 186 = .ok (.aload_n 0, 1) := by decide +kernel
theorem dX12_formula_187 : decode cX12_formula 187 = .ok (.getfield 212, 3) := by decide +kernel
theorem dX12_formula_190 : decode cX12_formula 190 = .ok (.ifCond .ne 8, 3) := by decide +kernel
theorem dX12_formula_193 : decode cX12_formula 193 = .ok (.aload_n 0, 1) := by decide +kernel
theorem dX12_formula_194 : decode cX12_formula 194 = .ok (.iconst 0, 1) := by decide +kernel
theorem dX12_formula_195 : decode cX12_formula 195 = .ok (.invokevirtual 337, 3) := by decide +kernel
theorem dX12_formula_198 : decode cX12_formula 198 = .ok (.return_, 1) := by decide +kernel
theorem dX12_truth_0 : decode cX12_truth 0 = .ok (.iload_n 0, 1) := by decide +kernel
theorem dX12_truth_1 : decode cX12_truth 1 = .ok (.ifCond .eq 7, 3) := by decide +kernel
theorem dX12_truth_4 : decode cX12_truth 4 = .ok (.iconst 1, 1) := by decide +kernel
theorem dX12_truth_5 : decode cX12_truth 5 = .ok (.goto 4, 3) := by decide +kernel
theorem dX12_truth_8 : decode cX12_truth 8 = .ok (.iconst 0, 1) := by decide +kernel
theorem dX12_truth_9 : decode cX12_truth 9 = .ok (.ireturn, 1) := by decide +kernel
theorem dX12_done_0 : decode cX12_done 0 = .ok (.iload_n 0, 1) := by decide +kernel
theorem dX12_done_1 : decode cX12_done 1 = .ok (.tableswitch 214 37 62 #[143, 197, 214, 214, 214, 127, 119, 214, 123, 214, 131, 214, 214, 214, 214, 214, 214, 214, 214, 214, 214, 214, 214, 155, 183, 169], 119) := by decide +kernel
theorem dX12_done_120 : decode cX12_done 120 = .ok (.iload_n 1, 1) := by decide +kernel
theorem dX12_done_121 : decode cX12_done 121 = .ok (.iload_n 2, 1) := by decide +kernel
theorem dX12_done_122 : decode cX12_done 122 = .ok (.iadd, 1) := by decide +kernel
theorem dX12_done_123 : decode cX12_done 123 = .ok (.ireturn, 1) := by decide +kernel
theorem dX12_done_124 : decode cX12_done 124 = .ok (.iload_n 1, 1) := by decide +kernel
theorem dX12_done_125 : decode cX12_done 125 = .ok (.iload_n 2, 1) := by decide +kernel
theorem dX12_done_126 : decode cX12_done 126 = .ok (.isub, 1) := by decide +kernel
theorem dX12_done_127 : decode cX12_done 127 = .ok (.ireturn, 1) := by decide +kernel
theorem dX12_done_128 : decode cX12_done 128 = .ok (.iload_n 1, 1) := by decide +kernel
theorem dX12_done_129 : decode cX12_done 129 = .ok (.iload_n 2, 1) := by decide +kernel
theorem dX12_done_130 : decode cX12_done 130 = .ok (.imul, 1) := by decide +kernel
theorem dX12_done_131 : decode cX12_done 131 = .ok (.ireturn, 1) := by decide +kernel
theorem dX12_done_132 : decode cX12_done 132 = .ok (.iload_n 2, 1) := by decide +kernel
theorem dX12_done_133 : decode cX12_done 133 = .ok (.ifCond .ne 7, 3) := by decide +kernel
theorem dX12_done_136 : decode cX12_done 136 = .ok (.iconst 0, 1) := by decide +kernel
theorem dX12_done_137 : decode cX12_done 137 = .ok (.goto 6, 3) := by decide +kernel
theorem dX12_done_140 : decode cX12_done 140 = .ok (.iload_n 1, 1) := by decide +kernel
theorem dX12_done_141 : decode cX12_done 141 = .ok (.iload_n 2, 1) := by decide +kernel
theorem dX12_done_142 : decode cX12_done 142 = .ok (.idiv, 1) := by decide +kernel
theorem dX12_done_143 : decode cX12_done 143 = .ok (.ireturn, 1) := by decide +kernel
theorem dX12_done_144 : decode cX12_done 144 = .ok (.iload_n 2, 1) := by decide +kernel
theorem dX12_done_145 : decode cX12_done 145 = .ok (.ifCond .ne 7, 3) := by decide +kernel
theorem dX12_done_148 : decode cX12_done 148 = .ok (.iconst 0, 1) := by decide +kernel
theorem dX12_done_149 : decode cX12_done 149 = .ok (.goto 6, 3) := by decide +kernel
theorem dX12_done_152 : decode cX12_done 152 = .ok (.iload_n 1, 1) := by decide +kernel
theorem dX12_done_153 : decode cX12_done 153 = .ok (.iload_n 2, 1) := by decide +kernel
theorem dX12_done_154 : decode cX12_done 154 = .ok (.irem, 1) := by decide +kernel
theorem dX12_done_155 : decode cX12_done 155 = .ok (.ireturn, 1) := by decide +kernel
theorem dX12_done_156 : decode cX12_done 156 = .ok (.iload_n 1, 1) := by decide +kernel
theorem dX12_done_157 : decode cX12_done 157 = .ok (.iload_n 2, 1) := by decide +kernel
theorem dX12_done_158 : decode cX12_done 158 = .ok (.if_icmp .ge 7, 3) := by decide +kernel
theorem dX12_done_161 : decode cX12_done 161 = .ok (.iconst 1, 1) := by decide +kernel
theorem dX12_done_162 : decode cX12_done 162 = .ok (.goto 4, 3) := by decide +kernel
theorem dX12_done_165 : decode cX12_done 165 = .ok (.iconst 0, 1) := by decide +kernel
theorem dX12_done_166 : decode cX12_done 166 = .ok (.invokestatic 343, 3) := by decide +kernel
theorem dX12_done_169 : decode cX12_done 169 = .ok (.ireturn, 1) := by decide +kernel
theorem dX12_done_170 : decode cX12_done 170 = .ok (.iload_n 1, 1) := by decide +kernel
theorem dX12_done_171 : decode cX12_done 171 = .ok (.iload_n 2, 1) := by decide +kernel
theorem dX12_done_172 : decode cX12_done 172 = .ok (.if_icmp .le 7, 3) := by decide +kernel
theorem dX12_done_175 : decode cX12_done 175 = .ok (.iconst 1, 1) := by decide +kernel
theorem dX12_done_176 : decode cX12_done 176 = .ok (.goto 4, 3) := by decide +kernel
theorem dX12_done_179 : decode cX12_done 179 = .ok (.iconst 0, 1) := by decide +kernel
theorem dX12_done_180 : decode cX12_done 180 = .ok (.invokestatic 343, 3) := by decide +kernel
theorem dX12_done_183 : decode cX12_done 183 = .ok (.ireturn, 1) := by decide +kernel
theorem dX12_done_184 : decode cX12_done 184 = .ok (.iload_n 1, 1) := by decide +kernel
theorem dX12_done_185 : decode cX12_done 185 = .ok (.iload_n 2, 1) := by decide +kernel
theorem dX12_done_186 : decode cX12_done 186 = .ok (.if_icmp .ne 7, 3) := by decide +kernel
theorem dX12_done_189 : decode cX12_done 189 = .ok (.iconst 1, 1) := by decide +kernel
theorem dX12_done_190 : decode cX12_done 190 = .ok (.goto 4, 3) := by decide +kernel
theorem dX12_done_193 : decode cX12_done 193 = .ok (.iconst 0, 1) := by decide +kernel
theorem dX12_done_194 : decode cX12_done 194 = .ok (.invokestatic 343, 3) := by decide +kernel
theorem dX12_done_197 : decode cX12_done 197 = .ok (.ireturn, 1) := by decide +kernel
theorem dX12_done_198 : decode cX12_done 198 = .ok (.iload_n 1, 1) := by decide +kernel
theorem dX12_done_199 : decode cX12_done 199 = .ok (.ifCond .eq 11, 3) := by decide +kernel
theorem dX12_done_202 : decode cX12_done 202 = .ok (.iload_n 2, 1) := by decide +kernel
theorem dX12_done_203 : decode cX12_done 203 = .ok (.ifCond .eq 7, 3) := by decide +kernel
theorem dX12_done_206 : decode cX12_done 206 = .ok (.iconst 1, 1) := by decide +kernel
theorem dX12_done_207 : decode cX12_done 207 = .ok (.goto 4, 3) := by decide +kernel
theorem dX12_done_210 : decode cX12_done 210 = .ok (.iconst 0, 1) := by decide +kernel
theorem dX12_done_211 : decode cX12_done 211 = .ok (.invokestatic 343, 3) := by decide +kernel
theorem dX12_done_214 : decode cX12_done 214 = .ok (.ireturn, 1) := by decide +kernel
theorem dX12_done_215 : decode cX12_done 215 = .ok (.iload_n 1, 1) := by decide +kernel
theorem dX12_done_216 : decode cX12_done 216 = .ok (.ifCond .ne 7, 3) := by decide +kernel
theorem dX12_done_219 : decode cX12_done 219 = .ok (.iload_n 2, 1) := by decide +kernel
theorem dX12_done_220 : decode cX12_done 220 = .ok (.ifCond .eq 7, 3) := by decide +kernel
theorem dX12_done_223 : decode cX12_done 223 = .ok (.iconst 1, 1) := by decide +kernel
theorem dX12_done_224 : decode cX12_done 224 = .ok (.goto 4, 3) := by decide +kernel
theorem dX12_done_227 : decode cX12_done 227 = .ok (.iconst 0, 1) := by decide +kernel
theorem dX12_done_228 : decode cX12_done 228 = .ok (.invokestatic 343, 3) := by decide +kernel
theorem dX12_done_231 : decode cX12_done 231 = .ok (.ireturn, 1) := by decide +kernel
theorem dX12_noAsks_0 : decode cX12_noAsks 0 = .ok (.iconst 0, 1) := by decide +kernel
theorem dX12_noAsks_1 : decode cX12_noAsks 1 = .ok (.istore_n 1, 1) := by decide +kernel
theorem dX12_noAsks_2 : decode cX12_noAsks 2 = .ok (.iload_n 1, 1) := by decide +kernel
theorem dX12_noAsks_3 : decode cX12_noAsks 3 = .ok (.bipush 7, 2) := by decide +kernel
theorem dX12_noAsks_5 : decode cX12_noAsks 5 = .ok (.if_icmp .ge 16, 3) := by decide +kernel
theorem dX12_noAsks_8 : decode cX12_noAsks 8 = .ok (.aload_n 0, 1) := by decide +kernel
theorem dX12_noAsks_9 : decode cX12_noAsks 9 = .ok (.getfield 45, 3) := by decide +kernel
theorem dX12_noAsks_12 : decode cX12_noAsks 12 = .ok (.iload_n 1, 1) := by decide +kernel
theorem dX12_noAsks_13 : decode cX12_noAsks 13 = .ok (.iconst 0, 1) := by decide +kernel
theorem dX12_noAsks_14 : decode cX12_noAsks 14 = .ok (.iastore, 1) := by decide +kernel
theorem dX12_noAsks_15 : decode cX12_noAsks 15 = .ok (.iinc 1 1, 3) := by decide +kernel
theorem dX12_noAsks_18 : decode cX12_noAsks 18 = .ok (.goto (-16), 3) := by decide +kernel
theorem dX12_noAsks_21 : decode cX12_noAsks 21 = .ok (.return_, 1) := by decide +kernel
theorem dX12_worked_0 : decode cX12_worked 0 = .ok (.iconst 0, 1) := by decide +kernel
theorem dX12_worked_1 : decode cX12_worked 1 = .ok (.istore_n 2, 1) := by decide +kernel
theorem dX12_worked_2 : decode cX12_worked 2 = .ok (.sipush 320, 3) := by decide +kernel
theorem dX12_worked_5 : decode cX12_worked 5 = .ok (.iload_n 1, 1) := by decide +kernel
theorem dX12_worked_6 : decode cX12_worked 6 = .ok (.imul, 1) := by decide +kernel
theorem dX12_worked_7 : decode cX12_worked 7 = .ok (.istore_n 3, 1) := by decide +kernel
theorem dX12_worked_8 : decode cX12_worked 8 = .ok (.iload_n 3, 1) := by decide +kernel
theorem dX12_worked_9 : decode cX12_worked 9 = .ok (.sipush 320, 3) := by decide +kernel
theorem dX12_worked_12 : decode cX12_worked 12 = .ok (.iload_n 1, 1) := by decide +kernel
theorem dX12_worked_13 : decode cX12_worked 13 = .ok (.imul, 1) := by decide +kernel
theorem dX12_worked_14 : decode cX12_worked 14 = .ok (.aload_n 0, 1) := by decide +kernel
theorem dX12_worked_15 : decode cX12_worked 15 = .ok (.getfield 36, 3) := by decide +kernel
theorem dX12_worked_18 : decode cX12_worked 18 = .ok (.iload_n 1, 1) := by decide +kernel
theorem dX12_worked_19 : decode cX12_worked 19 = .ok (.iaload, 1) := by decide +kernel
theorem dX12_worked_20 : decode cX12_worked 20 = .ok (.iadd, 1) := by decide +kernel
theorem dX12_worked_21 : decode cX12_worked 21 = .ok (.if_icmp .ge 143, 3) := by decide +kernel
theorem dX12_worked_24 : decode cX12_worked 24 = .ok (.aload_n 0, 1) := by decide +kernel
theorem dX12_worked_25 : decode cX12_worked 25 = .ok (.getfield 30, 3) := by decide +kernel
theorem dX12_worked_28 : decode cX12_worked 28 = .ok (.iload_n 3, 1) := by decide +kernel
theorem dX12_worked_29 : decode cX12_worked 29 = .ok (.iaload, 1) := by decide +kernel
theorem dX12_worked_30 : decode cX12_worked 30 = .ok (.ifCond .eq 13, 3) := by decide +kernel
theorem dX12_worked_33 : decode cX12_worked 33 = .ok (.aload_n 0, 1) := by decide +kernel
theorem dX12_worked_34 : decode cX12_worked 34 = .ok (.getfield 30, 3) := by decide +kernel
theorem dX12_worked_37 : decode cX12_worked 37 = .ok (.iload_n 3, 1) := by decide +kernel
theorem dX12_worked_38 : decode cX12_worked 38 = .ok (.iaload, 1) := by decide +kernel
theorem dX12_worked_39 : decode cX12_worked 39 = .ok (.iconst 1, 1) := by decide +kernel
theorem dX12_worked_40 : decode cX12_worked 40 = .ok (.if_icmp .ne 44, 3) := by decide +kernel
theorem dX12_worked_43 : decode cX12_worked 43 = .ok (.aload_n 0, 1) := by decide +kernel
theorem dX12_worked_44 : decode cX12_worked 44 = .ok (.getfield 42, 3) := by decide +kernel
theorem dX12_worked_47 : decode cX12_worked 47 = .ok (.iload_n 2, 1) := by decide +kernel
theorem dX12_worked_48 : decode cX12_worked 48 = .ok (.aload_n 0, 1) := by decide +kernel
theorem dX12_worked_49 : decode cX12_worked 49 = .ok (.getfield 30, 3) := by decide +kernel
theorem dX12_worked_52 : decode cX12_worked 52 = .ok (.iload_n 3, 1) := by decide +kernel
theorem dX12_worked_53 : decode cX12_worked 53 = .ok (.iaload, 1) := by decide +kernel
theorem dX12_worked_54 : decode cX12_worked 54 = .ok (.ifCond .ne 12, 3) := by decide +kernel
theorem dX12_worked_57 : decode cX12_worked 57 = .ok (.aload_n 0, 1) := by decide +kernel
theorem dX12_worked_58 : decode cX12_worked 58 = .ok (.getfield 33, 3) := by decide +kernel
theorem dX12_worked_61 : decode cX12_worked 61 = .ok (.iload_n 3, 1) := by decide +kernel
theorem dX12_worked_62 : decode cX12_worked 62 = .ok (.iaload, 1) := by decide +kernel
theorem dX12_worked_63 : decode cX12_worked 63 = .ok (.goto 14, 3) := by decide +kernel
theorem dX12_worked_66 : decode cX12_worked 66 = .ok (.aload_n 0, 1) := by decide +kernel
theorem dX12_worked_67 : decode cX12_worked 67 = .ok (.getfield 45, 3) := by decide +kernel
theorem dX12_worked_70 : decode cX12_worked 70 = .ok (.aload_n 0, 1) := by decide +kernel
theorem dX12_worked_71 : decode cX12_worked 71 = .ok (.getfield 33, 3) := by decide +kernel
theorem dX12_worked_74 : decode cX12_worked 74 = .ok (.iload_n 3, 1) := by decide +kernel
theorem dX12_worked_75 : decode cX12_worked 75 = .ok (.iaload, 1) := by decide +kernel
theorem dX12_worked_76 : decode cX12_worked 76 = .ok (.iaload, 1) := by decide +kernel
theorem dX12_worked_77 : decode cX12_worked 77 = .ok (.iastore, 1) := by decide +kernel
theorem dX12_worked_78 : decode cX12_worked 78 = .ok (.iinc 2 1, 3) := by decide +kernel
theorem dX12_worked_81 : decode cX12_worked 81 = .ok (.goto 77, 3) := by decide +kernel
theorem dX12_worked_84 : decode cX12_worked 84 = .ok (.aload_n 0, 1) := by decide +kernel
theorem dX12_worked_85 : decode cX12_worked 85 = .ok (.getfield 30, 3) := by decide +kernel
theorem dX12_worked_88 : decode cX12_worked 88 = .ok (.iload_n 3, 1) := by decide +kernel
theorem dX12_worked_89 : decode cX12_worked 89 = .ok (.iaload, 1) := by decide +kernel
theorem dX12_worked_90 : decode cX12_worked 90 = .ok (.iconst 2, 1) := by decide +kernel
theorem dX12_worked_91 : decode cX12_worked 91 = .ok (.if_icmp .ne 33, 3) := by decide +kernel
theorem dX12_worked_94 : decode cX12_worked 94 = .ok (.aload_n 0, 1) := by decide +kernel
theorem dX12_worked_95 : decode cX12_worked 95 = .ok (.getfield 42, 3) := by decide +kernel
theorem dX12_worked_98 : decode cX12_worked 98 = .ok (.iload_n 2, 1) := by decide +kernel
theorem dX12_worked_99 : decode cX12_worked 99 = .ok (.iconst 1, 1) := by decide +kernel
theorem dX12_worked_100 : decode cX12_worked 100 = .ok (.isub, 1) := by decide +kernel
theorem dX12_worked_101 : decode cX12_worked 101 = .ok (.aload_n 0, 1) := by decide +kernel
theorem dX12_worked_102 : decode cX12_worked 102 = .ok (.getfield 42, 3) := by decide +kernel
theorem dX12_worked_105 : decode cX12_worked 105 = .ok (.iload_n 2, 1) := by decide +kernel
theorem dX12_worked_106 : decode cX12_worked 106 = .ok (.iconst 1, 1) := by decide +kernel
theorem dX12_worked_107 : decode cX12_worked 107 = .ok (.isub, 1) := by decide +kernel
theorem dX12_worked_108 : decode cX12_worked 108 = .ok (.iaload, 1) := by decide +kernel
theorem dX12_worked_109 : decode cX12_worked 109 = .ok (.ifCond .ne 7, 3) := by decide +kernel
theorem dX12_worked_112 : decode cX12_worked 112 = .ok (.iconst 1, 1) := by decide +kernel
theorem dX12_worked_113 : decode cX12_worked 113 = .ok (.goto 4, 3) := by decide +kernel
theorem dX12_worked_116 : decode cX12_worked 116 = .ok (.iconst 0, 1) := by decide +kernel
theorem dX12_worked_117 : decode cX12_worked 117 = .ok (.invokestatic 343, 3) := by decide +kernel
theorem dX12_worked_120 : decode cX12_worked 120 = .ok (.iastore, 1) := by decide +kernel
theorem dX12_worked_121 : decode cX12_worked 121 = .ok (.goto 37, 3) := by decide +kernel
theorem dX12_worked_124 : decode cX12_worked 124 = .ok (.iinc 2 (-1), 3) := by decide +kernel
theorem dX12_worked_127 : decode cX12_worked 127 = .ok (.aload_n 0, 1) := by decide +kernel
theorem dX12_worked_128 : decode cX12_worked 128 = .ok (.getfield 42, 3) := by decide +kernel
theorem dX12_worked_131 : decode cX12_worked 131 = .ok (.iload_n 2, 1) := by decide +kernel
theorem dX12_worked_132 : decode cX12_worked 132 = .ok (.iconst 1, 1) := by decide +kernel
theorem dX12_worked_133 : decode cX12_worked 133 = .ok (.isub, 1) := by decide +kernel
theorem dX12_worked_134 : decode cX12_worked 134 = .ok (.aload_n 0, 1) := by decide +kernel
theorem dX12_worked_135 : decode cX12_worked 135 = .ok (.getfield 33, 3) := by decide +kernel
theorem dX12_worked_138 : decode cX12_worked 138 = .ok (.iload_n 3, 1) := by decide +kernel
theorem dX12_worked_139 : decode cX12_worked 139 = .ok (.iaload, 1) := by decide +kernel
theorem dX12_worked_140 : decode cX12_worked 140 = .ok (.aload_n 0, 1) := by decide +kernel
theorem dX12_worked_141 : decode cX12_worked 141 = .ok (.getfield 42, 3) := by decide +kernel
theorem dX12_worked_144 : decode cX12_worked 144 = .ok (.iload_n 2, 1) := by decide +kernel
theorem dX12_worked_145 : decode cX12_worked 145 = .ok (.iconst 1, 1) := by decide +kernel
theorem dX12_worked_146 : decode cX12_worked 146 = .ok (.isub, 1) := by decide +kernel
theorem dX12_worked_147 : decode cX12_worked 147 = .ok (.iaload, 1) := by decide +kernel
theorem dX12_worked_148 : decode cX12_worked 148 = .ok (.aload_n 0, 1) := by decide +kernel
theorem dX12_worked_149 : decode cX12_worked 149 = .ok (.getfield 42, 3) := by decide +kernel
theorem dX12_worked_152 : decode cX12_worked 152 = .ok (.iload_n 2, 1) := by decide +kernel
theorem dX12_worked_153 : decode cX12_worked 153 = .ok (.iaload, 1) := by decide +kernel
theorem dX12_worked_154 : decode cX12_worked 154 = .ok (.invokestatic 347, 3) := by decide +kernel
theorem dX12_worked_157 : decode cX12_worked 157 = .ok (.iastore, 1) := by decide +kernel
theorem dX12_worked_158 : decode cX12_worked 158 = .ok (.iinc 3 1, 3) := by decide +kernel
theorem dX12_worked_161 : decode cX12_worked 161 = .ok (.goto (-153), 3) := by decide +kernel
theorem dX12_worked_164 : decode cX12_worked 164 = .ok (.aload_n 0, 1) := by decide +kernel
theorem dX12_worked_165 : decode cX12_worked 165 = .ok (.getfield 42, 3) := by decide +kernel
theorem dX12_worked_168 : decode cX12_worked 168 = .ok (.iconst 0, 1) := by decide +kernel
theorem dX12_worked_169 : decode cX12_worked 169 = .ok (.iaload, 1) := by decide +kernel
theorem dX12_worked_170 : decode cX12_worked 170 = .ok (.ireturn, 1) := by decide +kernel
theorem dX12_readPerson_0 : decode cX12_readPerson 0 = .ok (.aload_n 0, 1) := by decide +kernel
theorem dX12_readPerson_1 : decode cX12_readPerson 1 = .ok (.invokevirtual 272, 3) := by decide +kernel
theorem dX12_readPerson_4 : decode cX12_readPerson 4 = .ok (.aload_n 0, 1) := by decide +kernel
theorem dX12_readPerson_5 : decode cX12_readPerson 5 = .ok (.invokevirtual 351, 3) := by decide +kernel
theorem dX12_readPerson_8 : decode cX12_readPerson 8 = .ok (.ifCond .ne 11, 3) := by decide +kernel
theorem dX12_readPerson_11 : decode cX12_readPerson 11 = .ok (.aload_n 0, 1) := by decide +kernel
theorem dX12_readPerson_12 : decode cX12_readPerson 12 = .ok (.iconst 2, 1) := by decide +kernel
theorem dX12_readPerson_13 : decode cX12_readPerson 13 = .ok (.invokevirtual 269, 3) := by decide +kernel
theorem dX12_readPerson_16 : decode cX12_readPerson 16 = .ok (.goto 15, 3) := by decide +kernel
theorem dX12_readPerson_19 : decode cX12_readPerson 19 = .ok (.aload_n 0, 1) := by decide +kernel
theorem dX12_readPerson_20 : decode cX12_readPerson 20 = .ok (.invokevirtual 354, 3) := by decide +kernel
theorem dX12_readPerson_23 : decode cX12_readPerson 23 = .ok (.ifCond .lt 8, 3) := by decide +kernel
theorem dX12_readPerson_26 : decode cX12_readPerson 26 = .ok (.aload_n 0, 1) := by decide +kernel
theorem dX12_readPerson_27 : decode cX12_readPerson 27 = .ok (.iconst 3, 1) := by decide +kernel
theorem dX12_readPerson_28 : decode cX12_readPerson 28 = .ok (.invokevirtual 269, 3) := by decide +kernel
theorem dX12_readPerson_31 : decode cX12_readPerson 31 = .ok (.aload_n 0, 1) := by decide +kernel
theorem dX12_readPerson_32 : decode cX12_readPerson 32 = .ok (.getfield 212, 3) := by decide +kernel
theorem dX12_readPerson_35 : decode cX12_readPerson 35 = .ok (.ifCond .le 4, 3) := by decide +kernel
theorem dX12_readPerson_38 : decode cX12_readPerson 38 = .ok (.return_, 1) := by decide +kernel
theorem dX12_readPerson_39 : decode cX12_readPerson 39 = .ok (.aload_n 0, 1) := by decide +kernel
theorem dX12_readPerson_40 : decode cX12_readPerson 40 = .ok (.getfield 287, 3) := by decide +kernel
theorem dX12_readPerson_43 : decode cX12_readPerson 43 = .ok (.istore_n 1, 1) := by decide +kernel
theorem dX12_readPerson_44 : decode cX12_readPerson 44 = .ok (.aload_n 0, 1) := by decide +kernel
theorem dX12_readPerson_45 : decode cX12_readPerson 45 = .ok (.getfield 17, 3) := by decide +kernel
theorem dX12_readPerson_48 : decode cX12_readPerson 48 = .ok (.iload_n 1, 1) := by decide +kernel
theorem dX12_readPerson_49 : decode cX12_readPerson 49 = .ok (.aload_n 0, 1) := by decide +kernel
theorem dX12_readPerson_50 : decode cX12_readPerson 50 = .ok (.getfield 192, 3) := by decide +kernel
theorem dX12_readPerson_53 : decode cX12_readPerson 53 = .ok (.lastore, 1) := by decide +kernel
theorem dX12_readPerson_54 : decode cX12_readPerson 54 = .ok (.aload_n 0, 1) := by decide +kernel
theorem dX12_readPerson_55 : decode cX12_readPerson 55 = .ok (.invokevirtual 272, 3) := by decide +kernel
theorem dX12_readPerson_58 : decode cX12_readPerson 58 = .ok (.aload_n 0, 1) := by decide +kernel
theorem dX12_readPerson_59 : decode cX12_readPerson 59 = .ok (.getfield 48, 3) := by decide +kernel
theorem dX12_readPerson_62 : decode cX12_readPerson 62 = .ok (.iload_n 1, 1) := by decide +kernel
theorem dX12_readPerson_63 : decode cX12_readPerson 63 = .ok (.aload_n 0, 1) := by decide +kernel
theorem dX12_readPerson_64 : decode cX12_readPerson 64 = .ok (.ldc2_w 219, 3) := by decide +kernel
theorem dX12_readPerson_67 : decode cX12_readPerson 67 = .ok (.iconst 0, 1) := by decide +kernel
theorem dX12_readPerson_68 : decode cX12_readPerson 68 = .ok (.bipush 20, 2) := by decide +kernel
theorem dX12_readPerson_70 : decode cX12_readPerson 70 = .ok (.invokevirtual 283, 3) := by decide +kernel
theorem dX12_readPerson_73 : decode cX12_readPerson 73 = .ok (.iastore, 1) := by decide +kernel
theorem dX12_readPerson_74 : decode cX12_readPerson 74 = .ok (.aload_n 0, 1) := by decide +kernel
theorem dX12_readPerson_75 : decode cX12_readPerson 75 = .ok (.getfield 51, 3) := by decide +kernel
theorem dX12_readPerson_78 : decode cX12_readPerson 78 = .ok (.iload_n 1, 1) := by decide +kernel
theorem dX12_readPerson_79 : decode cX12_readPerson 79 = .ok (.aload_n 0, 1) := by decide +kernel
theorem dX12_readPerson_80 : decode cX12_readPerson 80 = .ok (.ldc2_w 221, 3) := by decide +kernel
theorem dX12_readPerson_83 : decode cX12_readPerson 83 = .ok (.iconst 0, 1) := by decide +kernel
theorem dX12_readPerson_84 : decode cX12_readPerson 84 = .ok (.aload_n 0, 1) := by decide +kernel
theorem dX12_readPerson_85 : decode cX12_readPerson 85 = .ok (.getfield 357, 3) := by decide +kernel
theorem dX12_readPerson_88 : decode cX12_readPerson 88 = .ok (.iconst 1, 1) := by decide +kernel
theorem dX12_readPerson_89 : decode cX12_readPerson 89 = .ok (.isub, 1) := by decide +kernel
theorem dX12_readPerson_90 : decode cX12_readPerson 90 = .ok (.invokevirtual 283, 3) := by decide +kernel
theorem dX12_readPerson_93 : decode cX12_readPerson 93 = .ok (.iastore, 1) := by decide +kernel
theorem dX12_readPerson_94 : decode cX12_readPerson 94 = .ok (.aload_n 0, 1) := by decide +kernel
theorem dX12_readPerson_95 : decode cX12_readPerson 95 = .ok (.getfield 54, 3) := by decide +kernel
theorem dX12_readPerson_98 : decode cX12_readPerson 98 = .ok (.iload_n 1, 1) := by decide +kernel
theorem dX12_readPerson_99 : decode cX12_readPerson 99 = .ok (.aload_n 0, 1) := by decide +kernel
theorem dX12_readPerson_100 : decode cX12_readPerson 100 = .ok (.ldc2_w 223, 3) := by decide +kernel
theorem dX12_readPerson_103 : decode cX12_readPerson 103 = .ok (.aload_n 0, 1) := by decide +kernel
theorem dX12_readPerson_104 : decode cX12_readPerson 104 = .ok (.getfield 51, 3) := by decide +kernel
theorem dX12_readPerson_107 : decode cX12_readPerson 107 = .ok (.iload_n 1, 1) := by decide +kernel
theorem dX12_readPerson_108 : decode cX12_readPerson 108 = .ok (.iaload, 1) := by decide +kernel
theorem dX12_readPerson_109 : decode cX12_readPerson 109 = .ok (.iconst 1, 1) := by decide +kernel
theorem dX12_readPerson_110 : decode cX12_readPerson 110 = .ok (.iadd, 1) := by decide +kernel
theorem dX12_readPerson_111 : decode cX12_readPerson 111 = .ok (.aload_n 0, 1) := by decide +kernel
theorem dX12_readPerson_112 : decode cX12_readPerson 112 = .ok (.getfield 357, 3) := by decide +kernel
theorem dX12_readPerson_115 : decode cX12_readPerson 115 = .ok (.invokevirtual 283, 3) := by decide +kernel
theorem dX12_readPerson_118 : decode cX12_readPerson 118 = .ok (.iastore, 1) := by decide +kernel
theorem dX12_readPerson_119 : decode cX12_readPerson 119 = .ok (.aload_n 0, 1) := by decide +kernel
theorem dX12_readPerson_120 : decode cX12_readPerson 120 = .ok (.getfield 57, 3) := by decide +kernel
theorem dX12_readPerson_123 : decode cX12_readPerson 123 = .ok (.iload_n 1, 1) := by decide +kernel
theorem dX12_readPerson_124 : decode cX12_readPerson 124 = .ok (.aload_n 0, 1) := by decide +kernel
theorem dX12_readPerson_125 : decode cX12_readPerson 125 = .ok (.ldc2_w 225, 3) := by decide +kernel
theorem dX12_readPerson_128 : decode cX12_readPerson 128 = .ok (.bipush 9, 2) := by decide +kernel
theorem dX12_readPerson_130 : decode cX12_readPerson 130 = .ok (.invokevirtual 360, 3) := by decide +kernel
theorem dX12_readPerson_133 : decode cX12_readPerson 133 = .ok (.iastore, 1) := by decide +kernel
theorem dX12_readPerson_134 : decode cX12_readPerson 134 = .ok (.aload_n 0, 1) := by decide +kernel
theorem dX12_readPerson_135 : decode cX12_readPerson 135 = .ok (.getfield 60, 3) := by decide +kernel
theorem dX12_readPerson_138 : decode cX12_readPerson 138 = .ok (.iload_n 1, 1) := by decide +kernel
theorem dX12_readPerson_139 : decode cX12_readPerson 139 = .ok (.aload_n 0, 1) := by decide +kernel
theorem dX12_readPerson_140 : decode cX12_readPerson 140 = .ok (.ldc2_w 227, 3) := by decide +kernel
theorem dX12_readPerson_143 : decode cX12_readPerson 143 = .ok (.aload_n 0, 1) := by decide +kernel
theorem dX12_readPerson_144 : decode cX12_readPerson 144 = .ok (.getfield 357, 3) := by decide +kernel
theorem dX12_readPerson_147 : decode cX12_readPerson 147 = .ok (.iconst 1, 1) := by decide +kernel
theorem dX12_readPerson_148 : decode cX12_readPerson 148 = .ok (.isub, 1) := by decide +kernel
theorem dX12_readPerson_149 : decode cX12_readPerson 149 = .ok (.invokevirtual 360, 3) := by decide +kernel
theorem dX12_readPerson_152 : decode cX12_readPerson 152 = .ok (.iastore, 1) := by decide +kernel
theorem dX12_readPerson_153 : decode cX12_readPerson 153 = .ok (.aload_n 0, 1) := by decide +kernel
theorem dX12_readPerson_154 : decode cX12_readPerson 154 = .ok (.getfield 63, 3) := by decide +kernel
theorem dX12_readPerson_157 : decode cX12_readPerson 157 = .ok (.iload_n 1, 1) := by decide +kernel
theorem dX12_readPerson_158 : decode cX12_readPerson 158 = .ok (.aload_n 0, 1) := by decide +kernel
theorem dX12_readPerson_159 : decode cX12_readPerson 159 = .ok (.ldc2_w 229, 3) := by decide +kernel
theorem dX12_readPerson_162 : decode cX12_readPerson 162 = .ok (.bipush 99, 2) := by decide +kernel
theorem dX12_readPerson_164 : decode cX12_readPerson 164 = .ok (.invokevirtual 360, 3) := by decide +kernel
theorem dX12_readPerson_167 : decode cX12_readPerson 167 = .ok (.iastore, 1) := by decide +kernel
theorem dX12_readPerson_168 : decode cX12_readPerson 168 = .ok (.aload_n 0, 1) := by decide +kernel
theorem dX12_readPerson_169 : decode cX12_readPerson 169 = .ok (.getfield 66, 3) := by decide +kernel
theorem dX12_readPerson_172 : decode cX12_readPerson 172 = .ok (.iload_n 1, 1) := by decide +kernel
theorem dX12_readPerson_173 : decode cX12_readPerson 173 = .ok (.aload_n 0, 1) := by decide +kernel
theorem dX12_readPerson_174 : decode cX12_readPerson 174 = .ok (.ldc2_w 231, 3) := by decide +kernel
theorem dX12_readPerson_177 : decode cX12_readPerson 177 = .ok (.sipush 999, 3) := by decide +kernel
theorem dX12_readPerson_180 : decode cX12_readPerson 180 = .ok (.invokevirtual 360, 3) := by decide +kernel
theorem dX12_readPerson_183 : decode cX12_readPerson 183 = .ok (.iastore, 1) := by decide +kernel
theorem dX12_readPerson_184 : decode cX12_readPerson 184 = .ok (.aload_n 0, 1) := by decide +kernel
theorem dX12_readPerson_185 : decode cX12_readPerson 185 = .ok (.getfield 212, 3) := by decide +kernel
theorem dX12_readPerson_188 : decode cX12_readPerson 188 = .ok (.ifCond .ne 13, 3) := by decide +kernel
theorem dX12_readPerson_191 : decode cX12_readPerson 191 = .ok (.aload_n 0, 1) := by decide +kernel
theorem dX12_readPerson_192 : decode cX12_readPerson 192 = .ok (.dup, 1) := by decide +kernel
theorem dX12_readPerson_193 : decode cX12_readPerson 193 = .ok (.getfield 287, 3) := by decide +kernel
theorem dX12_readPerson_196 : decode cX12_readPerson 196 = .ok (.iconst 1, 1) := by decide +kernel
theorem dX12_readPerson_197 : decode cX12_readPerson 197 = .ok (.iadd, 1) := by decide +kernel
theorem dX12_readPerson_198 : decode cX12_readPerson 198 = .ok (.putfield 287, 3) := by decide +kernel
theorem dX12_readPerson_201 : decode cX12_readPerson 201 = .ok (.return_, 1) := by decide +kernel
theorem dX12_old_0 : decode cX12_old 0 = .ok (.aload_n 0, 1) := by decide +kernel
theorem dX12_old_1 : decode cX12_old 1 = .ok (.getfield 212, 3) := by decide +kernel
theorem dX12_old_4 : decode cX12_old 4 = .ok (.ifCond .le 5, 3) := by decide +kernel
theorem dX12_old_7 : decode cX12_old 7 = .ok (.iconst 0, 1) := by decide +kernel
theorem dX12_old_8 : decode cX12_old 8 = .ok (.ireturn, 1) := by decide +kernel
theorem dX12_old_9 : decode cX12_old 9 = .ok (.aload_n 0, 1) := by decide +kernel
theorem dX12_old_10 : decode cX12_old 10 = .ok (.invokevirtual 351, 3) := by decide +kernel
theorem dX12_old_13 : decode cX12_old 13 = .ok (.ifCond .ne 11, 3) := by decide +kernel
theorem dX12_old_16 : decode cX12_old 16 = .ok (.aload_n 0, 1) := by decide +kernel
theorem dX12_old_17 : decode cX12_old 17 = .ok (.iconst 2, 1) := by decide +kernel
theorem dX12_old_18 : decode cX12_old 18 = .ok (.invokevirtual 269, 3) := by decide +kernel
theorem dX12_old_21 : decode cX12_old 21 = .ok (.goto 15, 3) := by decide +kernel
theorem dX12_old_24 : decode cX12_old 24 = .ok (.aload_n 0, 1) := by decide +kernel
theorem dX12_old_25 : decode cX12_old 25 = .ok (.invokevirtual 354, 3) := by decide +kernel
theorem dX12_old_28 : decode cX12_old 28 = .ok (.ifCond .ge 8, 3) := by decide +kernel
theorem dX12_old_31 : decode cX12_old 31 = .ok (.aload_n 0, 1) := by decide +kernel
theorem dX12_old_32 : decode cX12_old 32 = .ok (.iconst 5, 1) := by decide +kernel
theorem dX12_old_33 : decode cX12_old 33 = .ok (.invokevirtual 269, 3) := by decide +kernel
theorem dX12_old_36 : decode cX12_old 36 = .ok (.aload_n 0, 1) := by decide +kernel
theorem dX12_old_37 : decode cX12_old 37 = .ok (.getfield 212, 3) := by decide +kernel
theorem dX12_old_40 : decode cX12_old 40 = .ok (.ifCond .le 7, 3) := by decide +kernel
theorem dX12_old_43 : decode cX12_old 43 = .ok (.iconst 0, 1) := by decide +kernel
theorem dX12_old_44 : decode cX12_old 44 = .ok (.goto 7, 3) := by decide +kernel
theorem dX12_old_47 : decode cX12_old 47 = .ok (.aload_n 0, 1) := by decide +kernel
theorem dX12_old_48 : decode cX12_old 48 = .ok (.invokevirtual 354, 3) := by decide +kernel
theorem dX12_old_51 : decode cX12_old 51 = .ok (.ireturn, 1) := by decide +kernel
theorem dX12_readDebt_0 : decode cX12_readDebt 0 = .ok (.aload_n 0, 1) := by decide +kernel
theorem dX12_readDebt_1 : decode cX12_readDebt 1 = .ok (.invokevirtual 272, 3) := by decide +kernel
theorem dX12_readDebt_4 : decode cX12_readDebt 4 = .ok (.aload_n 0, 1) := by decide +kernel
theorem dX12_readDebt_5 : decode cX12_readDebt 5 = .ok (.invokevirtual 364, 3) := by decide +kernel
theorem dX12_readDebt_8 : decode cX12_readDebt 8 = .ok (.istore_n 1, 1) := by decide +kernel
theorem dX12_readDebt_9 : decode cX12_readDebt 9 = .ok (.aload_n 0, 1) := by decide +kernel
theorem dX12_readDebt_10 : decode cX12_readDebt 10 = .ok (.getfield 212, 3) := by decide +kernel
theorem dX12_readDebt_13 : decode cX12_readDebt 13 = .ok (.ifCond .ne 7, 3) := by decide +kernel
theorem dX12_readDebt_16 : decode cX12_readDebt 16 = .ok (.aload_n 0, 1) := by decide +kernel
theorem dX12_readDebt_17 : decode cX12_readDebt 17 = .ok (.invokevirtual 272, 3) := by decide +kernel
theorem dX12_readDebt_20 : decode cX12_readDebt 20 = .ok (.aload_n 0, 1) := by decide +kernel
theorem dX12_readDebt_21 : decode cX12_readDebt 21 = .ok (.ldc2_w 223, 3) := by decide +kernel
theorem dX12_readDebt_24 : decode cX12_readDebt 24 = .ok (.invokevirtual 275, 3) := by decide +kernel
theorem dX12_readDebt_27 : decode cX12_readDebt 27 = .ok (.aload_n 0, 1) := by decide +kernel
theorem dX12_readDebt_28 : decode cX12_readDebt 28 = .ok (.invokevirtual 364, 3) := by decide +kernel
theorem dX12_readDebt_31 : decode cX12_readDebt 31 = .ok (.istore_n 2, 1) := by decide +kernel
theorem dX12_readDebt_32 : decode cX12_readDebt 32 = .ok (.aload_n 0, 1) := by decide +kernel
theorem dX12_readDebt_33 : decode cX12_readDebt 33 = .ok (.getfield 212, 3) := by decide +kernel
theorem dX12_readDebt_36 : decode cX12_readDebt 36 = .ok (.ifCond .ne 27, 3) := by decide +kernel
theorem dX12_readDebt_39 : decode cX12_readDebt 39 = .ok (.iload_n 1, 1) := by decide +kernel
theorem dX12_readDebt_40 : decode cX12_readDebt 40 = .ok (.iload_n 2, 1) := by decide +kernel
theorem dX12_readDebt_41 : decode cX12_readDebt 41 = .ok (.if_icmp .eq 17, 3) := by decide +kernel
theorem dX12_readDebt_44 : decode cX12_readDebt 44 = .ok (.aload_n 0, 1) := by decide +kernel
theorem dX12_readDebt_45 : decode cX12_readDebt 45 = .ok (.getfield 69, 3) := by decide +kernel
theorem dX12_readDebt_48 : decode cX12_readDebt 48 = .ok (.bipush 6, 2) := by decide +kernel
theorem dX12_readDebt_50 : decode cX12_readDebt 50 = .ok (.iload_n 1, 1) := by decide +kernel
theorem dX12_readDebt_51 : decode cX12_readDebt 51 = .ok (.imul, 1) := by decide +kernel
theorem dX12_readDebt_52 : decode cX12_readDebt 52 = .ok (.iload_n 2, 1) := by decide +kernel
theorem dX12_readDebt_53 : decode cX12_readDebt 53 = .ok (.iadd, 1) := by decide +kernel
theorem dX12_readDebt_54 : decode cX12_readDebt 54 = .ok (.iaload, 1) := by decide +kernel
theorem dX12_readDebt_55 : decode cX12_readDebt 55 = .ok (.ifCond .le 8, 3) := by decide +kernel
theorem dX12_readDebt_58 : decode cX12_readDebt 58 = .ok (.aload_n 0, 1) := by decide +kernel
theorem dX12_readDebt_59 : decode cX12_readDebt 59 = .ok (.iconst 3, 1) := by decide +kernel
theorem dX12_readDebt_60 : decode cX12_readDebt 60 = .ok (.invokevirtual 269, 3) := by decide +kernel
theorem dX12_readDebt_63 : decode cX12_readDebt 63 = .ok (.aload_n 0, 1) := by decide +kernel
theorem dX12_readDebt_64 : decode cX12_readDebt 64 = .ok (.getfield 212, 3) := by decide +kernel
theorem dX12_readDebt_67 : decode cX12_readDebt 67 = .ok (.ifCond .ne 7, 3) := by decide +kernel
theorem dX12_readDebt_70 : decode cX12_readDebt 70 = .ok (.aload_n 0, 1) := by decide +kernel
theorem dX12_readDebt_71 : decode cX12_readDebt 71 = .ok (.invokevirtual 272, 3) := by decide +kernel
theorem dX12_readDebt_74 : decode cX12_readDebt 74 = .ok (.aload_n 0, 1) := by decide +kernel
theorem dX12_readDebt_75 : decode cX12_readDebt 75 = .ok (.iconst 1, 1) := by decide +kernel
theorem dX12_readDebt_76 : decode cX12_readDebt 76 = .ok (.sipush 9999, 3) := by decide +kernel
theorem dX12_readDebt_79 : decode cX12_readDebt 79 = .ok (.invokevirtual 279, 3) := by decide +kernel
theorem dX12_readDebt_82 : decode cX12_readDebt 82 = .ok (.istore_n 3, 1) := by decide +kernel
theorem dX12_readDebt_83 : decode cX12_readDebt 83 = .ok (.aload_n 0, 1) := by decide +kernel
theorem dX12_readDebt_84 : decode cX12_readDebt 84 = .ok (.getfield 212, 3) := by decide +kernel
theorem dX12_readDebt_87 : decode cX12_readDebt 87 = .ok (.ifCond .le 4, 3) := by decide +kernel
theorem dX12_readDebt_90 : decode cX12_readDebt 90 = .ok (.return_, 1) := by decide +kernel
theorem dX12_readDebt_91 : decode cX12_readDebt 91 = .ok (.aload_n 0, 1) := by decide +kernel
theorem dX12_readDebt_92 : decode cX12_readDebt 92 = .ok (.getfield 69, 3) := by decide +kernel
theorem dX12_readDebt_95 : decode cX12_readDebt 95 = .ok (.bipush 6, 2) := by decide +kernel
theorem dX12_readDebt_97 : decode cX12_readDebt 97 = .ok (.iload_n 1, 1) := by decide +kernel
theorem dX12_readDebt_98 : decode cX12_readDebt 98 = .ok (.imul, 1) := by decide +kernel
theorem dX12_readDebt_99 : decode cX12_readDebt 99 = .ok (.iload_n 2, 1) := by decide +kernel
theorem dX12_readDebt_100 : decode cX12_readDebt 100 = .ok (.iadd, 1) := by decide +kernel
theorem dX12_readDebt_101 : decode cX12_readDebt 101 = .ok (.iload_n 3, 1) := by decide +kernel
theorem dX12_readDebt_102 : decode cX12_readDebt 102 = .ok (.iastore, 1) := by decide +kernel
theorem dX12_readDebt_103 : decode cX12_readDebt 103 = .ok (.aload_n 0, 1) := by decide +kernel
theorem dX12_readDebt_104 : decode cX12_readDebt 104 = .ok (.dup, 1) := by decide +kernel
theorem dX12_readDebt_105 : decode cX12_readDebt 105 = .ok (.getfield 367, 3) := by decide +kernel
theorem dX12_readDebt_108 : decode cX12_readDebt 108 = .ok (.iconst 1, 1) := by decide +kernel
theorem dX12_readDebt_109 : decode cX12_readDebt 109 = .ok (.iadd, 1) := by decide +kernel
theorem dX12_readDebt_110 : decode cX12_readDebt 110 = .ok (.putfield 367, 3) := by decide +kernel
theorem dX12_readDebt_113 : decode cX12_readDebt 113 = .ok (.return_, 1) := by decide +kernel
theorem dX12_readLine_0 : decode cX12_readLine 0 = .ok (.aload_n 0, 1) := by decide +kernel
theorem dX12_readLine_1 : decode cX12_readLine 1 = .ok (.ldc2_w 215, 3) := by decide +kernel
theorem dX12_readLine_4 : decode cX12_readLine 4 = .ok (.invokevirtual 265, 3) := by decide +kernel
theorem dX12_readLine_7 : decode cX12_readLine 7 = .ok (.ifCond .eq 39, 3) := by decide +kernel
theorem dX12_readLine_10 : decode cX12_readLine 10 = .ok (.aload_n 0, 1) := by decide +kernel
theorem dX12_readLine_11 : decode cX12_readLine 11 = .ok (.getfield 370, 3) := by decide +kernel
theorem dX12_readLine_14 : decode cX12_readLine 14 = .ok (.ifCond .ne 32, 3) := by decide +kernel
theorem dX12_readLine_17 : decode cX12_readLine 17 = .ok (.aload_n 0, 1) := by decide +kernel
theorem dX12_readLine_18 : decode cX12_readLine 18 = .ok (.getfield 374, 3) := by decide +kernel
theorem dX12_readLine_21 : decode cX12_readLine 21 = .ok (.ifCond .ne 25, 3) := by decide +kernel
theorem dX12_readLine_24 : decode cX12_readLine 24 = .ok (.aload_n 0, 1) := by decide +kernel
theorem dX12_readLine_25 : decode cX12_readLine 25 = .ok (.iconst 1, 1) := by decide +kernel
theorem dX12_readLine_26 : decode cX12_readLine 26 = .ok (.putfield 370, 3) := by decide +kernel
theorem dX12_readLine_29 : decode cX12_readLine 29 = .ok (.aload_n 0, 1) := by decide +kernel
theorem dX12_readLine_30 : decode cX12_readLine 30 = .ok (.aload_n 0, 1) := by decide +kernel
theorem dX12_readLine_31 : decode cX12_readLine 31 = .ok (.ldc2_w 215, 3) := by decide +kernel
theorem dX12_readLine_34 : decode cX12_readLine 34 = .ok (.iconst 2, 1) := by decide +kernel
theorem dX12_readLine_35 : decode cX12_readLine 35 = .ok (.bipush 24, 2) := by decide +kernel
theorem dX12_readLine_37 : decode cX12_readLine 37 = .ok (.invokevirtual 283, 3) := by decide +kernel
theorem dX12_readLine_40 : decode cX12_readLine 40 = .ok (.putfield 357, 3) := by decide +kernel
theorem dX12_readLine_43 : decode cX12_readLine 43 = .ok (.goto 150, 3) := by decide +kernel
theorem dX12_readLine_46 : decode cX12_readLine 46 = .ok (.aload_n 0, 1) := by decide +kernel
theorem dX12_readLine_47 : decode cX12_readLine 47 = .ok (.ldc2_w 217, 3) := by decide +kernel
theorem dX12_readLine_50 : decode cX12_readLine 50 = .ok (.invokevirtual 265, 3) := by decide +kernel
theorem dX12_readLine_53 : decode cX12_readLine 53 = .ok (.ifCond .eq 19, 3) := by decide +kernel
theorem dX12_readLine_56 : decode cX12_readLine 56 = .ok (.aload_n 0, 1) := by decide +kernel
theorem dX12_readLine_57 : decode cX12_readLine 57 = .ok (.getfield 287, 3) := by decide +kernel
theorem dX12_readLine_60 : decode cX12_readLine 60 = .ok (.bipush 6, 2) := by decide +kernel
theorem dX12_readLine_62 : decode cX12_readLine 62 = .ok (.if_icmp .ge 10, 3) := by decide +kernel
theorem dX12_readLine_65 : decode cX12_readLine 65 = .ok (.aload_n 0, 1) := by decide +kernel
theorem dX12_readLine_66 : decode cX12_readLine 66 = .ok (.invokevirtual 377, 3) := by decide +kernel
theorem dX12_readLine_69 : decode cX12_readLine 69 = .ok (.goto 124, 3) := by decide +kernel
theorem dX12_readLine_72 : decode cX12_readLine 72 = .ok (.aload_n 0, 1) := by decide +kernel
theorem dX12_readLine_73 : decode cX12_readLine 73 = .ok (.ldc2_w 233, 3) := by decide +kernel
theorem dX12_readLine_76 : decode cX12_readLine 76 = .ok (.invokevirtual 265, 3) := by decide +kernel
theorem dX12_readLine_79 : decode cX12_readLine 79 = .ok (.ifCond .eq 19, 3) := by decide +kernel
theorem dX12_readLine_82 : decode cX12_readLine 82 = .ok (.aload_n 0, 1) := by decide +kernel
theorem dX12_readLine_83 : decode cX12_readLine 83 = .ok (.getfield 367, 3) := by decide +kernel
theorem dX12_readLine_86 : decode cX12_readLine 86 = .ok (.bipush 20, 2) := by decide +kernel
theorem dX12_readLine_88 : decode cX12_readLine 88 = .ok (.if_icmp .ge 10, 3) := by decide +kernel
theorem dX12_readLine_91 : decode cX12_readLine 91 = .ok (.aload_n 0, 1) := by decide +kernel
theorem dX12_readLine_92 : decode cX12_readLine 92 = .ok (.invokevirtual 380, 3) := by decide +kernel
theorem dX12_readLine_95 : decode cX12_readLine 95 = .ok (.goto 98, 3) := by decide +kernel
theorem dX12_readLine_98 : decode cX12_readLine 98 = .ok (.aload_n 0, 1) := by decide +kernel
theorem dX12_readLine_99 : decode cX12_readLine 99 = .ok (.ldc2_w 235, 3) := by decide +kernel
theorem dX12_readLine_102 : decode cX12_readLine 102 = .ok (.invokevirtual 265, 3) := by decide +kernel
theorem dX12_readLine_105 : decode cX12_readLine 105 = .ok (.ifCond .eq 23, 3) := by decide +kernel
theorem dX12_readLine_108 : decode cX12_readLine 108 = .ok (.aload_n 0, 1) := by decide +kernel
theorem dX12_readLine_109 : decode cX12_readLine 109 = .ok (.getfield 383, 3) := by decide +kernel
theorem dX12_readLine_112 : decode cX12_readLine 112 = .ok (.ifCond .ne 16, 3) := by decide +kernel
theorem dX12_readLine_115 : decode cX12_readLine 115 = .ok (.aload_n 0, 1) := by decide +kernel
theorem dX12_readLine_116 : decode cX12_readLine 116 = .ok (.iconst 1, 1) := by decide +kernel
theorem dX12_readLine_117 : decode cX12_readLine 117 = .ok (.putfield 383, 3) := by decide +kernel
theorem dX12_readLine_120 : decode cX12_readLine 120 = .ok (.aload_n 0, 1) := by decide +kernel
theorem dX12_readLine_121 : decode cX12_readLine 121 = .ok (.iconst 0, 1) := by decide +kernel
theorem dX12_readLine_122 : decode cX12_readLine 122 = .ok (.invokevirtual 386, 3) := by decide +kernel
theorem dX12_readLine_125 : decode cX12_readLine 125 = .ok (.goto 68, 3) := by decide +kernel
theorem dX12_readLine_128 : decode cX12_readLine 128 = .ok (.aload_n 0, 1) := by decide +kernel
theorem dX12_readLine_129 : decode cX12_readLine 129 = .ok (.ldc2_w 237, 3) := by decide +kernel
theorem dX12_readLine_132 : decode cX12_readLine 132 = .ok (.invokevirtual 265, 3) := by decide +kernel
theorem dX12_readLine_135 : decode cX12_readLine 135 = .ok (.ifCond .eq 23, 3) := by decide +kernel
theorem dX12_readLine_138 : decode cX12_readLine 138 = .ok (.aload_n 0, 1) := by decide +kernel
theorem dX12_readLine_139 : decode cX12_readLine 139 = .ok (.getfield 389, 3) := by decide +kernel
theorem dX12_readLine_142 : decode cX12_readLine 142 = .ok (.ifCond .ne 16, 3) := by decide +kernel
theorem dX12_readLine_145 : decode cX12_readLine 145 = .ok (.aload_n 0, 1) := by decide +kernel
theorem dX12_readLine_146 : decode cX12_readLine 146 = .ok (.iconst 1, 1) := by decide +kernel
theorem dX12_readLine_147 : decode cX12_readLine 147 = .ok (.putfield 389, 3) := by decide +kernel
theorem dX12_readLine_150 : decode cX12_readLine 150 = .ok (.aload_n 0, 1) := by decide +kernel
theorem dX12_readLine_151 : decode cX12_readLine 151 = .ok (.iconst 1, 1) := by decide +kernel
theorem dX12_readLine_152 : decode cX12_readLine 152 = .ok (.invokevirtual 386, 3) := by decide +kernel
theorem dX12_readLine_155 : decode cX12_readLine 155 = .ok (.goto 38, 3) := by decide +kernel
theorem dX12_readLine_158 : decode cX12_readLine 158 = .ok (.aload_n 0, 1) := by decide +kernel
theorem dX12_readLine_159 : decode cX12_readLine 159 = .ok (.ldc2_w 239, 3) := by decide +kernel
theorem dX12_readLine_162 : decode cX12_readLine 162 = .ok (.invokevirtual 265, 3) := by decide +kernel
theorem dX12_readLine_165 : decode cX12_readLine 165 = .ok (.ifCond .eq 23, 3) := by decide +kernel
theorem dX12_readLine_168 : decode cX12_readLine 168 = .ok (.aload_n 0, 1) := by decide +kernel
theorem dX12_readLine_169 : decode cX12_readLine 169 = .ok (.getfield 392, 3) := by decide +kernel
theorem dX12_readLine_172 : decode cX12_readLine 172 = .ok (.ifCond .ne 16, 3) := by decide +kernel
theorem dX12_readLine_175 : decode cX12_readLine 175 = .ok (.aload_n 0, 1) := by decide +kernel
theorem dX12_readLine_176 : decode cX12_readLine 176 = .ok (.iconst 1, 1) := by decide +kernel
theorem dX12_readLine_177 : decode cX12_readLine 177 = .ok (.putfield 392, 3) := by decide +kernel
theorem dX12_readLine_180 : decode cX12_readLine 180 = .ok (.aload_n 0, 1) := by decide +kernel
theorem dX12_readLine_181 : decode cX12_readLine 181 = .ok (.iconst 2, 1) := by decide +kernel
theorem dX12_readLine_182 : decode cX12_readLine 182 = .ok (.invokevirtual 386, 3) := by decide +kernel
theorem dX12_readLine_185 : decode cX12_readLine 185 = .ok (.goto 8, 3) := by decide +kernel
theorem dX12_readLine_188 : decode cX12_readLine 188 = .ok (.aload_n 0, 1) := by decide +kernel
theorem dX12_readLine_189 : decode cX12_readLine 189 = .ok (.iconst 2, 1) := by decide +kernel
theorem dX12_readLine_190 : decode cX12_readLine 190 = .ok (.invokevirtual 269, 3) := by decide +kernel
theorem dX12_readLine_193 : decode cX12_readLine 193 = .ok (.aload_n 0, 1) := by decide +kernel
theorem dX12_readLine_194 : decode cX12_readLine 194 = .ok (.iconst 1, 1) := by decide +kernel
theorem dX12_readLine_195 : decode cX12_readLine 195 = .ok (.putfield 374, 3) := by decide +kernel
theorem dX12_readLine_198 : decode cX12_readLine 198 = .ok (.aload_n 0, 1) := by decide +kernel
theorem dX12_readLine_199 : decode cX12_readLine 199 = .ok (.getfield 212, 3) := by decide +kernel
theorem dX12_readLine_202 : decode cX12_readLine 202 = .ok (.ifCond .ne 17, 3) := by decide +kernel
theorem dX12_readLine_205 : decode cX12_readLine 205 = .ok (.aload_n 0, 1) := by decide +kernel
theorem dX12_readLine_206 : decode cX12_readLine 206 = .ok (.getfield 199, 3) := by decide +kernel
theorem dX12_readLine_209 : decode cX12_readLine 209 = .ok (.bipush 59, 2) := by decide +kernel
theorem dX12_readLine_211 : decode cX12_readLine 211 = .ok (.if_icmp .eq 8, 3) := by decide +kernel
theorem dX12_readLine_214 : decode cX12_readLine 214 = .ok (.aload_n 0, 1) := by decide +kernel
theorem dX12_readLine_215 : decode cX12_readLine 215 = .ok (.iconst 2, 1) := by decide +kernel
theorem dX12_readLine_216 : decode cX12_readLine 216 = .ok (.invokevirtual 269, 3) := by decide +kernel
theorem dX12_readLine_219 : decode cX12_readLine 219 = .ok (.aload_n 0, 1) := by decide +kernel
theorem dX12_readLine_220 : decode cX12_readLine 220 = .ok (.getfield 212, 3) := by decide +kernel
theorem dX12_readLine_223 : decode cX12_readLine 223 = .ok (.ifCond .ne 7, 3) := by decide +kernel
theorem dX12_readLine_226 : decode cX12_readLine 226 = .ok (.aload_n 0, 1) := by decide +kernel
theorem dX12_readLine_227 : decode cX12_readLine 227 = .ok (.invokevirtual 272, 3) := by decide +kernel
theorem dX12_readLine_230 : decode cX12_readLine 230 = .ok (.return_, 1) := by decide +kernel
theorem dX12_readAll_0 : decode cX12_readAll 0 = .ok (.aload_n 0, 1) := by decide +kernel
theorem dX12_readAll_1 : decode cX12_readAll 1 = .ok (.aload_n 0, 1) := by decide +kernel
theorem dX12_readAll_2 : decode cX12_readAll 2 = .ok (.getfield 172, 3) := by decide +kernel
theorem dX12_readAll_5 : decode cX12_readAll 5 = .ok (.putfield 182, 3) := by decide +kernel
theorem dX12_readAll_8 : decode cX12_readAll 8 = .ok (.aload_n 0, 1) := by decide +kernel
theorem dX12_readAll_9 : decode cX12_readAll 9 = .ok (.iconst 0, 1) := by decide +kernel
theorem dX12_readAll_10 : decode cX12_readAll 10 = .ok (.putfield 172, 3) := by decide +kernel
theorem dX12_readAll_13 : decode cX12_readAll 13 = .ok (.aload_n 0, 1) := by decide +kernel
theorem dX12_readAll_14 : decode cX12_readAll 14 = .ok (.iconst 0, 1) := by decide +kernel
theorem dX12_readAll_15 : decode cX12_readAll 15 = .ok (.putfield 179, 3) := by decide +kernel
theorem dX12_readAll_18 : decode cX12_readAll 18 = .ok (.aload_n 0, 1) := by decide +kernel
theorem dX12_readAll_19 : decode cX12_readAll 19 = .ok (.iconst 0, 1) := by decide +kernel
theorem dX12_readAll_20 : decode cX12_readAll 20 = .ok (.putfield 212, 3) := by decide +kernel
theorem dX12_readAll_23 : decode cX12_readAll 23 = .ok (.aload_n 0, 1) := by decide +kernel
theorem dX12_readAll_24 : decode cX12_readAll 24 = .ok (.iconst (-1), 1) := by decide +kernel
theorem dX12_readAll_25 : decode cX12_readAll 25 = .ok (.putfield 13, 3) := by decide +kernel
theorem dX12_readAll_28 : decode cX12_readAll 28 = .ok (.aload_n 0, 1) := by decide +kernel
theorem dX12_readAll_29 : decode cX12_readAll 29 = .ok (.iconst 0, 1) := by decide +kernel
theorem dX12_readAll_30 : decode cX12_readAll 30 = .ok (.putfield 287, 3) := by decide +kernel
theorem dX12_readAll_33 : decode cX12_readAll 33 = .ok (.aload_n 0, 1) := by decide +kernel
theorem dX12_readAll_34 : decode cX12_readAll 34 = .ok (.iconst 0, 1) := by decide +kernel
theorem dX12_readAll_35 : decode cX12_readAll 35 = .ok (.putfield 367, 3) := by decide +kernel
theorem dX12_readAll_38 : decode cX12_readAll 38 = .ok (.aload_n 0, 1) := by decide +kernel
theorem dX12_readAll_39 : decode cX12_readAll 39 = .ok (.bipush 10, 2) := by decide +kernel
theorem dX12_readAll_41 : decode cX12_readAll 41 = .ok (.putfield 357, 3) := by decide +kernel
theorem dX12_readAll_44 : decode cX12_readAll 44 = .ok (.aload_n 0, 1) := by decide +kernel
theorem dX12_readAll_45 : decode cX12_readAll 45 = .ok (.iconst 0, 1) := by decide +kernel
theorem dX12_readAll_46 : decode cX12_readAll 46 = .ok (.putfield 370, 3) := by decide +kernel
theorem dX12_readAll_49 : decode cX12_readAll 49 = .ok (.aload_n 0, 1) := by decide +kernel
theorem dX12_readAll_50 : decode cX12_readAll 50 = .ok (.iconst 0, 1) := by decide +kernel
theorem dX12_readAll_51 : decode cX12_readAll 51 = .ok (.putfield 374, 3) := by decide +kernel
theorem dX12_readAll_54 : decode cX12_readAll 54 = .ok (.aload_n 0, 1) := by decide +kernel
theorem dX12_readAll_55 : decode cX12_readAll 55 = .ok (.iconst 0, 1) := by decide +kernel
theorem dX12_readAll_56 : decode cX12_readAll 56 = .ok (.putfield 383, 3) := by decide +kernel
theorem dX12_readAll_59 : decode cX12_readAll 59 = .ok (.aload_n 0, 1) := by decide +kernel
theorem dX12_readAll_60 : decode cX12_readAll 60 = .ok (.iconst 0, 1) := by decide +kernel
theorem dX12_readAll_61 : decode cX12_readAll 61 = .ok (.putfield 389, 3) := by decide +kernel
theorem dX12_readAll_64 : decode cX12_readAll 64 = .ok (.aload_n 0, 1) := by decide +kernel
theorem dX12_readAll_65 : decode cX12_readAll 65 = .ok (.iconst 0, 1) := by decide +kernel
theorem dX12_readAll_66 : decode cX12_readAll 66 = .ok (.putfield 392, 3) := by decide +kernel
theorem dX12_readAll_69 : decode cX12_readAll 69 = .ok (.aload_n 0, 1) := by decide +kernel
theorem dX12_readAll_70 : decode cX12_readAll 70 = .ok (.iconst 0, 1) := by decide +kernel
theorem dX12_readAll_71 : decode cX12_readAll 71 = .ok (.putfield 306, 3) := by decide +kernel
theorem dX12_readAll_74 : decode cX12_readAll 74 = .ok (.iconst 0, 1) := by decide +kernel
theorem dX12_readAll_75 : decode cX12_readAll 75 = .ok (.istore_n 1, 1) := by decide +kernel
theorem dX12_readAll_76 : decode cX12_readAll 76 = .ok (.iload_n 1, 1) := by decide +kernel
theorem dX12_readAll_77 : decode cX12_readAll 77 = .ok (.bipush 36, 2) := by decide +kernel
theorem dX12_readAll_79 : decode cX12_readAll 79 = .ok (.if_icmp .ge 16, 3) := by decide +kernel
theorem dX12_readAll_82 : decode cX12_readAll 82 = .ok (.aload_n 0, 1) := by decide +kernel
theorem dX12_readAll_83 : decode cX12_readAll 83 = .ok (.getfield 69, 3) := by decide +kernel
theorem dX12_readAll_86 : decode cX12_readAll 86 = .ok (.iload_n 1, 1) := by decide +kernel
theorem dX12_readAll_87 : decode cX12_readAll 87 = .ok (.iconst 0, 1) := by decide +kernel
theorem dX12_readAll_88 : decode cX12_readAll 88 = .ok (.iastore, 1) := by decide +kernel
theorem dX12_readAll_89 : decode cX12_readAll 89 = .ok (.iinc 1 1, 3) := by decide +kernel
theorem dX12_readAll_92 : decode cX12_readAll 92 = .ok (.goto (-16), 3) := by decide +kernel
theorem dX12_readAll_95 : decode cX12_readAll 95 = .ok (.aload_n 0, 1) := by decide +kernel
theorem dX12_readAll_96 : decode cX12_readAll 96 = .ok (.invokevirtual 272, 3) := by decide +kernel
theorem dX12_readAll_99 : decode cX12_readAll 99 = .ok (.aload_n 0, 1) := by decide +kernel
theorem dX12_readAll_100 : decode cX12_readAll 100 = .ok (.getfield 212, 3) := by decide +kernel
theorem dX12_readAll_103 : decode cX12_readAll 103 = .ok (.ifCond .ne 17, 3) := by decide +kernel
theorem dX12_readAll_106 : decode cX12_readAll 106 = .ok (.aload_n 0, 1) := by decide +kernel
theorem dX12_readAll_107 : decode cX12_readAll 107 = .ok (.getfield 199, 3) := by decide +kernel
theorem dX12_readAll_110 : decode cX12_readAll 110 = .ok (.ifCond .eq 10, 3) := by decide +kernel
theorem dX12_readAll_113 : decode cX12_readAll 113 = .ok (.aload_n 0, 1) := by decide +kernel
theorem dX12_readAll_114 : decode cX12_readAll 114 = .ok (.invokevirtual 395, 3) := by decide +kernel
theorem dX12_readAll_117 : decode cX12_readAll 117 = .ok (.goto (-18), 3) := by decide +kernel
theorem dX12_readAll_120 : decode cX12_readAll 120 = .ok (.return_, 1) := by decide +kernel
theorem dX12_town_0 : decode cX12_town 0 = .ok (.aload_n 0, 1) := by decide +kernel
theorem dX12_town_1 : decode cX12_town 1 = .ok (.invokevirtual 398, 3) := by decide +kernel
theorem dX12_town_4 : decode cX12_town 4 = .ok (.aload_n 0, 1) := by decide +kernel
theorem dX12_town_5 : decode cX12_town 5 = .ok (.getfield 212, 3) := by decide +kernel
theorem dX12_town_8 : decode cX12_town 8 = .ok (.ifCond .le 5, 3) := by decide +kernel
theorem dX12_town_11 : decode cX12_town 11 = .ok (.iconst (-1), 1) := by decide +kernel
theorem dX12_town_12 : decode cX12_town 12 = .ok (.ireturn, 1) := by decide +kernel
theorem dX12_town_13 : decode cX12_town 13 = .ok (.aload_n 0, 1) := by decide +kernel
theorem dX12_town_14 : decode cX12_town 14 = .ok (.aload_n 0, 1) := by decide +kernel
theorem dX12_town_15 : decode cX12_town 15 = .ok (.getfield 287, 3) := by decide +kernel
theorem dX12_town_18 : decode cX12_town 18 = .ok (.putfield 401, 3) := by decide +kernel
theorem dX12_town_21 : decode cX12_town 21 = .ok (.aload_n 0, 1) := by decide +kernel
theorem dX12_town_22 : decode cX12_town 22 = .ok (.aload_n 0, 1) := by decide +kernel
theorem dX12_town_23 : decode cX12_town 23 = .ok (.getfield 357, 3) := by decide +kernel
theorem dX12_town_26 : decode cX12_town 26 = .ok (.putfield 96, 3) := by decide +kernel
theorem dX12_town_29 : decode cX12_town 29 = .ok (.aload_n 0, 1) := by decide +kernel
theorem dX12_town_30 : decode cX12_town 30 = .ok (.aload_n 0, 1) := by decide +kernel
theorem dX12_town_31 : decode cX12_town 31 = .ok (.getfield 383, 3) := by decide +kernel
theorem dX12_town_34 : decode cX12_town 34 = .ok (.putfield 404, 3) := by decide +kernel
theorem dX12_town_37 : decode cX12_town 37 = .ok (.aload_n 0, 1) := by decide +kernel
theorem dX12_town_38 : decode cX12_town 38 = .ok (.aload_n 0, 1) := by decide +kernel
theorem dX12_town_39 : decode cX12_town 39 = .ok (.getfield 389, 3) := by decide +kernel
theorem dX12_town_42 : decode cX12_town 42 = .ok (.putfield 407, 3) := by decide +kernel
theorem dX12_town_45 : decode cX12_town 45 = .ok (.aload_n 0, 1) := by decide +kernel
theorem dX12_town_46 : decode cX12_town 46 = .ok (.aload_n 0, 1) := by decide +kernel
theorem dX12_town_47 : decode cX12_town 47 = .ok (.getfield 392, 3) := by decide +kernel
theorem dX12_town_50 : decode cX12_town 50 = .ok (.putfield 410, 3) := by decide +kernel
theorem dX12_town_53 : decode cX12_town 53 = .ok (.aload_n 0, 1) := by decide +kernel
theorem dX12_town_54 : decode cX12_town 54 = .ok (.aload_n 0, 1) := by decide +kernel
theorem dX12_town_55 : decode cX12_town 55 = .ok (.getfield 306, 3) := by decide +kernel
theorem dX12_town_58 : decode cX12_town 58 = .ok (.putfield 413, 3) := by decide +kernel
theorem dX12_town_61 : decode cX12_town 61 = .ok (.iconst 0, 1) := by decide +kernel
theorem dX12_town_62 : decode cX12_town 62 = .ok (.istore_n 1, 1) := by decide +kernel
theorem dX12_town_63 : decode cX12_town 63 = .ok (.iload_n 1, 1) := by decide +kernel
theorem dX12_town_64 : decode cX12_town 64 = .ok (.iconst 3, 1) := by decide +kernel
theorem dX12_town_65 : decode cX12_town 65 = .ok (.if_icmp .ge 73, 3) := by decide +kernel
theorem dX12_town_68 : decode cX12_town 68 = .ok (.aload_n 0, 1) := by decide +kernel
theorem dX12_town_69 : decode cX12_town 69 = .ok (.getfield 36, 3) := by decide +kernel
theorem dX12_town_72 : decode cX12_town 72 = .ok (.iload_n 1, 1) := by decide +kernel
theorem dX12_town_73 : decode cX12_town 73 = .ok (.aload_n 0, 1) := by decide +kernel
theorem dX12_town_74 : decode cX12_town 74 = .ok (.getfield 27, 3) := by decide +kernel
theorem dX12_town_77 : decode cX12_town 77 = .ok (.iload_n 1, 1) := by decide +kernel
theorem dX12_town_78 : decode cX12_town 78 = .ok (.iaload, 1) := by decide +kernel
theorem dX12_town_79 : decode cX12_town 79 = .ok (.iastore, 1) := by decide +kernel
theorem dX12_town_80 : decode cX12_town 80 = .ok (.sipush 320, 3) := by decide +kernel
theorem dX12_town_83 : decode cX12_town 83 = .ok (.iload_n 1, 1) := by decide +kernel
theorem dX12_town_84 : decode cX12_town 84 = .ok (.imul, 1) := by decide +kernel
theorem dX12_town_85 : decode cX12_town 85 = .ok (.istore_n 2, 1) := by decide +kernel
theorem dX12_town_86 : decode cX12_town 86 = .ok (.iload_n 2, 1) := by decide +kernel
theorem dX12_town_87 : decode cX12_town 87 = .ok (.sipush 320, 3) := by decide +kernel
theorem dX12_town_90 : decode cX12_town 90 = .ok (.iload_n 1, 1) := by decide +kernel
theorem dX12_town_91 : decode cX12_town 91 = .ok (.imul, 1) := by decide +kernel
theorem dX12_town_92 : decode cX12_town 92 = .ok (.aload_n 0, 1) := by decide +kernel
theorem dX12_town_93 : decode cX12_town 93 = .ok (.getfield 36, 3) := by decide +kernel
theorem dX12_town_96 : decode cX12_town 96 = .ok (.iload_n 1, 1) := by decide +kernel
theorem dX12_town_97 : decode cX12_town 97 = .ok (.iaload, 1) := by decide +kernel
theorem dX12_town_98 : decode cX12_town 98 = .ok (.iadd, 1) := by decide +kernel
theorem dX12_town_99 : decode cX12_town 99 = .ok (.if_icmp .ge 33, 3) := by decide +kernel
theorem dX12_town_102 : decode cX12_town 102 = .ok (.aload_n 0, 1) := by decide +kernel
theorem dX12_town_103 : decode cX12_town 103 = .ok (.getfield 30, 3) := by decide +kernel
theorem dX12_town_106 : decode cX12_town 106 = .ok (.iload_n 2, 1) := by decide +kernel
theorem dX12_town_107 : decode cX12_town 107 = .ok (.aload_n 0, 1) := by decide +kernel
theorem dX12_town_108 : decode cX12_town 108 = .ok (.getfield 21, 3) := by decide +kernel
theorem dX12_town_111 : decode cX12_town 111 = .ok (.iload_n 2, 1) := by decide +kernel
theorem dX12_town_112 : decode cX12_town 112 = .ok (.iaload, 1) := by decide +kernel
theorem dX12_town_113 : decode cX12_town 113 = .ok (.iastore, 1) := by decide +kernel
theorem dX12_town_114 : decode cX12_town 114 = .ok (.aload_n 0, 1) := by decide +kernel
theorem dX12_town_115 : decode cX12_town 115 = .ok (.getfield 33, 3) := by decide +kernel
theorem dX12_town_118 : decode cX12_town 118 = .ok (.iload_n 2, 1) := by decide +kernel
theorem dX12_town_119 : decode cX12_town 119 = .ok (.aload_n 0, 1) := by decide +kernel
theorem dX12_town_120 : decode cX12_town 120 = .ok (.getfield 24, 3) := by decide +kernel
theorem dX12_town_123 : decode cX12_town 123 = .ok (.iload_n 2, 1) := by decide +kernel
theorem dX12_town_124 : decode cX12_town 124 = .ok (.iaload, 1) := by decide +kernel
theorem dX12_town_125 : decode cX12_town 125 = .ok (.iastore, 1) := by decide +kernel
theorem dX12_town_126 : decode cX12_town 126 = .ok (.iinc 2 1, 3) := by decide +kernel
theorem dX12_town_129 : decode cX12_town 129 = .ok (.goto (-43), 3) := by decide +kernel
theorem dX12_town_132 : decode cX12_town 132 = .ok (.iinc 1 1, 3) := by decide +kernel
theorem dX12_town_135 : decode cX12_town 135 = .ok (.goto (-72), 3) := by decide +kernel
theorem dX12_town_138 : decode cX12_town 138 = .ok (.iconst 0, 1) := by decide +kernel
theorem dX12_town_139 : decode cX12_town 139 = .ok (.istore_n 1, 1) := by decide +kernel
theorem dX12_town_140 : decode cX12_town 140 = .ok (.iload_n 1, 1) := by decide +kernel
theorem dX12_town_141 : decode cX12_town 141 = .ok (.bipush 6, 2) := by decide +kernel
theorem dX12_town_143 : decode cX12_town 143 = .ok (.if_icmp .ge 93, 3) := by decide +kernel
theorem dX12_town_146 : decode cX12_town 146 = .ok (.aload_n 0, 1) := by decide +kernel
theorem dX12_town_147 : decode cX12_town 147 = .ok (.getfield 72, 3) := by decide +kernel
theorem dX12_town_150 : decode cX12_town 150 = .ok (.iload_n 1, 1) := by decide +kernel
theorem dX12_town_151 : decode cX12_town 151 = .ok (.aload_n 0, 1) := by decide +kernel
theorem dX12_town_152 : decode cX12_town 152 = .ok (.getfield 48, 3) := by decide +kernel
theorem dX12_town_155 : decode cX12_town 155 = .ok (.iload_n 1, 1) := by decide +kernel
theorem dX12_town_156 : decode cX12_town 156 = .ok (.iaload, 1) := by decide +kernel
theorem dX12_town_157 : decode cX12_town 157 = .ok (.iastore, 1) := by decide +kernel
theorem dX12_town_158 : decode cX12_town 158 = .ok (.aload_n 0, 1) := by decide +kernel
theorem dX12_town_159 : decode cX12_town 159 = .ok (.getfield 75, 3) := by decide +kernel
theorem dX12_town_162 : decode cX12_town 162 = .ok (.iload_n 1, 1) := by decide +kernel
theorem dX12_town_163 : decode cX12_town 163 = .ok (.aload_n 0, 1) := by decide +kernel
theorem dX12_town_164 : decode cX12_town 164 = .ok (.getfield 51, 3) := by decide +kernel
theorem dX12_town_167 : decode cX12_town 167 = .ok (.iload_n 1, 1) := by decide +kernel
theorem dX12_town_168 : decode cX12_town 168 = .ok (.iaload, 1) := by decide +kernel
theorem dX12_town_169 : decode cX12_town 169 = .ok (.iastore, 1) := by decide +kernel
theorem dX12_town_170 : decode cX12_town 170 = .ok (.aload_n 0, 1) := by decide +kernel
theorem dX12_town_171 : decode cX12_town 171 = .ok (.getfield 78, 3) := by decide +kernel
theorem dX12_town_174 : decode cX12_town 174 = .ok (.iload_n 1, 1) := by decide +kernel
theorem dX12_town_175 : decode cX12_town 175 = .ok (.aload_n 0, 1) := by decide +kernel
theorem dX12_town_176 : decode cX12_town 176 = .ok (.getfield 54, 3) := by decide +kernel
theorem dX12_town_179 : decode cX12_town 179 = .ok (.iload_n 1, 1) := by decide +kernel
theorem dX12_town_180 : decode cX12_town 180 = .ok (.iaload, 1) := by decide +kernel
theorem dX12_town_181 : decode cX12_town 181 = .ok (.iastore, 1) := by decide +kernel
theorem dX12_town_182 : decode cX12_town 182 = .ok (.aload_n 0, 1) := by decide +kernel
theorem dX12_town_183 : decode cX12_town 183 = .ok (.getfield 81, 3) := by decide +kernel
theorem dX12_town_186 : decode cX12_town 186 = .ok (.iload_n 1, 1) := by decide +kernel
theorem dX12_town_187 : decode cX12_town 187 = .ok (.aload_n 0, 1) := by decide +kernel
theorem dX12_town_188 : decode cX12_town 188 = .ok (.getfield 57, 3) := by decide +kernel
theorem dX12_town_191 : decode cX12_town 191 = .ok (.iload_n 1, 1) := by decide +kernel
theorem dX12_town_192 : decode cX12_town 192 = .ok (.iaload, 1) := by decide +kernel
theorem dX12_town_193 : decode cX12_town 193 = .ok (.iastore, 1) := by decide +kernel
theorem dX12_town_194 : decode cX12_town 194 = .ok (.aload_n 0, 1) := by decide +kernel
theorem dX12_town_195 : decode cX12_town 195 = .ok (.getfield 84, 3) := by decide +kernel
theorem dX12_town_198 : decode cX12_town 198 = .ok (.iload_n 1, 1) := by decide +kernel
theorem dX12_town_199 : decode cX12_town 199 = .ok (.aload_n 0, 1) := by decide +kernel
theorem dX12_town_200 : decode cX12_town 200 = .ok (.getfield 60, 3) := by decide +kernel
theorem dX12_town_203 : decode cX12_town 203 = .ok (.iload_n 1, 1) := by decide +kernel
theorem dX12_town_204 : decode cX12_town 204 = .ok (.iaload, 1) := by decide +kernel
theorem dX12_town_205 : decode cX12_town 205 = .ok (.iastore, 1) := by decide +kernel
theorem dX12_town_206 : decode cX12_town 206 = .ok (.aload_n 0, 1) := by decide +kernel
theorem dX12_town_207 : decode cX12_town 207 = .ok (.getfield 87, 3) := by decide +kernel
theorem dX12_town_210 : decode cX12_town 210 = .ok (.iload_n 1, 1) := by decide +kernel
theorem dX12_town_211 : decode cX12_town 211 = .ok (.aload_n 0, 1) := by decide +kernel
theorem dX12_town_212 : decode cX12_town 212 = .ok (.getfield 63, 3) := by decide +kernel
theorem dX12_town_215 : decode cX12_town 215 = .ok (.iload_n 1, 1) := by decide +kernel
theorem dX12_town_216 : decode cX12_town 216 = .ok (.iaload, 1) := by decide +kernel
theorem dX12_town_217 : decode cX12_town 217 = .ok (.iastore, 1) := by decide +kernel
theorem dX12_town_218 : decode cX12_town 218 = .ok (.aload_n 0, 1) := by decide +kernel
theorem dX12_town_219 : decode cX12_town 219 = .ok (.getfield 90, 3) := by decide +kernel
theorem dX12_town_222 : decode cX12_town 222 = .ok (.iload_n 1, 1) := by decide +kernel
theorem dX12_town_223 : decode cX12_town 223 = .ok (.aload_n 0, 1) := by decide +kernel
theorem dX12_town_224 : decode cX12_town 224 = .ok (.getfield 66, 3) := by decide +kernel
theorem dX12_town_227 : decode cX12_town 227 = .ok (.iload_n 1, 1) := by decide +kernel
theorem dX12_town_228 : decode cX12_town 228 = .ok (.iaload, 1) := by decide +kernel
theorem dX12_town_229 : decode cX12_town 229 = .ok (.iastore, 1) := by decide +kernel
theorem dX12_town_230 : decode cX12_town 230 = .ok (.iinc 1 1, 3) := by decide +kernel
theorem dX12_town_233 : decode cX12_town 233 = .ok (.goto (-93), 3) := by decide +kernel
theorem dX12_town_236 : decode cX12_town 236 = .ok (.iconst 0, 1) := by decide +kernel
theorem dX12_town_237 : decode cX12_town 237 = .ok (.istore_n 1, 1) := by decide +kernel
theorem dX12_town_238 : decode cX12_town 238 = .ok (.iload_n 1, 1) := by decide +kernel
theorem dX12_town_239 : decode cX12_town 239 = .ok (.bipush 36, 2) := by decide +kernel
theorem dX12_town_241 : decode cX12_town 241 = .ok (.if_icmp .ge 21, 3) := by decide +kernel
theorem dX12_town_244 : decode cX12_town 244 = .ok (.aload_n 0, 1) := by decide +kernel
theorem dX12_town_245 : decode cX12_town 245 = .ok (.getfield 93, 3) := by decide +kernel
theorem dX12_town_248 : decode cX12_town 248 = .ok (.iload_n 1, 1) := by decide +kernel
theorem dX12_town_249 : decode cX12_town 249 = .ok (.aload_n 0, 1) := by decide +kernel
theorem dX12_town_250 : decode cX12_town 250 = .ok (.getfield 69, 3) := by decide +kernel
theorem dX12_town_253 : decode cX12_town 253 = .ok (.iload_n 1, 1) := by decide +kernel
theorem dX12_town_254 : decode cX12_town 254 = .ok (.iaload, 1) := by decide +kernel
theorem dX12_town_255 : decode cX12_town 255 = .ok (.iastore, 1) := by decide +kernel
theorem dX12_town_256 : decode cX12_town 256 = .ok (.iinc 1 1, 3) := by decide +kernel
theorem dX12_town_259 : decode cX12_town 259 = .ok (.goto (-21), 3) := by decide +kernel
theorem dX12_town_262 : decode cX12_town 262 = .ok (.iconst 0, 1) := by decide +kernel
theorem dX12_town_263 : decode cX12_town 263 = .ok (.istore_n 1, 1) := by decide +kernel
theorem dX12_town_264 : decode cX12_town 264 = .ok (.iload_n 1, 1) := by decide +kernel
theorem dX12_town_265 : decode cX12_town 265 = .ok (.bipush 63, 2) := by decide +kernel
theorem dX12_town_267 : decode cX12_town 267 = .ok (.if_icmp .ge 16, 3) := by decide +kernel
theorem dX12_town_270 : decode cX12_town 270 = .ok (.aload_n 0, 1) := by decide +kernel
theorem dX12_town_271 : decode cX12_town 271 = .ok (.getfield 99, 3) := by decide +kernel
theorem dX12_town_274 : decode cX12_town 274 = .ok (.iload_n 1, 1) := by decide +kernel
theorem dX12_town_275 : decode cX12_town 275 = .ok (.iconst 0, 1) := by decide +kernel
theorem dX12_town_276 : decode cX12_town 276 = .ok (.iastore, 1) := by decide +kernel
theorem dX12_town_277 : decode cX12_town 277 = .ok (.iinc 1 1, 3) := by decide +kernel
theorem dX12_town_280 : decode cX12_town 280 = .ok (.goto (-16), 3) := by decide +kernel
theorem dX12_town_283 : decode cX12_town 283 = .ok (.iconst 0, 1) := by decide +kernel
theorem dX12_town_284 : decode cX12_town 284 = .ok (.istore_n 1, 1) := by decide +kernel
theorem dX12_town_285 : decode cX12_town 285 = .ok (.iload_n 1, 1) := by decide +kernel
theorem dX12_town_286 : decode cX12_town 286 = .ok (.aload_n 0, 1) := by decide +kernel
theorem dX12_town_287 : decode cX12_town 287 = .ok (.getfield 401, 3) := by decide +kernel
theorem dX12_town_290 : decode cX12_town 290 = .ok (.if_icmp .ge 58, 3) := by decide +kernel
theorem dX12_town_293 : decode cX12_town 293 = .ok (.aload_n 0, 1) := by decide +kernel
theorem dX12_town_294 : decode cX12_town 294 = .ok (.getfield 99, 3) := by decide +kernel
theorem dX12_town_297 : decode cX12_town 297 = .ok (.iconst 0, 1) := by decide +kernel
theorem dX12_town_298 : decode cX12_town 298 = .ok (.iload_n 1, 1) := by decide +kernel
theorem dX12_town_299 : decode cX12_town 299 = .ok (.iadd, 1) := by decide +kernel
theorem dX12_town_300 : decode cX12_town 300 = .ok (.aload_n 0, 1) := by decide +kernel
theorem dX12_town_301 : decode cX12_town 301 = .ok (.getfield 72, 3) := by decide +kernel
theorem dX12_town_304 : decode cX12_town 304 = .ok (.iload_n 1, 1) := by decide +kernel
theorem dX12_town_305 : decode cX12_town 305 = .ok (.iaload, 1) := by decide +kernel
theorem dX12_town_306 : decode cX12_town 306 = .ok (.iastore, 1) := by decide +kernel
theorem dX12_town_307 : decode cX12_town 307 = .ok (.aload_n 0, 1) := by decide +kernel
theorem dX12_town_308 : decode cX12_town 308 = .ok (.getfield 99, 3) := by decide +kernel
theorem dX12_town_311 : decode cX12_town 311 = .ok (.bipush 6, 2) := by decide +kernel
theorem dX12_town_313 : decode cX12_town 313 = .ok (.iload_n 1, 1) := by decide +kernel
theorem dX12_town_314 : decode cX12_town 314 = .ok (.iadd, 1) := by decide +kernel
theorem dX12_town_315 : decode cX12_town 315 = .ok (.iconst (-1), 1) := by decide +kernel
theorem dX12_town_316 : decode cX12_town 316 = .ok (.iastore, 1) := by decide +kernel
theorem dX12_town_317 : decode cX12_town 317 = .ok (.aload_n 0, 1) := by decide +kernel
theorem dX12_town_318 : decode cX12_town 318 = .ok (.getfield 99, 3) := by decide +kernel
theorem dX12_town_321 : decode cX12_town 321 = .ok (.bipush 12, 2) := by decide +kernel
theorem dX12_town_323 : decode cX12_town 323 = .ok (.iload_n 1, 1) := by decide +kernel
theorem dX12_town_324 : decode cX12_town 324 = .ok (.iadd, 1) := by decide +kernel
theorem dX12_town_325 : decode cX12_town 325 = .ok (.iload_n 1, 1) := by decide +kernel
theorem dX12_town_326 : decode cX12_town 326 = .ok (.iastore, 1) := by decide +kernel
theorem dX12_town_327 : decode cX12_town 327 = .ok (.aload_n 0, 1) := by decide +kernel
theorem dX12_town_328 : decode cX12_town 328 = .ok (.getfield 99, 3) := by decide +kernel
theorem dX12_town_331 : decode cX12_town 331 = .ok (.bipush 18, 2) := by decide +kernel
theorem dX12_town_333 : decode cX12_town 333 = .ok (.iload_n 1, 1) := by decide +kernel
theorem dX12_town_334 : decode cX12_town 334 = .ok (.iadd, 1) := by decide +kernel
theorem dX12_town_335 : decode cX12_town 335 = .ok (.aload_n 0, 1) := by decide +kernel
theorem dX12_town_336 : decode cX12_town 336 = .ok (.getfield 90, 3) := by decide +kernel
theorem dX12_town_339 : decode cX12_town 339 = .ok (.iload_n 1, 1) := by decide +kernel
theorem dX12_town_340 : decode cX12_town 340 = .ok (.iaload, 1) := by decide +kernel
theorem dX12_town_341 : decode cX12_town 341 = .ok (.iastore, 1) := by decide +kernel
theorem dX12_town_342 : decode cX12_town 342 = .ok (.iinc 1 1, 3) := by decide +kernel
theorem dX12_town_345 : decode cX12_town 345 = .ok (.goto (-60), 3) := by decide +kernel
theorem dX12_town_348 : decode cX12_town 348 = .ok (.iconst 0, 1) := by decide +kernel
theorem dX12_town_349 : decode cX12_town 349 = .ok (.istore_n 1, 1) := by decide +kernel
theorem dX12_town_350 : decode cX12_town 350 = .ok (.iload_n 1, 1) := by decide +kernel
theorem dX12_town_351 : decode cX12_town 351 = .ok (.bipush 36, 2) := by decide +kernel
theorem dX12_town_353 : decode cX12_town 353 = .ok (.if_icmp .ge 24, 3) := by decide +kernel
theorem dX12_town_356 : decode cX12_town 356 = .ok (.aload_n 0, 1) := by decide +kernel
theorem dX12_town_357 : decode cX12_town 357 = .ok (.getfield 99, 3) := by decide +kernel
theorem dX12_town_360 : decode cX12_town 360 = .ok (.bipush 24, 2) := by decide +kernel
theorem dX12_town_362 : decode cX12_town 362 = .ok (.iload_n 1, 1) := by decide +kernel
theorem dX12_town_363 : decode cX12_town 363 = .ok (.iadd, 1) := by decide +kernel
theorem dX12_town_364 : decode cX12_town 364 = .ok (.aload_n 0, 1) := by decide +kernel
theorem dX12_town_365 : decode cX12_town 365 = .ok (.getfield 93, 3) := by decide +kernel
theorem dX12_town_368 : decode cX12_town 368 = .ok (.iload_n 1, 1) := by decide +kernel
theorem dX12_town_369 : decode cX12_town 369 = .ok (.iaload, 1) := by decide +kernel
theorem dX12_town_370 : decode cX12_town 370 = .ok (.iastore, 1) := by decide +kernel
theorem dX12_town_371 : decode cX12_town 371 = .ok (.iinc 1 1, 3) := by decide +kernel
theorem dX12_town_374 : decode cX12_town 374 = .ok (.goto (-24), 3) := by decide +kernel
theorem dX12_town_377 : decode cX12_town 377 = .ok (.aload_n 0, 1) := by decide +kernel
theorem dX12_town_378 : decode cX12_town 378 = .ok (.iconst 0, 1) := by decide +kernel
theorem dX12_town_379 : decode cX12_town 379 = .ok (.putfield 416, 3) := by decide +kernel
theorem dX12_town_382 : decode cX12_town 382 = .ok (.aload_n 0, 1) := by decide +kernel
theorem dX12_town_383 : decode cX12_town 383 = .ok (.iconst 0, 1) := by decide +kernel
theorem dX12_town_384 : decode cX12_town 384 = .ok (.putfield 419, 3) := by decide +kernel
theorem dX12_town_387 : decode cX12_town 387 = .ok (.aload_n 0, 1) := by decide +kernel
theorem dX12_town_388 : decode cX12_town 388 = .ok (.iconst 0, 1) := by decide +kernel
theorem dX12_town_389 : decode cX12_town 389 = .ok (.putfield 422, 3) := by decide +kernel
theorem dX12_town_392 : decode cX12_town 392 = .ok (.aload_n 0, 1) := by decide +kernel
theorem dX12_town_393 : decode cX12_town 393 = .ok (.iconst 0, 1) := by decide +kernel
theorem dX12_town_394 : decode cX12_town 394 = .ok (.putfield 425, 3) := by decide +kernel
theorem dX12_town_397 : decode cX12_town 397 = .ok (.iconst 0, 1) := by decide +kernel
theorem dX12_town_398 : decode cX12_town 398 = .ok (.istore_n 1, 1) := by decide +kernel
theorem dX12_town_399 : decode cX12_town 399 = .ok (.iload_n 1, 1) := by decide +kernel
theorem dX12_town_400 : decode cX12_town 400 = .ok (.iconst 3, 1) := by decide +kernel
theorem dX12_town_401 : decode cX12_town 401 = .ok (.if_icmp .ge 16, 3) := by decide +kernel
theorem dX12_town_404 : decode cX12_town 404 = .ok (.aload_n 0, 1) := by decide +kernel
theorem dX12_town_405 : decode cX12_town 405 = .ok (.getfield 166, 3) := by decide +kernel
theorem dX12_town_408 : decode cX12_town 408 = .ok (.iload_n 1, 1) := by decide +kernel
theorem dX12_town_409 : decode cX12_town 409 = .ok (.iconst 0, 1) := by decide +kernel
theorem dX12_town_410 : decode cX12_town 410 = .ok (.bastore, 1) := by decide +kernel
theorem dX12_town_411 : decode cX12_town 411 = .ok (.iinc 1 1, 3) := by decide +kernel
theorem dX12_town_414 : decode cX12_town 414 = .ok (.goto (-15), 3) := by decide +kernel
theorem dX12_town_417 : decode cX12_town 417 = .ok (.aload_n 0, 1) := by decide +kernel
theorem dX12_town_418 : decode cX12_town 418 = .ok (.getfield 401, 3) := by decide +kernel
theorem dX12_town_421 : decode cX12_town 421 = .ok (.ireturn, 1) := by decide +kernel
theorem dX12_fault_0 : decode cX12_fault 0 = .ok (.iload_n 1, 1) := by decide +kernel
theorem dX12_fault_1 : decode cX12_fault 1 = .ok (.ifCond .ne 10, 3) := by decide +kernel
theorem dX12_fault_4 : decode cX12_fault 4 = .ok (.aload_n 0, 1) := by decide +kernel
theorem dX12_fault_5 : decode cX12_fault 5 = .ok (.getfield 212, 3) := by decide +kernel
theorem dX12_fault_8 : decode cX12_fault 8 = .ok (.goto 16, 3) := by decide +kernel
theorem dX12_fault_11 : decode cX12_fault 11 = .ok (.iload_n 1, 1) := by decide +kernel
theorem dX12_fault_12 : decode cX12_fault 12 = .ok (.iconst 1, 1) := by decide +kernel
theorem dX12_fault_13 : decode cX12_fault 13 = .ok (.if_icmp .ne 10, 3) := by decide +kernel
theorem dX12_fault_16 : decode cX12_fault 16 = .ok (.aload_n 0, 1) := by decide +kernel
theorem dX12_fault_17 : decode cX12_fault 17 = .ok (.getfield 13, 3) := by decide +kernel
theorem dX12_fault_20 : decode cX12_fault 20 = .ok (.goto 4, 3) := by decide +kernel
theorem dX12_fault_23 : decode cX12_fault 23 = .ok (.iconst (-1), 1) := by decide +kernel
theorem dX12_fault_24 : decode cX12_fault 24 = .ok (.ireturn, 1) := by decide +kernel
theorem dX12_isIn_0 : decode cX12_isIn 0 = .ok (.iload_n 0, 1) := by decide +kernel
theorem dX12_isIn_1 : decode cX12_isIn 1 = .ok (.iload_n 1, 1) := by decide +kernel
theorem dX12_isIn_2 : decode cX12_isIn 2 = .ok (.if_icmp .lt 12, 3) := by decide +kernel
theorem dX12_isIn_5 : decode cX12_isIn 5 = .ok (.iload_n 0, 1) := by decide +kernel
theorem dX12_isIn_6 : decode cX12_isIn 6 = .ok (.iload_n 2, 1) := by decide +kernel
theorem dX12_isIn_7 : decode cX12_isIn 7 = .ok (.if_icmp .gt 7, 3) := by decide +kernel
theorem dX12_isIn_10 : decode cX12_isIn 10 = .ok (.iconst 1, 1) := by decide +kernel
theorem dX12_isIn_11 : decode cX12_isIn 11 = .ok (.goto 4, 3) := by decide +kernel
theorem dX12_isIn_14 : decode cX12_isIn 14 = .ok (.iconst 0, 1) := by decide +kernel
theorem dX12_isIn_15 : decode cX12_isIn 15 = .ok (.ireturn, 1) := by decide +kernel
theorem dX12_isPerson_0 : decode cX12_isPerson 0 = .ok (.iload_n 1, 1) := by decide +kernel
theorem dX12_isPerson_1 : decode cX12_isPerson 1 = .ok (.iconst 0, 1) := by decide +kernel
theorem dX12_isPerson_2 : decode cX12_isPerson 2 = .ok (.aload_n 0, 1) := by decide +kernel
theorem dX12_isPerson_3 : decode cX12_isPerson 3 = .ok (.getfield 401, 3) := by decide +kernel
theorem dX12_isPerson_6 : decode cX12_isPerson 6 = .ok (.iconst 1, 1) := by decide +kernel
theorem dX12_isPerson_7 : decode cX12_isPerson 7 = .ok (.isub, 1) := by decide +kernel
theorem dX12_isPerson_8 : decode cX12_isPerson 8 = .ok (.invokestatic 428, 3) := by decide +kernel
theorem dX12_isPerson_11 : decode cX12_isPerson 11 = .ok (.ireturn, 1) := by decide +kernel
theorem dX12_areTwo_0 : decode cX12_areTwo 0 = .ok (.aload_n 0, 1) := by decide +kernel
theorem dX12_areTwo_1 : decode cX12_areTwo 1 = .ok (.iload_n 1, 1) := by decide +kernel
theorem dX12_areTwo_2 : decode cX12_areTwo 2 = .ok (.invokevirtual 432, 3) := by decide +kernel
theorem dX12_areTwo_5 : decode cX12_areTwo 5 = .ok (.ifCond .eq 20, 3) := by decide +kernel
theorem dX12_areTwo_8 : decode cX12_areTwo 8 = .ok (.aload_n 0, 1) := by decide +kernel
theorem dX12_areTwo_9 : decode cX12_areTwo 9 = .ok (.iload_n 2, 1) := by decide +kernel
theorem dX12_areTwo_10 : decode cX12_areTwo 10 = .ok (.invokevirtual 432, 3) := by decide +kernel
theorem dX12_areTwo_13 : decode cX12_areTwo 13 = .ok (.ifCond .eq 12, 3) := by decide +kernel
theorem dX12_areTwo_16 : decode cX12_areTwo 16 = .ok (.iload_n 1, 1) := by decide +kernel
theorem dX12_areTwo_17 : decode cX12_areTwo 17 = .ok (.iload_n 2, 1) := by decide +kernel
theorem dX12_areTwo_18 : decode cX12_areTwo 18 = .ok (.if_icmp .eq 7, 3) := by decide +kernel
theorem dX12_areTwo_21 : decode cX12_areTwo 21 = .ok (.iconst 1, 1) := by decide +kernel
theorem dX12_areTwo_22 : decode cX12_areTwo 22 = .ok (.goto 4, 3) := by decide +kernel
theorem dX12_areTwo_25 : decode cX12_areTwo 25 = .ok (.iconst 0, 1) := by decide +kernel
theorem dX12_areTwo_26 : decode cX12_areTwo 26 = .ok (.ireturn, 1) := by decide +kernel
theorem dX12_load_0 : decode cX12_load 0 = .ok (.iconst 0, 1) := by decide +kernel
theorem dX12_load_1 : decode cX12_load 1 = .ok (.istore_n 1, 1) := by decide +kernel
theorem dX12_load_2 : decode cX12_load 2 = .ok (.iload_n 1, 1) := by decide +kernel
theorem dX12_load_3 : decode cX12_load 3 = .ok (.bipush 6, 2) := by decide +kernel
theorem dX12_load_5 : decode cX12_load 5 = .ok (.if_icmp .ge 80, 3) := by decide +kernel
theorem dX12_load_8 : decode cX12_load 8 = .ok (.aload_n 0, 1) := by decide +kernel
theorem dX12_load_9 : decode cX12_load 9 = .ok (.getfield 102, 3) := by decide +kernel
theorem dX12_load_12 : decode cX12_load 12 = .ok (.iload_n 1, 1) := by decide +kernel
theorem dX12_load_13 : decode cX12_load 13 = .ok (.aload_n 0, 1) := by decide +kernel
theorem dX12_load_14 : decode cX12_load 14 = .ok (.getfield 99, 3) := by decide +kernel
theorem dX12_load_17 : decode cX12_load 17 = .ok (.iconst 0, 1) := by decide +kernel
theorem dX12_load_18 : decode cX12_load 18 = .ok (.iload_n 1, 1) := by decide +kernel
theorem dX12_load_19 : decode cX12_load 19 = .ok (.iadd, 1) := by decide +kernel
theorem dX12_load_20 : decode cX12_load 20 = .ok (.iaload, 1) := by decide +kernel
theorem dX12_load_21 : decode cX12_load 21 = .ok (.iastore, 1) := by decide +kernel
theorem dX12_load_22 : decode cX12_load 22 = .ok (.aload_n 0, 1) := by decide +kernel
theorem dX12_load_23 : decode cX12_load 23 = .ok (.getfield 105, 3) := by decide +kernel
theorem dX12_load_26 : decode cX12_load 26 = .ok (.iload_n 1, 1) := by decide +kernel
theorem dX12_load_27 : decode cX12_load 27 = .ok (.aload_n 0, 1) := by decide +kernel
theorem dX12_load_28 : decode cX12_load 28 = .ok (.getfield 99, 3) := by decide +kernel
theorem dX12_load_31 : decode cX12_load 31 = .ok (.bipush 6, 2) := by decide +kernel
theorem dX12_load_33 : decode cX12_load 33 = .ok (.iload_n 1, 1) := by decide +kernel
theorem dX12_load_34 : decode cX12_load 34 = .ok (.iadd, 1) := by decide +kernel
theorem dX12_load_35 : decode cX12_load 35 = .ok (.iaload, 1) := by decide +kernel
theorem dX12_load_36 : decode cX12_load 36 = .ok (.iastore, 1) := by decide +kernel
theorem dX12_load_37 : decode cX12_load 37 = .ok (.aload_n 0, 1) := by decide +kernel
theorem dX12_load_38 : decode cX12_load 38 = .ok (.getfield 108, 3) := by decide +kernel
theorem dX12_load_41 : decode cX12_load 41 = .ok (.iload_n 1, 1) := by decide +kernel
theorem dX12_load_42 : decode cX12_load 42 = .ok (.aload_n 0, 1) := by decide +kernel
theorem dX12_load_43 : decode cX12_load 43 = .ok (.getfield 99, 3) := by decide +kernel
theorem dX12_load_46 : decode cX12_load 46 = .ok (.bipush 12, 2) := by decide +kernel
theorem dX12_load_48 : decode cX12_load 48 = .ok (.iload_n 1, 1) := by decide +kernel
theorem dX12_load_49 : decode cX12_load 49 = .ok (.iadd, 1) := by decide +kernel
theorem dX12_load_50 : decode cX12_load 50 = .ok (.iaload, 1) := by decide +kernel
theorem dX12_load_51 : decode cX12_load 51 = .ok (.iastore, 1) := by decide +kernel
theorem dX12_load_52 : decode cX12_load 52 = .ok (.aload_n 0, 1) := by decide +kernel
theorem dX12_load_53 : decode cX12_load 53 = .ok (.getfield 111, 3) := by decide +kernel
theorem dX12_load_56 : decode cX12_load 56 = .ok (.iload_n 1, 1) := by decide +kernel
theorem dX12_load_57 : decode cX12_load 57 = .ok (.aload_n 0, 1) := by decide +kernel
theorem dX12_load_58 : decode cX12_load 58 = .ok (.getfield 99, 3) := by decide +kernel
theorem dX12_load_61 : decode cX12_load 61 = .ok (.bipush 18, 2) := by decide +kernel
theorem dX12_load_63 : decode cX12_load 63 = .ok (.iload_n 1, 1) := by decide +kernel
theorem dX12_load_64 : decode cX12_load 64 = .ok (.iadd, 1) := by decide +kernel
theorem dX12_load_65 : decode cX12_load 65 = .ok (.iaload, 1) := by decide +kernel
theorem dX12_load_66 : decode cX12_load 66 = .ok (.iastore, 1) := by decide +kernel
theorem dX12_load_67 : decode cX12_load 67 = .ok (.aload_n 0, 1) := by decide +kernel
theorem dX12_load_68 : decode cX12_load 68 = .ok (.getfield 117, 3) := by decide +kernel
theorem dX12_load_71 : decode cX12_load 71 = .ok (.iload_n 1, 1) := by decide +kernel
theorem dX12_load_72 : decode cX12_load 72 = .ok (.aload_n 0, 1) := by decide +kernel
theorem dX12_load_73 : decode cX12_load 73 = .ok (.getfield 75, 3) := by decide +kernel
theorem dX12_load_76 : decode cX12_load 76 = .ok (.iload_n 1, 1) := by decide +kernel
theorem dX12_load_77 : decode cX12_load 77 = .ok (.iaload, 1) := by decide +kernel
theorem dX12_load_78 : decode cX12_load 78 = .ok (.iastore, 1) := by decide +kernel
theorem dX12_load_79 : decode cX12_load 79 = .ok (.iinc 1 1, 3) := by decide +kernel
theorem dX12_load_82 : decode cX12_load 82 = .ok (.goto (-80), 3) := by decide +kernel
theorem dX12_load_85 : decode cX12_load 85 = .ok (.iconst 0, 1) := by decide +kernel
theorem dX12_load_86 : decode cX12_load 86 = .ok (.istore_n 1, 1) := by decide +kernel
theorem dX12_load_87 : decode cX12_load 87 = .ok (.iload_n 1, 1) := by decide +kernel
theorem dX12_load_88 : decode cX12_load 88 = .ok (.bipush 36, 2) := by decide +kernel
theorem dX12_load_90 : decode cX12_load 90 = .ok (.if_icmp .ge 24, 3) := by decide +kernel
theorem dX12_load_93 : decode cX12_load 93 = .ok (.aload_n 0, 1) := by decide +kernel
theorem dX12_load_94 : decode cX12_load 94 = .ok (.getfield 114, 3) := by decide +kernel
theorem dX12_load_97 : decode cX12_load 97 = .ok (.iload_n 1, 1) := by decide +kernel
theorem dX12_load_98 : decode cX12_load 98 = .ok (.aload_n 0, 1) := by decide +kernel
theorem dX12_load_99 : decode cX12_load 99 = .ok (.getfield 99, 3) := by decide +kernel
theorem dX12_load_102 : decode cX12_load 102 = .ok (.bipush 24, 2) := by decide +kernel
theorem dX12_load_104 : decode cX12_load 104 = .ok (.iload_n 1, 1) := by decide +kernel
theorem dX12_load_105 : decode cX12_load 105 = .ok (.iadd, 1) := by decide +kernel
theorem dX12_load_106 : decode cX12_load 106 = .ok (.iaload, 1) := by decide +kernel
theorem dX12_load_107 : decode cX12_load 107 = .ok (.iastore, 1) := by decide +kernel
theorem dX12_load_108 : decode cX12_load 108 = .ok (.iinc 1 1, 3) := by decide +kernel
theorem dX12_load_111 : decode cX12_load 111 = .ok (.goto (-24), 3) := by decide +kernel
theorem dX12_load_114 : decode cX12_load 114 = .ok (.aload_n 0, 1) := by decide +kernel
theorem dX12_load_115 : decode cX12_load 115 = .ok (.aload_n 0, 1) := by decide +kernel
theorem dX12_load_116 : decode cX12_load 116 = .ok (.getfield 99, 3) := by decide +kernel
theorem dX12_load_119 : decode cX12_load 119 = .ok (.bipush 60, 2) := by decide +kernel
theorem dX12_load_121 : decode cX12_load 121 = .ok (.iaload, 1) := by decide +kernel
theorem dX12_load_122 : decode cX12_load 122 = .ok (.putfield 435, 3) := by decide +kernel
theorem dX12_load_125 : decode cX12_load 125 = .ok (.aload_n 0, 1) := by decide +kernel
theorem dX12_load_126 : decode cX12_load 126 = .ok (.aload_n 0, 1) := by decide +kernel
theorem dX12_load_127 : decode cX12_load 127 = .ok (.getfield 99, 3) := by decide +kernel
theorem dX12_load_130 : decode cX12_load 130 = .ok (.bipush 61, 2) := by decide +kernel
theorem dX12_load_132 : decode cX12_load 132 = .ok (.iaload, 1) := by decide +kernel
theorem dX12_load_133 : decode cX12_load 133 = .ok (.putfield 438, 3) := by decide +kernel
theorem dX12_load_136 : decode cX12_load 136 = .ok (.return_, 1) := by decide +kernel
theorem dX12_keep_0 : decode cX12_keep 0 = .ok (.iconst 0, 1) := by decide +kernel
theorem dX12_keep_1 : decode cX12_keep 1 = .ok (.istore_n 1, 1) := by decide +kernel
theorem dX12_keep_2 : decode cX12_keep 2 = .ok (.iload_n 1, 1) := by decide +kernel
theorem dX12_keep_3 : decode cX12_keep 3 = .ok (.bipush 6, 2) := by decide +kernel
theorem dX12_keep_5 : decode cX12_keep 5 = .ok (.if_icmp .ge 38, 3) := by decide +kernel
theorem dX12_keep_8 : decode cX12_keep 8 = .ok (.aload_n 0, 1) := by decide +kernel
theorem dX12_keep_9 : decode cX12_keep 9 = .ok (.getfield 99, 3) := by decide +kernel
theorem dX12_keep_12 : decode cX12_keep 12 = .ok (.iconst 0, 1) := by decide +kernel
theorem dX12_keep_13 : decode cX12_keep 13 = .ok (.iload_n 1, 1) := by decide +kernel
theorem dX12_keep_14 : decode cX12_keep 14 = .ok (.iadd, 1) := by decide +kernel
theorem dX12_keep_15 : decode cX12_keep 15 = .ok (.aload_n 0, 1) := by decide +kernel
theorem dX12_keep_16 : decode cX12_keep 16 = .ok (.getfield 102, 3) := by decide +kernel
theorem dX12_keep_19 : decode cX12_keep 19 = .ok (.iload_n 1, 1) := by decide +kernel
theorem dX12_keep_20 : decode cX12_keep 20 = .ok (.iaload, 1) := by decide +kernel
theorem dX12_keep_21 : decode cX12_keep 21 = .ok (.iastore, 1) := by decide +kernel
theorem dX12_keep_22 : decode cX12_keep 22 = .ok (.aload_n 0, 1) := by decide +kernel
theorem dX12_keep_23 : decode cX12_keep 23 = .ok (.getfield 99, 3) := by decide +kernel
theorem dX12_keep_26 : decode cX12_keep 26 = .ok (.bipush 18, 2) := by decide +kernel
theorem dX12_keep_28 : decode cX12_keep 28 = .ok (.iload_n 1, 1) := by decide +kernel
theorem dX12_keep_29 : decode cX12_keep 29 = .ok (.iadd, 1) := by decide +kernel
theorem dX12_keep_30 : decode cX12_keep 30 = .ok (.aload_n 0, 1) := by decide +kernel
theorem dX12_keep_31 : decode cX12_keep 31 = .ok (.getfield 111, 3) := by decide +kernel
theorem dX12_keep_34 : decode cX12_keep 34 = .ok (.iload_n 1, 1) := by decide +kernel
theorem dX12_keep_35 : decode cX12_keep 35 = .ok (.iaload, 1) := by decide +kernel
theorem dX12_keep_36 : decode cX12_keep 36 = .ok (.iastore, 1) := by decide +kernel
theorem dX12_keep_37 : decode cX12_keep 37 = .ok (.iinc 1 1, 3) := by decide +kernel
theorem dX12_keep_40 : decode cX12_keep 40 = .ok (.goto (-38), 3) := by decide +kernel
theorem dX12_keep_43 : decode cX12_keep 43 = .ok (.iconst 0, 1) := by decide +kernel
theorem dX12_keep_44 : decode cX12_keep 44 = .ok (.istore_n 1, 1) := by decide +kernel
theorem dX12_keep_45 : decode cX12_keep 45 = .ok (.iload_n 1, 1) := by decide +kernel
theorem dX12_keep_46 : decode cX12_keep 46 = .ok (.bipush 36, 2) := by decide +kernel
theorem dX12_keep_48 : decode cX12_keep 48 = .ok (.if_icmp .ge 24, 3) := by decide +kernel
theorem dX12_keep_51 : decode cX12_keep 51 = .ok (.aload_n 0, 1) := by decide +kernel
theorem dX12_keep_52 : decode cX12_keep 52 = .ok (.getfield 99, 3) := by decide +kernel
theorem dX12_keep_55 : decode cX12_keep 55 = .ok (.bipush 24, 2) := by decide +kernel
theorem dX12_keep_57 : decode cX12_keep 57 = .ok (.iload_n 1, 1) := by decide +kernel
theorem dX12_keep_58 : decode cX12_keep 58 = .ok (.iadd, 1) := by decide +kernel
theorem dX12_keep_59 : decode cX12_keep 59 = .ok (.aload_n 0, 1) := by decide +kernel
theorem dX12_keep_60 : decode cX12_keep 60 = .ok (.getfield 114, 3) := by decide +kernel
theorem dX12_keep_63 : decode cX12_keep 63 = .ok (.iload_n 1, 1) := by decide +kernel
theorem dX12_keep_64 : decode cX12_keep 64 = .ok (.iaload, 1) := by decide +kernel
theorem dX12_keep_65 : decode cX12_keep 65 = .ok (.iastore, 1) := by decide +kernel
theorem dX12_keep_66 : decode cX12_keep 66 = .ok (.iinc 1 1, 3) := by decide +kernel
theorem dX12_keep_69 : decode cX12_keep 69 = .ok (.goto (-24), 3) := by decide +kernel
theorem dX12_keep_72 : decode cX12_keep 72 = .ok (.aload_n 0, 1) := by decide +kernel
theorem dX12_keep_73 : decode cX12_keep 73 = .ok (.getfield 99, 3) := by decide +kernel
theorem dX12_keep_76 : decode cX12_keep 76 = .ok (.bipush 60, 2) := by decide +kernel
theorem dX12_keep_78 : decode cX12_keep 78 = .ok (.aload_n 0, 1) := by decide +kernel
theorem dX12_keep_79 : decode cX12_keep 79 = .ok (.getfield 435, 3) := by decide +kernel
theorem dX12_keep_82 : decode cX12_keep 82 = .ok (.iastore, 1) := by decide +kernel
theorem dX12_keep_83 : decode cX12_keep 83 = .ok (.aload_n 0, 1) := by decide +kernel
theorem dX12_keep_84 : decode cX12_keep 84 = .ok (.getfield 99, 3) := by decide +kernel
theorem dX12_keep_87 : decode cX12_keep 87 = .ok (.bipush 61, 2) := by decide +kernel
theorem dX12_keep_89 : decode cX12_keep 89 = .ok (.aload_n 0, 1) := by decide +kernel
theorem dX12_keep_90 : decode cX12_keep 90 = .ok (.getfield 438, 3) := by decide +kernel
theorem dX12_keep_93 : decode cX12_keep 93 = .ok (.iastore, 1) := by decide +kernel
theorem dX12_keep_94 : decode cX12_keep 94 = .ok (.return_, 1) := by decide +kernel
theorem dX12_wetAt_0 : decode cX12_wetAt 0 = .ok (.aload_n 0, 1) := by decide +kernel
theorem dX12_wetAt_1 : decode cX12_wetAt 1 = .ok (.getfield 410, 3) := by decide +kernel
theorem dX12_wetAt_4 : decode cX12_wetAt 4 = .ok (.ifCond .ne 5, 3) := by decide +kernel
theorem dX12_wetAt_7 : decode cX12_wetAt 7 = .ok (.iconst 0, 1) := by decide +kernel
theorem dX12_wetAt_8 : decode cX12_wetAt 8 = .ok (.ireturn, 1) := by decide +kernel
theorem dX12_wetAt_9 : decode cX12_wetAt 9 = .ok (.aload_n 0, 1) := by decide +kernel
theorem dX12_wetAt_10 : decode cX12_wetAt 10 = .ok (.invokevirtual 441, 3) := by decide +kernel
theorem dX12_wetAt_13 : decode cX12_wetAt 13 = .ok (.aload_n 0, 1) := by decide +kernel
theorem dX12_wetAt_14 : decode cX12_wetAt 14 = .ok (.getfield 45, 3) := by decide +kernel
theorem dX12_wetAt_17 : decode cX12_wetAt 17 = .ok (.iconst 1, 1) := by decide +kernel
theorem dX12_wetAt_18 : decode cX12_wetAt 18 = .ok (.iload_n 1, 1) := by decide +kernel
theorem dX12_wetAt_19 : decode cX12_wetAt 19 = .ok (.iastore, 1) := by decide +kernel
theorem dX12_wetAt_20 : decode cX12_wetAt 20 = .ok (.aload_n 0, 1) := by decide +kernel
theorem dX12_wetAt_21 : decode cX12_wetAt 21 = .ok (.getfield 45, 3) := by decide +kernel
theorem dX12_wetAt_24 : decode cX12_wetAt 24 = .ok (.iconst 2, 1) := by decide +kernel
theorem dX12_wetAt_25 : decode cX12_wetAt 25 = .ok (.iload_n 2, 1) := by decide +kernel
theorem dX12_wetAt_26 : decode cX12_wetAt 26 = .ok (.iastore, 1) := by decide +kernel
theorem dX12_wetAt_27 : decode cX12_wetAt 27 = .ok (.aload_n 0, 1) := by decide +kernel
theorem dX12_wetAt_28 : decode cX12_wetAt 28 = .ok (.iconst 2, 1) := by decide +kernel
theorem dX12_wetAt_29 : decode cX12_wetAt 29 = .ok (.invokevirtual 444, 3) := by decide +kernel
theorem dX12_wetAt_32 : decode cX12_wetAt 32 = .ok (.ifCond .eq 7, 3) := by decide +kernel
theorem dX12_wetAt_35 : decode cX12_wetAt 35 = .ok (.iconst 1, 1) := by decide +kernel
theorem dX12_wetAt_36 : decode cX12_wetAt 36 = .ok (.goto 4, 3) := by decide +kernel
theorem dX12_wetAt_39 : decode cX12_wetAt 39 = .ok (.iconst 0, 1) := by decide +kernel
theorem dX12_wetAt_40 : decode cX12_wetAt 40 = .ok (.invokestatic 343, 3) := by decide +kernel
theorem dX12_wetAt_43 : decode cX12_wetAt 43 = .ok (.ireturn, 1) := by decide +kernel
theorem dX12_doesRest_0 : decode cX12_doesRest 0 = .ok (.aload_n 0, 1) := by decide +kernel
theorem dX12_doesRest_1 : decode cX12_doesRest 1 = .ok (.getfield 438, 3) := by decide +kernel
theorem dX12_doesRest_4 : decode cX12_doesRest 4 = .ok (.aload_n 0, 1) := by decide +kernel
theorem dX12_doesRest_5 : decode cX12_doesRest 5 = .ok (.getfield 96, 3) := by decide +kernel
theorem dX12_doesRest_8 : decode cX12_doesRest 8 = .ok (.aload_n 0, 1) := by decide +kernel
theorem dX12_doesRest_9 : decode cX12_doesRest 9 = .ok (.getfield 84, 3) := by decide +kernel
theorem dX12_doesRest_12 : decode cX12_doesRest 12 = .ok (.iload_n 1, 1) := by decide +kernel
theorem dX12_doesRest_13 : decode cX12_doesRest 13 = .ok (.iaload, 1) := by decide +kernel
theorem dX12_doesRest_14 : decode cX12_doesRest 14 = .ok (.isub, 1) := by decide +kernel
theorem dX12_doesRest_15 : decode cX12_doesRest 15 = .ok (.if_icmp .lt 7, 3) := by decide +kernel
theorem dX12_doesRest_18 : decode cX12_doesRest 18 = .ok (.iconst 1, 1) := by decide +kernel
theorem dX12_doesRest_19 : decode cX12_doesRest 19 = .ok (.goto 4, 3) := by decide +kernel
theorem dX12_doesRest_22 : decode cX12_doesRest 22 = .ok (.iconst 0, 1) := by decide +kernel
theorem dX12_doesRest_23 : decode cX12_doesRest 23 = .ok (.ireturn, 1) := by decide +kernel
theorem dX12_nearer_0 : decode cX12_nearer 0 = .ok (.iload_n 0, 1) := by decide +kernel
theorem dX12_nearer_1 : decode cX12_nearer 1 = .ok (.iload_n 1, 1) := by decide +kernel
theorem dX12_nearer_2 : decode cX12_nearer 2 = .ok (.if_icmp .ge 9, 3) := by decide +kernel
theorem dX12_nearer_5 : decode cX12_nearer 5 = .ok (.iload_n 0, 1) := by decide +kernel
theorem dX12_nearer_6 : decode cX12_nearer 6 = .ok (.iconst 1, 1) := by decide +kernel
theorem dX12_nearer_7 : decode cX12_nearer 7 = .ok (.iadd, 1) := by decide +kernel
theorem dX12_nearer_8 : decode cX12_nearer 8 = .ok (.goto 15, 3) := by decide +kernel
theorem dX12_nearer_11 : decode cX12_nearer 11 = .ok (.iload_n 0, 1) := by decide +kernel
theorem dX12_nearer_12 : decode cX12_nearer 12 = .ok (.iload_n 1, 1) := by decide +kernel
theorem dX12_nearer_13 : decode cX12_nearer 13 = .ok (.if_icmp .le 9, 3) := by decide +kernel
theorem dX12_nearer_16 : decode cX12_nearer 16 = .ok (.iload_n 0, 1) := by decide +kernel
theorem dX12_nearer_17 : decode cX12_nearer 17 = .ok (.iconst 1, 1) := by decide +kernel
theorem dX12_nearer_18 : decode cX12_nearer 18 = .ok (.isub, 1) := by decide +kernel
theorem dX12_nearer_19 : decode cX12_nearer 19 = .ok (.goto 4, 3) := by decide +kernel
theorem dX12_nearer_22 : decode cX12_nearer 22 = .ok (.iload_n 0, 1) := by decide +kernel
theorem dX12_nearer_23 : decode cX12_nearer 23 = .ok (.ireturn, 1) := by decide +kernel
theorem dX12_goal_0 : decode cX12_goal 0 = .ok (.aload_n 0, 1) := by decide +kernel
theorem dX12_goal_1 : decode cX12_goal 1 = .ok (.getfield 105, 3) := by decide +kernel
theorem dX12_goal_4 : decode cX12_goal 4 = .ok (.iload_n 1, 1) := by decide +kernel
theorem dX12_goal_5 : decode cX12_goal 5 = .ok (.iaload, 1) := by decide +kernel
theorem dX12_goal_6 : decode cX12_goal 6 = .ok (.ifCond .lt 11, 3) := by decide +kernel
theorem dX12_goal_9 : decode cX12_goal 9 = .ok (.aload_n 0, 1) := by decide +kernel
theorem dX12_goal_10 : decode cX12_goal 10 = .ok (.iload_n 1, 1) := by decide +kernel
theorem dX12_goal_11 : decode cX12_goal 11 = .ok (.invokevirtual 447, 3) := by decide +kernel
theorem dX12_goal_14 : decode cX12_goal 14 = .ok (.ifCond .eq 12, 3) := by decide +kernel
theorem dX12_goal_17 : decode cX12_goal 17 = .ok (.aload_n 0, 1) := by decide +kernel
theorem dX12_goal_18 : decode cX12_goal 18 = .ok (.getfield 72, 3) := by decide +kernel
theorem dX12_goal_21 : decode cX12_goal 21 = .ok (.iload_n 1, 1) := by decide +kernel
theorem dX12_goal_22 : decode cX12_goal 22 = .ok (.iaload, 1) := by decide +kernel
theorem dX12_goal_23 : decode cX12_goal 23 = .ok (.goto 14, 3) := by decide +kernel
theorem dX12_goal_26 : decode cX12_goal 26 = .ok (.aload_n 0, 1) := by decide +kernel
theorem dX12_goal_27 : decode cX12_goal 27 = .ok (.getfield 72, 3) := by decide +kernel
theorem dX12_goal_30 : decode cX12_goal 30 = .ok (.aload_n 0, 1) := by decide +kernel
theorem dX12_goal_31 : decode cX12_goal 31 = .ok (.getfield 105, 3) := by decide +kernel
theorem dX12_goal_34 : decode cX12_goal 34 = .ok (.iload_n 1, 1) := by decide +kernel
theorem dX12_goal_35 : decode cX12_goal 35 = .ok (.iaload, 1) := by decide +kernel
theorem dX12_goal_36 : decode cX12_goal 36 = .ok (.iaload, 1) := by decide +kernel
theorem dX12_goal_37 : decode cX12_goal 37 = .ok (.ireturn, 1) := by decide +kernel
theorem dX12_goOut_0 : decode cX12_goOut 0 = .ok (.iconst 0, 1) := by decide +kernel
theorem dX12_goOut_1 : decode cX12_goOut 1 = .ok (.istore_n 1, 1) := by decide +kernel
theorem dX12_goOut_2 : decode cX12_goOut 2 = .ok (.iload_n 1, 1) := by decide +kernel
theorem dX12_goOut_3 : decode cX12_goOut 3 = .ok (.aload_n 0, 1) := by decide +kernel
theorem dX12_goOut_4 : decode cX12_goOut 4 = .ok (.getfield 401, 3) := by decide +kernel
theorem dX12_goOut_7 : decode cX12_goOut 7 = .ok (.if_icmp .ge 72, 3) := by decide +kernel
theorem dX12_goOut_10 : decode cX12_goOut 10 = .ok (.aload_n 0, 1) := by decide +kernel
theorem dX12_goOut_11 : decode cX12_goOut 11 = .ok (.getfield 105, 3) := by decide +kernel
theorem dX12_goOut_14 : decode cX12_goOut 14 = .ok (.iload_n 1, 1) := by decide +kernel
theorem dX12_goOut_15 : decode cX12_goOut 15 = .ok (.iaload, 1) := by decide +kernel
theorem dX12_goOut_16 : decode cX12_goOut 16 = .ok (.istore_n 2, 1) := by decide +kernel
theorem dX12_goOut_17 : decode cX12_goOut 17 = .ok (.aload_n 0, 1) := by decide +kernel
theorem dX12_goOut_18 : decode cX12_goOut 18 = .ok (.getfield 120, 3) := by decide +kernel
theorem dX12_goOut_21 : decode cX12_goOut 21 = .ok (.iload_n 1, 1) := by decide +kernel
theorem dX12_goOut_22 : decode cX12_goOut 22 = .ok (.iload_n 2, 1) := by decide +kernel
theorem dX12_goOut_23 : decode cX12_goOut 23 = .ok (.ifCond .lt 48, 3) := by decide +kernel
theorem dX12_goOut_26 : decode cX12_goOut 26 = .ok (.aload_n 0, 1) := by decide +kernel
theorem dX12_goOut_27 : decode cX12_goOut 27 = .ok (.getfield 105, 3) := by decide +kernel
theorem dX12_goOut_30 : decode cX12_goOut 30 = .ok (.iload_n 2, 1) := by decide +kernel
theorem dX12_goOut_31 : decode cX12_goOut 31 = .ok (.iaload, 1) := by decide +kernel
theorem dX12_goOut_32 : decode cX12_goOut 32 = .ok (.iload_n 1, 1) := by decide +kernel
theorem dX12_goOut_33 : decode cX12_goOut 33 = .ok (.if_icmp .ne 38, 3) := by decide +kernel
theorem dX12_goOut_36 : decode cX12_goOut 36 = .ok (.aload_n 0, 1) := by decide +kernel
theorem dX12_goOut_37 : decode cX12_goOut 37 = .ok (.getfield 102, 3) := by decide +kernel
theorem dX12_goOut_40 : decode cX12_goOut 40 = .ok (.iload_n 1, 1) := by decide +kernel
theorem dX12_goOut_41 : decode cX12_goOut 41 = .ok (.iaload, 1) := by decide +kernel
theorem dX12_goOut_42 : decode cX12_goOut 42 = .ok (.aload_n 0, 1) := by decide +kernel
theorem dX12_goOut_43 : decode cX12_goOut 43 = .ok (.getfield 102, 3) := by decide +kernel
theorem dX12_goOut_46 : decode cX12_goOut 46 = .ok (.iload_n 2, 1) := by decide +kernel
theorem dX12_goOut_47 : decode cX12_goOut 47 = .ok (.iaload, 1) := by decide +kernel
theorem dX12_goOut_48 : decode cX12_goOut 48 = .ok (.if_icmp .ne 23, 3) := by decide +kernel
theorem dX12_goOut_51 : decode cX12_goOut 51 = .ok (.aload_n 0, 1) := by decide +kernel
theorem dX12_goOut_52 : decode cX12_goOut 52 = .ok (.iload_n 1, 1) := by decide +kernel
theorem dX12_goOut_53 : decode cX12_goOut 53 = .ok (.invokevirtual 447, 3) := by decide +kernel
theorem dX12_goOut_56 : decode cX12_goOut 56 = .ok (.ifCond .ne 15, 3) := by decide +kernel
theorem dX12_goOut_59 : decode cX12_goOut 59 = .ok (.aload_n 0, 1) := by decide +kernel
theorem dX12_goOut_60 : decode cX12_goOut 60 = .ok (.iload_n 2, 1) := by decide +kernel
theorem dX12_goOut_61 : decode cX12_goOut 61 = .ok (.invokevirtual 447, 3) := by decide +kernel
theorem dX12_goOut_64 : decode cX12_goOut 64 = .ok (.ifCond .ne 7, 3) := by decide +kernel
theorem dX12_goOut_67 : decode cX12_goOut 67 = .ok (.iconst 1, 1) := by decide +kernel
theorem dX12_goOut_68 : decode cX12_goOut 68 = .ok (.goto 4, 3) := by decide +kernel
theorem dX12_goOut_71 : decode cX12_goOut 71 = .ok (.iconst 0, 1) := by decide +kernel
theorem dX12_goOut_72 : decode cX12_goOut 72 = .ok (.bastore, 1) := by decide +kernel
theorem dX12_goOut_73 : decode cX12_goOut 73 = .ok (.iinc 1 1, 3) := by decide +kernel
theorem dX12_goOut_76 : decode cX12_goOut 76 = .ok (.goto (-74), 3) := by decide +kernel
theorem dX12_goOut_79 : decode cX12_goOut 79 = .ok (.iconst 0, 1) := by decide +kernel
theorem dX12_goOut_80 : decode cX12_goOut 80 = .ok (.istore_n 1, 1) := by decide +kernel
theorem dX12_goOut_81 : decode cX12_goOut 81 = .ok (.iload_n 1, 1) := by decide +kernel
theorem dX12_goOut_82 : decode cX12_goOut 82 = .ok (.aload_n 0, 1) := by decide +kernel
theorem dX12_goOut_83 : decode cX12_goOut 83 = .ok (.getfield 401, 3) := by decide +kernel
theorem dX12_goOut_86 : decode cX12_goOut 86 = .ok (.if_icmp .ge 70, 3) := by decide +kernel
theorem dX12_goOut_89 : decode cX12_goOut 89 = .ok (.aload_n 0, 1) := by decide +kernel
theorem dX12_goOut_90 : decode cX12_goOut 90 = .ok (.getfield 120, 3) := by decide +kernel
theorem dX12_goOut_93 : decode cX12_goOut 93 = .ok (.iload_n 1, 1) := by decide +kernel
theorem dX12_goOut_94 : decode cX12_goOut 94 = .ok (.baload, 1) := by decide +kernel
theorem dX12_goOut_95 : decode cX12_goOut 95 = .ok (.ifCond .eq 12, 3) := by decide +kernel
theorem dX12_goOut_98 : decode cX12_goOut 98 = .ok (.aload_n 0, 1) := by decide +kernel
theorem dX12_goOut_99 : decode cX12_goOut 99 = .ok (.getfield 102, 3) := by decide +kernel
theorem dX12_goOut_102 : decode cX12_goOut 102 = .ok (.iload_n 1, 1) := by decide +kernel
theorem dX12_goOut_103 : decode cX12_goOut 103 = .ok (.iaload, 1) := by decide +kernel
theorem dX12_goOut_104 : decode cX12_goOut 104 = .ok (.goto 17, 3) := by decide +kernel
theorem dX12_goOut_107 : decode cX12_goOut 107 = .ok (.aload_n 0, 1) := by decide +kernel
theorem dX12_goOut_108 : decode cX12_goOut 108 = .ok (.getfield 102, 3) := by decide +kernel
theorem dX12_goOut_111 : decode cX12_goOut 111 = .ok (.iload_n 1, 1) := by decide +kernel
theorem dX12_goOut_112 : decode cX12_goOut 112 = .ok (.iaload, 1) := by decide +kernel
theorem dX12_goOut_113 : decode cX12_goOut 113 = .ok (.aload_n 0, 1) := by decide +kernel
theorem dX12_goOut_114 : decode cX12_goOut 114 = .ok (.iload_n 1, 1) := by decide +kernel
theorem dX12_goOut_115 : decode cX12_goOut 115 = .ok (.invokevirtual 450, 3) := by decide +kernel
theorem dX12_goOut_118 : decode cX12_goOut 118 = .ok (.invokestatic 453, 3) := by decide +kernel
theorem dX12_goOut_121 : decode cX12_goOut 121 = .ok (.istore_n 2, 1) := by decide +kernel
theorem dX12_goOut_122 : decode cX12_goOut 122 = .ok (.aload_n 0, 1) := by decide +kernel
theorem dX12_goOut_123 : decode cX12_goOut 123 = .ok (.getfield 124, 3) := by decide +kernel
theorem dX12_goOut_126 : decode cX12_goOut 126 = .ok (.iload_n 1, 1) := by decide +kernel
theorem dX12_goOut_127 : decode cX12_goOut 127 = .ok (.iload_n 2, 1) := by decide +kernel
theorem dX12_goOut_128 : decode cX12_goOut 128 = .ok (.aload_n 0, 1) := by decide +kernel
theorem dX12_goOut_129 : decode cX12_goOut 129 = .ok (.getfield 102, 3) := by decide +kernel
theorem dX12_goOut_132 : decode cX12_goOut 132 = .ok (.iload_n 1, 1) := by decide +kernel
theorem dX12_goOut_133 : decode cX12_goOut 133 = .ok (.iaload, 1) := by decide +kernel
theorem dX12_goOut_134 : decode cX12_goOut 134 = .ok (.if_icmp .eq 7, 3) := by decide +kernel
theorem dX12_goOut_137 : decode cX12_goOut 137 = .ok (.iconst 1, 1) := by decide +kernel
theorem dX12_goOut_138 : decode cX12_goOut 138 = .ok (.goto 4, 3) := by decide +kernel
theorem dX12_goOut_141 : decode cX12_goOut 141 = .ok (.iconst 0, 1) := by decide +kernel
theorem dX12_goOut_142 : decode cX12_goOut 142 = .ok (.bastore, 1) := by decide +kernel
theorem dX12_goOut_143 : decode cX12_goOut 143 = .ok (.aload_n 0, 1) := by decide +kernel
theorem dX12_goOut_144 : decode cX12_goOut 144 = .ok (.getfield 102, 3) := by decide +kernel
theorem dX12_goOut_147 : decode cX12_goOut 147 = .ok (.iload_n 1, 1) := by decide +kernel
theorem dX12_goOut_148 : decode cX12_goOut 148 = .ok (.iload_n 2, 1) := by decide +kernel
theorem dX12_goOut_149 : decode cX12_goOut 149 = .ok (.iastore, 1) := by decide +kernel
theorem dX12_goOut_150 : decode cX12_goOut 150 = .ok (.iinc 1 1, 3) := by decide +kernel
theorem dX12_goOut_153 : decode cX12_goOut 153 = .ok (.goto (-72), 3) := by decide +kernel
theorem dX12_goOut_156 : decode cX12_goOut 156 = .ok (.return_, 1) := by decide +kernel
theorem dX12_isOpen_0 : decode cX12_isOpen 0 = .ok (.aload_n 0, 1) := by decide +kernel
theorem dX12_isOpen_1 : decode cX12_isOpen 1 = .ok (.getfield 438, 3) := by decide +kernel
theorem dX12_isOpen_4 : decode cX12_isOpen 4 = .ok (.aload_n 0, 1) := by decide +kernel
theorem dX12_isOpen_5 : decode cX12_isOpen 5 = .ok (.getfield 117, 3) := by decide +kernel
theorem dX12_isOpen_8 : decode cX12_isOpen 8 = .ok (.iload_n 1, 1) := by decide +kernel
theorem dX12_isOpen_9 : decode cX12_isOpen 9 = .ok (.iaload, 1) := by decide +kernel
theorem dX12_isOpen_10 : decode cX12_isOpen 10 = .ok (.if_icmp .lt 34, 3) := by decide +kernel
theorem dX12_isOpen_13 : decode cX12_isOpen 13 = .ok (.aload_n 0, 1) := by decide +kernel
theorem dX12_isOpen_14 : decode cX12_isOpen 14 = .ok (.getfield 438, 3) := by decide +kernel
theorem dX12_isOpen_17 : decode cX12_isOpen 17 = .ok (.aload_n 0, 1) := by decide +kernel
theorem dX12_isOpen_18 : decode cX12_isOpen 18 = .ok (.getfield 117, 3) := by decide +kernel
theorem dX12_isOpen_21 : decode cX12_isOpen 21 = .ok (.iload_n 1, 1) := by decide +kernel
theorem dX12_isOpen_22 : decode cX12_isOpen 22 = .ok (.iaload, 1) := by decide +kernel
theorem dX12_isOpen_23 : decode cX12_isOpen 23 = .ok (.aload_n 0, 1) := by decide +kernel
theorem dX12_isOpen_24 : decode cX12_isOpen 24 = .ok (.getfield 78, 3) := by decide +kernel
theorem dX12_isOpen_27 : decode cX12_isOpen 27 = .ok (.iload_n 1, 1) := by decide +kernel
theorem dX12_isOpen_28 : decode cX12_isOpen 28 = .ok (.iaload, 1) := by decide +kernel
theorem dX12_isOpen_29 : decode cX12_isOpen 29 = .ok (.iadd, 1) := by decide +kernel
theorem dX12_isOpen_30 : decode cX12_isOpen 30 = .ok (.aload_n 0, 1) := by decide +kernel
theorem dX12_isOpen_31 : decode cX12_isOpen 31 = .ok (.getfield 75, 3) := by decide +kernel
theorem dX12_isOpen_34 : decode cX12_isOpen 34 = .ok (.iload_n 1, 1) := by decide +kernel
theorem dX12_isOpen_35 : decode cX12_isOpen 35 = .ok (.iaload, 1) := by decide +kernel
theorem dX12_isOpen_36 : decode cX12_isOpen 36 = .ok (.isub, 1) := by decide +kernel
theorem dX12_isOpen_37 : decode cX12_isOpen 37 = .ok (.if_icmp .ge 7, 3) := by decide +kernel
theorem dX12_isOpen_40 : decode cX12_isOpen 40 = .ok (.iconst 1, 1) := by decide +kernel
theorem dX12_isOpen_41 : decode cX12_isOpen 41 = .ok (.goto 4, 3) := by decide +kernel
theorem dX12_isOpen_44 : decode cX12_isOpen 44 = .ok (.iconst 0, 1) := by decide +kernel
theorem dX12_isOpen_45 : decode cX12_isOpen 45 = .ok (.ireturn, 1) := by decide +kernel
theorem dX12_doesWait_0 : decode cX12_doesWait 0 = .ok (.aload_n 0, 1) := by decide +kernel
theorem dX12_doesWait_1 : decode cX12_doesWait 1 = .ok (.getfield 120, 3) := by decide +kernel
theorem dX12_doesWait_4 : decode cX12_doesWait 4 = .ok (.iload_n 1, 1) := by decide +kernel
theorem dX12_doesWait_5 : decode cX12_doesWait 5 = .ok (.baload, 1) := by decide +kernel
theorem dX12_doesWait_6 : decode cX12_doesWait 6 = .ok (.ifCond .ne 42, 3) := by decide +kernel
theorem dX12_doesWait_9 : decode cX12_doesWait 9 = .ok (.aload_n 0, 1) := by decide +kernel
theorem dX12_doesWait_10 : decode cX12_doesWait 10 = .ok (.iload_n 1, 1) := by decide +kernel
theorem dX12_doesWait_11 : decode cX12_doesWait 11 = .ok (.invokevirtual 447, 3) := by decide +kernel
theorem dX12_doesWait_14 : decode cX12_doesWait 14 = .ok (.ifCond .ne 38, 3) := by decide +kernel
theorem dX12_doesWait_17 : decode cX12_doesWait 17 = .ok (.aload_n 0, 1) := by decide +kernel
theorem dX12_doesWait_18 : decode cX12_doesWait 18 = .ok (.getfield 124, 3) := by decide +kernel
theorem dX12_doesWait_21 : decode cX12_doesWait 21 = .ok (.iload_n 1, 1) := by decide +kernel
theorem dX12_doesWait_22 : decode cX12_doesWait 22 = .ok (.baload, 1) := by decide +kernel
theorem dX12_doesWait_23 : decode cX12_doesWait 23 = .ok (.ifCond .ne 29, 3) := by decide +kernel
theorem dX12_doesWait_26 : decode cX12_doesWait 26 = .ok (.aload_n 0, 1) := by decide +kernel
theorem dX12_doesWait_27 : decode cX12_doesWait 27 = .ok (.getfield 105, 3) := by decide +kernel
theorem dX12_doesWait_30 : decode cX12_doesWait 30 = .ok (.iload_n 1, 1) := by decide +kernel
theorem dX12_doesWait_31 : decode cX12_doesWait 31 = .ok (.iaload, 1) := by decide +kernel
theorem dX12_doesWait_32 : decode cX12_doesWait 32 = .ok (.ifCond .lt 20, 3) := by decide +kernel
theorem dX12_doesWait_35 : decode cX12_doesWait 35 = .ok (.aload_n 0, 1) := by decide +kernel
theorem dX12_doesWait_36 : decode cX12_doesWait 36 = .ok (.aload_n 0, 1) := by decide +kernel
theorem dX12_doesWait_37 : decode cX12_doesWait 37 = .ok (.getfield 105, 3) := by decide +kernel
theorem dX12_doesWait_40 : decode cX12_doesWait 40 = .ok (.iload_n 1, 1) := by decide +kernel
theorem dX12_doesWait_41 : decode cX12_doesWait 41 = .ok (.iaload, 1) := by decide +kernel
theorem dX12_doesWait_42 : decode cX12_doesWait 42 = .ok (.invokevirtual 456, 3) := by decide +kernel
theorem dX12_doesWait_45 : decode cX12_doesWait 45 = .ok (.ifCond .eq 7, 3) := by decide +kernel
theorem dX12_doesWait_48 : decode cX12_doesWait 48 = .ok (.iconst 1, 1) := by decide +kernel
theorem dX12_doesWait_49 : decode cX12_doesWait 49 = .ok (.goto 4, 3) := by decide +kernel
theorem dX12_doesWait_52 : decode cX12_doesWait 52 = .ok (.iconst 0, 1) := by decide +kernel
theorem dX12_doesWait_53 : decode cX12_doesWait 53 = .ok (.ireturn, 1) := by decide +kernel
theorem dX12_atDoor_0 : decode cX12_atDoor 0 = .ok (.aload_n 0, 1) := by decide +kernel
theorem dX12_atDoor_1 : decode cX12_atDoor 1 = .ok (.getfield 127, 3) := by decide +kernel
theorem dX12_atDoor_4 : decode cX12_atDoor 4 = .ok (.iload_n 1, 1) := by decide +kernel
theorem dX12_atDoor_5 : decode cX12_atDoor 5 = .ok (.baload, 1) := by decide +kernel
theorem dX12_atDoor_6 : decode cX12_atDoor 6 = .ok (.ifCond .eq 26, 3) := by decide +kernel
theorem dX12_atDoor_9 : decode cX12_atDoor 9 = .ok (.aload_n 0, 1) := by decide +kernel
theorem dX12_atDoor_10 : decode cX12_atDoor 10 = .ok (.getfield 120, 3) := by decide +kernel
theorem dX12_atDoor_13 : decode cX12_atDoor 13 = .ok (.iload_n 1, 1) := by decide +kernel
theorem dX12_atDoor_14 : decode cX12_atDoor 14 = .ok (.baload, 1) := by decide +kernel
theorem dX12_atDoor_15 : decode cX12_atDoor 15 = .ok (.ifCond .ne 17, 3) := by decide +kernel
theorem dX12_atDoor_18 : decode cX12_atDoor 18 = .ok (.aload_n 0, 1) := by decide +kernel
theorem dX12_atDoor_19 : decode cX12_atDoor 19 = .ok (.getfield 105, 3) := by decide +kernel
theorem dX12_atDoor_22 : decode cX12_atDoor 22 = .ok (.iload_n 1, 1) := by decide +kernel
theorem dX12_atDoor_23 : decode cX12_atDoor 23 = .ok (.iaload, 1) := by decide +kernel
theorem dX12_atDoor_24 : decode cX12_atDoor 24 = .ok (.iload_n 2, 1) := by decide +kernel
theorem dX12_atDoor_25 : decode cX12_atDoor 25 = .ok (.if_icmp .ne 7, 3) := by decide +kernel
theorem dX12_atDoor_28 : decode cX12_atDoor 28 = .ok (.iconst 1, 1) := by decide +kernel
theorem dX12_atDoor_29 : decode cX12_atDoor 29 = .ok (.goto 4, 3) := by decide +kernel
theorem dX12_atDoor_32 : decode cX12_atDoor 32 = .ok (.iconst 0, 1) := by decide +kernel
theorem dX12_atDoor_33 : decode cX12_atDoor 33 = .ok (.ireturn, 1) := by decide +kernel
theorem dX12_isSeated_0 : decode cX12_isSeated 0 = .ok (.iconst 0, 1) := by decide +kernel
theorem dX12_isSeated_1 : decode cX12_isSeated 1 = .ok (.istore_n 2, 1) := by decide +kernel
theorem dX12_isSeated_2 : decode cX12_isSeated 2 = .ok (.iconst 0, 1) := by decide +kernel
theorem dX12_isSeated_3 : decode cX12_isSeated 3 = .ok (.istore_n 3, 1) := by decide +kernel
theorem dX12_isSeated_4 : decode cX12_isSeated 4 = .ok (.iload_n 3, 1) := by decide +kernel
theorem dX12_isSeated_5 : decode cX12_isSeated 5 = .ok (.iload_n 1, 1) := by decide +kernel
theorem dX12_isSeated_6 : decode cX12_isSeated 6 = .ok (.if_icmp .ge 26, 3) := by decide +kernel
theorem dX12_isSeated_9 : decode cX12_isSeated 9 = .ok (.iload_n 2, 1) := by decide +kernel
theorem dX12_isSeated_10 : decode cX12_isSeated 10 = .ok (.aload_n 0, 1) := by decide +kernel
theorem dX12_isSeated_11 : decode cX12_isSeated 11 = .ok (.iload_n 3, 1) := by decide +kernel
theorem dX12_isSeated_12 : decode cX12_isSeated 12 = .ok (.aload_n 0, 1) := by decide +kernel
theorem dX12_isSeated_13 : decode cX12_isSeated 13 = .ok (.getfield 105, 3) := by decide +kernel
theorem dX12_isSeated_16 : decode cX12_isSeated 16 = .ok (.iload_n 1, 1) := by decide +kernel
theorem dX12_isSeated_17 : decode cX12_isSeated 17 = .ok (.iaload, 1) := by decide +kernel
theorem dX12_isSeated_18 : decode cX12_isSeated 18 = .ok (.invokevirtual 459, 3) := by decide +kernel
theorem dX12_isSeated_21 : decode cX12_isSeated 21 = .ok (.invokestatic 343, 3) := by decide +kernel
theorem dX12_isSeated_24 : decode cX12_isSeated 24 = .ok (.iadd, 1) := by decide +kernel
theorem dX12_isSeated_25 : decode cX12_isSeated 25 = .ok (.istore_n 2, 1) := by decide +kernel
theorem dX12_isSeated_26 : decode cX12_isSeated 26 = .ok (.iinc 3 1, 3) := by decide +kernel
theorem dX12_isSeated_29 : decode cX12_isSeated 29 = .ok (.goto (-25), 3) := by decide +kernel
theorem dX12_isSeated_32 : decode cX12_isSeated 32 = .ok (.aload_n 0, 1) := by decide +kernel
theorem dX12_isSeated_33 : decode cX12_isSeated 33 = .ok (.getfield 120, 3) := by decide +kernel
theorem dX12_isSeated_36 : decode cX12_isSeated 36 = .ok (.iload_n 1, 1) := by decide +kernel
theorem dX12_isSeated_37 : decode cX12_isSeated 37 = .ok (.baload, 1) := by decide +kernel
theorem dX12_isSeated_38 : decode cX12_isSeated 38 = .ok (.ifCond .ne 22, 3) := by decide +kernel
theorem dX12_isSeated_41 : decode cX12_isSeated 41 = .ok (.iload_n 2, 1) := by decide +kernel
theorem dX12_isSeated_42 : decode cX12_isSeated 42 = .ok (.aload_n 0, 1) := by decide +kernel
theorem dX12_isSeated_43 : decode cX12_isSeated 43 = .ok (.getfield 81, 3) := by decide +kernel
theorem dX12_isSeated_46 : decode cX12_isSeated 46 = .ok (.aload_n 0, 1) := by decide +kernel
theorem dX12_isSeated_47 : decode cX12_isSeated 47 = .ok (.getfield 105, 3) := by decide +kernel
theorem dX12_isSeated_50 : decode cX12_isSeated 50 = .ok (.iload_n 1, 1) := by decide +kernel
theorem dX12_isSeated_51 : decode cX12_isSeated 51 = .ok (.iaload, 1) := by decide +kernel
theorem dX12_isSeated_52 : decode cX12_isSeated 52 = .ok (.iaload, 1) := by decide +kernel
theorem dX12_isSeated_53 : decode cX12_isSeated 53 = .ok (.if_icmp .ge 7, 3) := by decide +kernel
theorem dX12_isSeated_56 : decode cX12_isSeated 56 = .ok (.iconst 1, 1) := by decide +kernel
theorem dX12_isSeated_57 : decode cX12_isSeated 57 = .ok (.goto 4, 3) := by decide +kernel
theorem dX12_isSeated_60 : decode cX12_isSeated 60 = .ok (.iconst 0, 1) := by decide +kernel
theorem dX12_isSeated_61 : decode cX12_isSeated 61 = .ok (.ireturn, 1) := by decide +kernel
theorem dX12_pay_0 : decode cX12_pay 0 = .ok (.aload_n 0, 1) := by decide +kernel
theorem dX12_pay_1 : decode cX12_pay 1 = .ok (.getfield 130, 3) := by decide +kernel
theorem dX12_pay_4 : decode cX12_pay 4 = .ok (.iload_n 1, 1) := by decide +kernel
theorem dX12_pay_5 : decode cX12_pay 5 = .ok (.iconst 0, 1) := by decide +kernel
theorem dX12_pay_6 : decode cX12_pay 6 = .ok (.iastore, 1) := by decide +kernel
theorem dX12_pay_7 : decode cX12_pay 7 = .ok (.aload_n 0, 1) := by decide +kernel
theorem dX12_pay_8 : decode cX12_pay 8 = .ok (.getfield 127, 3) := by decide +kernel
theorem dX12_pay_11 : decode cX12_pay 11 = .ok (.iload_n 1, 1) := by decide +kernel
theorem dX12_pay_12 : decode cX12_pay 12 = .ok (.baload, 1) := by decide +kernel
theorem dX12_pay_13 : decode cX12_pay 13 = .ok (.ifCond .eq 18, 3) := by decide +kernel
theorem dX12_pay_16 : decode cX12_pay 16 = .ok (.aload_n 0, 1) := by decide +kernel
theorem dX12_pay_17 : decode cX12_pay 17 = .ok (.getfield 108, 3) := by decide +kernel
theorem dX12_pay_20 : decode cX12_pay 20 = .ok (.iload_n 1, 1) := by decide +kernel
theorem dX12_pay_21 : decode cX12_pay 21 = .ok (.iaload, 1) := by decide +kernel
theorem dX12_pay_22 : decode cX12_pay 22 = .ok (.aload_n 0, 1) := by decide +kernel
theorem dX12_pay_23 : decode cX12_pay 23 = .ok (.getfield 105, 3) := by decide +kernel
theorem dX12_pay_26 : decode cX12_pay 26 = .ok (.iload_n 1, 1) := by decide +kernel
theorem dX12_pay_27 : decode cX12_pay 27 = .ok (.iaload, 1) := by decide +kernel
theorem dX12_pay_28 : decode cX12_pay 28 = .ok (.if_icmp .ne 4, 3) := by decide +kernel
theorem dX12_pay_31 : decode cX12_pay 31 = .ok (.return_, 1) := by decide +kernel
theorem dX12_pay_32 : decode cX12_pay 32 = .ok (.bipush 6, 2) := by decide +kernel
theorem dX12_pay_34 : decode cX12_pay 34 = .ok (.aload_n 0, 1) := by decide +kernel
theorem dX12_pay_35 : decode cX12_pay 35 = .ok (.getfield 108, 3) := by decide +kernel
theorem dX12_pay_38 : decode cX12_pay 38 = .ok (.iload_n 1, 1) := by decide +kernel
theorem dX12_pay_39 : decode cX12_pay 39 = .ok (.iaload, 1) := by decide +kernel
theorem dX12_pay_40 : decode cX12_pay 40 = .ok (.imul, 1) := by decide +kernel
theorem dX12_pay_41 : decode cX12_pay 41 = .ok (.aload_n 0, 1) := by decide +kernel
theorem dX12_pay_42 : decode cX12_pay 42 = .ok (.getfield 105, 3) := by decide +kernel
theorem dX12_pay_45 : decode cX12_pay 45 = .ok (.iload_n 1, 1) := by decide +kernel
theorem dX12_pay_46 : decode cX12_pay 46 = .ok (.iaload, 1) := by decide +kernel
theorem dX12_pay_47 : decode cX12_pay 47 = .ok (.iadd, 1) := by decide +kernel
theorem dX12_pay_48 : decode cX12_pay 48 = .ok (.istore_n 2, 1) := by decide +kernel
theorem dX12_pay_49 : decode cX12_pay 49 = .ok (.aload_n 0, 1) := by decide +kernel
theorem dX12_pay_50 : decode cX12_pay 50 = .ok (.aload_n 0, 1) := by decide +kernel
theorem dX12_pay_51 : decode cX12_pay 51 = .ok (.getfield 435, 3) := by decide +kernel
theorem dX12_pay_54 : decode cX12_pay 54 = .ok (.aload_n 0, 1) := by decide +kernel
theorem dX12_pay_55 : decode cX12_pay 55 = .ok (.getfield 438, 3) := by decide +kernel
theorem dX12_pay_58 : decode cX12_pay 58 = .ok (.invokevirtual 463, 3) := by decide +kernel
theorem dX12_pay_61 : decode cX12_pay 61 = .ok (.istore_n 3, 1) := by decide +kernel
theorem dX12_pay_62 : decode cX12_pay 62 = .ok (.aload_n 0, 1) := by decide +kernel
theorem dX12_pay_63 : decode cX12_pay 63 = .ok (.getfield 108, 3) := by decide +kernel
theorem dX12_pay_66 : decode cX12_pay 66 = .ok (.iload_n 1, 1) := by decide +kernel
theorem dX12_pay_67 : decode cX12_pay 67 = .ok (.iaload, 1) := by decide +kernel
theorem dX12_pay_68 : decode cX12_pay 68 = .ok (.iload_n 1, 1) := by decide +kernel
theorem dX12_pay_69 : decode cX12_pay 69 = .ok (.if_icmp .eq 7, 3) := by decide +kernel
theorem dX12_pay_72 : decode cX12_pay 72 = .ok (.iconst 1, 1) := by decide +kernel
theorem dX12_pay_73 : decode cX12_pay 73 = .ok (.goto 4, 3) := by decide +kernel
theorem dX12_pay_76 : decode cX12_pay 76 = .ok (.iconst 0, 1) := by decide +kernel
theorem dX12_pay_77 : decode cX12_pay 77 = .ok (.istore 4, 2) := by decide +kernel
theorem dX12_pay_79 : decode cX12_pay 79 = .ok (.aload_n 0, 1) := by decide +kernel
theorem dX12_pay_80 : decode cX12_pay 80 = .ok (.getfield 45, 3) := by decide +kernel
theorem dX12_pay_83 : decode cX12_pay 83 = .ok (.iconst 0, 1) := by decide +kernel
theorem dX12_pay_84 : decode cX12_pay 84 = .ok (.aload_n 0, 1) := by decide +kernel
theorem dX12_pay_85 : decode cX12_pay 85 = .ok (.getfield 114, 3) := by decide +kernel
theorem dX12_pay_88 : decode cX12_pay 88 = .ok (.iload_n 2, 1) := by decide +kernel
theorem dX12_pay_89 : decode cX12_pay 89 = .ok (.iaload, 1) := by decide +kernel
theorem dX12_pay_90 : decode cX12_pay 90 = .ok (.iastore, 1) := by decide +kernel
theorem dX12_pay_91 : decode cX12_pay 91 = .ok (.aload_n 0, 1) := by decide +kernel
theorem dX12_pay_92 : decode cX12_pay 92 = .ok (.getfield 45, 3) := by decide +kernel
theorem dX12_pay_95 : decode cX12_pay 95 = .ok (.iconst 1, 1) := by decide +kernel
theorem dX12_pay_96 : decode cX12_pay 96 = .ok (.aload_n 0, 1) := by decide +kernel
theorem dX12_pay_97 : decode cX12_pay 97 = .ok (.getfield 435, 3) := by decide +kernel
theorem dX12_pay_100 : decode cX12_pay 100 = .ok (.iastore, 1) := by decide +kernel
theorem dX12_pay_101 : decode cX12_pay 101 = .ok (.aload_n 0, 1) := by decide +kernel
theorem dX12_pay_102 : decode cX12_pay 102 = .ok (.getfield 45, 3) := by decide +kernel
theorem dX12_pay_105 : decode cX12_pay 105 = .ok (.iconst 2, 1) := by decide +kernel
theorem dX12_pay_106 : decode cX12_pay 106 = .ok (.aload_n 0, 1) := by decide +kernel
theorem dX12_pay_107 : decode cX12_pay 107 = .ok (.getfield 438, 3) := by decide +kernel
theorem dX12_pay_110 : decode cX12_pay 110 = .ok (.iastore, 1) := by decide +kernel
theorem dX12_pay_111 : decode cX12_pay 111 = .ok (.aload_n 0, 1) := by decide +kernel
theorem dX12_pay_112 : decode cX12_pay 112 = .ok (.getfield 45, 3) := by decide +kernel
theorem dX12_pay_115 : decode cX12_pay 115 = .ok (.iconst 3, 1) := by decide +kernel
theorem dX12_pay_116 : decode cX12_pay 116 = .ok (.iload_n 3, 1) := by decide +kernel
theorem dX12_pay_117 : decode cX12_pay 117 = .ok (.iastore, 1) := by decide +kernel
theorem dX12_pay_118 : decode cX12_pay 118 = .ok (.aload_n 0, 1) := by decide +kernel
theorem dX12_pay_119 : decode cX12_pay 119 = .ok (.getfield 45, 3) := by decide +kernel
theorem dX12_pay_122 : decode cX12_pay 122 = .ok (.iconst 4, 1) := by decide +kernel
theorem dX12_pay_123 : decode cX12_pay 123 = .ok (.aload_n 0, 1) := by decide +kernel
theorem dX12_pay_124 : decode cX12_pay 124 = .ok (.iload_n 1, 1) := by decide +kernel
theorem dX12_pay_125 : decode cX12_pay 125 = .ok (.invokevirtual 466, 3) := by decide +kernel
theorem dX12_pay_128 : decode cX12_pay 128 = .ok (.invokestatic 343, 3) := by decide +kernel
theorem dX12_pay_131 : decode cX12_pay 131 = .ok (.iastore, 1) := by decide +kernel
theorem dX12_pay_132 : decode cX12_pay 132 = .ok (.aload_n 0, 1) := by decide +kernel
theorem dX12_pay_133 : decode cX12_pay 133 = .ok (.getfield 45, 3) := by decide +kernel
theorem dX12_pay_136 : decode cX12_pay 136 = .ok (.iconst 5, 1) := by decide +kernel
theorem dX12_pay_137 : decode cX12_pay 137 = .ok (.aload_n 0, 1) := by decide +kernel
theorem dX12_pay_138 : decode cX12_pay 138 = .ok (.getfield 120, 3) := by decide +kernel
theorem dX12_pay_141 : decode cX12_pay 141 = .ok (.iload_n 1, 1) := by decide +kernel
theorem dX12_pay_142 : decode cX12_pay 142 = .ok (.baload, 1) := by decide +kernel
theorem dX12_pay_143 : decode cX12_pay 143 = .ok (.invokestatic 343, 3) := by decide +kernel
theorem dX12_pay_146 : decode cX12_pay 146 = .ok (.iastore, 1) := by decide +kernel
theorem dX12_pay_147 : decode cX12_pay 147 = .ok (.aload_n 0, 1) := by decide +kernel
theorem dX12_pay_148 : decode cX12_pay 148 = .ok (.getfield 45, 3) := by decide +kernel
theorem dX12_pay_151 : decode cX12_pay 151 = .ok (.bipush 6, 2) := by decide +kernel
theorem dX12_pay_153 : decode cX12_pay 153 = .ok (.iload 4, 2) := by decide +kernel
theorem dX12_pay_155 : decode cX12_pay 155 = .ok (.invokestatic 343, 3) := by decide +kernel
theorem dX12_pay_158 : decode cX12_pay 158 = .ok (.iastore, 1) := by decide +kernel
theorem dX12_pay_159 : decode cX12_pay 159 = .ok (.aload_n 0, 1) := by decide +kernel
theorem dX12_pay_160 : decode cX12_pay 160 = .ok (.getfield 404, 3) := by decide +kernel
theorem dX12_pay_163 : decode cX12_pay 163 = .ok (.ifCond .eq 11, 3) := by decide +kernel
theorem dX12_pay_166 : decode cX12_pay 166 = .ok (.aload_n 0, 1) := by decide +kernel
theorem dX12_pay_167 : decode cX12_pay 167 = .ok (.iconst 0, 1) := by decide +kernel
theorem dX12_pay_168 : decode cX12_pay 168 = .ok (.invokevirtual 444, 3) := by decide +kernel
theorem dX12_pay_171 : decode cX12_pay 171 = .ok (.goto 5, 3) := by decide +kernel
theorem dX12_pay_174 : decode cX12_pay 174 = .ok (.bipush 60, 2) := by decide +kernel
theorem dX12_pay_176 : decode cX12_pay 176 = .ok (.istore 5, 2) := by decide +kernel
theorem dX12_pay_178 : decode cX12_pay 178 = .ok (.iload 5, 2) := by decide +kernel
theorem dX12_pay_180 : decode cX12_pay 180 = .ok (.ifCond .ge 7, 3) := by decide +kernel
theorem dX12_pay_183 : decode cX12_pay 183 = .ok (.iconst 0, 1) := by decide +kernel
theorem dX12_pay_184 : decode cX12_pay 184 = .ok (.goto 19, 3) := by decide +kernel
theorem dX12_pay_187 : decode cX12_pay 187 = .ok (.iload 5, 2) := by decide +kernel
theorem dX12_pay_189 : decode cX12_pay 189 = .ok (.sipush 240, 3) := by decide +kernel
theorem dX12_pay_192 : decode cX12_pay 192 = .ok (.if_icmp .le 9, 3) := by decide +kernel
theorem dX12_pay_195 : decode cX12_pay 195 = .ok (.sipush 240, 3) := by decide +kernel
theorem dX12_pay_198 : decode cX12_pay 198 = .ok (.goto 5, 3) := by decide +kernel
theorem dX12_pay_201 : decode cX12_pay 201 = .ok (.iload 5, 2) := by decide +kernel
theorem dX12_pay_203 : decode cX12_pay 203 = .ok (.istore 5, 2) := by decide +kernel
theorem dX12_pay_205 : decode cX12_pay 205 = .ok (.iload 5, 2) := by decide +kernel
theorem dX12_pay_207 : decode cX12_pay 207 = .ok (.aload_n 0, 1) := by decide +kernel
theorem dX12_pay_208 : decode cX12_pay 208 = .ok (.getfield 114, 3) := by decide +kernel
theorem dX12_pay_211 : decode cX12_pay 211 = .ok (.iload_n 2, 1) := by decide +kernel
theorem dX12_pay_212 : decode cX12_pay 212 = .ok (.iaload, 1) := by decide +kernel
theorem dX12_pay_213 : decode cX12_pay 213 = .ok (.if_icmp .le 12, 3) := by decide +kernel
theorem dX12_pay_216 : decode cX12_pay 216 = .ok (.aload_n 0, 1) := by decide +kernel
theorem dX12_pay_217 : decode cX12_pay 217 = .ok (.getfield 114, 3) := by decide +kernel
theorem dX12_pay_220 : decode cX12_pay 220 = .ok (.iload_n 2, 1) := by decide +kernel
theorem dX12_pay_221 : decode cX12_pay 221 = .ok (.iaload, 1) := by decide +kernel
theorem dX12_pay_222 : decode cX12_pay 222 = .ok (.goto 5, 3) := by decide +kernel
theorem dX12_pay_225 : decode cX12_pay 225 = .ok (.iload 5, 2) := by decide +kernel
theorem dX12_pay_227 : decode cX12_pay 227 = .ok (.istore 5, 2) := by decide +kernel
theorem dX12_pay_229 : decode cX12_pay 229 = .ok (.iload 5, 2) := by decide +kernel
theorem dX12_pay_231 : decode cX12_pay 231 = .ok (.ifCond .eq 28, 3) := by decide +kernel
theorem dX12_pay_234 : decode cX12_pay 234 = .ok (.iload 4, 2) := by decide +kernel
theorem dX12_pay_236 : decode cX12_pay 236 = .ok (.ifCond .eq 24, 3) := by decide +kernel
theorem dX12_pay_239 : decode cX12_pay 239 = .ok (.aload_n 0, 1) := by decide +kernel
theorem dX12_pay_240 : decode cX12_pay 240 = .ok (.getfield 111, 3) := by decide +kernel
theorem dX12_pay_243 : decode cX12_pay 243 = .ok (.aload_n 0, 1) := by decide +kernel
theorem dX12_pay_244 : decode cX12_pay 244 = .ok (.getfield 108, 3) := by decide +kernel
theorem dX12_pay_247 : decode cX12_pay 247 = .ok (.iload_n 1, 1) := by decide +kernel
theorem dX12_pay_248 : decode cX12_pay 248 = .ok (.iaload, 1) := by decide +kernel
theorem dX12_pay_249 : decode cX12_pay 249 = .ok (.iaload, 1) := by decide +kernel
theorem dX12_pay_250 : decode cX12_pay 250 = .ok (.aload_n 0, 1) := by decide +kernel
theorem dX12_pay_251 : decode cX12_pay 251 = .ok (.getfield 87, 3) := by decide +kernel
theorem dX12_pay_254 : decode cX12_pay 254 = .ok (.iload_n 1, 1) := by decide +kernel
theorem dX12_pay_255 : decode cX12_pay 255 = .ok (.iaload, 1) := by decide +kernel
theorem dX12_pay_256 : decode cX12_pay 256 = .ok (.if_icmp .ge 4, 3) := by decide +kernel
theorem dX12_pay_259 : decode cX12_pay 259 = .ok (.return_, 1) := by decide +kernel
theorem dX12_pay_260 : decode cX12_pay 260 = .ok (.iload 4, 2) := by decide +kernel
theorem dX12_pay_262 : decode cX12_pay 262 = .ok (.ifCond .eq 38, 3) := by decide +kernel
theorem dX12_pay_265 : decode cX12_pay 265 = .ok (.aload_n 0, 1) := by decide +kernel
theorem dX12_pay_266 : decode cX12_pay 266 = .ok (.getfield 111, 3) := by decide +kernel
theorem dX12_pay_269 : decode cX12_pay 269 = .ok (.aload_n 0, 1) := by decide +kernel
theorem dX12_pay_270 : decode cX12_pay 270 = .ok (.getfield 108, 3) := by decide +kernel
theorem dX12_pay_273 : decode cX12_pay 273 = .ok (.iload_n 1, 1) := by decide +kernel
theorem dX12_pay_274 : decode cX12_pay 274 = .ok (.iaload, 1) := by decide +kernel
theorem dX12_pay_275 : decode cX12_pay 275 = .ok (.dup2, 1) := by decide +kernel
theorem dX12_pay_276 : decode cX12_pay 276 = .ok (.iaload, 1) := by decide +kernel
theorem dX12_pay_277 : decode cX12_pay 277 = .ok (.aload_n 0, 1) := by decide +kernel
theorem dX12_pay_278 : decode cX12_pay 278 = .ok (.getfield 87, 3) := by decide +kernel
theorem dX12_pay_281 : decode cX12_pay 281 = .ok (.iload_n 1, 1) := by decide +kernel
theorem dX12_pay_282 : decode cX12_pay 282 = .ok (.iaload, 1) := by decide +kernel
theorem dX12_pay_283 : decode cX12_pay 283 = .ok (.isub, 1) := by decide +kernel
theorem dX12_pay_284 : decode cX12_pay 284 = .ok (.iastore, 1) := by decide +kernel
theorem dX12_pay_285 : decode cX12_pay 285 = .ok (.aload_n 0, 1) := by decide +kernel
theorem dX12_pay_286 : decode cX12_pay 286 = .ok (.getfield 111, 3) := by decide +kernel
theorem dX12_pay_289 : decode cX12_pay 289 = .ok (.iload_n 1, 1) := by decide +kernel
theorem dX12_pay_290 : decode cX12_pay 290 = .ok (.dup2, 1) := by decide +kernel
theorem dX12_pay_291 : decode cX12_pay 291 = .ok (.iaload, 1) := by decide +kernel
theorem dX12_pay_292 : decode cX12_pay 292 = .ok (.aload_n 0, 1) := by decide +kernel
theorem dX12_pay_293 : decode cX12_pay 293 = .ok (.getfield 87, 3) := by decide +kernel
theorem dX12_pay_296 : decode cX12_pay 296 = .ok (.iload_n 1, 1) := by decide +kernel
theorem dX12_pay_297 : decode cX12_pay 297 = .ok (.iaload, 1) := by decide +kernel
theorem dX12_pay_298 : decode cX12_pay 298 = .ok (.iadd, 1) := by decide +kernel
theorem dX12_pay_299 : decode cX12_pay 299 = .ok (.iastore, 1) := by decide +kernel
theorem dX12_pay_300 : decode cX12_pay 300 = .ok (.aload_n 0, 1) := by decide +kernel
theorem dX12_pay_301 : decode cX12_pay 301 = .ok (.getfield 130, 3) := by decide +kernel
theorem dX12_pay_304 : decode cX12_pay 304 = .ok (.iload_n 1, 1) := by decide +kernel
theorem dX12_pay_305 : decode cX12_pay 305 = .ok (.iload 5, 2) := by decide +kernel
theorem dX12_pay_307 : decode cX12_pay 307 = .ok (.iastore, 1) := by decide +kernel
theorem dX12_pay_308 : decode cX12_pay 308 = .ok (.aload_n 0, 1) := by decide +kernel
theorem dX12_pay_309 : decode cX12_pay 309 = .ok (.getfield 114, 3) := by decide +kernel
theorem dX12_pay_312 : decode cX12_pay 312 = .ok (.iload_n 2, 1) := by decide +kernel
theorem dX12_pay_313 : decode cX12_pay 313 = .ok (.dup2, 1) := by decide +kernel
theorem dX12_pay_314 : decode cX12_pay 314 = .ok (.iaload, 1) := by decide +kernel
theorem dX12_pay_315 : decode cX12_pay 315 = .ok (.iload 5, 2) := by decide +kernel
theorem dX12_pay_317 : decode cX12_pay 317 = .ok (.isub, 1) := by decide +kernel
theorem dX12_pay_318 : decode cX12_pay 318 = .ok (.iastore, 1) := by decide +kernel
theorem dX12_pay_319 : decode cX12_pay 319 = .ok (.return_, 1) := by decide +kernel
theorem dX12_dusk_0 : decode cX12_dusk 0 = .ok (.iconst 0, 1) := by decide +kernel
theorem dX12_dusk_1 : decode cX12_dusk 1 = .ok (.istore_n 1, 1) := by decide +kernel
theorem dX12_dusk_2 : decode cX12_dusk 2 = .ok (.iload_n 1, 1) := by decide +kernel
theorem dX12_dusk_3 : decode cX12_dusk 3 = .ok (.bipush 36, 2) := by decide +kernel
theorem dX12_dusk_5 : decode cX12_dusk 5 = .ok (.if_icmp .ge 117, 3) := by decide +kernel
theorem dX12_dusk_8 : decode cX12_dusk 8 = .ok (.aload_n 0, 1) := by decide +kernel
theorem dX12_dusk_9 : decode cX12_dusk 9 = .ok (.getfield 407, 3) := by decide +kernel
theorem dX12_dusk_12 : decode cX12_dusk 12 = .ok (.ifCond .eq 110, 3) := by decide +kernel
theorem dX12_dusk_15 : decode cX12_dusk 15 = .ok (.aload_n 0, 1) := by decide +kernel
theorem dX12_dusk_16 : decode cX12_dusk 16 = .ok (.getfield 114, 3) := by decide +kernel
theorem dX12_dusk_19 : decode cX12_dusk 19 = .ok (.iload_n 1, 1) := by decide +kernel
theorem dX12_dusk_20 : decode cX12_dusk 20 = .ok (.iaload, 1) := by decide +kernel
theorem dX12_dusk_21 : decode cX12_dusk 21 = .ok (.ifCond .ne 6, 3) := by decide +kernel
theorem dX12_dusk_24 : decode cX12_dusk 24 = .ok (.goto 92, 3) := by decide +kernel
theorem dX12_dusk_27 : decode cX12_dusk 27 = .ok (.aload_n 0, 1) := by decide +kernel
theorem dX12_dusk_28 : decode cX12_dusk 28 = .ok (.invokevirtual 441, 3) := by decide +kernel
theorem dX12_dusk_31 : decode cX12_dusk 31 = .ok (.aload_n 0, 1) := by decide +kernel
theorem dX12_dusk_32 : decode cX12_dusk 32 = .ok (.getfield 45, 3) := by decide +kernel
theorem dX12_dusk_35 : decode cX12_dusk 35 = .ok (.iconst 0, 1) := by decide +kernel
theorem dX12_dusk_36 : decode cX12_dusk 36 = .ok (.aload_n 0, 1) := by decide +kernel
theorem dX12_dusk_37 : decode cX12_dusk 37 = .ok (.getfield 114, 3) := by decide +kernel
theorem dX12_dusk_40 : decode cX12_dusk 40 = .ok (.iload_n 1, 1) := by decide +kernel
theorem dX12_dusk_41 : decode cX12_dusk 41 = .ok (.iaload, 1) := by decide +kernel
theorem dX12_dusk_42 : decode cX12_dusk 42 = .ok (.iastore, 1) := by decide +kernel
theorem dX12_dusk_43 : decode cX12_dusk 43 = .ok (.aload_n 0, 1) := by decide +kernel
theorem dX12_dusk_44 : decode cX12_dusk 44 = .ok (.getfield 45, 3) := by decide +kernel
theorem dX12_dusk_47 : decode cX12_dusk 47 = .ok (.iconst 1, 1) := by decide +kernel
theorem dX12_dusk_48 : decode cX12_dusk 48 = .ok (.aload_n 0, 1) := by decide +kernel
theorem dX12_dusk_49 : decode cX12_dusk 49 = .ok (.getfield 435, 3) := by decide +kernel
theorem dX12_dusk_52 : decode cX12_dusk 52 = .ok (.iastore, 1) := by decide +kernel
theorem dX12_dusk_53 : decode cX12_dusk 53 = .ok (.aload_n 0, 1) := by decide +kernel
theorem dX12_dusk_54 : decode cX12_dusk 54 = .ok (.iconst 1, 1) := by decide +kernel
theorem dX12_dusk_55 : decode cX12_dusk 55 = .ok (.invokevirtual 444, 3) := by decide +kernel
theorem dX12_dusk_58 : decode cX12_dusk 58 = .ok (.istore_n 2, 1) := by decide +kernel
theorem dX12_dusk_59 : decode cX12_dusk 59 = .ok (.iload_n 2, 1) := by decide +kernel
theorem dX12_dusk_60 : decode cX12_dusk 60 = .ok (.ifCond .ge 7, 3) := by decide +kernel
theorem dX12_dusk_63 : decode cX12_dusk 63 = .ok (.iconst 0, 1) := by decide +kernel
theorem dX12_dusk_64 : decode cX12_dusk 64 = .ok (.goto 17, 3) := by decide +kernel
theorem dX12_dusk_67 : decode cX12_dusk 67 = .ok (.iload_n 2, 1) := by decide +kernel
theorem dX12_dusk_68 : decode cX12_dusk 68 = .ok (.sipush 9999, 3) := by decide +kernel
theorem dX12_dusk_71 : decode cX12_dusk 71 = .ok (.if_icmp .le 9, 3) := by decide +kernel
theorem dX12_dusk_74 : decode cX12_dusk 74 = .ok (.sipush 9999, 3) := by decide +kernel
theorem dX12_dusk_77 : decode cX12_dusk 77 = .ok (.goto 4, 3) := by decide +kernel
theorem dX12_dusk_80 : decode cX12_dusk 80 = .ok (.iload_n 2, 1) := by decide +kernel
theorem dX12_dusk_81 : decode cX12_dusk 81 = .ok (.istore_n 2, 1) := by decide +kernel
theorem dX12_dusk_82 : decode cX12_dusk 82 = .ok (.aload_n 0, 1) := by decide +kernel
theorem dX12_dusk_83 : decode cX12_dusk 83 = .ok (.getfield 114, 3) := by decide +kernel
theorem dX12_dusk_86 : decode cX12_dusk 86 = .ok (.iload_n 1, 1) := by decide +kernel
theorem dX12_dusk_87 : decode cX12_dusk 87 = .ok (.aload_n 0, 1) := by decide +kernel
theorem dX12_dusk_88 : decode cX12_dusk 88 = .ok (.getfield 114, 3) := by decide +kernel
theorem dX12_dusk_91 : decode cX12_dusk 91 = .ok (.iload_n 1, 1) := by decide +kernel
theorem dX12_dusk_92 : decode cX12_dusk 92 = .ok (.iaload, 1) := by decide +kernel
theorem dX12_dusk_93 : decode cX12_dusk 93 = .ok (.iload_n 2, 1) := by decide +kernel
theorem dX12_dusk_94 : decode cX12_dusk 94 = .ok (.iadd, 1) := by decide +kernel
theorem dX12_dusk_95 : decode cX12_dusk 95 = .ok (.sipush 9999, 3) := by decide +kernel
theorem dX12_dusk_98 : decode cX12_dusk 98 = .ok (.if_icmp .le 9, 3) := by decide +kernel
theorem dX12_dusk_101 : decode cX12_dusk 101 = .ok (.sipush 9999, 3) := by decide +kernel
theorem dX12_dusk_104 : decode cX12_dusk 104 = .ok (.goto 11, 3) := by decide +kernel
theorem dX12_dusk_107 : decode cX12_dusk 107 = .ok (.aload_n 0, 1) := by decide +kernel
theorem dX12_dusk_108 : decode cX12_dusk 108 = .ok (.getfield 114, 3) := by decide +kernel
theorem dX12_dusk_111 : decode cX12_dusk 111 = .ok (.iload_n 1, 1) := by decide +kernel
theorem dX12_dusk_112 : decode cX12_dusk 112 = .ok (.iaload, 1) := by decide +kernel
theorem dX12_dusk_113 : decode cX12_dusk 113 = .ok (.iload_n 2, 1) := by decide +kernel
theorem dX12_dusk_114 : decode cX12_dusk 114 = .ok (.iadd, 1) := by decide +kernel
theorem dX12_dusk_115 : decode cX12_dusk 115 = .ok (.iastore, 1) := by decide +kernel
theorem dX12_dusk_116 : decode cX12_dusk 116 = .ok (.iinc 1 1, 3) := by decide +kernel
theorem dX12_dusk_119 : decode cX12_dusk 119 = .ok (.goto (-117), 3) := by decide +kernel
theorem dX12_dusk_122 : decode cX12_dusk 122 = .ok (.iconst 0, 1) := by decide +kernel
theorem dX12_dusk_123 : decode cX12_dusk 123 = .ok (.istore_n 1, 1) := by decide +kernel
theorem dX12_dusk_124 : decode cX12_dusk 124 = .ok (.iload_n 1, 1) := by decide +kernel
theorem dX12_dusk_125 : decode cX12_dusk 125 = .ok (.aload_n 0, 1) := by decide +kernel
theorem dX12_dusk_126 : decode cX12_dusk 126 = .ok (.getfield 401, 3) := by decide +kernel
theorem dX12_dusk_129 : decode cX12_dusk 129 = .ok (.if_icmp .ge 21, 3) := by decide +kernel
theorem dX12_dusk_132 : decode cX12_dusk 132 = .ok (.aload_n 0, 1) := by decide +kernel
theorem dX12_dusk_133 : decode cX12_dusk 133 = .ok (.getfield 102, 3) := by decide +kernel
theorem dX12_dusk_136 : decode cX12_dusk 136 = .ok (.iload_n 1, 1) := by decide +kernel
theorem dX12_dusk_137 : decode cX12_dusk 137 = .ok (.aload_n 0, 1) := by decide +kernel
theorem dX12_dusk_138 : decode cX12_dusk 138 = .ok (.getfield 72, 3) := by decide +kernel
theorem dX12_dusk_141 : decode cX12_dusk 141 = .ok (.iload_n 1, 1) := by decide +kernel
theorem dX12_dusk_142 : decode cX12_dusk 142 = .ok (.iaload, 1) := by decide +kernel
theorem dX12_dusk_143 : decode cX12_dusk 143 = .ok (.iastore, 1) := by decide +kernel
theorem dX12_dusk_144 : decode cX12_dusk 144 = .ok (.iinc 1 1, 3) := by decide +kernel
theorem dX12_dusk_147 : decode cX12_dusk 147 = .ok (.goto (-23), 3) := by decide +kernel
theorem dX12_dusk_150 : decode cX12_dusk 150 = .ok (.aload_n 0, 1) := by decide +kernel
theorem dX12_dusk_151 : decode cX12_dusk 151 = .ok (.iconst 0, 1) := by decide +kernel
theorem dX12_dusk_152 : decode cX12_dusk 152 = .ok (.putfield 438, 3) := by decide +kernel
theorem dX12_dusk_155 : decode cX12_dusk 155 = .ok (.aload_n 0, 1) := by decide +kernel
theorem dX12_dusk_156 : decode cX12_dusk 156 = .ok (.dup, 1) := by decide +kernel
theorem dX12_dusk_157 : decode cX12_dusk 157 = .ok (.getfield 435, 3) := by decide +kernel
theorem dX12_dusk_160 : decode cX12_dusk 160 = .ok (.iconst 1, 1) := by decide +kernel
theorem dX12_dusk_161 : decode cX12_dusk 161 = .ok (.iadd, 1) := by decide +kernel
theorem dX12_dusk_162 : decode cX12_dusk 162 = .ok (.putfield 435, 3) := by decide +kernel
theorem dX12_dusk_165 : decode cX12_dusk 165 = .ok (.return_, 1) := by decide +kernel
theorem dX12_goHour_0 : decode cX12_goHour 0 = .ok (.aload_n 0, 1) := by decide +kernel
theorem dX12_goHour_1 : decode cX12_goHour 1 = .ok (.invokevirtual 469, 3) := by decide +kernel
theorem dX12_goHour_4 : decode cX12_goHour 4 = .ok (.iconst 0, 1) := by decide +kernel
theorem dX12_goHour_5 : decode cX12_goHour 5 = .ok (.istore_n 1, 1) := by decide +kernel
theorem dX12_goHour_6 : decode cX12_goHour 6 = .ok (.iload_n 1, 1) := by decide +kernel
theorem dX12_goHour_7 : decode cX12_goHour 7 = .ok (.aload_n 0, 1) := by decide +kernel
theorem dX12_goHour_8 : decode cX12_goHour 8 = .ok (.getfield 401, 3) := by decide +kernel
theorem dX12_goHour_11 : decode cX12_goHour 11 = .ok (.if_icmp .ge 20, 3) := by decide +kernel
theorem dX12_goHour_14 : decode cX12_goHour 14 = .ok (.aload_n 0, 1) := by decide +kernel
theorem dX12_goHour_15 : decode cX12_goHour 15 = .ok (.getfield 127, 3) := by decide +kernel
theorem dX12_goHour_18 : decode cX12_goHour 18 = .ok (.iload_n 1, 1) := by decide +kernel
theorem dX12_goHour_19 : decode cX12_goHour 19 = .ok (.aload_n 0, 1) := by decide +kernel
theorem dX12_goHour_20 : decode cX12_goHour 20 = .ok (.iload_n 1, 1) := by decide +kernel
theorem dX12_goHour_21 : decode cX12_goHour 21 = .ok (.invokevirtual 472, 3) := by decide +kernel
theorem dX12_goHour_24 : decode cX12_goHour 24 = .ok (.bastore, 1) := by decide +kernel
theorem dX12_goHour_25 : decode cX12_goHour 25 = .ok (.iinc 1 1, 3) := by decide +kernel
theorem dX12_goHour_28 : decode cX12_goHour 28 = .ok (.goto (-22), 3) := by decide +kernel
theorem dX12_goHour_31 : decode cX12_goHour 31 = .ok (.iconst 0, 1) := by decide +kernel
theorem dX12_goHour_32 : decode cX12_goHour 32 = .ok (.istore_n 1, 1) := by decide +kernel
theorem dX12_goHour_33 : decode cX12_goHour 33 = .ok (.iload_n 1, 1) := by decide +kernel
theorem dX12_goHour_34 : decode cX12_goHour 34 = .ok (.aload_n 0, 1) := by decide +kernel
theorem dX12_goHour_35 : decode cX12_goHour 35 = .ok (.getfield 401, 3) := by decide +kernel
theorem dX12_goHour_38 : decode cX12_goHour 38 = .ok (.if_icmp .ge 14, 3) := by decide +kernel
theorem dX12_goHour_41 : decode cX12_goHour 41 = .ok (.aload_n 0, 1) := by decide +kernel
theorem dX12_goHour_42 : decode cX12_goHour 42 = .ok (.iload_n 1, 1) := by decide +kernel
theorem dX12_goHour_43 : decode cX12_goHour 43 = .ok (.invokevirtual 475, 3) := by decide +kernel
theorem dX12_goHour_46 : decode cX12_goHour 46 = .ok (.iinc 1 1, 3) := by decide +kernel
theorem dX12_goHour_49 : decode cX12_goHour 49 = .ok (.goto (-16), 3) := by decide +kernel
theorem dX12_goHour_52 : decode cX12_goHour 52 = .ok (.aload_n 0, 1) := by decide +kernel
theorem dX12_goHour_53 : decode cX12_goHour 53 = .ok (.dup, 1) := by decide +kernel
theorem dX12_goHour_54 : decode cX12_goHour 54 = .ok (.getfield 438, 3) := by decide +kernel
theorem dX12_goHour_57 : decode cX12_goHour 57 = .ok (.iconst 1, 1) := by decide +kernel
theorem dX12_goHour_58 : decode cX12_goHour 58 = .ok (.iadd, 1) := by decide +kernel
theorem dX12_goHour_59 : decode cX12_goHour 59 = .ok (.putfield 438, 3) := by decide +kernel
theorem dX12_goHour_62 : decode cX12_goHour 62 = .ok (.aload_n 0, 1) := by decide +kernel
theorem dX12_goHour_63 : decode cX12_goHour 63 = .ok (.getfield 438, 3) := by decide +kernel
theorem dX12_goHour_66 : decode cX12_goHour 66 = .ok (.aload_n 0, 1) := by decide +kernel
theorem dX12_goHour_67 : decode cX12_goHour 67 = .ok (.getfield 96, 3) := by decide +kernel
theorem dX12_goHour_70 : decode cX12_goHour 70 = .ok (.if_icmp .ne 7, 3) := by decide +kernel
theorem dX12_goHour_73 : decode cX12_goHour 73 = .ok (.aload_n 0, 1) := by decide +kernel
theorem dX12_goHour_74 : decode cX12_goHour 74 = .ok (.invokevirtual 478, 3) := by decide +kernel
theorem dX12_goHour_77 : decode cX12_goHour 77 = .ok (.return_, 1) := by decide +kernel
theorem dX12_goHours_0 : decode cX12_goHours 0 = .ok (.iconst 0, 1) := by decide +kernel
theorem dX12_goHours_1 : decode cX12_goHours 1 = .ok (.istore_n 2, 1) := by decide +kernel
theorem dX12_goHours_2 : decode cX12_goHours 2 = .ok (.iload_n 2, 1) := by decide +kernel
theorem dX12_goHours_3 : decode cX12_goHours 3 = .ok (.iload_n 1, 1) := by decide +kernel
theorem dX12_goHours_4 : decode cX12_goHours 4 = .ok (.if_icmp .ge 13, 3) := by decide +kernel
theorem dX12_goHours_7 : decode cX12_goHours 7 = .ok (.aload_n 0, 1) := by decide +kernel
theorem dX12_goHours_8 : decode cX12_goHours 8 = .ok (.invokevirtual 481, 3) := by decide +kernel
theorem dX12_goHours_11 : decode cX12_goHours 11 = .ok (.iinc 2 1, 3) := by decide +kernel
theorem dX12_goHours_14 : decode cX12_goHours 14 = .ok (.goto (-12), 3) := by decide +kernel
theorem dX12_goHours_17 : decode cX12_goHours 17 = .ok (.return_, 1) := by decide +kernel
theorem dX12_person_0 : decode cX12_person 0 = .ok (.aload_n 0, 1) := by decide +kernel
theorem dX12_person_1 : decode cX12_person 1 = .ok (.iload_n 1, 1) := by decide +kernel
theorem dX12_person_2 : decode cX12_person 2 = .ok (.invokevirtual 432, 3) := by decide +kernel
theorem dX12_person_5 : decode cX12_person 5 = .ok (.ifCond .ne 6, 3) := by decide +kernel
theorem dX12_person_8 : decode cX12_person 8 = .ok (.bipush (-2), 2) := by decide +kernel
theorem dX12_person_10 : decode cX12_person 10 = .ok (.ireturn, 1) := by decide +kernel
theorem dX12_person_11 : decode cX12_person 11 = .ok (.iload_n 2, 1) := by decide +kernel
theorem dX12_person_12 : decode cX12_person 12 = .ok (.tableswitch 137 0 9 #[56, 65, 75, 85, 95, 102, 109, 116, 123, 130], 56) := by decide +kernel
theorem dX12_person_68 : decode cX12_person 68 = .ok (.aload_n 0, 1) := by decide +kernel
theorem dX12_person_69 : decode cX12_person 69 = .ok (.getfield 99, 3) := by decide +kernel
theorem dX12_person_72 : decode cX12_person 72 = .ok (.iconst 0, 1) := by decide +kernel
theorem dX12_person_73 : decode cX12_person 73 = .ok (.iload_n 1, 1) := by decide +kernel
theorem dX12_person_74 : decode cX12_person 74 = .ok (.iadd, 1) := by decide +kernel
theorem dX12_person_75 : decode cX12_person 75 = .ok (.iaload, 1) := by decide +kernel
theorem dX12_person_76 : decode cX12_person 76 = .ok (.ireturn, 1) := by decide +kernel
theorem dX12_person_77 : decode cX12_person 77 = .ok (.aload_n 0, 1) := by decide +kernel
theorem dX12_person_78 : decode cX12_person 78 = .ok (.getfield 99, 3) := by decide +kernel
theorem dX12_person_81 : decode cX12_person 81 = .ok (.bipush 6, 2) := by decide +kernel
theorem dX12_person_83 : decode cX12_person 83 = .ok (.iload_n 1, 1) := by decide +kernel
theorem dX12_person_84 : decode cX12_person 84 = .ok (.iadd, 1) := by decide +kernel
theorem dX12_person_85 : decode cX12_person 85 = .ok (.iaload, 1) := by decide +kernel
theorem dX12_person_86 : decode cX12_person 86 = .ok (.ireturn, 1) := by decide +kernel
theorem dX12_person_87 : decode cX12_person 87 = .ok (.aload_n 0, 1) := by decide +kernel
theorem dX12_person_88 : decode cX12_person 88 = .ok (.getfield 99, 3) := by decide +kernel
theorem dX12_person_91 : decode cX12_person 91 = .ok (.bipush 12, 2) := by decide +kernel
theorem dX12_person_93 : decode cX12_person 93 = .ok (.iload_n 1, 1) := by decide +kernel
theorem dX12_person_94 : decode cX12_person 94 = .ok (.iadd, 1) := by decide +kernel
theorem dX12_person_95 : decode cX12_person 95 = .ok (.iaload, 1) := by decide +kernel
theorem dX12_person_96 : decode cX12_person 96 = .ok (.ireturn, 1) := by decide +kernel
theorem dX12_person_97 : decode cX12_person 97 = .ok (.aload_n 0, 1) := by decide +kernel
theorem dX12_person_98 : decode cX12_person 98 = .ok (.getfield 99, 3) := by decide +kernel
theorem dX12_person_101 : decode cX12_person 101 = .ok (.bipush 18, 2) := by decide +kernel
theorem dX12_person_103 : decode cX12_person 103 = .ok (.iload_n 1, 1) := by decide +kernel
theorem dX12_person_104 : decode cX12_person 104 = .ok (.iadd, 1) := by decide +kernel
theorem dX12_person_105 : decode cX12_person 105 = .ok (.iaload, 1) := by decide +kernel
theorem dX12_person_106 : decode cX12_person 106 = .ok (.ireturn, 1) := by decide +kernel
theorem dX12_person_107 : decode cX12_person 107 = .ok (.aload_n 0, 1) := by decide +kernel
theorem dX12_person_108 : decode cX12_person 108 = .ok (.getfield 72, 3) := by decide +kernel
theorem dX12_person_111 : decode cX12_person 111 = .ok (.iload_n 1, 1) := by decide +kernel
theorem dX12_person_112 : decode cX12_person 112 = .ok (.iaload, 1) := by decide +kernel
theorem dX12_person_113 : decode cX12_person 113 = .ok (.ireturn, 1) := by decide +kernel
theorem dX12_person_114 : decode cX12_person 114 = .ok (.aload_n 0, 1) := by decide +kernel
theorem dX12_person_115 : decode cX12_person 115 = .ok (.getfield 75, 3) := by decide +kernel
theorem dX12_person_118 : decode cX12_person 118 = .ok (.iload_n 1, 1) := by decide +kernel
theorem dX12_person_119 : decode cX12_person 119 = .ok (.iaload, 1) := by decide +kernel
theorem dX12_person_120 : decode cX12_person 120 = .ok (.ireturn, 1) := by decide +kernel
theorem dX12_person_121 : decode cX12_person 121 = .ok (.aload_n 0, 1) := by decide +kernel
theorem dX12_person_122 : decode cX12_person 122 = .ok (.getfield 78, 3) := by decide +kernel
theorem dX12_person_125 : decode cX12_person 125 = .ok (.iload_n 1, 1) := by decide +kernel
theorem dX12_person_126 : decode cX12_person 126 = .ok (.iaload, 1) := by decide +kernel
theorem dX12_person_127 : decode cX12_person 127 = .ok (.ireturn, 1) := by decide +kernel
theorem dX12_person_128 : decode cX12_person 128 = .ok (.aload_n 0, 1) := by decide +kernel
theorem dX12_person_129 : decode cX12_person 129 = .ok (.getfield 81, 3) := by decide +kernel
theorem dX12_person_132 : decode cX12_person 132 = .ok (.iload_n 1, 1) := by decide +kernel
theorem dX12_person_133 : decode cX12_person 133 = .ok (.iaload, 1) := by decide +kernel
theorem dX12_person_134 : decode cX12_person 134 = .ok (.ireturn, 1) := by decide +kernel
theorem dX12_person_135 : decode cX12_person 135 = .ok (.aload_n 0, 1) := by decide +kernel
theorem dX12_person_136 : decode cX12_person 136 = .ok (.getfield 84, 3) := by decide +kernel
theorem dX12_person_139 : decode cX12_person 139 = .ok (.iload_n 1, 1) := by decide +kernel
theorem dX12_person_140 : decode cX12_person 140 = .ok (.iaload, 1) := by decide +kernel
theorem dX12_person_141 : decode cX12_person 141 = .ok (.ireturn, 1) := by decide +kernel
theorem dX12_person_142 : decode cX12_person 142 = .ok (.aload_n 0, 1) := by decide +kernel
theorem dX12_person_143 : decode cX12_person 143 = .ok (.getfield 87, 3) := by decide +kernel
theorem dX12_person_146 : decode cX12_person 146 = .ok (.iload_n 1, 1) := by decide +kernel
theorem dX12_person_147 : decode cX12_person 147 = .ok (.iaload, 1) := by decide +kernel
theorem dX12_person_148 : decode cX12_person 148 = .ok (.ireturn, 1) := by decide +kernel
theorem dX12_person_149 : decode cX12_person 149 = .ok (.bipush (-2), 2) := by decide +kernel
theorem dX12_person_151 : decode cX12_person 151 = .ok (.ireturn, 1) := by decide +kernel
theorem dX12_owed_0 : decode cX12_owed 0 = .ok (.aload_n 0, 1) := by decide +kernel
theorem dX12_owed_1 : decode cX12_owed 1 = .ok (.iload_n 1, 1) := by decide +kernel
theorem dX12_owed_2 : decode cX12_owed 2 = .ok (.iload_n 2, 1) := by decide +kernel
theorem dX12_owed_3 : decode cX12_owed 3 = .ok (.invokevirtual 484, 3) := by decide +kernel
theorem dX12_owed_6 : decode cX12_owed 6 = .ok (.ifCond .eq 20, 3) := by decide +kernel
theorem dX12_owed_9 : decode cX12_owed 9 = .ok (.aload_n 0, 1) := by decide +kernel
theorem dX12_owed_10 : decode cX12_owed 10 = .ok (.getfield 99, 3) := by decide +kernel
theorem dX12_owed_13 : decode cX12_owed 13 = .ok (.bipush 24, 2) := by decide +kernel
theorem dX12_owed_15 : decode cX12_owed 15 = .ok (.bipush 6, 2) := by decide +kernel
theorem dX12_owed_17 : decode cX12_owed 17 = .ok (.iload_n 1, 1) := by decide +kernel
theorem dX12_owed_18 : decode cX12_owed 18 = .ok (.imul, 1) := by decide +kernel
theorem dX12_owed_19 : decode cX12_owed 19 = .ok (.iadd, 1) := by decide +kernel
theorem dX12_owed_20 : decode cX12_owed 20 = .ok (.iload_n 2, 1) := by decide +kernel
theorem dX12_owed_21 : decode cX12_owed 21 = .ok (.iadd, 1) := by decide +kernel
theorem dX12_owed_22 : decode cX12_owed 22 = .ok (.iaload, 1) := by decide +kernel
theorem dX12_owed_23 : decode cX12_owed 23 = .ok (.goto 4, 3) := by decide +kernel
theorem dX12_owed_26 : decode cX12_owed 26 = .ok (.iconst (-1), 1) := by decide +kernel
theorem dX12_owed_27 : decode cX12_owed 27 = .ok (.ireturn, 1) := by decide +kernel
theorem dX12_sumOf_0 : decode cX12_sumOf 0 = .ok (.iconst 0, 1) := by decide +kernel
theorem dX12_sumOf_1 : decode cX12_sumOf 1 = .ok (.istore_n 3, 1) := by decide +kernel
theorem dX12_sumOf_2 : decode cX12_sumOf 2 = .ok (.iconst 0, 1) := by decide +kernel
theorem dX12_sumOf_3 : decode cX12_sumOf 3 = .ok (.istore 4, 2) := by decide +kernel
theorem dX12_sumOf_5 : decode cX12_sumOf 5 = .ok (.iload 4, 2) := by decide +kernel
theorem dX12_sumOf_7 : decode cX12_sumOf 7 = .ok (.aload_n 0, 1) := by decide +kernel
theorem dX12_sumOf_8 : decode cX12_sumOf 8 = .ok (.getfield 401, 3) := by decide +kernel
theorem dX12_sumOf_11 : decode cX12_sumOf 11 = .ok (.if_icmp .ge 43, 3) := by decide +kernel
theorem dX12_sumOf_14 : decode cX12_sumOf 14 = .ok (.iload_n 3, 1) := by decide +kernel
theorem dX12_sumOf_15 : decode cX12_sumOf 15 = .ok (.iload_n 2, 1) := by decide +kernel
theorem dX12_sumOf_16 : decode cX12_sumOf 16 = .ok (.ifCond .eq 18, 3) := by decide +kernel
theorem dX12_sumOf_19 : decode cX12_sumOf 19 = .ok (.aload_n 0, 1) := by decide +kernel
theorem dX12_sumOf_20 : decode cX12_sumOf 20 = .ok (.getfield 114, 3) := by decide +kernel
theorem dX12_sumOf_23 : decode cX12_sumOf 23 = .ok (.bipush 6, 2) := by decide +kernel
theorem dX12_sumOf_25 : decode cX12_sumOf 25 = .ok (.iload 4, 2) := by decide +kernel
theorem dX12_sumOf_27 : decode cX12_sumOf 27 = .ok (.imul, 1) := by decide +kernel
theorem dX12_sumOf_28 : decode cX12_sumOf 28 = .ok (.iload_n 1, 1) := by decide +kernel
theorem dX12_sumOf_29 : decode cX12_sumOf 29 = .ok (.iadd, 1) := by decide +kernel
theorem dX12_sumOf_30 : decode cX12_sumOf 30 = .ok (.iaload, 1) := by decide +kernel
theorem dX12_sumOf_31 : decode cX12_sumOf 31 = .ok (.goto 15, 3) := by decide +kernel
theorem dX12_sumOf_34 : decode cX12_sumOf 34 = .ok (.aload_n 0, 1) := by decide +kernel
theorem dX12_sumOf_35 : decode cX12_sumOf 35 = .ok (.getfield 114, 3) := by decide +kernel
theorem dX12_sumOf_38 : decode cX12_sumOf 38 = .ok (.bipush 6, 2) := by decide +kernel
theorem dX12_sumOf_40 : decode cX12_sumOf 40 = .ok (.iload_n 1, 1) := by decide +kernel
theorem dX12_sumOf_41 : decode cX12_sumOf 41 = .ok (.imul, 1) := by decide +kernel
theorem dX12_sumOf_42 : decode cX12_sumOf 42 = .ok (.iload 4, 2) := by decide +kernel
theorem dX12_sumOf_44 : decode cX12_sumOf 44 = .ok (.iadd, 1) := by decide +kernel
theorem dX12_sumOf_45 : decode cX12_sumOf 45 = .ok (.iaload, 1) := by decide +kernel
theorem dX12_sumOf_46 : decode cX12_sumOf 46 = .ok (.iadd, 1) := by decide +kernel
theorem dX12_sumOf_47 : decode cX12_sumOf 47 = .ok (.istore_n 3, 1) := by decide +kernel
theorem dX12_sumOf_48 : decode cX12_sumOf 48 = .ok (.iinc 4 1, 3) := by decide +kernel
theorem dX12_sumOf_51 : decode cX12_sumOf 51 = .ok (.goto (-46), 3) := by decide +kernel
theorem dX12_sumOf_54 : decode cX12_sumOf 54 = .ok (.iload_n 3, 1) := by decide +kernel
theorem dX12_sumOf_55 : decode cX12_sumOf 55 = .ok (.ireturn, 1) := by decide +kernel
theorem dX12_sum_0 : decode cX12_sum 0 = .ok (.aload_n 0, 1) := by decide +kernel
theorem dX12_sum_1 : decode cX12_sum 1 = .ok (.invokevirtual 487, 3) := by decide +kernel
theorem dX12_sum_4 : decode cX12_sum 4 = .ok (.aload_n 0, 1) := by decide +kernel
theorem dX12_sum_5 : decode cX12_sum 5 = .ok (.iload_n 1, 1) := by decide +kernel
theorem dX12_sum_6 : decode cX12_sum 6 = .ok (.invokevirtual 432, 3) := by decide +kernel
theorem dX12_sum_9 : decode cX12_sum 9 = .ok (.ifCond .eq 12, 3) := by decide +kernel
theorem dX12_sum_12 : decode cX12_sum 12 = .ok (.aload_n 0, 1) := by decide +kernel
theorem dX12_sum_13 : decode cX12_sum 13 = .ok (.iload_n 1, 1) := by decide +kernel
theorem dX12_sum_14 : decode cX12_sum 14 = .ok (.iload_n 2, 1) := by decide +kernel
theorem dX12_sum_15 : decode cX12_sum 15 = .ok (.invokevirtual 490, 3) := by decide +kernel
theorem dX12_sum_18 : decode cX12_sum 18 = .ok (.goto 4, 3) := by decide +kernel
theorem dX12_sum_21 : decode cX12_sum 21 = .ok (.iconst (-1), 1) := by decide +kernel
theorem dX12_sum_22 : decode cX12_sum 22 = .ok (.ireturn, 1) := by decide +kernel
theorem dX12_wet_0 : decode cX12_wet 0 = .ok (.iload_n 1, 1) := by decide +kernel
theorem dX12_wet_1 : decode cX12_wet 1 = .ok (.iconst 0, 1) := by decide +kernel
theorem dX12_wet_2 : decode cX12_wet 2 = .ok (.sipush 999, 3) := by decide +kernel
theorem dX12_wet_5 : decode cX12_wet 5 = .ok (.invokestatic 428, 3) := by decide +kernel
theorem dX12_wet_8 : decode cX12_wet 8 = .ok (.ifCond .eq 26, 3) := by decide +kernel
theorem dX12_wet_11 : decode cX12_wet 11 = .ok (.iload_n 2, 1) := by decide +kernel
theorem dX12_wet_12 : decode cX12_wet 12 = .ok (.iconst 0, 1) := by decide +kernel
theorem dX12_wet_13 : decode cX12_wet 13 = .ok (.aload_n 0, 1) := by decide +kernel
theorem dX12_wet_14 : decode cX12_wet 14 = .ok (.getfield 96, 3) := by decide +kernel
theorem dX12_wet_17 : decode cX12_wet 17 = .ok (.iconst 1, 1) := by decide +kernel
theorem dX12_wet_18 : decode cX12_wet 18 = .ok (.isub, 1) := by decide +kernel
theorem dX12_wet_19 : decode cX12_wet 19 = .ok (.invokestatic 428, 3) := by decide +kernel
theorem dX12_wet_22 : decode cX12_wet 22 = .ok (.ifCond .eq 12, 3) := by decide +kernel
theorem dX12_wet_25 : decode cX12_wet 25 = .ok (.aload_n 0, 1) := by decide +kernel
theorem dX12_wet_26 : decode cX12_wet 26 = .ok (.iload_n 1, 1) := by decide +kernel
theorem dX12_wet_27 : decode cX12_wet 27 = .ok (.iload_n 2, 1) := by decide +kernel
theorem dX12_wet_28 : decode cX12_wet 28 = .ok (.invokevirtual 463, 3) := by decide +kernel
theorem dX12_wet_31 : decode cX12_wet 31 = .ok (.goto 4, 3) := by decide +kernel
theorem dX12_wet_34 : decode cX12_wet 34 = .ok (.iconst (-1), 1) := by decide +kernel
theorem dX12_wet_35 : decode cX12_wet 35 = .ok (.ireturn, 1) := by decide +kernel
theorem dX12_pays_0 : decode cX12_pays 0 = .ok (.aload_n 0, 1) := by decide +kernel
theorem dX12_pays_1 : decode cX12_pays 1 = .ok (.iload_n 1, 1) := by decide +kernel
theorem dX12_pays_2 : decode cX12_pays 2 = .ok (.invokevirtual 432, 3) := by decide +kernel
theorem dX12_pays_5 : decode cX12_pays 5 = .ok (.ifCond .ne 5, 3) := by decide +kernel
theorem dX12_pays_8 : decode cX12_pays 8 = .ok (.iconst (-1), 1) := by decide +kernel
theorem dX12_pays_9 : decode cX12_pays 9 = .ok (.ireturn, 1) := by decide +kernel
theorem dX12_pays_10 : decode cX12_pays 10 = .ok (.aload_n 0, 1) := by decide +kernel
theorem dX12_pays_11 : decode cX12_pays 11 = .ok (.invokevirtual 487, 3) := by decide +kernel
theorem dX12_pays_14 : decode cX12_pays 14 = .ok (.aload_n 0, 1) := by decide +kernel
theorem dX12_pays_15 : decode cX12_pays 15 = .ok (.invokevirtual 481, 3) := by decide +kernel
theorem dX12_pays_18 : decode cX12_pays 18 = .ok (.aload_n 0, 1) := by decide +kernel
theorem dX12_pays_19 : decode cX12_pays 19 = .ok (.getfield 130, 3) := by decide +kernel
theorem dX12_pays_22 : decode cX12_pays 22 = .ok (.iload_n 1, 1) := by decide +kernel
theorem dX12_pays_23 : decode cX12_pays 23 = .ok (.iaload, 1) := by decide +kernel
theorem dX12_pays_24 : decode cX12_pays 24 = .ok (.ireturn, 1) := by decide +kernel
theorem dX12_act_0 : decode cX12_act 0 = .ok (.aload_n 0, 1) := by decide +kernel
theorem dX12_act_1 : decode cX12_act 1 = .ok (.getfield 416, 3) := by decide +kernel
theorem dX12_act_4 : decode cX12_act 4 = .ok (.bipush 40, 2) := by decide +kernel
theorem dX12_act_6 : decode cX12_act 6 = .ok (.if_icmp .ne 43, 3) := by decide +kernel
theorem dX12_act_9 : decode cX12_act 9 = .ok (.iconst 0, 1) := by decide +kernel
theorem dX12_act_10 : decode cX12_act 10 = .ok (.istore_n 1, 1) := by decide +kernel
theorem dX12_act_11 : decode cX12_act 11 = .ok (.iload_n 1, 1) := by decide +kernel
theorem dX12_act_12 : decode cX12_act 12 = .ok (.sipush 2496, 3) := by decide +kernel
theorem dX12_act_15 : decode cX12_act 15 = .ok (.if_icmp .ge 24, 3) := by decide +kernel
theorem dX12_act_18 : decode cX12_act 18 = .ok (.aload_n 0, 1) := by decide +kernel
theorem dX12_act_19 : decode cX12_act 19 = .ok (.getfield 133, 3) := by decide +kernel
theorem dX12_act_22 : decode cX12_act 22 = .ok (.iload_n 1, 1) := by decide +kernel
theorem dX12_act_23 : decode cX12_act 23 = .ok (.aload_n 0, 1) := by decide +kernel
theorem dX12_act_24 : decode cX12_act 24 = .ok (.getfield 133, 3) := by decide +kernel
theorem dX12_act_27 : decode cX12_act 27 = .ok (.bipush 64, 2) := by decide +kernel
theorem dX12_act_29 : decode cX12_act 29 = .ok (.iload_n 1, 1) := by decide +kernel
theorem dX12_act_30 : decode cX12_act 30 = .ok (.iadd, 1) := by decide +kernel
theorem dX12_act_31 : decode cX12_act 31 = .ok (.iaload, 1) := by decide +kernel
theorem dX12_act_32 : decode cX12_act 32 = .ok (.iastore, 1) := by decide +kernel
theorem dX12_act_33 : decode cX12_act 33 = .ok (.iinc 1 1, 3) := by decide +kernel
theorem dX12_act_36 : decode cX12_act 36 = .ok (.goto (-25), 3) := by decide +kernel
theorem dX12_act_39 : decode cX12_act 39 = .ok (.aload_n 0, 1) := by decide +kernel
theorem dX12_act_40 : decode cX12_act 40 = .ok (.dup, 1) := by decide +kernel
theorem dX12_act_41 : decode cX12_act 41 = .ok (.getfield 416, 3) := by decide +kernel
theorem dX12_act_44 : decode cX12_act 44 = .ok (.iconst 1, 1) := by decide +kernel
theorem dX12_act_45 : decode cX12_act 45 = .ok (.isub, 1) := by decide +kernel
theorem dX12_act_46 : decode cX12_act 46 = .ok (.putfield 416, 3) := by decide +kernel
theorem dX12_act_49 : decode cX12_act 49 = .ok (.iconst 0, 1) := by decide +kernel
theorem dX12_act_50 : decode cX12_act 50 = .ok (.istore_n 1, 1) := by decide +kernel
theorem dX12_act_51 : decode cX12_act 51 = .ok (.iload_n 1, 1) := by decide +kernel
theorem dX12_act_52 : decode cX12_act 52 = .ok (.bipush 63, 2) := by decide +kernel
theorem dX12_act_54 : decode cX12_act 54 = .ok (.if_icmp .ge 29, 3) := by decide +kernel
theorem dX12_act_57 : decode cX12_act 57 = .ok (.aload_n 0, 1) := by decide +kernel
theorem dX12_act_58 : decode cX12_act 58 = .ok (.getfield 133, 3) := by decide +kernel
theorem dX12_act_61 : decode cX12_act 61 = .ok (.bipush 64, 2) := by decide +kernel
theorem dX12_act_63 : decode cX12_act 63 = .ok (.aload_n 0, 1) := by decide +kernel
theorem dX12_act_64 : decode cX12_act 64 = .ok (.getfield 416, 3) := by decide +kernel
theorem dX12_act_67 : decode cX12_act 67 = .ok (.imul, 1) := by decide +kernel
theorem dX12_act_68 : decode cX12_act 68 = .ok (.iload_n 1, 1) := by decide +kernel
theorem dX12_act_69 : decode cX12_act 69 = .ok (.iadd, 1) := by decide +kernel
theorem dX12_act_70 : decode cX12_act 70 = .ok (.aload_n 0, 1) := by decide +kernel
theorem dX12_act_71 : decode cX12_act 71 = .ok (.getfield 99, 3) := by decide +kernel
theorem dX12_act_74 : decode cX12_act 74 = .ok (.iload_n 1, 1) := by decide +kernel
theorem dX12_act_75 : decode cX12_act 75 = .ok (.iaload, 1) := by decide +kernel
theorem dX12_act_76 : decode cX12_act 76 = .ok (.iastore, 1) := by decide +kernel
theorem dX12_act_77 : decode cX12_act 77 = .ok (.iinc 1 1, 3) := by decide +kernel
theorem dX12_act_80 : decode cX12_act 80 = .ok (.goto (-29), 3) := by decide +kernel
theorem dX12_act_83 : decode cX12_act 83 = .ok (.aload_n 0, 1) := by decide +kernel
theorem dX12_act_84 : decode cX12_act 84 = .ok (.dup, 1) := by decide +kernel
theorem dX12_act_85 : decode cX12_act 85 = .ok (.getfield 416, 3) := by decide +kernel
theorem dX12_act_88 : decode cX12_act 88 = .ok (.iconst 1, 1) := by decide +kernel
theorem dX12_act_89 : decode cX12_act 89 = .ok (.iadd, 1) := by decide +kernel
theorem dX12_act_90 : decode cX12_act 90 = .ok (.putfield 416, 3) := by decide +kernel
theorem dX12_act_93 : decode cX12_act 93 = .ok (.aload_n 0, 1) := by decide +kernel
theorem dX12_act_94 : decode cX12_act 94 = .ok (.iconst 0, 1) := by decide +kernel
theorem dX12_act_95 : decode cX12_act 95 = .ok (.putfield 419, 3) := by decide +kernel
theorem dX12_act_98 : decode cX12_act 98 = .ok (.return_, 1) := by decide +kernel
theorem dX12_exchange_0 : decode cX12_exchange 0 = .ok (.iconst 0, 1) := by decide +kernel
theorem dX12_exchange_1 : decode cX12_exchange 1 = .ok (.istore_n 2, 1) := by decide +kernel
theorem dX12_exchange_2 : decode cX12_exchange 2 = .ok (.iload_n 2, 1) := by decide +kernel
theorem dX12_exchange_3 : decode cX12_exchange 3 = .ok (.bipush 63, 2) := by decide +kernel
theorem dX12_exchange_5 : decode cX12_exchange 5 = .ok (.if_icmp .ge 39, 3) := by decide +kernel
theorem dX12_exchange_8 : decode cX12_exchange 8 = .ok (.aload_n 0, 1) := by decide +kernel
theorem dX12_exchange_9 : decode cX12_exchange 9 = .ok (.getfield 133, 3) := by decide +kernel
theorem dX12_exchange_12 : decode cX12_exchange 12 = .ok (.iload_n 1, 1) := by decide +kernel
theorem dX12_exchange_13 : decode cX12_exchange 13 = .ok (.iload_n 2, 1) := by decide +kernel
theorem dX12_exchange_14 : decode cX12_exchange 14 = .ok (.iadd, 1) := by decide +kernel
theorem dX12_exchange_15 : decode cX12_exchange 15 = .ok (.iaload, 1) := by decide +kernel
theorem dX12_exchange_16 : decode cX12_exchange 16 = .ok (.istore_n 3, 1) := by decide +kernel
theorem dX12_exchange_17 : decode cX12_exchange 17 = .ok (.aload_n 0, 1) := by decide +kernel
theorem dX12_exchange_18 : decode cX12_exchange 18 = .ok (.getfield 133, 3) := by decide +kernel
theorem dX12_exchange_21 : decode cX12_exchange 21 = .ok (.iload_n 1, 1) := by decide +kernel
theorem dX12_exchange_22 : decode cX12_exchange 22 = .ok (.iload_n 2, 1) := by decide +kernel
theorem dX12_exchange_23 : decode cX12_exchange 23 = .ok (.iadd, 1) := by decide +kernel
theorem dX12_exchange_24 : decode cX12_exchange 24 = .ok (.aload_n 0, 1) := by decide +kernel
theorem dX12_exchange_25 : decode cX12_exchange 25 = .ok (.getfield 99, 3) := by decide +kernel
theorem dX12_exchange_28 : decode cX12_exchange 28 = .ok (.iload_n 2, 1) := by decide +kernel
theorem dX12_exchange_29 : decode cX12_exchange 29 = .ok (.iaload, 1) := by decide +kernel
theorem dX12_exchange_30 : decode cX12_exchange 30 = .ok (.iastore, 1) := by decide +kernel
theorem dX12_exchange_31 : decode cX12_exchange 31 = .ok (.aload_n 0, 1) := by decide +kernel
theorem dX12_exchange_32 : decode cX12_exchange 32 = .ok (.getfield 99, 3) := by decide +kernel
theorem dX12_exchange_35 : decode cX12_exchange 35 = .ok (.iload_n 2, 1) := by decide +kernel
theorem dX12_exchange_36 : decode cX12_exchange 36 = .ok (.iload_n 3, 1) := by decide +kernel
theorem dX12_exchange_37 : decode cX12_exchange 37 = .ok (.iastore, 1) := by decide +kernel
theorem dX12_exchange_38 : decode cX12_exchange 38 = .ok (.iinc 2 1, 3) := by decide +kernel
theorem dX12_exchange_41 : decode cX12_exchange 41 = .ok (.goto (-39), 3) := by decide +kernel
theorem dX12_exchange_44 : decode cX12_exchange 44 = .ok (.return_, 1) := by decide +kernel
theorem dX12_aim_0 : decode cX12_aim 0 = .ok (.aload_n 0, 1) := by decide +kernel
theorem dX12_aim_1 : decode cX12_aim 1 = .ok (.iload_n 1, 1) := by decide +kernel
theorem dX12_aim_2 : decode cX12_aim 2 = .ok (.invokevirtual 432, 3) := by decide +kernel
theorem dX12_aim_5 : decode cX12_aim 5 = .ok (.ifCond .eq 21, 3) := by decide +kernel
theorem dX12_aim_8 : decode cX12_aim 8 = .ok (.iload_n 2, 1) := by decide +kernel
theorem dX12_aim_9 : decode cX12_aim 9 = .ok (.iconst (-1), 1) := by decide +kernel
theorem dX12_aim_10 : decode cX12_aim 10 = .ok (.if_icmp .eq 11, 3) := by decide +kernel
theorem dX12_aim_13 : decode cX12_aim 13 = .ok (.aload_n 0, 1) := by decide +kernel
theorem dX12_aim_14 : decode cX12_aim 14 = .ok (.iload_n 2, 1) := by decide +kernel
theorem dX12_aim_15 : decode cX12_aim 15 = .ok (.invokevirtual 432, 3) := by decide +kernel
theorem dX12_aim_18 : decode cX12_aim 18 = .ok (.ifCond .eq 8, 3) := by decide +kernel
theorem dX12_aim_21 : decode cX12_aim 21 = .ok (.iload_n 2, 1) := by decide +kernel
theorem dX12_aim_22 : decode cX12_aim 22 = .ok (.iload_n 1, 1) := by decide +kernel
theorem dX12_aim_23 : decode cX12_aim 23 = .ok (.if_icmp .ne 6, 3) := by decide +kernel
theorem dX12_aim_26 : decode cX12_aim 26 = .ok (.bipush (-2), 2) := by decide +kernel
theorem dX12_aim_28 : decode cX12_aim 28 = .ok (.ireturn, 1) := by decide +kernel
theorem dX12_aim_29 : decode cX12_aim 29 = .ok (.aload_n 0, 1) := by decide +kernel
theorem dX12_aim_30 : decode cX12_aim 30 = .ok (.invokevirtual 494, 3) := by decide +kernel
theorem dX12_aim_33 : decode cX12_aim 33 = .ok (.aload_n 0, 1) := by decide +kernel
theorem dX12_aim_34 : decode cX12_aim 34 = .ok (.getfield 99, 3) := by decide +kernel
theorem dX12_aim_37 : decode cX12_aim 37 = .ok (.bipush 6, 2) := by decide +kernel
theorem dX12_aim_39 : decode cX12_aim 39 = .ok (.iload_n 1, 1) := by decide +kernel
theorem dX12_aim_40 : decode cX12_aim 40 = .ok (.iadd, 1) := by decide +kernel
theorem dX12_aim_41 : decode cX12_aim 41 = .ok (.iaload, 1) := by decide +kernel
theorem dX12_aim_42 : decode cX12_aim 42 = .ok (.istore_n 3, 1) := by decide +kernel
theorem dX12_aim_43 : decode cX12_aim 43 = .ok (.aload_n 0, 1) := by decide +kernel
theorem dX12_aim_44 : decode cX12_aim 44 = .ok (.getfield 99, 3) := by decide +kernel
theorem dX12_aim_47 : decode cX12_aim 47 = .ok (.bipush 6, 2) := by decide +kernel
theorem dX12_aim_49 : decode cX12_aim 49 = .ok (.iload_n 1, 1) := by decide +kernel
theorem dX12_aim_50 : decode cX12_aim 50 = .ok (.iadd, 1) := by decide +kernel
theorem dX12_aim_51 : decode cX12_aim 51 = .ok (.iload_n 2, 1) := by decide +kernel
theorem dX12_aim_52 : decode cX12_aim 52 = .ok (.iastore, 1) := by decide +kernel
theorem dX12_aim_53 : decode cX12_aim 53 = .ok (.iload_n 3, 1) := by decide +kernel
theorem dX12_aim_54 : decode cX12_aim 54 = .ok (.ireturn, 1) := by decide +kernel
theorem dX12_stand_0 : decode cX12_stand 0 = .ok (.aload_n 0, 1) := by decide +kernel
theorem dX12_stand_1 : decode cX12_stand 1 = .ok (.iload_n 1, 1) := by decide +kernel
theorem dX12_stand_2 : decode cX12_stand 2 = .ok (.invokevirtual 432, 3) := by decide +kernel
theorem dX12_stand_5 : decode cX12_stand 5 = .ok (.ifCond .eq 11, 3) := by decide +kernel
theorem dX12_stand_8 : decode cX12_stand 8 = .ok (.aload_n 0, 1) := by decide +kernel
theorem dX12_stand_9 : decode cX12_stand 9 = .ok (.iload_n 2, 1) := by decide +kernel
theorem dX12_stand_10 : decode cX12_stand 10 = .ok (.invokevirtual 432, 3) := by decide +kernel
theorem dX12_stand_13 : decode cX12_stand 13 = .ok (.ifCond .ne 5, 3) := by decide +kernel
theorem dX12_stand_16 : decode cX12_stand 16 = .ok (.iconst (-1), 1) := by decide +kernel
theorem dX12_stand_17 : decode cX12_stand 17 = .ok (.ireturn, 1) := by decide +kernel
theorem dX12_stand_18 : decode cX12_stand 18 = .ok (.aload_n 0, 1) := by decide +kernel
theorem dX12_stand_19 : decode cX12_stand 19 = .ok (.invokevirtual 494, 3) := by decide +kernel
theorem dX12_stand_22 : decode cX12_stand 22 = .ok (.aload_n 0, 1) := by decide +kernel
theorem dX12_stand_23 : decode cX12_stand 23 = .ok (.getfield 99, 3) := by decide +kernel
theorem dX12_stand_26 : decode cX12_stand 26 = .ok (.bipush 12, 2) := by decide +kernel
theorem dX12_stand_28 : decode cX12_stand 28 = .ok (.iload_n 1, 1) := by decide +kernel
theorem dX12_stand_29 : decode cX12_stand 29 = .ok (.iadd, 1) := by decide +kernel
theorem dX12_stand_30 : decode cX12_stand 30 = .ok (.iaload, 1) := by decide +kernel
theorem dX12_stand_31 : decode cX12_stand 31 = .ok (.istore_n 3, 1) := by decide +kernel
theorem dX12_stand_32 : decode cX12_stand 32 = .ok (.aload_n 0, 1) := by decide +kernel
theorem dX12_stand_33 : decode cX12_stand 33 = .ok (.getfield 99, 3) := by decide +kernel
theorem dX12_stand_36 : decode cX12_stand 36 = .ok (.bipush 12, 2) := by decide +kernel
theorem dX12_stand_38 : decode cX12_stand 38 = .ok (.iload_n 1, 1) := by decide +kernel
theorem dX12_stand_39 : decode cX12_stand 39 = .ok (.iadd, 1) := by decide +kernel
theorem dX12_stand_40 : decode cX12_stand 40 = .ok (.iload_n 2, 1) := by decide +kernel
theorem dX12_stand_41 : decode cX12_stand 41 = .ok (.iastore, 1) := by decide +kernel
theorem dX12_stand_42 : decode cX12_stand 42 = .ok (.iload_n 3, 1) := by decide +kernel
theorem dX12_stand_43 : decode cX12_stand 43 = .ok (.ireturn, 1) := by decide +kernel
theorem dX12_hours_0 : decode cX12_hours 0 = .ok (.iload_n 1, 1) := by decide +kernel
theorem dX12_hours_1 : decode cX12_hours 1 = .ok (.iconst 0, 1) := by decide +kernel
theorem dX12_hours_2 : decode cX12_hours 2 = .ok (.bipush 60, 2) := by decide +kernel
theorem dX12_hours_4 : decode cX12_hours 4 = .ok (.invokestatic 428, 3) := by decide +kernel
theorem dX12_hours_7 : decode cX12_hours 7 = .ok (.ifCond .eq 18, 3) := by decide +kernel
theorem dX12_hours_10 : decode cX12_hours 10 = .ok (.aload_n 0, 1) := by decide +kernel
theorem dX12_hours_11 : decode cX12_hours 11 = .ok (.getfield 99, 3) := by decide +kernel
theorem dX12_hours_14 : decode cX12_hours 14 = .ok (.bipush 62, 2) := by decide +kernel
theorem dX12_hours_16 : decode cX12_hours 16 = .ok (.iaload, 1) := by decide +kernel
theorem dX12_hours_17 : decode cX12_hours 17 = .ok (.iload_n 1, 1) := by decide +kernel
theorem dX12_hours_18 : decode cX12_hours 18 = .ok (.iadd, 1) := by decide +kernel
theorem dX12_hours_19 : decode cX12_hours 19 = .ok (.sipush 2000, 3) := by decide +kernel
theorem dX12_hours_22 : decode cX12_hours 22 = .ok (.if_icmp .le 5, 3) := by decide +kernel
theorem dX12_hours_25 : decode cX12_hours 25 = .ok (.iconst (-1), 1) := by decide +kernel
theorem dX12_hours_26 : decode cX12_hours 26 = .ok (.ireturn, 1) := by decide +kernel
theorem dX12_hours_27 : decode cX12_hours 27 = .ok (.aload_n 0, 1) := by decide +kernel
theorem dX12_hours_28 : decode cX12_hours 28 = .ok (.invokevirtual 494, 3) := by decide +kernel
theorem dX12_hours_31 : decode cX12_hours 31 = .ok (.aload_n 0, 1) := by decide +kernel
theorem dX12_hours_32 : decode cX12_hours 32 = .ok (.invokevirtual 487, 3) := by decide +kernel
theorem dX12_hours_35 : decode cX12_hours 35 = .ok (.aload_n 0, 1) := by decide +kernel
theorem dX12_hours_36 : decode cX12_hours 36 = .ok (.iload_n 1, 1) := by decide +kernel
theorem dX12_hours_37 : decode cX12_hours 37 = .ok (.invokevirtual 497, 3) := by decide +kernel
theorem dX12_hours_40 : decode cX12_hours 40 = .ok (.aload_n 0, 1) := by decide +kernel
theorem dX12_hours_41 : decode cX12_hours 41 = .ok (.invokevirtual 500, 3) := by decide +kernel
theorem dX12_hours_44 : decode cX12_hours 44 = .ok (.aload_n 0, 1) := by decide +kernel
theorem dX12_hours_45 : decode cX12_hours 45 = .ok (.getfield 99, 3) := by decide +kernel
theorem dX12_hours_48 : decode cX12_hours 48 = .ok (.bipush 62, 2) := by decide +kernel
theorem dX12_hours_50 : decode cX12_hours 50 = .ok (.dup2, 1) := by decide +kernel
theorem dX12_hours_51 : decode cX12_hours 51 = .ok (.iaload, 1) := by decide +kernel
theorem dX12_hours_52 : decode cX12_hours 52 = .ok (.iload_n 1, 1) := by decide +kernel
theorem dX12_hours_53 : decode cX12_hours 53 = .ok (.iadd, 1) := by decide +kernel
theorem dX12_hours_54 : decode cX12_hours 54 = .ok (.iastore, 1) := by decide +kernel
theorem dX12_hours_55 : decode cX12_hours 55 = .ok (.aload_n 0, 1) := by decide +kernel
theorem dX12_hours_56 : decode cX12_hours 56 = .ok (.getfield 99, 3) := by decide +kernel
theorem dX12_hours_59 : decode cX12_hours 59 = .ok (.bipush 62, 2) := by decide +kernel
theorem dX12_hours_61 : decode cX12_hours 61 = .ok (.iaload, 1) := by decide +kernel
theorem dX12_hours_62 : decode cX12_hours 62 = .ok (.ireturn, 1) := by decide +kernel
theorem dX12_offset_0 : decode cX12_offset 0 = .ok (.aload_n 0, 1) := by decide +kernel
theorem dX12_offset_1 : decode cX12_offset 1 = .ok (.iload_n 1, 1) := by decide +kernel
theorem dX12_offset_2 : decode cX12_offset 2 = .ok (.iload_n 2, 1) := by decide +kernel
theorem dX12_offset_3 : decode cX12_offset 3 = .ok (.invokevirtual 484, 3) := by decide +kernel
theorem dX12_offset_6 : decode cX12_offset 6 = .ok (.ifCond .ne 5, 3) := by decide +kernel
theorem dX12_offset_9 : decode cX12_offset 9 = .ok (.iconst (-1), 1) := by decide +kernel
theorem dX12_offset_10 : decode cX12_offset 10 = .ok (.ireturn, 1) := by decide +kernel
theorem dX12_offset_11 : decode cX12_offset 11 = .ok (.bipush 24, 2) := by decide +kernel
theorem dX12_offset_13 : decode cX12_offset 13 = .ok (.bipush 6, 2) := by decide +kernel
theorem dX12_offset_15 : decode cX12_offset 15 = .ok (.iload_n 1, 1) := by decide +kernel
theorem dX12_offset_16 : decode cX12_offset 16 = .ok (.imul, 1) := by decide +kernel
theorem dX12_offset_17 : decode cX12_offset 17 = .ok (.iadd, 1) := by decide +kernel
theorem dX12_offset_18 : decode cX12_offset 18 = .ok (.iload_n 2, 1) := by decide +kernel
theorem dX12_offset_19 : decode cX12_offset 19 = .ok (.iadd, 1) := by decide +kernel
theorem dX12_offset_20 : decode cX12_offset 20 = .ok (.istore_n 3, 1) := by decide +kernel
theorem dX12_offset_21 : decode cX12_offset 21 = .ok (.bipush 24, 2) := by decide +kernel
theorem dX12_offset_23 : decode cX12_offset 23 = .ok (.bipush 6, 2) := by decide +kernel
theorem dX12_offset_25 : decode cX12_offset 25 = .ok (.iload_n 2, 1) := by decide +kernel
theorem dX12_offset_26 : decode cX12_offset 26 = .ok (.imul, 1) := by decide +kernel
theorem dX12_offset_27 : decode cX12_offset 27 = .ok (.iadd, 1) := by decide +kernel
theorem dX12_offset_28 : decode cX12_offset 28 = .ok (.iload_n 1, 1) := by decide +kernel
theorem dX12_offset_29 : decode cX12_offset 29 = .ok (.iadd, 1) := by decide +kernel
theorem dX12_offset_30 : decode cX12_offset 30 = .ok (.istore 4, 2) := by decide +kernel
theorem dX12_offset_32 : decode cX12_offset 32 = .ok (.aload_n 0, 1) := by decide +kernel
theorem dX12_offset_33 : decode cX12_offset 33 = .ok (.getfield 99, 3) := by decide +kernel
theorem dX12_offset_36 : decode cX12_offset 36 = .ok (.iload_n 3, 1) := by decide +kernel
theorem dX12_offset_37 : decode cX12_offset 37 = .ok (.iaload, 1) := by decide +kernel
theorem dX12_offset_38 : decode cX12_offset 38 = .ok (.aload_n 0, 1) := by decide +kernel
theorem dX12_offset_39 : decode cX12_offset 39 = .ok (.getfield 99, 3) := by decide +kernel
theorem dX12_offset_42 : decode cX12_offset 42 = .ok (.iload 4, 2) := by decide +kernel
theorem dX12_offset_44 : decode cX12_offset 44 = .ok (.iaload, 1) := by decide +kernel
theorem dX12_offset_45 : decode cX12_offset 45 = .ok (.if_icmp .ge 12, 3) := by decide +kernel
theorem dX12_offset_48 : decode cX12_offset 48 = .ok (.aload_n 0, 1) := by decide +kernel
theorem dX12_offset_49 : decode cX12_offset 49 = .ok (.getfield 99, 3) := by decide +kernel
theorem dX12_offset_52 : decode cX12_offset 52 = .ok (.iload_n 3, 1) := by decide +kernel
theorem dX12_offset_53 : decode cX12_offset 53 = .ok (.iaload, 1) := by decide +kernel
theorem dX12_offset_54 : decode cX12_offset 54 = .ok (.goto 10, 3) := by decide +kernel
theorem dX12_offset_57 : decode cX12_offset 57 = .ok (.aload_n 0, 1) := by decide +kernel
theorem dX12_offset_58 : decode cX12_offset 58 = .ok (.getfield 99, 3) := by decide +kernel
theorem dX12_offset_61 : decode cX12_offset 61 = .ok (.iload 4, 2) := by decide +kernel
theorem dX12_offset_63 : decode cX12_offset 63 = .ok (.iaload, 1) := by decide +kernel
theorem dX12_offset_64 : decode cX12_offset 64 = .ok (.istore 5, 2) := by decide +kernel
theorem dX12_offset_66 : decode cX12_offset 66 = .ok (.iload 5, 2) := by decide +kernel
theorem dX12_offset_68 : decode cX12_offset 68 = .ok (.ifCond .ne 5, 3) := by decide +kernel
theorem dX12_offset_71 : decode cX12_offset 71 = .ok (.iconst (-1), 1) := by decide +kernel
theorem dX12_offset_72 : decode cX12_offset 72 = .ok (.ireturn, 1) := by decide +kernel
theorem dX12_offset_73 : decode cX12_offset 73 = .ok (.aload_n 0, 1) := by decide +kernel
theorem dX12_offset_74 : decode cX12_offset 74 = .ok (.invokevirtual 494, 3) := by decide +kernel
theorem dX12_offset_77 : decode cX12_offset 77 = .ok (.aload_n 0, 1) := by decide +kernel
theorem dX12_offset_78 : decode cX12_offset 78 = .ok (.getfield 99, 3) := by decide +kernel
theorem dX12_offset_81 : decode cX12_offset 81 = .ok (.iload_n 3, 1) := by decide +kernel
theorem dX12_offset_82 : decode cX12_offset 82 = .ok (.dup2, 1) := by decide +kernel
theorem dX12_offset_83 : decode cX12_offset 83 = .ok (.iaload, 1) := by decide +kernel
theorem dX12_offset_84 : decode cX12_offset 84 = .ok (.iload 5, 2) := by decide +kernel
theorem dX12_offset_86 : decode cX12_offset 86 = .ok (.isub, 1) := by decide +kernel
theorem dX12_offset_87 : decode cX12_offset 87 = .ok (.iastore, 1) := by decide +kernel
theorem dX12_offset_88 : decode cX12_offset 88 = .ok (.aload_n 0, 1) := by decide +kernel
theorem dX12_offset_89 : decode cX12_offset 89 = .ok (.getfield 99, 3) := by decide +kernel
theorem dX12_offset_92 : decode cX12_offset 92 = .ok (.iload 4, 2) := by decide +kernel
theorem dX12_offset_94 : decode cX12_offset 94 = .ok (.dup2, 1) := by decide +kernel
theorem dX12_offset_95 : decode cX12_offset 95 = .ok (.iaload, 1) := by decide +kernel
theorem dX12_offset_96 : decode cX12_offset 96 = .ok (.iload 5, 2) := by decide +kernel
theorem dX12_offset_98 : decode cX12_offset 98 = .ok (.isub, 1) := by decide +kernel
theorem dX12_offset_99 : decode cX12_offset 99 = .ok (.iastore, 1) := by decide +kernel
theorem dX12_offset_100 : decode cX12_offset 100 = .ok (.iload 5, 2) := by decide +kernel
theorem dX12_offset_102 : decode cX12_offset 102 = .ok (.ireturn, 1) := by decide +kernel
theorem dX12_clear_0 : decode cX12_clear 0 = .ok (.aload_n 0, 1) := by decide +kernel
theorem dX12_clear_1 : decode cX12_clear 1 = .ok (.invokevirtual 503, 3) := by decide +kernel
theorem dX12_clear_4 : decode cX12_clear 4 = .ok (.aload_n 0, 1) := by decide +kernel
theorem dX12_clear_5 : decode cX12_clear 5 = .ok (.getfield 506, 3) := by decide +kernel
theorem dX12_clear_8 : decode cX12_clear 8 = .ok (.ifCond .ne 5, 3) := by decide +kernel
theorem dX12_clear_11 : decode cX12_clear 11 = .ok (.iconst (-1), 1) := by decide +kernel
theorem dX12_clear_12 : decode cX12_clear 12 = .ok (.ireturn, 1) := by decide +kernel
theorem dX12_clear_13 : decode cX12_clear 13 = .ok (.aload_n 0, 1) := by decide +kernel
theorem dX12_clear_14 : decode cX12_clear 14 = .ok (.invokevirtual 494, 3) := by decide +kernel
theorem dX12_clear_17 : decode cX12_clear 17 = .ok (.aload_n 0, 1) := by decide +kernel
theorem dX12_clear_18 : decode cX12_clear 18 = .ok (.getfield 509, 3) := by decide +kernel
theorem dX12_clear_21 : decode cX12_clear 21 = .ok (.aload_n 0, 1) := by decide +kernel
theorem dX12_clear_22 : decode cX12_clear 22 = .ok (.getfield 512, 3) := by decide +kernel
theorem dX12_clear_25 : decode cX12_clear 25 = .ok (.idiv, 1) := by decide +kernel
theorem dX12_clear_26 : decode cX12_clear 26 = .ok (.istore_n 1, 1) := by decide +kernel
theorem dX12_clear_27 : decode cX12_clear 27 = .ok (.iconst 0, 1) := by decide +kernel
theorem dX12_clear_28 : decode cX12_clear 28 = .ok (.istore_n 2, 1) := by decide +kernel
theorem dX12_clear_29 : decode cX12_clear 29 = .ok (.iload_n 2, 1) := by decide +kernel
theorem dX12_clear_30 : decode cX12_clear 30 = .ok (.aload_n 0, 1) := by decide +kernel
theorem dX12_clear_31 : decode cX12_clear 31 = .ok (.getfield 512, 3) := by decide +kernel
theorem dX12_clear_34 : decode cX12_clear 34 = .ok (.if_icmp .ge 44, 3) := by decide +kernel
theorem dX12_clear_37 : decode cX12_clear 37 = .ok (.aload_n 0, 1) := by decide +kernel
theorem dX12_clear_38 : decode cX12_clear 38 = .ok (.getfield 99, 3) := by decide +kernel
theorem dX12_clear_41 : decode cX12_clear 41 = .ok (.bipush 24, 2) := by decide +kernel
theorem dX12_clear_43 : decode cX12_clear 43 = .ok (.bipush 6, 2) := by decide +kernel
theorem dX12_clear_45 : decode cX12_clear 45 = .ok (.aload_n 0, 1) := by decide +kernel
theorem dX12_clear_46 : decode cX12_clear 46 = .ok (.getfield 148, 3) := by decide +kernel
theorem dX12_clear_49 : decode cX12_clear 49 = .ok (.iload_n 2, 1) := by decide +kernel
theorem dX12_clear_50 : decode cX12_clear 50 = .ok (.iaload, 1) := by decide +kernel
theorem dX12_clear_51 : decode cX12_clear 51 = .ok (.imul, 1) := by decide +kernel
theorem dX12_clear_52 : decode cX12_clear 52 = .ok (.iadd, 1) := by decide +kernel
theorem dX12_clear_53 : decode cX12_clear 53 = .ok (.aload_n 0, 1) := by decide +kernel
theorem dX12_clear_54 : decode cX12_clear 54 = .ok (.getfield 148, 3) := by decide +kernel
theorem dX12_clear_57 : decode cX12_clear 57 = .ok (.iload_n 2, 1) := by decide +kernel
theorem dX12_clear_58 : decode cX12_clear 58 = .ok (.iconst 1, 1) := by decide +kernel
theorem dX12_clear_59 : decode cX12_clear 59 = .ok (.iadd, 1) := by decide +kernel
theorem dX12_clear_60 : decode cX12_clear 60 = .ok (.aload_n 0, 1) := by decide +kernel
theorem dX12_clear_61 : decode cX12_clear 61 = .ok (.getfield 512, 3) := by decide +kernel
theorem dX12_clear_64 : decode cX12_clear 64 = .ok (.irem, 1) := by decide +kernel
theorem dX12_clear_65 : decode cX12_clear 65 = .ok (.iaload, 1) := by decide +kernel
theorem dX12_clear_66 : decode cX12_clear 66 = .ok (.iadd, 1) := by decide +kernel
theorem dX12_clear_67 : decode cX12_clear 67 = .ok (.dup2, 1) := by decide +kernel
theorem dX12_clear_68 : decode cX12_clear 68 = .ok (.iaload, 1) := by decide +kernel
theorem dX12_clear_69 : decode cX12_clear 69 = .ok (.iload_n 1, 1) := by decide +kernel
theorem dX12_clear_70 : decode cX12_clear 70 = .ok (.isub, 1) := by decide +kernel
theorem dX12_clear_71 : decode cX12_clear 71 = .ok (.iastore, 1) := by decide +kernel
theorem dX12_clear_72 : decode cX12_clear 72 = .ok (.iinc 2 1, 3) := by decide +kernel
theorem dX12_clear_75 : decode cX12_clear 75 = .ok (.goto (-46), 3) := by decide +kernel
theorem dX12_clear_78 : decode cX12_clear 78 = .ok (.aload_n 0, 1) := by decide +kernel
theorem dX12_clear_79 : decode cX12_clear 79 = .ok (.getfield 509, 3) := by decide +kernel
theorem dX12_clear_82 : decode cX12_clear 82 = .ok (.ireturn, 1) := by decide +kernel
theorem dX12_undo_0 : decode cX12_undo 0 = .ok (.aload_n 0, 1) := by decide +kernel
theorem dX12_undo_1 : decode cX12_undo 1 = .ok (.getfield 416, 3) := by decide +kernel
theorem dX12_undo_4 : decode cX12_undo 4 = .ok (.ifCond .ne 5, 3) := by decide +kernel
theorem dX12_undo_7 : decode cX12_undo 7 = .ok (.iconst 0, 1) := by decide +kernel
theorem dX12_undo_8 : decode cX12_undo 8 = .ok (.ireturn, 1) := by decide +kernel
theorem dX12_undo_9 : decode cX12_undo 9 = .ok (.aload_n 0, 1) := by decide +kernel
theorem dX12_undo_10 : decode cX12_undo 10 = .ok (.dup, 1) := by decide +kernel
theorem dX12_undo_11 : decode cX12_undo 11 = .ok (.getfield 416, 3) := by decide +kernel
theorem dX12_undo_14 : decode cX12_undo 14 = .ok (.iconst 1, 1) := by decide +kernel
theorem dX12_undo_15 : decode cX12_undo 15 = .ok (.isub, 1) := by decide +kernel
theorem dX12_undo_16 : decode cX12_undo 16 = .ok (.putfield 416, 3) := by decide +kernel
theorem dX12_undo_19 : decode cX12_undo 19 = .ok (.aload_n 0, 1) := by decide +kernel
theorem dX12_undo_20 : decode cX12_undo 20 = .ok (.dup, 1) := by decide +kernel
theorem dX12_undo_21 : decode cX12_undo 21 = .ok (.getfield 419, 3) := by decide +kernel
theorem dX12_undo_24 : decode cX12_undo 24 = .ok (.iconst 1, 1) := by decide +kernel
theorem dX12_undo_25 : decode cX12_undo 25 = .ok (.iadd, 1) := by decide +kernel
theorem dX12_undo_26 : decode cX12_undo 26 = .ok (.putfield 419, 3) := by decide +kernel
theorem dX12_undo_29 : decode cX12_undo 29 = .ok (.aload_n 0, 1) := by decide +kernel
theorem dX12_undo_30 : decode cX12_undo 30 = .ok (.bipush 64, 2) := by decide +kernel
theorem dX12_undo_32 : decode cX12_undo 32 = .ok (.aload_n 0, 1) := by decide +kernel
theorem dX12_undo_33 : decode cX12_undo 33 = .ok (.getfield 416, 3) := by decide +kernel
theorem dX12_undo_36 : decode cX12_undo 36 = .ok (.imul, 1) := by decide +kernel
theorem dX12_undo_37 : decode cX12_undo 37 = .ok (.invokevirtual 515, 3) := by decide +kernel
theorem dX12_undo_40 : decode cX12_undo 40 = .ok (.iconst 1, 1) := by decide +kernel
theorem dX12_undo_41 : decode cX12_undo 41 = .ok (.ireturn, 1) := by decide +kernel
theorem dX12_redo_0 : decode cX12_redo 0 = .ok (.aload_n 0, 1) := by decide +kernel
theorem dX12_redo_1 : decode cX12_redo 1 = .ok (.getfield 419, 3) := by decide +kernel
theorem dX12_redo_4 : decode cX12_redo 4 = .ok (.ifCond .ne 5, 3) := by decide +kernel
theorem dX12_redo_7 : decode cX12_redo 7 = .ok (.iconst 0, 1) := by decide +kernel
theorem dX12_redo_8 : decode cX12_redo 8 = .ok (.ireturn, 1) := by decide +kernel
theorem dX12_redo_9 : decode cX12_redo 9 = .ok (.aload_n 0, 1) := by decide +kernel
theorem dX12_redo_10 : decode cX12_redo 10 = .ok (.bipush 64, 2) := by decide +kernel
theorem dX12_redo_12 : decode cX12_redo 12 = .ok (.aload_n 0, 1) := by decide +kernel
theorem dX12_redo_13 : decode cX12_redo 13 = .ok (.getfield 416, 3) := by decide +kernel
theorem dX12_redo_16 : decode cX12_redo 16 = .ok (.imul, 1) := by decide +kernel
theorem dX12_redo_17 : decode cX12_redo 17 = .ok (.invokevirtual 515, 3) := by decide +kernel
theorem dX12_redo_20 : decode cX12_redo 20 = .ok (.aload_n 0, 1) := by decide +kernel
theorem dX12_redo_21 : decode cX12_redo 21 = .ok (.dup, 1) := by decide +kernel
theorem dX12_redo_22 : decode cX12_redo 22 = .ok (.getfield 416, 3) := by decide +kernel
theorem dX12_redo_25 : decode cX12_redo 25 = .ok (.iconst 1, 1) := by decide +kernel
theorem dX12_redo_26 : decode cX12_redo 26 = .ok (.iadd, 1) := by decide +kernel
theorem dX12_redo_27 : decode cX12_redo 27 = .ok (.putfield 416, 3) := by decide +kernel
theorem dX12_redo_30 : decode cX12_redo 30 = .ok (.aload_n 0, 1) := by decide +kernel
theorem dX12_redo_31 : decode cX12_redo 31 = .ok (.dup, 1) := by decide +kernel
theorem dX12_redo_32 : decode cX12_redo 32 = .ok (.getfield 419, 3) := by decide +kernel
theorem dX12_redo_35 : decode cX12_redo 35 = .ok (.iconst 1, 1) := by decide +kernel
theorem dX12_redo_36 : decode cX12_redo 36 = .ok (.isub, 1) := by decide +kernel
theorem dX12_redo_37 : decode cX12_redo 37 = .ok (.putfield 419, 3) := by decide +kernel
theorem dX12_redo_40 : decode cX12_redo 40 = .ok (.iconst 1, 1) := by decide +kernel
theorem dX12_redo_41 : decode cX12_redo 41 = .ok (.ireturn, 1) := by decide +kernel
theorem dX12_will_0 : decode cX12_will 0 = .ok (.aload_n 0, 1) := by decide +kernel
theorem dX12_will_1 : decode cX12_will 1 = .ok (.iload_n 1, 1) := by decide +kernel
theorem dX12_will_2 : decode cX12_will 2 = .ok (.iload_n 2, 1) := by decide +kernel
theorem dX12_will_3 : decode cX12_will 3 = .ok (.invokevirtual 484, 3) := by decide +kernel
theorem dX12_will_6 : decode cX12_will 6 = .ok (.ifCond .eq 14, 3) := by decide +kernel
theorem dX12_will_9 : decode cX12_will 9 = .ok (.iload_n 3, 1) := by decide +kernel
theorem dX12_will_10 : decode cX12_will 10 = .ok (.iconst 0, 1) := by decide +kernel
theorem dX12_will_11 : decode cX12_will 11 = .ok (.sipush 200, 3) := by decide +kernel
theorem dX12_will_14 : decode cX12_will 14 = .ok (.invokestatic 428, 3) := by decide +kernel
theorem dX12_will_17 : decode cX12_will 17 = .ok (.ifCond .ne 5, 3) := by decide +kernel
theorem dX12_will_20 : decode cX12_will 20 = .ok (.iconst (-1), 1) := by decide +kernel
theorem dX12_will_21 : decode cX12_will 21 = .ok (.ireturn, 1) := by decide +kernel
theorem dX12_will_22 : decode cX12_will 22 = .ok (.aload_n 0, 1) := by decide +kernel
theorem dX12_will_23 : decode cX12_will 23 = .ok (.invokevirtual 487, 3) := by decide +kernel
theorem dX12_will_26 : decode cX12_will 26 = .ok (.aload_n 0, 1) := by decide +kernel
theorem dX12_will_27 : decode cX12_will 27 = .ok (.iload_n 3, 1) := by decide +kernel
theorem dX12_will_28 : decode cX12_will 28 = .ok (.invokevirtual 497, 3) := by decide +kernel
theorem dX12_will_31 : decode cX12_will 31 = .ok (.aload_n 0, 1) := by decide +kernel
theorem dX12_will_32 : decode cX12_will 32 = .ok (.getfield 114, 3) := by decide +kernel
theorem dX12_will_35 : decode cX12_will 35 = .ok (.bipush 6, 2) := by decide +kernel
theorem dX12_will_37 : decode cX12_will 37 = .ok (.iload_n 1, 1) := by decide +kernel
theorem dX12_will_38 : decode cX12_will 38 = .ok (.imul, 1) := by decide +kernel
theorem dX12_will_39 : decode cX12_will 39 = .ok (.iload_n 2, 1) := by decide +kernel
theorem dX12_will_40 : decode cX12_will 40 = .ok (.iadd, 1) := by decide +kernel
theorem dX12_will_41 : decode cX12_will 41 = .ok (.iaload, 1) := by decide +kernel
theorem dX12_will_42 : decode cX12_will 42 = .ok (.ireturn, 1) := by decide +kernel
theorem dX12_paidIn_0 : decode cX12_paidIn 0 = .ok (.iconst 0, 1) := by decide +kernel
theorem dX12_paidIn_1 : decode cX12_paidIn 1 = .ok (.istore_n 3, 1) := by decide +kernel
theorem dX12_paidIn_2 : decode cX12_paidIn 2 = .ok (.iload_n 3, 1) := by decide +kernel
theorem dX12_paidIn_3 : decode cX12_paidIn 3 = .ok (.sipush 200, 3) := by decide +kernel
theorem dX12_paidIn_6 : decode cX12_paidIn 6 = .ok (.if_icmp .gt 29, 3) := by decide +kernel
theorem dX12_paidIn_9 : decode cX12_paidIn 9 = .ok (.aload_n 0, 1) := by decide +kernel
theorem dX12_paidIn_10 : decode cX12_paidIn 10 = .ok (.getfield 114, 3) := by decide +kernel
theorem dX12_paidIn_13 : decode cX12_paidIn 13 = .ok (.bipush 6, 2) := by decide +kernel
theorem dX12_paidIn_15 : decode cX12_paidIn 15 = .ok (.iload_n 1, 1) := by decide +kernel
theorem dX12_paidIn_16 : decode cX12_paidIn 16 = .ok (.imul, 1) := by decide +kernel
theorem dX12_paidIn_17 : decode cX12_paidIn 17 = .ok (.iload_n 2, 1) := by decide +kernel
theorem dX12_paidIn_18 : decode cX12_paidIn 18 = .ok (.iadd, 1) := by decide +kernel
theorem dX12_paidIn_19 : decode cX12_paidIn 19 = .ok (.iaload, 1) := by decide +kernel
theorem dX12_paidIn_20 : decode cX12_paidIn 20 = .ok (.ifCond .ne 5, 3) := by decide +kernel
theorem dX12_paidIn_23 : decode cX12_paidIn 23 = .ok (.iload_n 3, 1) := by decide +kernel
theorem dX12_paidIn_24 : decode cX12_paidIn 24 = .ok (.ireturn, 1) := by decide +kernel
theorem dX12_paidIn_25 : decode cX12_paidIn 25 = .ok (.aload_n 0, 1) := by decide +kernel
theorem dX12_paidIn_26 : decode cX12_paidIn 26 = .ok (.invokevirtual 481, 3) := by decide +kernel
theorem dX12_paidIn_29 : decode cX12_paidIn 29 = .ok (.iinc 3 1, 3) := by decide +kernel
theorem dX12_paidIn_32 : decode cX12_paidIn 32 = .ok (.goto (-30), 3) := by decide +kernel
theorem dX12_paidIn_35 : decode cX12_paidIn 35 = .ok (.iconst (-1), 1) := by decide +kernel
theorem dX12_paidIn_36 : decode cX12_paidIn 36 = .ok (.ireturn, 1) := by decide +kernel
theorem dX12_when_0 : decode cX12_when 0 = .ok (.aload_n 0, 1) := by decide +kernel
theorem dX12_when_1 : decode cX12_when 1 = .ok (.iload_n 1, 1) := by decide +kernel
theorem dX12_when_2 : decode cX12_when 2 = .ok (.iload_n 2, 1) := by decide +kernel
theorem dX12_when_3 : decode cX12_when 3 = .ok (.invokevirtual 484, 3) := by decide +kernel
theorem dX12_when_6 : decode cX12_when 6 = .ok (.ifCond .ne 6, 3) := by decide +kernel
theorem dX12_when_9 : decode cX12_when 9 = .ok (.bipush (-2), 2) := by decide +kernel
theorem dX12_when_11 : decode cX12_when 11 = .ok (.ireturn, 1) := by decide +kernel
theorem dX12_when_12 : decode cX12_when 12 = .ok (.aload_n 0, 1) := by decide +kernel
theorem dX12_when_13 : decode cX12_when 13 = .ok (.invokevirtual 487, 3) := by decide +kernel
theorem dX12_when_16 : decode cX12_when 16 = .ok (.aload_n 0, 1) := by decide +kernel
theorem dX12_when_17 : decode cX12_when 17 = .ok (.iload_n 1, 1) := by decide +kernel
theorem dX12_when_18 : decode cX12_when 18 = .ok (.iload_n 2, 1) := by decide +kernel
theorem dX12_when_19 : decode cX12_when 19 = .ok (.invokevirtual 518, 3) := by decide +kernel
theorem dX12_when_22 : decode cX12_when 22 = .ok (.ireturn, 1) := by decide +kernel
theorem dX12_throng_0 : decode cX12_throng 0 = .ok (.aload_n 0, 1) := by decide +kernel
theorem dX12_throng_1 : decode cX12_throng 1 = .ok (.iload_n 1, 1) := by decide +kernel
theorem dX12_throng_2 : decode cX12_throng 2 = .ok (.invokevirtual 432, 3) := by decide +kernel
theorem dX12_throng_5 : decode cX12_throng 5 = .ok (.ifCond .eq 23, 3) := by decide +kernel
theorem dX12_throng_8 : decode cX12_throng 8 = .ok (.iload_n 2, 1) := by decide +kernel
theorem dX12_throng_9 : decode cX12_throng 9 = .ok (.iconst 1, 1) := by decide +kernel
theorem dX12_throng_10 : decode cX12_throng 10 = .ok (.sipush 200, 3) := by decide +kernel
theorem dX12_throng_13 : decode cX12_throng 13 = .ok (.invokestatic 428, 3) := by decide +kernel
theorem dX12_throng_16 : decode cX12_throng 16 = .ok (.ifCond .eq 12, 3) := by decide +kernel
theorem dX12_throng_19 : decode cX12_throng 19 = .ok (.iload_n 3, 1) := by decide +kernel
theorem dX12_throng_20 : decode cX12_throng 20 = .ok (.iconst 0, 1) := by decide +kernel
theorem dX12_throng_21 : decode cX12_throng 21 = .ok (.iconst 1, 1) := by decide +kernel
theorem dX12_throng_22 : decode cX12_throng 22 = .ok (.invokestatic 428, 3) := by decide +kernel
theorem dX12_throng_25 : decode cX12_throng 25 = .ok (.ifCond .ne 6, 3) := by decide +kernel
theorem dX12_throng_28 : decode cX12_throng 28 = .ok (.bipush (-2), 2) := by decide +kernel
theorem dX12_throng_30 : decode cX12_throng 30 = .ok (.ireturn, 1) := by decide +kernel
theorem dX12_throng_31 : decode cX12_throng 31 = .ok (.aload_n 0, 1) := by decide +kernel
theorem dX12_throng_32 : decode cX12_throng 32 = .ok (.invokevirtual 487, 3) := by decide +kernel
theorem dX12_throng_35 : decode cX12_throng 35 = .ok (.iconst 0, 1) := by decide +kernel
theorem dX12_throng_36 : decode cX12_throng 36 = .ok (.istore 4, 2) := by decide +kernel
theorem dX12_throng_38 : decode cX12_throng 38 = .ok (.iconst (-1), 1) := by decide +kernel
theorem dX12_throng_39 : decode cX12_throng 39 = .ok (.istore 5, 2) := by decide +kernel
theorem dX12_throng_41 : decode cX12_throng 41 = .ok (.iconst 1, 1) := by decide +kernel
theorem dX12_throng_42 : decode cX12_throng 42 = .ok (.istore 6, 2) := by decide +kernel
theorem dX12_throng_44 : decode cX12_throng 44 = .ok (.iload 6, 2) := by decide +kernel
theorem dX12_throng_46 : decode cX12_throng 46 = .ok (.iload_n 2, 1) := by decide +kernel
theorem dX12_throng_47 : decode cX12_throng 47 = .ok (.if_icmp .gt 67, 3) := by decide +kernel
theorem dX12_throng_50 : decode cX12_throng 50 = .ok (.aload_n 0, 1) := by decide +kernel
theorem dX12_throng_51 : decode cX12_throng 51 = .ok (.invokevirtual 481, 3) := by decide +kernel
theorem dX12_throng_54 : decode cX12_throng 54 = .ok (.iconst 0, 1) := by decide +kernel
theorem dX12_throng_55 : decode cX12_throng 55 = .ok (.istore 7, 2) := by decide +kernel
theorem dX12_throng_57 : decode cX12_throng 57 = .ok (.iconst 0, 1) := by decide +kernel
theorem dX12_throng_58 : decode cX12_throng 58 = .ok (.istore 8, 2) := by decide +kernel
theorem dX12_throng_60 : decode cX12_throng 60 = .ok (.iload 8, 2) := by decide +kernel
theorem dX12_throng_62 : decode cX12_throng 62 = .ok (.aload_n 0, 1) := by decide +kernel
theorem dX12_throng_63 : decode cX12_throng 63 = .ok (.getfield 401, 3) := by decide +kernel
theorem dX12_throng_66 : decode cX12_throng 66 = .ok (.if_icmp .ge 24, 3) := by decide +kernel
theorem dX12_throng_69 : decode cX12_throng 69 = .ok (.iload 7, 2) := by decide +kernel
theorem dX12_throng_71 : decode cX12_throng 71 = .ok (.aload_n 0, 1) := by decide +kernel
theorem dX12_throng_72 : decode cX12_throng 72 = .ok (.iload 8, 2) := by decide +kernel
theorem dX12_throng_74 : decode cX12_throng 74 = .ok (.iload_n 1, 1) := by decide +kernel
theorem dX12_throng_75 : decode cX12_throng 75 = .ok (.invokevirtual 459, 3) := by decide +kernel
theorem dX12_throng_78 : decode cX12_throng 78 = .ok (.invokestatic 343, 3) := by decide +kernel
theorem dX12_throng_81 : decode cX12_throng 81 = .ok (.iadd, 1) := by decide +kernel
theorem dX12_throng_82 : decode cX12_throng 82 = .ok (.istore 7, 2) := by decide +kernel
theorem dX12_throng_84 : decode cX12_throng 84 = .ok (.iinc 8 1, 3) := by decide +kernel
theorem dX12_throng_87 : decode cX12_throng 87 = .ok (.goto (-27), 3) := by decide +kernel
theorem dX12_throng_90 : decode cX12_throng 90 = .ok (.iload 7, 2) := by decide +kernel
theorem dX12_throng_92 : decode cX12_throng 92 = .ok (.iload 4, 2) := by decide +kernel
theorem dX12_throng_94 : decode cX12_throng 94 = .ok (.if_icmp .gt 6, 3) := by decide +kernel
theorem dX12_throng_97 : decode cX12_throng 97 = .ok (.goto 11, 3) := by decide +kernel
theorem dX12_throng_100 : decode cX12_throng 100 = .ok (.iload 7, 2) := by decide +kernel
theorem dX12_throng_102 : decode cX12_throng 102 = .ok (.istore 4, 2) := by decide +kernel
theorem dX12_throng_104 : decode cX12_throng 104 = .ok (.iload 6, 2) := by decide +kernel
theorem dX12_throng_106 : decode cX12_throng 106 = .ok (.istore 5, 2) := by decide +kernel
theorem dX12_throng_108 : decode cX12_throng 108 = .ok (.iinc 6 1, 3) := by decide +kernel
theorem dX12_throng_111 : decode cX12_throng 111 = .ok (.goto (-67), 3) := by decide +kernel
theorem dX12_throng_114 : decode cX12_throng 114 = .ok (.iload_n 3, 1) := by decide +kernel
theorem dX12_throng_115 : decode cX12_throng 115 = .ok (.ifCond .ne 8, 3) := by decide +kernel
theorem dX12_throng_118 : decode cX12_throng 118 = .ok (.iload 4, 2) := by decide +kernel
theorem dX12_throng_120 : decode cX12_throng 120 = .ok (.goto 5, 3) := by decide +kernel
theorem dX12_throng_123 : decode cX12_throng 123 = .ok (.iload 5, 2) := by decide +kernel
theorem dX12_throng_125 : decode cX12_throng 125 = .ok (.ireturn, 1) := by decide +kernel
theorem dX12_meeting_0 : decode cX12_meeting 0 = .ok (.aload_n 0, 1) := by decide +kernel
theorem dX12_meeting_1 : decode cX12_meeting 1 = .ok (.iload_n 1, 1) := by decide +kernel
theorem dX12_meeting_2 : decode cX12_meeting 2 = .ok (.iload_n 2, 1) := by decide +kernel
theorem dX12_meeting_3 : decode cX12_meeting 3 = .ok (.invokevirtual 484, 3) := by decide +kernel
theorem dX12_meeting_6 : decode cX12_meeting 6 = .ok (.ifCond .eq 14, 3) := by decide +kernel
theorem dX12_meeting_9 : decode cX12_meeting 9 = .ok (.iload_n 3, 1) := by decide +kernel
theorem dX12_meeting_10 : decode cX12_meeting 10 = .ok (.iconst 1, 1) := by decide +kernel
theorem dX12_meeting_11 : decode cX12_meeting 11 = .ok (.sipush 200, 3) := by decide +kernel
theorem dX12_meeting_14 : decode cX12_meeting 14 = .ok (.invokestatic 428, 3) := by decide +kernel
theorem dX12_meeting_17 : decode cX12_meeting 17 = .ok (.ifCond .ne 6, 3) := by decide +kernel
theorem dX12_meeting_20 : decode cX12_meeting 20 = .ok (.bipush (-2), 2) := by decide +kernel
theorem dX12_meeting_22 : decode cX12_meeting 22 = .ok (.ireturn, 1) := by decide +kernel
theorem dX12_meeting_23 : decode cX12_meeting 23 = .ok (.aload_n 0, 1) := by decide +kernel
theorem dX12_meeting_24 : decode cX12_meeting 24 = .ok (.invokevirtual 487, 3) := by decide +kernel
theorem dX12_meeting_27 : decode cX12_meeting 27 = .ok (.iconst 1, 1) := by decide +kernel
theorem dX12_meeting_28 : decode cX12_meeting 28 = .ok (.istore 4, 2) := by decide +kernel
theorem dX12_meeting_30 : decode cX12_meeting 30 = .ok (.iload 4, 2) := by decide +kernel
theorem dX12_meeting_32 : decode cX12_meeting 32 = .ok (.iload_n 3, 1) := by decide +kernel
theorem dX12_meeting_33 : decode cX12_meeting 33 = .ok (.if_icmp .gt 35, 3) := by decide +kernel
theorem dX12_meeting_36 : decode cX12_meeting 36 = .ok (.aload_n 0, 1) := by decide +kernel
theorem dX12_meeting_37 : decode cX12_meeting 37 = .ok (.invokevirtual 481, 3) := by decide +kernel
theorem dX12_meeting_40 : decode cX12_meeting 40 = .ok (.aload_n 0, 1) := by decide +kernel
theorem dX12_meeting_41 : decode cX12_meeting 41 = .ok (.getfield 120, 3) := by decide +kernel
theorem dX12_meeting_44 : decode cX12_meeting 44 = .ok (.iload_n 1, 1) := by decide +kernel
theorem dX12_meeting_45 : decode cX12_meeting 45 = .ok (.baload, 1) := by decide +kernel
theorem dX12_meeting_46 : decode cX12_meeting 46 = .ok (.ifCond .eq 16, 3) := by decide +kernel
theorem dX12_meeting_49 : decode cX12_meeting 49 = .ok (.aload_n 0, 1) := by decide +kernel
theorem dX12_meeting_50 : decode cX12_meeting 50 = .ok (.getfield 105, 3) := by decide +kernel
theorem dX12_meeting_53 : decode cX12_meeting 53 = .ok (.iload_n 1, 1) := by decide +kernel
theorem dX12_meeting_54 : decode cX12_meeting 54 = .ok (.iaload, 1) := by decide +kernel
theorem dX12_meeting_55 : decode cX12_meeting 55 = .ok (.iload_n 2, 1) := by decide +kernel
theorem dX12_meeting_56 : decode cX12_meeting 56 = .ok (.if_icmp .ne 6, 3) := by decide +kernel
theorem dX12_meeting_59 : decode cX12_meeting 59 = .ok (.iload 4, 2) := by decide +kernel
theorem dX12_meeting_61 : decode cX12_meeting 61 = .ok (.ireturn, 1) := by decide +kernel
theorem dX12_meeting_62 : decode cX12_meeting 62 = .ok (.iinc 4 1, 3) := by decide +kernel
theorem dX12_meeting_65 : decode cX12_meeting 65 = .ok (.goto (-35), 3) := by decide +kernel
theorem dX12_meeting_68 : decode cX12_meeting 68 = .ok (.iconst (-1), 1) := by decide +kernel
theorem dX12_meeting_69 : decode cX12_meeting 69 = .ok (.ireturn, 1) := by decide +kernel
theorem dX12_help_0 : decode cX12_help 0 = .ok (.aload_n 0, 1) := by decide +kernel
theorem dX12_help_1 : decode cX12_help 1 = .ok (.iload_n 1, 1) := by decide +kernel
theorem dX12_help_2 : decode cX12_help 2 = .ok (.iload_n 2, 1) := by decide +kernel
theorem dX12_help_3 : decode cX12_help 3 = .ok (.invokevirtual 484, 3) := by decide +kernel
theorem dX12_help_6 : decode cX12_help 6 = .ok (.ifCond .eq 12, 3) := by decide +kernel
theorem dX12_help_9 : decode cX12_help 9 = .ok (.iload_n 3, 1) := by decide +kernel
theorem dX12_help_10 : decode cX12_help 10 = .ok (.iconst 0, 1) := by decide +kernel
theorem dX12_help_11 : decode cX12_help 11 = .ok (.iconst 1, 1) := by decide +kernel
theorem dX12_help_12 : decode cX12_help 12 = .ok (.invokestatic 428, 3) := by decide +kernel
theorem dX12_help_15 : decode cX12_help 15 = .ok (.ifCond .ne 6, 3) := by decide +kernel
theorem dX12_help_18 : decode cX12_help 18 = .ok (.bipush (-2), 2) := by decide +kernel
theorem dX12_help_20 : decode cX12_help 20 = .ok (.ireturn, 1) := by decide +kernel
theorem dX12_help_21 : decode cX12_help 21 = .ok (.sipush 201, 3) := by decide +kernel
theorem dX12_help_24 : decode cX12_help 24 = .ok (.istore 4, 2) := by decide +kernel
theorem dX12_help_26 : decode cX12_help 26 = .ok (.iconst (-1), 1) := by decide +kernel
theorem dX12_help_27 : decode cX12_help 27 = .ok (.istore 5, 2) := by decide +kernel
theorem dX12_help_29 : decode cX12_help 29 = .ok (.iconst 0, 1) := by decide +kernel
theorem dX12_help_30 : decode cX12_help 30 = .ok (.istore 6, 2) := by decide +kernel
theorem dX12_help_32 : decode cX12_help 32 = .ok (.iload 6, 2) := by decide +kernel
theorem dX12_help_34 : decode cX12_help 34 = .ok (.aload_n 0, 1) := by decide +kernel
theorem dX12_help_35 : decode cX12_help 35 = .ok (.getfield 401, 3) := by decide +kernel
theorem dX12_help_38 : decode cX12_help 38 = .ok (.if_icmp .ge 69, 3) := by decide +kernel
theorem dX12_help_41 : decode cX12_help 41 = .ok (.iload 6, 2) := by decide +kernel
theorem dX12_help_43 : decode cX12_help 43 = .ok (.iload_n 2, 1) := by decide +kernel
theorem dX12_help_44 : decode cX12_help 44 = .ok (.if_icmp .ne 6, 3) := by decide +kernel
theorem dX12_help_47 : decode cX12_help 47 = .ok (.goto 54, 3) := by decide +kernel
theorem dX12_help_50 : decode cX12_help 50 = .ok (.aload_n 0, 1) := by decide +kernel
theorem dX12_help_51 : decode cX12_help 51 = .ok (.invokevirtual 487, 3) := by decide +kernel
theorem dX12_help_54 : decode cX12_help 54 = .ok (.aload_n 0, 1) := by decide +kernel
theorem dX12_help_55 : decode cX12_help 55 = .ok (.getfield 105, 3) := by decide +kernel
theorem dX12_help_58 : decode cX12_help 58 = .ok (.iload 6, 2) := by decide +kernel
theorem dX12_help_60 : decode cX12_help 60 = .ok (.iload_n 2, 1) := by decide +kernel
theorem dX12_help_61 : decode cX12_help 61 = .ok (.iastore, 1) := by decide +kernel
theorem dX12_help_62 : decode cX12_help 62 = .ok (.aload_n 0, 1) := by decide +kernel
theorem dX12_help_63 : decode cX12_help 63 = .ok (.getfield 108, 3) := by decide +kernel
theorem dX12_help_66 : decode cX12_help 66 = .ok (.iload 6, 2) := by decide +kernel
theorem dX12_help_68 : decode cX12_help 68 = .ok (.iload_n 1, 1) := by decide +kernel
theorem dX12_help_69 : decode cX12_help 69 = .ok (.iastore, 1) := by decide +kernel
theorem dX12_help_70 : decode cX12_help 70 = .ok (.aload_n 0, 1) := by decide +kernel
theorem dX12_help_71 : decode cX12_help 71 = .ok (.iload_n 1, 1) := by decide +kernel
theorem dX12_help_72 : decode cX12_help 72 = .ok (.iload_n 2, 1) := by decide +kernel
theorem dX12_help_73 : decode cX12_help 73 = .ok (.invokevirtual 518, 3) := by decide +kernel
theorem dX12_help_76 : decode cX12_help 76 = .ok (.istore 7, 2) := by decide +kernel
theorem dX12_help_78 : decode cX12_help 78 = .ok (.iload 7, 2) := by decide +kernel
theorem dX12_help_80 : decode cX12_help 80 = .ok (.ifCond .lt 21, 3) := by decide +kernel
theorem dX12_help_83 : decode cX12_help 83 = .ok (.iload 7, 2) := by decide +kernel
theorem dX12_help_85 : decode cX12_help 85 = .ok (.iload 4, 2) := by decide +kernel
theorem dX12_help_87 : decode cX12_help 87 = .ok (.if_icmp .lt 6, 3) := by decide +kernel
theorem dX12_help_90 : decode cX12_help 90 = .ok (.goto 11, 3) := by decide +kernel
theorem dX12_help_93 : decode cX12_help 93 = .ok (.iload 7, 2) := by decide +kernel
theorem dX12_help_95 : decode cX12_help 95 = .ok (.istore 4, 2) := by decide +kernel
theorem dX12_help_97 : decode cX12_help 97 = .ok (.iload 6, 2) := by decide +kernel
theorem dX12_help_99 : decode cX12_help 99 = .ok (.istore 5, 2) := by decide +kernel
theorem dX12_help_101 : decode cX12_help 101 = .ok (.iinc 6 1, 3) := by decide +kernel
theorem dX12_help_104 : decode cX12_help 104 = .ok (.goto (-72), 3) := by decide +kernel
theorem dX12_help_107 : decode cX12_help 107 = .ok (.iload 5, 2) := by decide +kernel
theorem dX12_help_109 : decode cX12_help 109 = .ok (.ifCond .ge 7, 3) := by decide +kernel
theorem dX12_help_112 : decode cX12_help 112 = .ok (.iconst (-1), 1) := by decide +kernel
theorem dX12_help_113 : decode cX12_help 113 = .ok (.goto 14, 3) := by decide +kernel
theorem dX12_help_116 : decode cX12_help 116 = .ok (.iload_n 3, 1) := by decide +kernel
theorem dX12_help_117 : decode cX12_help 117 = .ok (.ifCond .ne 8, 3) := by decide +kernel
theorem dX12_help_120 : decode cX12_help 120 = .ok (.iload 4, 2) := by decide +kernel
theorem dX12_help_122 : decode cX12_help 122 = .ok (.goto 5, 3) := by decide +kernel
theorem dX12_help_125 : decode cX12_help 125 = .ok (.iload 5, 2) := by decide +kernel
theorem dX12_help_127 : decode cX12_help 127 = .ok (.ireturn, 1) := by decide +kernel
theorem dX12_layOrder_0 : decode cX12_layOrder 0 = .ok (.iconst 0, 1) := by decide +kernel
theorem dX12_layOrder_1 : decode cX12_layOrder 1 = .ok (.istore_n 2, 1) := by decide +kernel
theorem dX12_layOrder_2 : decode cX12_layOrder 2 = .ok (.iload_n 1, 1) := by decide +kernel
theorem dX12_layOrder_3 : decode cX12_layOrder 3 = .ok (.istore_n 3, 1) := by decide +kernel
theorem dX12_layOrder_4 : decode cX12_layOrder 4 = .ok (.iconst 1, 1) := by decide +kernel
theorem dX12_layOrder_5 : decode cX12_layOrder 5 = .ok (.istore 4, 2) := by decide +kernel
theorem dX12_layOrder_7 : decode cX12_layOrder 7 = .ok (.iconst 2, 1) := by decide +kernel
theorem dX12_layOrder_8 : decode cX12_layOrder 8 = .ok (.istore 5, 2) := by decide +kernel
theorem dX12_layOrder_10 : decode cX12_layOrder 10 = .ok (.iload 5, 2) := by decide +kernel
theorem dX12_layOrder_12 : decode cX12_layOrder 12 = .ok (.aload_n 0, 1) := by decide +kernel
theorem dX12_layOrder_13 : decode cX12_layOrder 13 = .ok (.getfield 521, 3) := by decide +kernel
theorem dX12_layOrder_16 : decode cX12_layOrder 16 = .ok (.if_icmp .ge 16, 3) := by decide +kernel
theorem dX12_layOrder_19 : decode cX12_layOrder 19 = .ok (.iload 4, 2) := by decide +kernel
theorem dX12_layOrder_21 : decode cX12_layOrder 21 = .ok (.iload 5, 2) := by decide +kernel
theorem dX12_layOrder_23 : decode cX12_layOrder 23 = .ok (.imul, 1) := by decide +kernel
theorem dX12_layOrder_24 : decode cX12_layOrder 24 = .ok (.istore 4, 2) := by decide +kernel
theorem dX12_layOrder_26 : decode cX12_layOrder 26 = .ok (.iinc 5 1, 3) := by decide +kernel
theorem dX12_layOrder_29 : decode cX12_layOrder 29 = .ok (.goto (-19), 3) := by decide +kernel
theorem dX12_layOrder_32 : decode cX12_layOrder 32 = .ok (.iconst 0, 1) := by decide +kernel
theorem dX12_layOrder_33 : decode cX12_layOrder 33 = .ok (.istore 5, 2) := by decide +kernel
theorem dX12_layOrder_35 : decode cX12_layOrder 35 = .ok (.iload 5, 2) := by decide +kernel
theorem dX12_layOrder_37 : decode cX12_layOrder 37 = .ok (.aload_n 0, 1) := by decide +kernel
theorem dX12_layOrder_38 : decode cX12_layOrder 38 = .ok (.getfield 521, 3) := by decide +kernel
theorem dX12_layOrder_41 : decode cX12_layOrder 41 = .ok (.if_icmp .ge 116, 3) := by decide +kernel
theorem dX12_layOrder_44 : decode cX12_layOrder 44 = .ok (.iload_n 3, 1) := by decide +kernel
theorem dX12_layOrder_45 : decode cX12_layOrder 45 = .ok (.iload 4, 2) := by decide +kernel
theorem dX12_layOrder_47 : decode cX12_layOrder 47 = .ok (.idiv, 1) := by decide +kernel
theorem dX12_layOrder_48 : decode cX12_layOrder 48 = .ok (.istore 6, 2) := by decide +kernel
theorem dX12_layOrder_50 : decode cX12_layOrder 50 = .ok (.iload_n 3, 1) := by decide +kernel
theorem dX12_layOrder_51 : decode cX12_layOrder 51 = .ok (.iload 4, 2) := by decide +kernel
theorem dX12_layOrder_53 : decode cX12_layOrder 53 = .ok (.irem, 1) := by decide +kernel
theorem dX12_layOrder_54 : decode cX12_layOrder 54 = .ok (.istore_n 3, 1) := by decide +kernel
theorem dX12_layOrder_55 : decode cX12_layOrder 55 = .ok (.aload_n 0, 1) := by decide +kernel
theorem dX12_layOrder_56 : decode cX12_layOrder 56 = .ok (.getfield 521, 3) := by decide +kernel
theorem dX12_layOrder_59 : decode cX12_layOrder 59 = .ok (.iconst 1, 1) := by decide +kernel
theorem dX12_layOrder_60 : decode cX12_layOrder 60 = .ok (.isub, 1) := by decide +kernel
theorem dX12_layOrder_61 : decode cX12_layOrder 61 = .ok (.iload 5, 2) := by decide +kernel
theorem dX12_layOrder_63 : decode cX12_layOrder 63 = .ok (.isub, 1) := by decide +kernel
theorem dX12_layOrder_64 : decode cX12_layOrder 64 = .ok (.ifCond .le 17, 3) := by decide +kernel
theorem dX12_layOrder_67 : decode cX12_layOrder 67 = .ok (.iload 4, 2) := by decide +kernel
theorem dX12_layOrder_69 : decode cX12_layOrder 69 = .ok (.aload_n 0, 1) := by decide +kernel
theorem dX12_layOrder_70 : decode cX12_layOrder 70 = .ok (.getfield 521, 3) := by decide +kernel
theorem dX12_layOrder_73 : decode cX12_layOrder 73 = .ok (.iconst 1, 1) := by decide +kernel
theorem dX12_layOrder_74 : decode cX12_layOrder 74 = .ok (.isub, 1) := by decide +kernel
theorem dX12_layOrder_75 : decode cX12_layOrder 75 = .ok (.iload 5, 2) := by decide +kernel
theorem dX12_layOrder_77 : decode cX12_layOrder 77 = .ok (.isub, 1) := by decide +kernel
theorem dX12_layOrder_78 : decode cX12_layOrder 78 = .ok (.idiv, 1) := by decide +kernel
theorem dX12_layOrder_79 : decode cX12_layOrder 79 = .ok (.istore 4, 2) := by decide +kernel
theorem dX12_layOrder_81 : decode cX12_layOrder 81 = .ok (.iconst 0, 1) := by decide +kernel
theorem dX12_layOrder_82 : decode cX12_layOrder 82 = .ok (.istore 7, 2) := by decide +kernel
theorem dX12_layOrder_84 : decode cX12_layOrder 84 = .ok (.iload_n 2, 1) := by decide +kernel
theorem dX12_layOrder_85 : decode cX12_layOrder 85 = .ok (.iload 7, 2) := by decide +kernel
theorem dX12_layOrder_87 : decode cX12_layOrder 87 = .ok (.ishr, 1) := by decide +kernel
theorem dX12_layOrder_88 : decode cX12_layOrder 88 = .ok (.iconst 1, 1) := by decide +kernel
theorem dX12_layOrder_89 : decode cX12_layOrder 89 = .ok (.iand, 1) := by decide +kernel
theorem dX12_layOrder_90 : decode cX12_layOrder 90 = .ok (.iconst 1, 1) := by decide +kernel
theorem dX12_layOrder_91 : decode cX12_layOrder 91 = .ok (.if_icmp .ne 9, 3) := by decide +kernel
theorem dX12_layOrder_94 : decode cX12_layOrder 94 = .ok (.iinc 7 1, 3) := by decide +kernel
theorem dX12_layOrder_97 : decode cX12_layOrder 97 = .ok (.goto (-13), 3) := by decide +kernel
theorem dX12_layOrder_100 : decode cX12_layOrder 100 = .ok (.iload 6, 2) := by decide +kernel
theorem dX12_layOrder_102 : decode cX12_layOrder 102 = .ok (.ifCond .le 28, 3) := by decide +kernel
theorem dX12_layOrder_105 : decode cX12_layOrder 105 = .ok (.iinc 7 1, 3) := by decide +kernel
theorem dX12_layOrder_108 : decode cX12_layOrder 108 = .ok (.iload_n 2, 1) := by decide +kernel
theorem dX12_layOrder_109 : decode cX12_layOrder 109 = .ok (.iload 7, 2) := by decide +kernel
theorem dX12_layOrder_111 : decode cX12_layOrder 111 = .ok (.ishr, 1) := by decide +kernel
theorem dX12_layOrder_112 : decode cX12_layOrder 112 = .ok (.iconst 1, 1) := by decide +kernel
theorem dX12_layOrder_113 : decode cX12_layOrder 113 = .ok (.iand, 1) := by decide +kernel
theorem dX12_layOrder_114 : decode cX12_layOrder 114 = .ok (.iconst 1, 1) := by decide +kernel
theorem dX12_layOrder_115 : decode cX12_layOrder 115 = .ok (.if_icmp .ne 9, 3) := by decide +kernel
theorem dX12_layOrder_118 : decode cX12_layOrder 118 = .ok (.iinc 7 1, 3) := by decide +kernel
theorem dX12_layOrder_121 : decode cX12_layOrder 121 = .ok (.goto (-13), 3) := by decide +kernel
theorem dX12_layOrder_124 : decode cX12_layOrder 124 = .ok (.iinc 6 (-1), 3) := by decide +kernel
theorem dX12_layOrder_127 : decode cX12_layOrder 127 = .ok (.goto (-27), 3) := by decide +kernel
theorem dX12_layOrder_130 : decode cX12_layOrder 130 = .ok (.iload_n 2, 1) := by decide +kernel
theorem dX12_layOrder_131 : decode cX12_layOrder 131 = .ok (.iconst 1, 1) := by decide +kernel
theorem dX12_layOrder_132 : decode cX12_layOrder 132 = .ok (.iload 7, 2) := by decide +kernel
theorem dX12_layOrder_134 : decode cX12_layOrder 134 = .ok (.ishl, 1) := by decide +kernel
theorem dX12_layOrder_135 : decode cX12_layOrder 135 = .ok (.ior, 1) := by decide +kernel
theorem dX12_layOrder_136 : decode cX12_layOrder 136 = .ok (.istore_n 2, 1) := by decide +kernel
theorem dX12_layOrder_137 : decode cX12_layOrder 137 = .ok (.aload_n 0, 1) := by decide +kernel
theorem dX12_layOrder_138 : decode cX12_layOrder 138 = .ok (.getfield 139, 3) := by decide +kernel
theorem dX12_layOrder_141 : decode cX12_layOrder 141 = .ok (.iload 5, 2) := by decide +kernel
theorem dX12_layOrder_143 : decode cX12_layOrder 143 = .ok (.aload_n 0, 1) := by decide +kernel
theorem dX12_layOrder_144 : decode cX12_layOrder 144 = .ok (.getfield 136, 3) := by decide +kernel
theorem dX12_layOrder_147 : decode cX12_layOrder 147 = .ok (.iload 7, 2) := by decide +kernel
theorem dX12_layOrder_149 : decode cX12_layOrder 149 = .ok (.iaload, 1) := by decide +kernel
theorem dX12_layOrder_150 : decode cX12_layOrder 150 = .ok (.iastore, 1) := by decide +kernel
theorem dX12_layOrder_151 : decode cX12_layOrder 151 = .ok (.iinc 5 1, 3) := by decide +kernel
theorem dX12_layOrder_154 : decode cX12_layOrder 154 = .ok (.goto (-119), 3) := by decide +kernel
theorem dX12_layOrder_157 : decode cX12_layOrder 157 = .ok (.return_, 1) := by decide +kernel
theorem dX12_hoursBy_0 : decode cX12_hoursBy 0 = .ok (.aload_n 0, 1) := by decide +kernel
theorem dX12_hoursBy_1 : decode cX12_hoursBy 1 = .ok (.invokevirtual 487, 3) := by decide +kernel
theorem dX12_hoursBy_4 : decode cX12_hoursBy 4 = .ok (.iconst 0, 1) := by decide +kernel
theorem dX12_hoursBy_5 : decode cX12_hoursBy 5 = .ok (.istore_n 3, 1) := by decide +kernel
theorem dX12_hoursBy_6 : decode cX12_hoursBy 6 = .ok (.iload_n 3, 1) := by decide +kernel
theorem dX12_hoursBy_7 : decode cX12_hoursBy 7 = .ok (.aload_n 0, 1) := by decide +kernel
theorem dX12_hoursBy_8 : decode cX12_hoursBy 8 = .ok (.getfield 401, 3) := by decide +kernel
theorem dX12_hoursBy_11 : decode cX12_hoursBy 11 = .ok (.if_icmp .ge 16, 3) := by decide +kernel
theorem dX12_hoursBy_14 : decode cX12_hoursBy 14 = .ok (.aload_n 0, 1) := by decide +kernel
theorem dX12_hoursBy_15 : decode cX12_hoursBy 15 = .ok (.getfield 105, 3) := by decide +kernel
theorem dX12_hoursBy_18 : decode cX12_hoursBy 18 = .ok (.iload_n 3, 1) := by decide +kernel
theorem dX12_hoursBy_19 : decode cX12_hoursBy 19 = .ok (.iconst (-1), 1) := by decide +kernel
theorem dX12_hoursBy_20 : decode cX12_hoursBy 20 = .ok (.iastore, 1) := by decide +kernel
theorem dX12_hoursBy_21 : decode cX12_hoursBy 21 = .ok (.iinc 3 1, 3) := by decide +kernel
theorem dX12_hoursBy_24 : decode cX12_hoursBy 24 = .ok (.goto (-18), 3) := by decide +kernel
theorem dX12_hoursBy_27 : decode cX12_hoursBy 27 = .ok (.aload_n 0, 1) := by decide +kernel
theorem dX12_hoursBy_28 : decode cX12_hoursBy 28 = .ok (.getfield 108, 3) := by decide +kernel
theorem dX12_hoursBy_31 : decode cX12_hoursBy 31 = .ok (.iload_n 1, 1) := by decide +kernel
theorem dX12_hoursBy_32 : decode cX12_hoursBy 32 = .ok (.iload_n 1, 1) := by decide +kernel
theorem dX12_hoursBy_33 : decode cX12_hoursBy 33 = .ok (.iastore, 1) := by decide +kernel
theorem dX12_hoursBy_34 : decode cX12_hoursBy 34 = .ok (.iconst 0, 1) := by decide +kernel
theorem dX12_hoursBy_35 : decode cX12_hoursBy 35 = .ok (.istore_n 3, 1) := by decide +kernel
theorem dX12_hoursBy_36 : decode cX12_hoursBy 36 = .ok (.iconst 0, 1) := by decide +kernel
theorem dX12_hoursBy_37 : decode cX12_hoursBy 37 = .ok (.istore 4, 2) := by decide +kernel
theorem dX12_hoursBy_39 : decode cX12_hoursBy 39 = .ok (.iload 4, 2) := by decide +kernel
theorem dX12_hoursBy_41 : decode cX12_hoursBy 41 = .ok (.iload_n 2, 1) := by decide +kernel
theorem dX12_hoursBy_42 : decode cX12_hoursBy 42 = .ok (.if_icmp .ge 69, 3) := by decide +kernel
theorem dX12_hoursBy_45 : decode cX12_hoursBy 45 = .ok (.iload_n 3, 1) := by decide +kernel
theorem dX12_hoursBy_46 : decode cX12_hoursBy 46 = .ok (.aload_n 0, 1) := by decide +kernel
theorem dX12_hoursBy_47 : decode cX12_hoursBy 47 = .ok (.getfield 521, 3) := by decide +kernel
theorem dX12_hoursBy_50 : decode cX12_hoursBy 50 = .ok (.if_icmp .ge 28, 3) := by decide +kernel
theorem dX12_hoursBy_53 : decode cX12_hoursBy 53 = .ok (.aload_n 0, 1) := by decide +kernel
theorem dX12_hoursBy_54 : decode cX12_hoursBy 54 = .ok (.getfield 114, 3) := by decide +kernel
theorem dX12_hoursBy_57 : decode cX12_hoursBy 57 = .ok (.bipush 6, 2) := by decide +kernel
theorem dX12_hoursBy_59 : decode cX12_hoursBy 59 = .ok (.iload_n 1, 1) := by decide +kernel
theorem dX12_hoursBy_60 : decode cX12_hoursBy 60 = .ok (.imul, 1) := by decide +kernel
theorem dX12_hoursBy_61 : decode cX12_hoursBy 61 = .ok (.aload_n 0, 1) := by decide +kernel
theorem dX12_hoursBy_62 : decode cX12_hoursBy 62 = .ok (.getfield 139, 3) := by decide +kernel
theorem dX12_hoursBy_65 : decode cX12_hoursBy 65 = .ok (.iload_n 3, 1) := by decide +kernel
theorem dX12_hoursBy_66 : decode cX12_hoursBy 66 = .ok (.iaload, 1) := by decide +kernel
theorem dX12_hoursBy_67 : decode cX12_hoursBy 67 = .ok (.iadd, 1) := by decide +kernel
theorem dX12_hoursBy_68 : decode cX12_hoursBy 68 = .ok (.iaload, 1) := by decide +kernel
theorem dX12_hoursBy_69 : decode cX12_hoursBy 69 = .ok (.ifCond .ne 9, 3) := by decide +kernel
theorem dX12_hoursBy_72 : decode cX12_hoursBy 72 = .ok (.iinc 3 1, 3) := by decide +kernel
theorem dX12_hoursBy_75 : decode cX12_hoursBy 75 = .ok (.goto (-30), 3) := by decide +kernel
theorem dX12_hoursBy_78 : decode cX12_hoursBy 78 = .ok (.iload_n 3, 1) := by decide +kernel
theorem dX12_hoursBy_79 : decode cX12_hoursBy 79 = .ok (.aload_n 0, 1) := by decide +kernel
theorem dX12_hoursBy_80 : decode cX12_hoursBy 80 = .ok (.getfield 521, 3) := by decide +kernel
theorem dX12_hoursBy_83 : decode cX12_hoursBy 83 = .ok (.if_icmp .ne 6, 3) := by decide +kernel
theorem dX12_hoursBy_86 : decode cX12_hoursBy 86 = .ok (.iload 4, 2) := by decide +kernel
theorem dX12_hoursBy_88 : decode cX12_hoursBy 88 = .ok (.ireturn, 1) := by decide +kernel
theorem dX12_hoursBy_89 : decode cX12_hoursBy 89 = .ok (.aload_n 0, 1) := by decide +kernel
theorem dX12_hoursBy_90 : decode cX12_hoursBy 90 = .ok (.getfield 105, 3) := by decide +kernel
theorem dX12_hoursBy_93 : decode cX12_hoursBy 93 = .ok (.iload_n 1, 1) := by decide +kernel
theorem dX12_hoursBy_94 : decode cX12_hoursBy 94 = .ok (.aload_n 0, 1) := by decide +kernel
theorem dX12_hoursBy_95 : decode cX12_hoursBy 95 = .ok (.getfield 139, 3) := by decide +kernel
theorem dX12_hoursBy_98 : decode cX12_hoursBy 98 = .ok (.iload_n 3, 1) := by decide +kernel
theorem dX12_hoursBy_99 : decode cX12_hoursBy 99 = .ok (.iaload, 1) := by decide +kernel
theorem dX12_hoursBy_100 : decode cX12_hoursBy 100 = .ok (.iastore, 1) := by decide +kernel
theorem dX12_hoursBy_101 : decode cX12_hoursBy 101 = .ok (.aload_n 0, 1) := by decide +kernel
theorem dX12_hoursBy_102 : decode cX12_hoursBy 102 = .ok (.invokevirtual 481, 3) := by decide +kernel
theorem dX12_hoursBy_105 : decode cX12_hoursBy 105 = .ok (.iinc 4 1, 3) := by decide +kernel
theorem dX12_hoursBy_108 : decode cX12_hoursBy 108 = .ok (.goto (-69), 3) := by decide +kernel
theorem dX12_hoursBy_111 : decode cX12_hoursBy 111 = .ok (.iload_n 2, 1) := by decide +kernel
theorem dX12_hoursBy_112 : decode cX12_hoursBy 112 = .ok (.ireturn, 1) := by decide +kernel
theorem dX12_plan_0 : decode cX12_plan 0 = .ok (.aload_n 0, 1) := by decide +kernel
theorem dX12_plan_1 : decode cX12_plan 1 = .ok (.iconst 0, 1) := by decide +kernel
theorem dX12_plan_2 : decode cX12_plan 2 = .ok (.putfield 425, 3) := by decide +kernel
theorem dX12_plan_5 : decode cX12_plan 5 = .ok (.aload_n 0, 1) := by decide +kernel
theorem dX12_plan_6 : decode cX12_plan 6 = .ok (.iload_n 1, 1) := by decide +kernel
theorem dX12_plan_7 : decode cX12_plan 7 = .ok (.invokevirtual 432, 3) := by decide +kernel
theorem dX12_plan_10 : decode cX12_plan 10 = .ok (.ifCond .ne 5, 3) := by decide +kernel
theorem dX12_plan_13 : decode cX12_plan 13 = .ok (.iconst (-1), 1) := by decide +kernel
theorem dX12_plan_14 : decode cX12_plan 14 = .ok (.ireturn, 1) := by decide +kernel
theorem dX12_plan_15 : decode cX12_plan 15 = .ok (.aload_n 0, 1) := by decide +kernel
theorem dX12_plan_16 : decode cX12_plan 16 = .ok (.invokevirtual 487, 3) := by decide +kernel
theorem dX12_plan_19 : decode cX12_plan 19 = .ok (.aload_n 0, 1) := by decide +kernel
theorem dX12_plan_20 : decode cX12_plan 20 = .ok (.iconst 0, 1) := by decide +kernel
theorem dX12_plan_21 : decode cX12_plan 21 = .ok (.putfield 521, 3) := by decide +kernel
theorem dX12_plan_24 : decode cX12_plan 24 = .ok (.iconst 1, 1) := by decide +kernel
theorem dX12_plan_25 : decode cX12_plan 25 = .ok (.istore_n 2, 1) := by decide +kernel
theorem dX12_plan_26 : decode cX12_plan 26 = .ok (.iconst 0, 1) := by decide +kernel
theorem dX12_plan_27 : decode cX12_plan 27 = .ok (.istore_n 3, 1) := by decide +kernel
theorem dX12_plan_28 : decode cX12_plan 28 = .ok (.iload_n 3, 1) := by decide +kernel
theorem dX12_plan_29 : decode cX12_plan 29 = .ok (.aload_n 0, 1) := by decide +kernel
theorem dX12_plan_30 : decode cX12_plan 30 = .ok (.getfield 401, 3) := by decide +kernel
theorem dX12_plan_33 : decode cX12_plan 33 = .ok (.if_icmp .ge 53, 3) := by decide +kernel
theorem dX12_plan_36 : decode cX12_plan 36 = .ok (.aload_n 0, 1) := by decide +kernel
theorem dX12_plan_37 : decode cX12_plan 37 = .ok (.getfield 114, 3) := by decide +kernel
theorem dX12_plan_40 : decode cX12_plan 40 = .ok (.bipush 6, 2) := by decide +kernel
theorem dX12_plan_42 : decode cX12_plan 42 = .ok (.iload_n 1, 1) := by decide +kernel
theorem dX12_plan_43 : decode cX12_plan 43 = .ok (.imul, 1) := by decide +kernel
theorem dX12_plan_44 : decode cX12_plan 44 = .ok (.iload_n 3, 1) := by decide +kernel
theorem dX12_plan_45 : decode cX12_plan 45 = .ok (.iadd, 1) := by decide +kernel
theorem dX12_plan_46 : decode cX12_plan 46 = .ok (.iaload, 1) := by decide +kernel
theorem dX12_plan_47 : decode cX12_plan 47 = .ok (.ifCond .ne 6, 3) := by decide +kernel
theorem dX12_plan_50 : decode cX12_plan 50 = .ok (.goto 30, 3) := by decide +kernel
theorem dX12_plan_53 : decode cX12_plan 53 = .ok (.aload_n 0, 1) := by decide +kernel
theorem dX12_plan_54 : decode cX12_plan 54 = .ok (.getfield 136, 3) := by decide +kernel
theorem dX12_plan_57 : decode cX12_plan 57 = .ok (.aload_n 0, 1) := by decide +kernel
theorem dX12_plan_58 : decode cX12_plan 58 = .ok (.getfield 521, 3) := by decide +kernel
theorem dX12_plan_61 : decode cX12_plan 61 = .ok (.iload_n 3, 1) := by decide +kernel
theorem dX12_plan_62 : decode cX12_plan 62 = .ok (.iastore, 1) := by decide +kernel
theorem dX12_plan_63 : decode cX12_plan 63 = .ok (.aload_n 0, 1) := by decide +kernel
theorem dX12_plan_64 : decode cX12_plan 64 = .ok (.dup, 1) := by decide +kernel
theorem dX12_plan_65 : decode cX12_plan 65 = .ok (.getfield 521, 3) := by decide +kernel
theorem dX12_plan_68 : decode cX12_plan 68 = .ok (.iconst 1, 1) := by decide +kernel
theorem dX12_plan_69 : decode cX12_plan 69 = .ok (.iadd, 1) := by decide +kernel
theorem dX12_plan_70 : decode cX12_plan 70 = .ok (.putfield 521, 3) := by decide +kernel
theorem dX12_plan_73 : decode cX12_plan 73 = .ok (.iload_n 2, 1) := by decide +kernel
theorem dX12_plan_74 : decode cX12_plan 74 = .ok (.aload_n 0, 1) := by decide +kernel
theorem dX12_plan_75 : decode cX12_plan 75 = .ok (.getfield 521, 3) := by decide +kernel
theorem dX12_plan_78 : decode cX12_plan 78 = .ok (.imul, 1) := by decide +kernel
theorem dX12_plan_79 : decode cX12_plan 79 = .ok (.istore_n 2, 1) := by decide +kernel
theorem dX12_plan_80 : decode cX12_plan 80 = .ok (.iinc 3 1, 3) := by decide +kernel
theorem dX12_plan_83 : decode cX12_plan 83 = .ok (.goto (-55), 3) := by decide +kernel
theorem dX12_plan_86 : decode cX12_plan 86 = .ok (.aload_n 0, 1) := by decide +kernel
theorem dX12_plan_87 : decode cX12_plan 87 = .ok (.getfield 521, 3) := by decide +kernel
theorem dX12_plan_90 : decode cX12_plan 90 = .ok (.ifCond .ne 5, 3) := by decide +kernel
theorem dX12_plan_93 : decode cX12_plan 93 = .ok (.iconst 0, 1) := by decide +kernel
theorem dX12_plan_94 : decode cX12_plan 94 = .ok (.ireturn, 1) := by decide +kernel
theorem dX12_plan_95 : decode cX12_plan 95 = .ok (.sipush 301, 3) := by decide +kernel
theorem dX12_plan_98 : decode cX12_plan 98 = .ok (.istore_n 3, 1) := by decide +kernel
theorem dX12_plan_99 : decode cX12_plan 99 = .ok (.iconst 0, 1) := by decide +kernel
theorem dX12_plan_100 : decode cX12_plan 100 = .ok (.istore 4, 2) := by decide +kernel
theorem dX12_plan_102 : decode cX12_plan 102 = .ok (.iload 4, 2) := by decide +kernel
theorem dX12_plan_104 : decode cX12_plan 104 = .ok (.iload_n 2, 1) := by decide +kernel
theorem dX12_plan_105 : decode cX12_plan 105 = .ok (.if_icmp .ge 75, 3) := by decide +kernel
theorem dX12_plan_108 : decode cX12_plan 108 = .ok (.aload_n 0, 1) := by decide +kernel
theorem dX12_plan_109 : decode cX12_plan 109 = .ok (.iload 4, 2) := by decide +kernel
theorem dX12_plan_111 : decode cX12_plan 111 = .ok (.invokevirtual 524, 3) := by decide +kernel
theorem dX12_plan_114 : decode cX12_plan 114 = .ok (.aload_n 0, 1) := by decide +kernel
theorem dX12_plan_115 : decode cX12_plan 115 = .ok (.iload_n 1, 1) := by decide +kernel
theorem dX12_plan_116 : decode cX12_plan 116 = .ok (.iload_n 3, 1) := by decide +kernel
theorem dX12_plan_117 : decode cX12_plan 117 = .ok (.invokevirtual 527, 3) := by decide +kernel
theorem dX12_plan_120 : decode cX12_plan 120 = .ok (.istore 5, 2) := by decide +kernel
theorem dX12_plan_122 : decode cX12_plan 122 = .ok (.iload 5, 2) := by decide +kernel
theorem dX12_plan_124 : decode cX12_plan 124 = .ok (.iload_n 3, 1) := by decide +kernel
theorem dX12_plan_125 : decode cX12_plan 125 = .ok (.if_icmp .lt 6, 3) := by decide +kernel
theorem dX12_plan_128 : decode cX12_plan 128 = .ok (.goto 46, 3) := by decide +kernel
theorem dX12_plan_131 : decode cX12_plan 131 = .ok (.iload 5, 2) := by decide +kernel
theorem dX12_plan_133 : decode cX12_plan 133 = .ok (.istore_n 3, 1) := by decide +kernel
theorem dX12_plan_134 : decode cX12_plan 134 = .ok (.iconst 0, 1) := by decide +kernel
theorem dX12_plan_135 : decode cX12_plan 135 = .ok (.istore 6, 2) := by decide +kernel
theorem dX12_plan_137 : decode cX12_plan 137 = .ok (.iload 6, 2) := by decide +kernel
theorem dX12_plan_139 : decode cX12_plan 139 = .ok (.aload_n 0, 1) := by decide +kernel
theorem dX12_plan_140 : decode cX12_plan 140 = .ok (.getfield 521, 3) := by decide +kernel
theorem dX12_plan_143 : decode cX12_plan 143 = .ok (.if_icmp .ge 23, 3) := by decide +kernel
theorem dX12_plan_146 : decode cX12_plan 146 = .ok (.aload_n 0, 1) := by decide +kernel
theorem dX12_plan_147 : decode cX12_plan 147 = .ok (.getfield 142, 3) := by decide +kernel
theorem dX12_plan_150 : decode cX12_plan 150 = .ok (.iload 6, 2) := by decide +kernel
theorem dX12_plan_152 : decode cX12_plan 152 = .ok (.aload_n 0, 1) := by decide +kernel
theorem dX12_plan_153 : decode cX12_plan 153 = .ok (.getfield 139, 3) := by decide +kernel
theorem dX12_plan_156 : decode cX12_plan 156 = .ok (.iload 6, 2) := by decide +kernel
theorem dX12_plan_158 : decode cX12_plan 158 = .ok (.iaload, 1) := by decide +kernel
theorem dX12_plan_159 : decode cX12_plan 159 = .ok (.iastore, 1) := by decide +kernel
theorem dX12_plan_160 : decode cX12_plan 160 = .ok (.iinc 6 1, 3) := by decide +kernel
theorem dX12_plan_163 : decode cX12_plan 163 = .ok (.goto (-26), 3) := by decide +kernel
theorem dX12_plan_166 : decode cX12_plan 166 = .ok (.aload_n 0, 1) := by decide +kernel
theorem dX12_plan_167 : decode cX12_plan 167 = .ok (.aload_n 0, 1) := by decide +kernel
theorem dX12_plan_168 : decode cX12_plan 168 = .ok (.getfield 521, 3) := by decide +kernel
theorem dX12_plan_171 : decode cX12_plan 171 = .ok (.putfield 425, 3) := by decide +kernel
theorem dX12_plan_174 : decode cX12_plan 174 = .ok (.iinc 4 1, 3) := by decide +kernel
theorem dX12_plan_177 : decode cX12_plan 177 = .ok (.goto (-75), 3) := by decide +kernel
theorem dX12_plan_180 : decode cX12_plan 180 = .ok (.aload_n 0, 1) := by decide +kernel
theorem dX12_plan_181 : decode cX12_plan 181 = .ok (.getfield 425, 3) := by decide +kernel
theorem dX12_plan_184 : decode cX12_plan 184 = .ok (.ifCond .ne 7, 3) := by decide +kernel
theorem dX12_plan_187 : decode cX12_plan 187 = .ok (.iconst (-1), 1) := by decide +kernel
theorem dX12_plan_188 : decode cX12_plan 188 = .ok (.goto 4, 3) := by decide +kernel
theorem dX12_plan_191 : decode cX12_plan 191 = .ok (.iload_n 3, 1) := by decide +kernel
theorem dX12_plan_192 : decode cX12_plan 192 = .ok (.ireturn, 1) := by decide +kernel
theorem dX12_debt_0 : decode cX12_debt 0 = .ok (.aload_n 0, 1) := by decide +kernel
theorem dX12_debt_1 : decode cX12_debt 1 = .ok (.getfield 99, 3) := by decide +kernel
theorem dX12_debt_4 : decode cX12_debt 4 = .ok (.bipush 24, 2) := by decide +kernel
theorem dX12_debt_6 : decode cX12_debt 6 = .ok (.bipush 6, 2) := by decide +kernel
theorem dX12_debt_8 : decode cX12_debt 8 = .ok (.iload_n 1, 1) := by decide +kernel
theorem dX12_debt_9 : decode cX12_debt 9 = .ok (.imul, 1) := by decide +kernel
theorem dX12_debt_10 : decode cX12_debt 10 = .ok (.iadd, 1) := by decide +kernel
theorem dX12_debt_11 : decode cX12_debt 11 = .ok (.iload_n 2, 1) := by decide +kernel
theorem dX12_debt_12 : decode cX12_debt 12 = .ok (.iadd, 1) := by decide +kernel
theorem dX12_debt_13 : decode cX12_debt 13 = .ok (.iaload, 1) := by decide +kernel
theorem dX12_debt_14 : decode cX12_debt 14 = .ok (.ireturn, 1) := by decide +kernel
theorem dX12_isInRow_0 : decode cX12_isInRow 0 = .ok (.iconst 0, 1) := by decide +kernel
theorem dX12_isInRow_1 : decode cX12_isInRow 1 = .ok (.istore_n 3, 1) := by decide +kernel
theorem dX12_isInRow_2 : decode cX12_isInRow 2 = .ok (.iconst 0, 1) := by decide +kernel
theorem dX12_isInRow_3 : decode cX12_isInRow 3 = .ok (.istore 4, 2) := by decide +kernel
theorem dX12_isInRow_5 : decode cX12_isInRow 5 = .ok (.iload 4, 2) := by decide +kernel
theorem dX12_isInRow_7 : decode cX12_isInRow 7 = .ok (.iload_n 2, 1) := by decide +kernel
theorem dX12_isInRow_8 : decode cX12_isInRow 8 = .ok (.if_icmp .ge 30, 3) := by decide +kernel
theorem dX12_isInRow_11 : decode cX12_isInRow 11 = .ok (.iload_n 3, 1) := by decide +kernel
theorem dX12_isInRow_12 : decode cX12_isInRow 12 = .ok (.ifCond .ne 14, 3) := by decide +kernel
theorem dX12_isInRow_15 : decode cX12_isInRow 15 = .ok (.aload_n 0, 1) := by decide +kernel
theorem dX12_isInRow_16 : decode cX12_isInRow 16 = .ok (.getfield 145, 3) := by decide +kernel
theorem dX12_isInRow_19 : decode cX12_isInRow 19 = .ok (.iload 4, 2) := by decide +kernel
theorem dX12_isInRow_21 : decode cX12_isInRow 21 = .ok (.iaload, 1) := by decide +kernel
theorem dX12_isInRow_22 : decode cX12_isInRow 22 = .ok (.iload_n 1, 1) := by decide +kernel
theorem dX12_isInRow_23 : decode cX12_isInRow 23 = .ok (.if_icmp .ne 7, 3) := by decide +kernel
theorem dX12_isInRow_26 : decode cX12_isInRow 26 = .ok (.iconst 1, 1) := by decide +kernel
theorem dX12_isInRow_27 : decode cX12_isInRow 27 = .ok (.goto 4, 3) := by decide +kernel
theorem dX12_isInRow_30 : decode cX12_isInRow 30 = .ok (.iconst 0, 1) := by decide +kernel
theorem dX12_isInRow_31 : decode cX12_isInRow 31 = .ok (.istore_n 3, 1) := by decide +kernel
theorem dX12_isInRow_32 : decode cX12_isInRow 32 = .ok (.iinc 4 1, 3) := by decide +kernel
theorem dX12_isInRow_35 : decode cX12_isInRow 35 = .ok (.goto (-30), 3) := by decide +kernel
theorem dX12_isInRow_38 : decode cX12_isInRow 38 = .ok (.iload_n 3, 1) := by decide +kernel
theorem dX12_isInRow_39 : decode cX12_isInRow 39 = .ok (.ireturn, 1) := by decide +kernel
theorem dX12_note_0 : decode cX12_note 0 = .ok (.iload_n 1, 1) := by decide +kernel
theorem dX12_note_1 : decode cX12_note 1 = .ok (.iconst 2, 1) := by decide +kernel
theorem dX12_note_2 : decode cX12_note 2 = .ok (.if_icmp .lt 24, 3) := by decide +kernel
theorem dX12_note_5 : decode cX12_note 5 = .ok (.aload_n 0, 1) := by decide +kernel
theorem dX12_note_6 : decode cX12_note 6 = .ok (.aload_n 0, 1) := by decide +kernel
theorem dX12_note_7 : decode cX12_note 7 = .ok (.getfield 145, 3) := by decide +kernel
theorem dX12_note_10 : decode cX12_note 10 = .ok (.iload_n 1, 1) := by decide +kernel
theorem dX12_note_11 : decode cX12_note 11 = .ok (.iconst 1, 1) := by decide +kernel
theorem dX12_note_12 : decode cX12_note 12 = .ok (.isub, 1) := by decide +kernel
theorem dX12_note_13 : decode cX12_note 13 = .ok (.iaload, 1) := by decide +kernel
theorem dX12_note_14 : decode cX12_note 14 = .ok (.aload_n 0, 1) := by decide +kernel
theorem dX12_note_15 : decode cX12_note 15 = .ok (.getfield 145, 3) := by decide +kernel
theorem dX12_note_18 : decode cX12_note 18 = .ok (.iconst 0, 1) := by decide +kernel
theorem dX12_note_19 : decode cX12_note 19 = .ok (.iaload, 1) := by decide +kernel
theorem dX12_note_20 : decode cX12_note 20 = .ok (.invokevirtual 530, 3) := by decide +kernel
theorem dX12_note_23 : decode cX12_note 23 = .ok (.ifCond .ne 4, 3) := by decide +kernel
theorem dX12_note_26 : decode cX12_note 26 = .ok (.return_, 1) := by decide +kernel
theorem dX12_note_27 : decode cX12_note 27 = .ok (.aload_n 0, 1) := by decide +kernel
theorem dX12_note_28 : decode cX12_note 28 = .ok (.dup, 1) := by decide +kernel
theorem dX12_note_29 : decode cX12_note 29 = .ok (.getfield 506, 3) := by decide +kernel
theorem dX12_note_32 : decode cX12_note 32 = .ok (.iconst 1, 1) := by decide +kernel
theorem dX12_note_33 : decode cX12_note 33 = .ok (.iadd, 1) := by decide +kernel
theorem dX12_note_34 : decode cX12_note 34 = .ok (.putfield 506, 3) := by decide +kernel
theorem dX12_note_37 : decode cX12_note 37 = .ok (.sipush 9999, 3) := by decide +kernel
theorem dX12_note_40 : decode cX12_note 40 = .ok (.istore_n 2, 1) := by decide +kernel
theorem dX12_note_41 : decode cX12_note 41 = .ok (.iconst 0, 1) := by decide +kernel
theorem dX12_note_42 : decode cX12_note 42 = .ok (.istore_n 3, 1) := by decide +kernel
theorem dX12_note_43 : decode cX12_note 43 = .ok (.iload_n 3, 1) := by decide +kernel
theorem dX12_note_44 : decode cX12_note 44 = .ok (.iload_n 1, 1) := by decide +kernel
theorem dX12_note_45 : decode cX12_note 45 = .ok (.if_icmp .ge 44, 3) := by decide +kernel
theorem dX12_note_48 : decode cX12_note 48 = .ok (.aload_n 0, 1) := by decide +kernel
theorem dX12_note_49 : decode cX12_note 49 = .ok (.aload_n 0, 1) := by decide +kernel
theorem dX12_note_50 : decode cX12_note 50 = .ok (.getfield 145, 3) := by decide +kernel
theorem dX12_note_53 : decode cX12_note 53 = .ok (.iload_n 3, 1) := by decide +kernel
theorem dX12_note_54 : decode cX12_note 54 = .ok (.iaload, 1) := by decide +kernel
theorem dX12_note_55 : decode cX12_note 55 = .ok (.aload_n 0, 1) := by decide +kernel
theorem dX12_note_56 : decode cX12_note 56 = .ok (.getfield 145, 3) := by decide +kernel
theorem dX12_note_59 : decode cX12_note 59 = .ok (.iload_n 3, 1) := by decide +kernel
theorem dX12_note_60 : decode cX12_note 60 = .ok (.iconst 1, 1) := by decide +kernel
theorem dX12_note_61 : decode cX12_note 61 = .ok (.iadd, 1) := by decide +kernel
theorem dX12_note_62 : decode cX12_note 62 = .ok (.iload_n 1, 1) := by decide +kernel
theorem dX12_note_63 : decode cX12_note 63 = .ok (.irem, 1) := by decide +kernel
theorem dX12_note_64 : decode cX12_note 64 = .ok (.iaload, 1) := by decide +kernel
theorem dX12_note_65 : decode cX12_note 65 = .ok (.invokevirtual 530, 3) := by decide +kernel
theorem dX12_note_68 : decode cX12_note 68 = .ok (.istore 4, 2) := by decide +kernel
theorem dX12_note_70 : decode cX12_note 70 = .ok (.iload 4, 2) := by decide +kernel
theorem dX12_note_72 : decode cX12_note 72 = .ok (.iload_n 2, 1) := by decide +kernel
theorem dX12_note_73 : decode cX12_note 73 = .ok (.if_icmp .ge 8, 3) := by decide +kernel
theorem dX12_note_76 : decode cX12_note 76 = .ok (.iload 4, 2) := by decide +kernel
theorem dX12_note_78 : decode cX12_note 78 = .ok (.goto 4, 3) := by decide +kernel
theorem dX12_note_81 : decode cX12_note 81 = .ok (.iload_n 2, 1) := by decide +kernel
theorem dX12_note_82 : decode cX12_note 82 = .ok (.istore_n 2, 1) := by decide +kernel
theorem dX12_note_83 : decode cX12_note 83 = .ok (.iinc 3 1, 3) := by decide +kernel
theorem dX12_note_86 : decode cX12_note 86 = .ok (.goto (-43), 3) := by decide +kernel
theorem dX12_note_89 : decode cX12_note 89 = .ok (.iload_n 2, 1) := by decide +kernel
theorem dX12_note_90 : decode cX12_note 90 = .ok (.iload_n 1, 1) := by decide +kernel
theorem dX12_note_91 : decode cX12_note 91 = .ok (.imul, 1) := by decide +kernel
theorem dX12_note_92 : decode cX12_note 92 = .ok (.aload_n 0, 1) := by decide +kernel
theorem dX12_note_93 : decode cX12_note 93 = .ok (.getfield 509, 3) := by decide +kernel
theorem dX12_note_96 : decode cX12_note 96 = .ok (.if_icmp .gt 4, 3) := by decide +kernel
theorem dX12_note_99 : decode cX12_note 99 = .ok (.return_, 1) := by decide +kernel
theorem dX12_note_100 : decode cX12_note 100 = .ok (.aload_n 0, 1) := by decide +kernel
theorem dX12_note_101 : decode cX12_note 101 = .ok (.iload_n 2, 1) := by decide +kernel
theorem dX12_note_102 : decode cX12_note 102 = .ok (.iload_n 1, 1) := by decide +kernel
theorem dX12_note_103 : decode cX12_note 103 = .ok (.imul, 1) := by decide +kernel
theorem dX12_note_104 : decode cX12_note 104 = .ok (.putfield 509, 3) := by decide +kernel
theorem dX12_note_107 : decode cX12_note 107 = .ok (.aload_n 0, 1) := by decide +kernel
theorem dX12_note_108 : decode cX12_note 108 = .ok (.iload_n 1, 1) := by decide +kernel
theorem dX12_note_109 : decode cX12_note 109 = .ok (.putfield 512, 3) := by decide +kernel
theorem dX12_note_112 : decode cX12_note 112 = .ok (.iconst 0, 1) := by decide +kernel
theorem dX12_note_113 : decode cX12_note 113 = .ok (.istore_n 3, 1) := by decide +kernel
theorem dX12_note_114 : decode cX12_note 114 = .ok (.iload_n 3, 1) := by decide +kernel
theorem dX12_note_115 : decode cX12_note 115 = .ok (.iload_n 1, 1) := by decide +kernel
theorem dX12_note_116 : decode cX12_note 116 = .ok (.if_icmp .ge 21, 3) := by decide +kernel
theorem dX12_note_119 : decode cX12_note 119 = .ok (.aload_n 0, 1) := by decide +kernel
theorem dX12_note_120 : decode cX12_note 120 = .ok (.getfield 148, 3) := by decide +kernel
theorem dX12_note_123 : decode cX12_note 123 = .ok (.iload_n 3, 1) := by decide +kernel
theorem dX12_note_124 : decode cX12_note 124 = .ok (.aload_n 0, 1) := by decide +kernel
theorem dX12_note_125 : decode cX12_note 125 = .ok (.getfield 145, 3) := by decide +kernel
theorem dX12_note_128 : decode cX12_note 128 = .ok (.iload_n 3, 1) := by decide +kernel
theorem dX12_note_129 : decode cX12_note 129 = .ok (.iaload, 1) := by decide +kernel
theorem dX12_note_130 : decode cX12_note 130 = .ok (.iastore, 1) := by decide +kernel
theorem dX12_note_131 : decode cX12_note 131 = .ok (.iinc 3 1, 3) := by decide +kernel
theorem dX12_note_134 : decode cX12_note 134 = .ok (.goto (-20), 3) := by decide +kernel
theorem dX12_note_137 : decode cX12_note 137 = .ok (.return_, 1) := by decide +kernel
theorem dX12_nextAt_0 : decode cX12_nextAt 0 = .ok (.iload_n 2, 1) := by decide +kernel
theorem dX12_nextAt_1 : decode cX12_nextAt 1 = .ok (.iconst 1, 1) := by decide +kernel
theorem dX12_nextAt_2 : decode cX12_nextAt 2 = .ok (.iadd, 1) := by decide +kernel
theorem dX12_nextAt_3 : decode cX12_nextAt 3 = .ok (.istore_n 3, 1) := by decide +kernel
theorem dX12_nextAt_4 : decode cX12_nextAt 4 = .ok (.iload_n 3, 1) := by decide +kernel
theorem dX12_nextAt_5 : decode cX12_nextAt 5 = .ok (.aload_n 0, 1) := by decide +kernel
theorem dX12_nextAt_6 : decode cX12_nextAt 6 = .ok (.getfield 401, 3) := by decide +kernel
theorem dX12_nextAt_9 : decode cX12_nextAt 9 = .ok (.if_icmp .ge 46, 3) := by decide +kernel
theorem dX12_nextAt_12 : decode cX12_nextAt 12 = .ok (.iload_n 3, 1) := by decide +kernel
theorem dX12_nextAt_13 : decode cX12_nextAt 13 = .ok (.aload_n 0, 1) := by decide +kernel
theorem dX12_nextAt_14 : decode cX12_nextAt 14 = .ok (.getfield 145, 3) := by decide +kernel
theorem dX12_nextAt_17 : decode cX12_nextAt 17 = .ok (.iconst 0, 1) := by decide +kernel
theorem dX12_nextAt_18 : decode cX12_nextAt 18 = .ok (.iaload, 1) := by decide +kernel
theorem dX12_nextAt_19 : decode cX12_nextAt 19 = .ok (.if_icmp .le 30, 3) := by decide +kernel
theorem dX12_nextAt_22 : decode cX12_nextAt 22 = .ok (.aload_n 0, 1) := by decide +kernel
theorem dX12_nextAt_23 : decode cX12_nextAt 23 = .ok (.iload_n 3, 1) := by decide +kernel
theorem dX12_nextAt_24 : decode cX12_nextAt 24 = .ok (.iload_n 1, 1) := by decide +kernel
theorem dX12_nextAt_25 : decode cX12_nextAt 25 = .ok (.invokevirtual 533, 3) := by decide +kernel
theorem dX12_nextAt_28 : decode cX12_nextAt 28 = .ok (.ifCond .ne 21, 3) := by decide +kernel
theorem dX12_nextAt_31 : decode cX12_nextAt 31 = .ok (.aload_n 0, 1) := by decide +kernel
theorem dX12_nextAt_32 : decode cX12_nextAt 32 = .ok (.aload_n 0, 1) := by decide +kernel
theorem dX12_nextAt_33 : decode cX12_nextAt 33 = .ok (.getfield 145, 3) := by decide +kernel
theorem dX12_nextAt_36 : decode cX12_nextAt 36 = .ok (.iload_n 1, 1) := by decide +kernel
theorem dX12_nextAt_37 : decode cX12_nextAt 37 = .ok (.iconst 1, 1) := by decide +kernel
theorem dX12_nextAt_38 : decode cX12_nextAt 38 = .ok (.isub, 1) := by decide +kernel
theorem dX12_nextAt_39 : decode cX12_nextAt 39 = .ok (.iaload, 1) := by decide +kernel
theorem dX12_nextAt_40 : decode cX12_nextAt 40 = .ok (.iload_n 3, 1) := by decide +kernel
theorem dX12_nextAt_41 : decode cX12_nextAt 41 = .ok (.invokevirtual 530, 3) := by decide +kernel
theorem dX12_nextAt_44 : decode cX12_nextAt 44 = .ok (.ifCond .le 5, 3) := by decide +kernel
theorem dX12_nextAt_47 : decode cX12_nextAt 47 = .ok (.iload_n 3, 1) := by decide +kernel
theorem dX12_nextAt_48 : decode cX12_nextAt 48 = .ok (.ireturn, 1) := by decide +kernel
theorem dX12_nextAt_49 : decode cX12_nextAt 49 = .ok (.iinc 3 1, 3) := by decide +kernel
theorem dX12_nextAt_52 : decode cX12_nextAt 52 = .ok (.goto (-48), 3) := by decide +kernel
theorem dX12_nextAt_55 : decode cX12_nextAt 55 = .ok (.iconst (-1), 1) := by decide +kernel
theorem dX12_nextAt_56 : decode cX12_nextAt 56 = .ok (.ireturn, 1) := by decide +kernel
theorem dX12_layRings_0 : decode cX12_layRings 0 = .ok (.aload_n 0, 1) := by decide +kernel
theorem dX12_layRings_1 : decode cX12_layRings 1 = .ok (.iconst 0, 1) := by decide +kernel
theorem dX12_layRings_2 : decode cX12_layRings 2 = .ok (.putfield 506, 3) := by decide +kernel
theorem dX12_layRings_5 : decode cX12_layRings 5 = .ok (.aload_n 0, 1) := by decide +kernel
theorem dX12_layRings_6 : decode cX12_layRings 6 = .ok (.iconst 0, 1) := by decide +kernel
theorem dX12_layRings_7 : decode cX12_layRings 7 = .ok (.putfield 509, 3) := by decide +kernel
theorem dX12_layRings_10 : decode cX12_layRings 10 = .ok (.aload_n 0, 1) := by decide +kernel
theorem dX12_layRings_11 : decode cX12_layRings 11 = .ok (.iconst 0, 1) := by decide +kernel
theorem dX12_layRings_12 : decode cX12_layRings 12 = .ok (.putfield 512, 3) := by decide +kernel
theorem dX12_layRings_15 : decode cX12_layRings 15 = .ok (.iconst 0, 1) := by decide +kernel
theorem dX12_layRings_16 : decode cX12_layRings 16 = .ok (.istore_n 1, 1) := by decide +kernel
theorem dX12_layRings_17 : decode cX12_layRings 17 = .ok (.iload_n 1, 1) := by decide +kernel
theorem dX12_layRings_18 : decode cX12_layRings 18 = .ok (.aload_n 0, 1) := by decide +kernel
theorem dX12_layRings_19 : decode cX12_layRings 19 = .ok (.getfield 401, 3) := by decide +kernel
theorem dX12_layRings_22 : decode cX12_layRings 22 = .ok (.if_icmp .ge 71, 3) := by decide +kernel
theorem dX12_layRings_25 : decode cX12_layRings 25 = .ok (.aload_n 0, 1) := by decide +kernel
theorem dX12_layRings_26 : decode cX12_layRings 26 = .ok (.getfield 145, 3) := by decide +kernel
theorem dX12_layRings_29 : decode cX12_layRings 29 = .ok (.iconst 0, 1) := by decide +kernel
theorem dX12_layRings_30 : decode cX12_layRings 30 = .ok (.iload_n 1, 1) := by decide +kernel
theorem dX12_layRings_31 : decode cX12_layRings 31 = .ok (.iastore, 1) := by decide +kernel
theorem dX12_layRings_32 : decode cX12_layRings 32 = .ok (.iconst 1, 1) := by decide +kernel
theorem dX12_layRings_33 : decode cX12_layRings 33 = .ok (.istore_n 2, 1) := by decide +kernel
theorem dX12_layRings_34 : decode cX12_layRings 34 = .ok (.iconst (-1), 1) := by decide +kernel
theorem dX12_layRings_35 : decode cX12_layRings 35 = .ok (.istore_n 3, 1) := by decide +kernel
theorem dX12_layRings_36 : decode cX12_layRings 36 = .ok (.iload_n 2, 1) := by decide +kernel
theorem dX12_layRings_37 : decode cX12_layRings 37 = .ok (.ifCond .le 50, 3) := by decide +kernel
theorem dX12_layRings_40 : decode cX12_layRings 40 = .ok (.aload_n 0, 1) := by decide +kernel
theorem dX12_layRings_41 : decode cX12_layRings 41 = .ok (.iload_n 2, 1) := by decide +kernel
theorem dX12_layRings_42 : decode cX12_layRings 42 = .ok (.iload_n 3, 1) := by decide +kernel
theorem dX12_layRings_43 : decode cX12_layRings 43 = .ok (.invokevirtual 536, 3) := by decide +kernel
theorem dX12_layRings_46 : decode cX12_layRings 46 = .ok (.istore 4, 2) := by decide +kernel
theorem dX12_layRings_48 : decode cX12_layRings 48 = .ok (.iload 4, 2) := by decide +kernel
theorem dX12_layRings_50 : decode cX12_layRings 50 = .ok (.ifCond .lt 24, 3) := by decide +kernel
theorem dX12_layRings_53 : decode cX12_layRings 53 = .ok (.aload_n 0, 1) := by decide +kernel
theorem dX12_layRings_54 : decode cX12_layRings 54 = .ok (.getfield 145, 3) := by decide +kernel
theorem dX12_layRings_57 : decode cX12_layRings 57 = .ok (.iload_n 2, 1) := by decide +kernel
theorem dX12_layRings_58 : decode cX12_layRings 58 = .ok (.iload 4, 2) := by decide +kernel
theorem dX12_layRings_60 : decode cX12_layRings 60 = .ok (.iastore, 1) := by decide +kernel
theorem dX12_layRings_61 : decode cX12_layRings 61 = .ok (.iinc 2 1, 3) := by decide +kernel
theorem dX12_layRings_64 : decode cX12_layRings 64 = .ok (.aload_n 0, 1) := by decide +kernel
theorem dX12_layRings_65 : decode cX12_layRings 65 = .ok (.iload_n 2, 1) := by decide +kernel
theorem dX12_layRings_66 : decode cX12_layRings 66 = .ok (.invokevirtual 539, 3) := by decide +kernel
theorem dX12_layRings_69 : decode cX12_layRings 69 = .ok (.iconst (-1), 1) := by decide +kernel
theorem dX12_layRings_70 : decode cX12_layRings 70 = .ok (.istore_n 3, 1) := by decide +kernel
theorem dX12_layRings_71 : decode cX12_layRings 71 = .ok (.goto 13, 3) := by decide +kernel
theorem dX12_layRings_74 : decode cX12_layRings 74 = .ok (.iinc 2 (-1), 3) := by decide +kernel
theorem dX12_layRings_77 : decode cX12_layRings 77 = .ok (.aload_n 0, 1) := by decide +kernel
theorem dX12_layRings_78 : decode cX12_layRings 78 = .ok (.getfield 145, 3) := by decide +kernel
theorem dX12_layRings_81 : decode cX12_layRings 81 = .ok (.iload_n 2, 1) := by decide +kernel
theorem dX12_layRings_82 : decode cX12_layRings 82 = .ok (.iaload, 1) := by decide +kernel
theorem dX12_layRings_83 : decode cX12_layRings 83 = .ok (.istore_n 3, 1) := by decide +kernel
theorem dX12_layRings_84 : decode cX12_layRings 84 = .ok (.goto (-48), 3) := by decide +kernel
theorem dX12_layRings_87 : decode cX12_layRings 87 = .ok (.iinc 1 1, 3) := by decide +kernel
theorem dX12_layRings_90 : decode cX12_layRings 90 = .ok (.goto (-73), 3) := by decide +kernel
theorem dX12_layRings_93 : decode cX12_layRings 93 = .ok (.return_, 1) := by decide +kernel
theorem dX12_rings_0 : decode cX12_rings 0 = .ok (.aload_n 0, 1) := by decide +kernel
theorem dX12_rings_1 : decode cX12_rings 1 = .ok (.invokevirtual 503, 3) := by decide +kernel
theorem dX12_rings_4 : decode cX12_rings 4 = .ok (.aload_n 0, 1) := by decide +kernel
theorem dX12_rings_5 : decode cX12_rings 5 = .ok (.getfield 506, 3) := by decide +kernel
theorem dX12_rings_8 : decode cX12_rings 8 = .ok (.ireturn, 1) := by decide +kernel
theorem dX12_ring_0 : decode cX12_ring 0 = .ok (.aload_n 0, 1) := by decide +kernel
theorem dX12_ring_1 : decode cX12_ring 1 = .ok (.invokevirtual 503, 3) := by decide +kernel
theorem dX12_ring_4 : decode cX12_ring 4 = .ok (.aload_n 0, 1) := by decide +kernel
theorem dX12_ring_5 : decode cX12_ring 5 = .ok (.aload_n 0, 1) := by decide +kernel
theorem dX12_ring_6 : decode cX12_ring 6 = .ok (.getfield 512, 3) := by decide +kernel
theorem dX12_ring_9 : decode cX12_ring 9 = .ok (.putfield 425, 3) := by decide +kernel
theorem dX12_ring_12 : decode cX12_ring 12 = .ok (.iconst 0, 1) := by decide +kernel
theorem dX12_ring_13 : decode cX12_ring 13 = .ok (.istore_n 1, 1) := by decide +kernel
theorem dX12_ring_14 : decode cX12_ring 14 = .ok (.iload_n 1, 1) := by decide +kernel
theorem dX12_ring_15 : decode cX12_ring 15 = .ok (.aload_n 0, 1) := by decide +kernel
theorem dX12_ring_16 : decode cX12_ring 16 = .ok (.getfield 512, 3) := by decide +kernel
theorem dX12_ring_19 : decode cX12_ring 19 = .ok (.if_icmp .ge 21, 3) := by decide +kernel
theorem dX12_ring_22 : decode cX12_ring 22 = .ok (.aload_n 0, 1) := by decide +kernel
theorem dX12_ring_23 : decode cX12_ring 23 = .ok (.getfield 142, 3) := by decide +kernel
theorem dX12_ring_26 : decode cX12_ring 26 = .ok (.iload_n 1, 1) := by decide +kernel
theorem dX12_ring_27 : decode cX12_ring 27 = .ok (.aload_n 0, 1) := by decide +kernel
theorem dX12_ring_28 : decode cX12_ring 28 = .ok (.getfield 148, 3) := by decide +kernel
theorem dX12_ring_31 : decode cX12_ring 31 = .ok (.iload_n 1, 1) := by decide +kernel
theorem dX12_ring_32 : decode cX12_ring 32 = .ok (.iaload, 1) := by decide +kernel
theorem dX12_ring_33 : decode cX12_ring 33 = .ok (.iastore, 1) := by decide +kernel
theorem dX12_ring_34 : decode cX12_ring 34 = .ok (.iinc 1 1, 3) := by decide +kernel
theorem dX12_ring_37 : decode cX12_ring 37 = .ok (.goto (-23), 3) := by decide +kernel
theorem dX12_ring_40 : decode cX12_ring 40 = .ok (.aload_n 0, 1) := by decide +kernel
theorem dX12_ring_41 : decode cX12_ring 41 = .ok (.getfield 509, 3) := by decide +kernel
theorem dX12_ring_44 : decode cX12_ring 44 = .ok (.ireturn, 1) := by decide +kernel
theorem dX12_owedBy_0 : decode cX12_owedBy 0 = .ok (.aload_n 0, 1) := by decide +kernel
theorem dX12_owedBy_1 : decode cX12_owedBy 1 = .ok (.invokevirtual 487, 3) := by decide +kernel
theorem dX12_owedBy_4 : decode cX12_owedBy 4 = .ok (.aload_n 0, 1) := by decide +kernel
theorem dX12_owedBy_5 : decode cX12_owedBy 5 = .ok (.getfield 117, 3) := by decide +kernel
theorem dX12_owedBy_8 : decode cX12_owedBy 8 = .ok (.iload_n 1, 1) := by decide +kernel
theorem dX12_owedBy_9 : decode cX12_owedBy 9 = .ok (.iload_n 3, 1) := by decide +kernel
theorem dX12_owedBy_10 : decode cX12_owedBy 10 = .ok (.iastore, 1) := by decide +kernel
theorem dX12_owedBy_11 : decode cX12_owedBy 11 = .ok (.aload_n 0, 1) := by decide +kernel
theorem dX12_owedBy_12 : decode cX12_owedBy 12 = .ok (.iload_n 2, 1) := by decide +kernel
theorem dX12_owedBy_13 : decode cX12_owedBy 13 = .ok (.invokevirtual 497, 3) := by decide +kernel
theorem dX12_owedBy_16 : decode cX12_owedBy 16 = .ok (.aload_n 0, 1) := by decide +kernel
theorem dX12_owedBy_17 : decode cX12_owedBy 17 = .ok (.iload_n 1, 1) := by decide +kernel
theorem dX12_owedBy_18 : decode cX12_owedBy 18 = .ok (.iconst 1, 1) := by decide +kernel
theorem dX12_owedBy_19 : decode cX12_owedBy 19 = .ok (.invokevirtual 490, 3) := by decide +kernel
theorem dX12_owedBy_22 : decode cX12_owedBy 22 = .ok (.ireturn, 1) := by decide +kernel
theorem dX12_hide_0 : decode cX12_hide 0 = .ok (.aload_n 0, 1) := by decide +kernel
theorem dX12_hide_1 : decode cX12_hide 1 = .ok (.iload_n 1, 1) := by decide +kernel
theorem dX12_hide_2 : decode cX12_hide 2 = .ok (.invokevirtual 432, 3) := by decide +kernel
theorem dX12_hide_5 : decode cX12_hide 5 = .ok (.ifCond .eq 22, 3) := by decide +kernel
theorem dX12_hide_8 : decode cX12_hide 8 = .ok (.iload_n 2, 1) := by decide +kernel
theorem dX12_hide_9 : decode cX12_hide 9 = .ok (.iconst 1, 1) := by decide +kernel
theorem dX12_hide_10 : decode cX12_hide 10 = .ok (.bipush 60, 2) := by decide +kernel
theorem dX12_hide_12 : decode cX12_hide 12 = .ok (.invokestatic 428, 3) := by decide +kernel
theorem dX12_hide_15 : decode cX12_hide 15 = .ok (.ifCond .eq 12, 3) := by decide +kernel
theorem dX12_hide_18 : decode cX12_hide 18 = .ok (.iload_n 3, 1) := by decide +kernel
theorem dX12_hide_19 : decode cX12_hide 19 = .ok (.iconst 0, 1) := by decide +kernel
theorem dX12_hide_20 : decode cX12_hide 20 = .ok (.iconst 1, 1) := by decide +kernel
theorem dX12_hide_21 : decode cX12_hide 21 = .ok (.invokestatic 428, 3) := by decide +kernel
theorem dX12_hide_24 : decode cX12_hide 24 = .ok (.ifCond .ne 6, 3) := by decide +kernel
theorem dX12_hide_27 : decode cX12_hide 27 = .ok (.bipush (-2), 2) := by decide +kernel
theorem dX12_hide_29 : decode cX12_hide 29 = .ok (.ireturn, 1) := by decide +kernel
theorem dX12_hide_30 : decode cX12_hide 30 = .ok (.aload_n 0, 1) := by decide +kernel
theorem dX12_hide_31 : decode cX12_hide 31 = .ok (.getfield 75, 3) := by decide +kernel
theorem dX12_hide_34 : decode cX12_hide 34 = .ok (.iload_n 1, 1) := by decide +kernel
theorem dX12_hide_35 : decode cX12_hide 35 = .ok (.iaload, 1) := by decide +kernel
theorem dX12_hide_36 : decode cX12_hide 36 = .ok (.istore 4, 2) := by decide +kernel
theorem dX12_hide_38 : decode cX12_hide 38 = .ok (.aload_n 0, 1) := by decide +kernel
theorem dX12_hide_39 : decode cX12_hide 39 = .ok (.iload_n 1, 1) := by decide +kernel
theorem dX12_hide_40 : decode cX12_hide 40 = .ok (.iload_n 2, 1) := by decide +kernel
theorem dX12_hide_41 : decode cX12_hide 41 = .ok (.iload 4, 2) := by decide +kernel
theorem dX12_hide_43 : decode cX12_hide 43 = .ok (.invokevirtual 542, 3) := by decide +kernel
theorem dX12_hide_46 : decode cX12_hide 46 = .ok (.istore 5, 2) := by decide +kernel
theorem dX12_hide_48 : decode cX12_hide 48 = .ok (.iconst 0, 1) := by decide +kernel
theorem dX12_hide_49 : decode cX12_hide 49 = .ok (.istore 6, 2) := by decide +kernel
theorem dX12_hide_51 : decode cX12_hide 51 = .ok (.iload 6, 2) := by decide +kernel
theorem dX12_hide_53 : decode cX12_hide 53 = .ok (.aload_n 0, 1) := by decide +kernel
theorem dX12_hide_54 : decode cX12_hide 54 = .ok (.getfield 96, 3) := by decide +kernel
theorem dX12_hide_57 : decode cX12_hide 57 = .ok (.aload_n 0, 1) := by decide +kernel
theorem dX12_hide_58 : decode cX12_hide 58 = .ok (.getfield 78, 3) := by decide +kernel
theorem dX12_hide_61 : decode cX12_hide 61 = .ok (.iload_n 1, 1) := by decide +kernel
theorem dX12_hide_62 : decode cX12_hide 62 = .ok (.iaload, 1) := by decide +kernel
theorem dX12_hide_63 : decode cX12_hide 63 = .ok (.aload_n 0, 1) := by decide +kernel
theorem dX12_hide_64 : decode cX12_hide 64 = .ok (.getfield 75, 3) := by decide +kernel
theorem dX12_hide_67 : decode cX12_hide 67 = .ok (.iload_n 1, 1) := by decide +kernel
theorem dX12_hide_68 : decode cX12_hide 68 = .ok (.iaload, 1) := by decide +kernel
theorem dX12_hide_69 : decode cX12_hide 69 = .ok (.isub, 1) := by decide +kernel
theorem dX12_hide_70 : decode cX12_hide 70 = .ok (.isub, 1) := by decide +kernel
theorem dX12_hide_71 : decode cX12_hide 71 = .ok (.if_icmp .gt 37, 3) := by decide +kernel
theorem dX12_hide_74 : decode cX12_hide 74 = .ok (.aload_n 0, 1) := by decide +kernel
theorem dX12_hide_75 : decode cX12_hide 75 = .ok (.iload_n 1, 1) := by decide +kernel
theorem dX12_hide_76 : decode cX12_hide 76 = .ok (.iload_n 2, 1) := by decide +kernel
theorem dX12_hide_77 : decode cX12_hide 77 = .ok (.iload 6, 2) := by decide +kernel
theorem dX12_hide_79 : decode cX12_hide 79 = .ok (.invokevirtual 542, 3) := by decide +kernel
theorem dX12_hide_82 : decode cX12_hide 82 = .ok (.istore 7, 2) := by decide +kernel
theorem dX12_hide_84 : decode cX12_hide 84 = .ok (.iload 7, 2) := by decide +kernel
theorem dX12_hide_86 : decode cX12_hide 86 = .ok (.iload 5, 2) := by decide +kernel
theorem dX12_hide_88 : decode cX12_hide 88 = .ok (.if_icmp .gt 6, 3) := by decide +kernel
theorem dX12_hide_91 : decode cX12_hide 91 = .ok (.goto 11, 3) := by decide +kernel
theorem dX12_hide_94 : decode cX12_hide 94 = .ok (.iload 7, 2) := by decide +kernel
theorem dX12_hide_96 : decode cX12_hide 96 = .ok (.istore 5, 2) := by decide +kernel
theorem dX12_hide_98 : decode cX12_hide 98 = .ok (.iload 6, 2) := by decide +kernel
theorem dX12_hide_100 : decode cX12_hide 100 = .ok (.istore 4, 2) := by decide +kernel
theorem dX12_hide_102 : decode cX12_hide 102 = .ok (.iinc 6 1, 3) := by decide +kernel
theorem dX12_hide_105 : decode cX12_hide 105 = .ok (.goto (-54), 3) := by decide +kernel
theorem dX12_hide_108 : decode cX12_hide 108 = .ok (.iload_n 3, 1) := by decide +kernel
theorem dX12_hide_109 : decode cX12_hide 109 = .ok (.ifCond .ne 8, 3) := by decide +kernel
theorem dX12_hide_112 : decode cX12_hide 112 = .ok (.iload 5, 2) := by decide +kernel
theorem dX12_hide_114 : decode cX12_hide 114 = .ok (.goto 5, 3) := by decide +kernel
theorem dX12_hide_117 : decode cX12_hide 117 = .ok (.iload 4, 2) := by decide +kernel
theorem dX12_hide_119 : decode cX12_hide 119 = .ok (.ireturn, 1) := by decide +kernel
theorem dX12_word_0 : decode cX12_word 0 = .ok (.aload_n 0, 1) := by decide +kernel
theorem dX12_word_1 : decode cX12_word 1 = .ok (.iconst 0, 1) := by decide +kernel
theorem dX12_word_2 : decode cX12_word 2 = .ok (.putfield 425, 3) := by decide +kernel
theorem dX12_word_5 : decode cX12_word 5 = .ok (.aload_n 0, 1) := by decide +kernel
theorem dX12_word_6 : decode cX12_word 6 = .ok (.iload_n 1, 1) := by decide +kernel
theorem dX12_word_7 : decode cX12_word 7 = .ok (.iload_n 2, 1) := by decide +kernel
theorem dX12_word_8 : decode cX12_word 8 = .ok (.invokevirtual 484, 3) := by decide +kernel
theorem dX12_word_11 : decode cX12_word 11 = .ok (.ifCond .eq 13, 3) := by decide +kernel
theorem dX12_word_14 : decode cX12_word 14 = .ok (.iload_n 3, 1) := by decide +kernel
theorem dX12_word_15 : decode cX12_word 15 = .ok (.iconst 1, 1) := by decide +kernel
theorem dX12_word_16 : decode cX12_word 16 = .ok (.bipush 60, 2) := by decide +kernel
theorem dX12_word_18 : decode cX12_word 18 = .ok (.invokestatic 428, 3) := by decide +kernel
theorem dX12_word_21 : decode cX12_word 21 = .ok (.ifCond .ne 5, 3) := by decide +kernel
theorem dX12_word_24 : decode cX12_word 24 = .ok (.iconst (-1), 1) := by decide +kernel
theorem dX12_word_25 : decode cX12_word 25 = .ok (.ireturn, 1) := by decide +kernel
theorem dX12_word_26 : decode cX12_word 26 = .ok (.iconst 0, 1) := by decide +kernel
theorem dX12_word_27 : decode cX12_word 27 = .ok (.istore 4, 2) := by decide +kernel
theorem dX12_word_29 : decode cX12_word 29 = .ok (.iconst 0, 1) := by decide +kernel
theorem dX12_word_30 : decode cX12_word 30 = .ok (.istore 5, 2) := by decide +kernel
theorem dX12_word_32 : decode cX12_word 32 = .ok (.iconst 0, 1) := by decide +kernel
theorem dX12_word_33 : decode cX12_word 33 = .ok (.istore 6, 2) := by decide +kernel
theorem dX12_word_35 : decode cX12_word 35 = .ok (.iload 6, 2) := by decide +kernel
theorem dX12_word_37 : decode cX12_word 37 = .ok (.aload_n 0, 1) := by decide +kernel
theorem dX12_word_38 : decode cX12_word 38 = .ok (.getfield 404, 3) := by decide +kernel
theorem dX12_word_41 : decode cX12_word 41 = .ok (.ifCond .eq 12, 3) := by decide +kernel
theorem dX12_word_44 : decode cX12_word 44 = .ok (.aload_n 0, 1) := by decide +kernel
theorem dX12_word_45 : decode cX12_word 45 = .ok (.getfield 36, 3) := by decide +kernel
theorem dX12_word_48 : decode cX12_word 48 = .ok (.iconst 0, 1) := by decide +kernel
theorem dX12_word_49 : decode cX12_word 49 = .ok (.iaload, 1) := by decide +kernel
theorem dX12_word_50 : decode cX12_word 50 = .ok (.goto 4, 3) := by decide +kernel
theorem dX12_word_53 : decode cX12_word 53 = .ok (.iconst 0, 1) := by decide +kernel
theorem dX12_word_54 : decode cX12_word 54 = .ok (.if_icmp .ge 133, 3) := by decide +kernel
theorem dX12_word_57 : decode cX12_word 57 = .ok (.aload_n 0, 1) := by decide +kernel
theorem dX12_word_58 : decode cX12_word 58 = .ok (.getfield 30, 3) := by decide +kernel
theorem dX12_word_61 : decode cX12_word 61 = .ok (.iload 6, 2) := by decide +kernel
theorem dX12_word_63 : decode cX12_word 63 = .ok (.iaload, 1) := by decide +kernel
theorem dX12_word_64 : decode cX12_word 64 = .ok (.ifCond .eq 6, 3) := by decide +kernel
theorem dX12_word_67 : decode cX12_word 67 = .ok (.goto 114, 3) := by decide +kernel
theorem dX12_word_70 : decode cX12_word 70 = .ok (.aload_n 0, 1) := by decide +kernel
theorem dX12_word_71 : decode cX12_word 71 = .ok (.getfield 33, 3) := by decide +kernel
theorem dX12_word_74 : decode cX12_word 74 = .ok (.iload 6, 2) := by decide +kernel
theorem dX12_word_76 : decode cX12_word 76 = .ok (.iaload, 1) := by decide +kernel
theorem dX12_word_77 : decode cX12_word 77 = .ok (.istore 7, 2) := by decide +kernel
theorem dX12_word_79 : decode cX12_word 79 = .ok (.iconst 0, 1) := by decide +kernel
theorem dX12_word_80 : decode cX12_word 80 = .ok (.istore 8, 2) := by decide +kernel
theorem dX12_word_82 : decode cX12_word 82 = .ok (.iload 8, 2) := by decide +kernel
theorem dX12_word_84 : decode cX12_word 84 = .ok (.bipush 99, 2) := by decide +kernel
theorem dX12_word_86 : decode cX12_word 86 = .ok (.if_icmp .gt 83, 3) := by decide +kernel
theorem dX12_word_89 : decode cX12_word 89 = .ok (.iload 8, 2) := by decide +kernel
theorem dX12_word_91 : decode cX12_word 91 = .ok (.iload 7, 2) := by decide +kernel
theorem dX12_word_93 : decode cX12_word 93 = .ok (.if_icmp .ne 6, 3) := by decide +kernel
theorem dX12_word_96 : decode cX12_word 96 = .ok (.goto 67, 3) := by decide +kernel
theorem dX12_word_99 : decode cX12_word 99 = .ok (.aload_n 0, 1) := by decide +kernel
theorem dX12_word_100 : decode cX12_word 100 = .ok (.getfield 33, 3) := by decide +kernel
theorem dX12_word_103 : decode cX12_word 103 = .ok (.iload 6, 2) := by decide +kernel
theorem dX12_word_105 : decode cX12_word 105 = .ok (.iload 8, 2) := by decide +kernel
theorem dX12_word_107 : decode cX12_word 107 = .ok (.iastore, 1) := by decide +kernel
theorem dX12_word_108 : decode cX12_word 108 = .ok (.aload_n 0, 1) := by decide +kernel
theorem dX12_word_109 : decode cX12_word 109 = .ok (.invokevirtual 487, 3) := by decide +kernel
theorem dX12_word_112 : decode cX12_word 112 = .ok (.aload_n 0, 1) := by decide +kernel
theorem dX12_word_113 : decode cX12_word 113 = .ok (.iload_n 3, 1) := by decide +kernel
theorem dX12_word_114 : decode cX12_word 114 = .ok (.invokevirtual 497, 3) := by decide +kernel
theorem dX12_word_117 : decode cX12_word 117 = .ok (.aload_n 0, 1) := by decide +kernel
theorem dX12_word_118 : decode cX12_word 118 = .ok (.getfield 114, 3) := by decide +kernel
theorem dX12_word_121 : decode cX12_word 121 = .ok (.bipush 6, 2) := by decide +kernel
theorem dX12_word_123 : decode cX12_word 123 = .ok (.iload_n 1, 1) := by decide +kernel
theorem dX12_word_124 : decode cX12_word 124 = .ok (.imul, 1) := by decide +kernel
theorem dX12_word_125 : decode cX12_word 125 = .ok (.iload_n 2, 1) := by decide +kernel
theorem dX12_word_126 : decode cX12_word 126 = .ok (.iadd, 1) := by decide +kernel
theorem dX12_word_127 : decode cX12_word 127 = .ok (.iaload, 1) := by decide +kernel
theorem dX12_word_128 : decode cX12_word 128 = .ok (.ifCond .le 6, 3) := by decide +kernel
theorem dX12_word_131 : decode cX12_word 131 = .ok (.goto 32, 3) := by decide +kernel
theorem dX12_word_134 : decode cX12_word 134 = .ok (.iload 4, 2) := by decide +kernel
theorem dX12_word_136 : decode cX12_word 136 = .ok (.ifCond .ne 24, 3) := by decide +kernel
theorem dX12_word_139 : decode cX12_word 139 = .ok (.aload_n 0, 1) := by decide +kernel
theorem dX12_word_140 : decode cX12_word 140 = .ok (.getfield 142, 3) := by decide +kernel
theorem dX12_word_143 : decode cX12_word 143 = .ok (.iconst 0, 1) := by decide +kernel
theorem dX12_word_144 : decode cX12_word 144 = .ok (.iload 5, 2) := by decide +kernel
theorem dX12_word_146 : decode cX12_word 146 = .ok (.iastore, 1) := by decide +kernel
theorem dX12_word_147 : decode cX12_word 147 = .ok (.aload_n 0, 1) := by decide +kernel
theorem dX12_word_148 : decode cX12_word 148 = .ok (.getfield 142, 3) := by decide +kernel
theorem dX12_word_151 : decode cX12_word 151 = .ok (.iconst 1, 1) := by decide +kernel
theorem dX12_word_152 : decode cX12_word 152 = .ok (.iload 8, 2) := by decide +kernel
theorem dX12_word_154 : decode cX12_word 154 = .ok (.iastore, 1) := by decide +kernel
theorem dX12_word_155 : decode cX12_word 155 = .ok (.aload_n 0, 1) := by decide +kernel
theorem dX12_word_156 : decode cX12_word 156 = .ok (.iconst 2, 1) := by decide +kernel
theorem dX12_word_157 : decode cX12_word 157 = .ok (.putfield 425, 3) := by decide +kernel
theorem dX12_word_160 : decode cX12_word 160 = .ok (.iinc 4 1, 3) := by decide +kernel
theorem dX12_word_163 : decode cX12_word 163 = .ok (.iinc 8 1, 3) := by decide +kernel
theorem dX12_word_166 : decode cX12_word 166 = .ok (.goto (-84), 3) := by decide +kernel
theorem dX12_word_169 : decode cX12_word 169 = .ok (.aload_n 0, 1) := by decide +kernel
theorem dX12_word_170 : decode cX12_word 170 = .ok (.getfield 33, 3) := by decide +kernel
theorem dX12_word_173 : decode cX12_word 173 = .ok (.iload 6, 2) := by decide +kernel
theorem dX12_word_175 : decode cX12_word 175 = .ok (.iload 7, 2) := by decide +kernel
theorem dX12_word_177 : decode cX12_word 177 = .ok (.iastore, 1) := by decide +kernel
theorem dX12_word_178 : decode cX12_word 178 = .ok (.iinc 5 1, 3) := by decide +kernel
theorem dX12_word_181 : decode cX12_word 181 = .ok (.iinc 6 1, 3) := by decide +kernel
theorem dX12_word_184 : decode cX12_word 184 = .ok (.goto (-149), 3) := by decide +kernel
theorem dX12_word_187 : decode cX12_word 187 = .ok (.iload 4, 2) := by decide +kernel
theorem dX12_word_189 : decode cX12_word 189 = .ok (.ireturn, 1) := by decide +kernel
theorem dX12_lies_0 : decode cX12_lies 0 = .ok (.iload_n 1, 1) := by decide +kernel
theorem dX12_lies_1 : decode cX12_lies 1 = .ok (.iconst 0, 1) := by decide +kernel
theorem dX12_lies_2 : decode cX12_lies 2 = .ok (.aload_n 0, 1) := by decide +kernel
theorem dX12_lies_3 : decode cX12_lies 3 = .ok (.getfield 425, 3) := by decide +kernel
theorem dX12_lies_6 : decode cX12_lies 6 = .ok (.iconst 1, 1) := by decide +kernel
theorem dX12_lies_7 : decode cX12_lies 7 = .ok (.isub, 1) := by decide +kernel
theorem dX12_lies_8 : decode cX12_lies 8 = .ok (.invokestatic 428, 3) := by decide +kernel
theorem dX12_lies_11 : decode cX12_lies 11 = .ok (.ifCond .eq 12, 3) := by decide +kernel
theorem dX12_lies_14 : decode cX12_lies 14 = .ok (.aload_n 0, 1) := by decide +kernel
theorem dX12_lies_15 : decode cX12_lies 15 = .ok (.getfield 142, 3) := by decide +kernel
theorem dX12_lies_18 : decode cX12_lies 18 = .ok (.iload_n 1, 1) := by decide +kernel
theorem dX12_lies_19 : decode cX12_lies 19 = .ok (.iaload, 1) := by decide +kernel
theorem dX12_lies_20 : decode cX12_lies 20 = .ok (.goto 6, 3) := by decide +kernel
theorem dX12_lies_23 : decode cX12_lies 23 = .ok (.ldc_w 545, 3) := by decide +kernel
theorem dX12_lies_26 : decode cX12_lies 26 = .ok (.ireturn, 1) := by decide +kernel
theorem dX12_step_0 : decode cX12_step 0 = .ok (.aload_n 0, 1) := by decide +kernel
theorem dX12_step_1 : decode cX12_step 1 = .ok (.iload_n 1, 1) := by decide +kernel
theorem dX12_step_2 : decode cX12_step 2 = .ok (.invokevirtual 432, 3) := by decide +kernel
theorem dX12_step_5 : decode cX12_step 5 = .ok (.ifCond .eq 36, 3) := by decide +kernel
theorem dX12_step_8 : decode cX12_step 8 = .ok (.iload_n 2, 1) := by decide +kernel
theorem dX12_step_9 : decode cX12_step 9 = .ok (.iconst 0, 1) := by decide +kernel
theorem dX12_step_10 : decode cX12_step 10 = .ok (.aload_n 0, 1) := by decide +kernel
theorem dX12_step_11 : decode cX12_step 11 = .ok (.getfield 96, 3) := by decide +kernel
theorem dX12_step_14 : decode cX12_step 14 = .ok (.iconst 1, 1) := by decide +kernel
theorem dX12_step_15 : decode cX12_step 15 = .ok (.isub, 1) := by decide +kernel
theorem dX12_step_16 : decode cX12_step 16 = .ok (.invokestatic 428, 3) := by decide +kernel
theorem dX12_step_19 : decode cX12_step 19 = .ok (.ifCond .eq 22, 3) := by decide +kernel
theorem dX12_step_22 : decode cX12_step 22 = .ok (.iload_n 3, 1) := by decide +kernel
theorem dX12_step_23 : decode cX12_step 23 = .ok (.iconst 0, 1) := by decide +kernel
theorem dX12_step_24 : decode cX12_step 24 = .ok (.bipush 20, 2) := by decide +kernel
theorem dX12_step_26 : decode cX12_step 26 = .ok (.invokestatic 428, 3) := by decide +kernel
theorem dX12_step_29 : decode cX12_step 29 = .ok (.ifCond .eq 12, 3) := by decide +kernel
theorem dX12_step_32 : decode cX12_step 32 = .ok (.aload_n 0, 1) := by decide +kernel
theorem dX12_step_33 : decode cX12_step 33 = .ok (.getfield 422, 3) := by decide +kernel
theorem dX12_step_36 : decode cX12_step 36 = .ok (.bipush 30, 2) := by decide +kernel
theorem dX12_step_38 : decode cX12_step 38 = .ok (.if_icmp .ne 5, 3) := by decide +kernel
theorem dX12_step_41 : decode cX12_step 41 = .ok (.iconst (-1), 1) := by decide +kernel
theorem dX12_step_42 : decode cX12_step 42 = .ok (.ireturn, 1) := by decide +kernel
theorem dX12_step_43 : decode cX12_step 43 = .ok (.aload_n 0, 1) := by decide +kernel
theorem dX12_step_44 : decode cX12_step 44 = .ok (.getfield 151, 3) := by decide +kernel
theorem dX12_step_47 : decode cX12_step 47 = .ok (.aload_n 0, 1) := by decide +kernel
theorem dX12_step_48 : decode cX12_step 48 = .ok (.getfield 422, 3) := by decide +kernel
theorem dX12_step_51 : decode cX12_step 51 = .ok (.iload_n 1, 1) := by decide +kernel
theorem dX12_step_52 : decode cX12_step 52 = .ok (.iastore, 1) := by decide +kernel
theorem dX12_step_53 : decode cX12_step 53 = .ok (.aload_n 0, 1) := by decide +kernel
theorem dX12_step_54 : decode cX12_step 54 = .ok (.getfield 154, 3) := by decide +kernel
theorem dX12_step_57 : decode cX12_step 57 = .ok (.aload_n 0, 1) := by decide +kernel
theorem dX12_step_58 : decode cX12_step 58 = .ok (.getfield 422, 3) := by decide +kernel
theorem dX12_step_61 : decode cX12_step 61 = .ok (.iload_n 2, 1) := by decide +kernel
theorem dX12_step_62 : decode cX12_step 62 = .ok (.iastore, 1) := by decide +kernel
theorem dX12_step_63 : decode cX12_step 63 = .ok (.aload_n 0, 1) := by decide +kernel
theorem dX12_step_64 : decode cX12_step 64 = .ok (.getfield 157, 3) := by decide +kernel
theorem dX12_step_67 : decode cX12_step 67 = .ok (.aload_n 0, 1) := by decide +kernel
theorem dX12_step_68 : decode cX12_step 68 = .ok (.getfield 422, 3) := by decide +kernel
theorem dX12_step_71 : decode cX12_step 71 = .ok (.iload_n 3, 1) := by decide +kernel
theorem dX12_step_72 : decode cX12_step 72 = .ok (.iastore, 1) := by decide +kernel
theorem dX12_step_73 : decode cX12_step 73 = .ok (.aload_n 0, 1) := by decide +kernel
theorem dX12_step_74 : decode cX12_step 74 = .ok (.getfield 160, 3) := by decide +kernel
theorem dX12_step_77 : decode cX12_step 77 = .ok (.aload_n 0, 1) := by decide +kernel
theorem dX12_step_78 : decode cX12_step 78 = .ok (.getfield 422, 3) := by decide +kernel
theorem dX12_step_81 : decode cX12_step 81 = .ok (.aload_n 0, 1) := by decide +kernel
theorem dX12_step_82 : decode cX12_step 82 = .ok (.getfield 546, 3) := by decide +kernel
theorem dX12_step_85 : decode cX12_step 85 = .ok (.iastore, 1) := by decide +kernel
theorem dX12_step_86 : decode cX12_step 86 = .ok (.aload_n 0, 1) := by decide +kernel
theorem dX12_step_87 : decode cX12_step 87 = .ok (.getfield 163, 3) := by decide +kernel
theorem dX12_step_90 : decode cX12_step 90 = .ok (.aload_n 0, 1) := by decide +kernel
theorem dX12_step_91 : decode cX12_step 91 = .ok (.getfield 422, 3) := by decide +kernel
theorem dX12_step_94 : decode cX12_step 94 = .ok (.iconst (-1), 1) := by decide +kernel
theorem dX12_step_95 : decode cX12_step 95 = .ok (.iastore, 1) := by decide +kernel
theorem dX12_step_96 : decode cX12_step 96 = .ok (.aload_n 0, 1) := by decide +kernel
theorem dX12_step_97 : decode cX12_step 97 = .ok (.dup, 1) := by decide +kernel
theorem dX12_step_98 : decode cX12_step 98 = .ok (.getfield 422, 3) := by decide +kernel
theorem dX12_step_101 : decode cX12_step 101 = .ok (.iconst 1, 1) := by decide +kernel
theorem dX12_step_102 : decode cX12_step 102 = .ok (.iadd, 1) := by decide +kernel
theorem dX12_step_103 : decode cX12_step 103 = .ok (.putfield 422, 3) := by decide +kernel
theorem dX12_step_106 : decode cX12_step 106 = .ok (.aload_n 0, 1) := by decide +kernel
theorem dX12_step_107 : decode cX12_step 107 = .ok (.getfield 422, 3) := by decide +kernel
theorem dX12_step_110 : decode cX12_step 110 = .ok (.iconst 1, 1) := by decide +kernel
theorem dX12_step_111 : decode cX12_step 111 = .ok (.isub, 1) := by decide +kernel
theorem dX12_step_112 : decode cX12_step 112 = .ok (.ireturn, 1) := by decide +kernel
theorem dX12_untell_0 : decode cX12_untell 0 = .ok (.iload_n 1, 1) := by decide +kernel
theorem dX12_untell_1 : decode cX12_untell 1 = .ok (.iconst 0, 1) := by decide +kernel
theorem dX12_untell_2 : decode cX12_untell 2 = .ok (.aload_n 0, 1) := by decide +kernel
theorem dX12_untell_3 : decode cX12_untell 3 = .ok (.getfield 422, 3) := by decide +kernel
theorem dX12_untell_6 : decode cX12_untell 6 = .ok (.iconst 1, 1) := by decide +kernel
theorem dX12_untell_7 : decode cX12_untell 7 = .ok (.isub, 1) := by decide +kernel
theorem dX12_untell_8 : decode cX12_untell 8 = .ok (.invokestatic 428, 3) := by decide +kernel
theorem dX12_untell_11 : decode cX12_untell 11 = .ok (.ifCond .eq 12, 3) := by decide +kernel
theorem dX12_untell_14 : decode cX12_untell 14 = .ok (.aload_n 0, 1) := by decide +kernel
theorem dX12_untell_15 : decode cX12_untell 15 = .ok (.getfield 163, 3) := by decide +kernel
theorem dX12_untell_18 : decode cX12_untell 18 = .ok (.iload_n 1, 1) := by decide +kernel
theorem dX12_untell_19 : decode cX12_untell 19 = .ok (.iaload, 1) := by decide +kernel
theorem dX12_untell_20 : decode cX12_untell 20 = .ok (.ifCond .lt 5, 3) := by decide +kernel
theorem dX12_untell_23 : decode cX12_untell 23 = .ok (.iconst 0, 1) := by decide +kernel
theorem dX12_untell_24 : decode cX12_untell 24 = .ok (.ireturn, 1) := by decide +kernel
theorem dX12_untell_25 : decode cX12_untell 25 = .ok (.aload_n 0, 1) := by decide +kernel
theorem dX12_untell_26 : decode cX12_untell 26 = .ok (.getfield 163, 3) := by decide +kernel
theorem dX12_untell_29 : decode cX12_untell 29 = .ok (.iload_n 1, 1) := by decide +kernel
theorem dX12_untell_30 : decode cX12_untell 30 = .ok (.aload_n 0, 1) := by decide +kernel
theorem dX12_untell_31 : decode cX12_untell 31 = .ok (.getfield 546, 3) := by decide +kernel
theorem dX12_untell_34 : decode cX12_untell 34 = .ok (.iastore, 1) := by decide +kernel
theorem dX12_untell_35 : decode cX12_untell 35 = .ok (.iconst 1, 1) := by decide +kernel
theorem dX12_untell_36 : decode cX12_untell 36 = .ok (.ireturn, 1) := by decide +kernel
theorem dX12_later_0 : decode cX12_later 0 = .ok (.iload_n 1, 1) := by decide +kernel
theorem dX12_later_1 : decode cX12_later 1 = .ok (.ifCond .lt 22, 3) := by decide +kernel
theorem dX12_later_4 : decode cX12_later 4 = .ok (.iload_n 1, 1) := by decide +kernel
theorem dX12_later_5 : decode cX12_later 5 = .ok (.sipush 1000, 3) := by decide +kernel
theorem dX12_later_8 : decode cX12_later 8 = .ok (.if_icmp .gt 15, 3) := by decide +kernel
theorem dX12_later_11 : decode cX12_later 11 = .ok (.aload_n 0, 1) := by decide +kernel
theorem dX12_later_12 : decode cX12_later 12 = .ok (.getfield 546, 3) := by decide +kernel
theorem dX12_later_15 : decode cX12_later 15 = .ok (.iload_n 1, 1) := by decide +kernel
theorem dX12_later_16 : decode cX12_later 16 = .ok (.iadd, 1) := by decide +kernel
theorem dX12_later_17 : decode cX12_later 17 = .ok (.ldc_w 549, 3) := by decide +kernel
theorem dX12_later_20 : decode cX12_later 20 = .ok (.if_icmp .le 5, 3) := by decide +kernel
theorem dX12_later_23 : decode cX12_later 23 = .ok (.iconst (-1), 1) := by decide +kernel
theorem dX12_later_24 : decode cX12_later 24 = .ok (.ireturn, 1) := by decide +kernel
theorem dX12_later_25 : decode cX12_later 25 = .ok (.aload_n 0, 1) := by decide +kernel
theorem dX12_later_26 : decode cX12_later 26 = .ok (.dup, 1) := by decide +kernel
theorem dX12_later_27 : decode cX12_later 27 = .ok (.getfield 546, 3) := by decide +kernel
theorem dX12_later_30 : decode cX12_later 30 = .ok (.iload_n 1, 1) := by decide +kernel
theorem dX12_later_31 : decode cX12_later 31 = .ok (.iadd, 1) := by decide +kernel
theorem dX12_later_32 : decode cX12_later 32 = .ok (.putfield 546, 3) := by decide +kernel
theorem dX12_later_35 : decode cX12_later 35 = .ok (.aload_n 0, 1) := by decide +kernel
theorem dX12_later_36 : decode cX12_later 36 = .ok (.getfield 546, 3) := by decide +kernel
theorem dX12_later_39 : decode cX12_later 39 = .ok (.ireturn, 1) := by decide +kernel
theorem dX12_placeBy_0 : decode cX12_placeBy 0 = .ok (.aload_n 0, 1) := by decide +kernel
theorem dX12_placeBy_1 : decode cX12_placeBy 1 = .ok (.getfield 72, 3) := by decide +kernel
theorem dX12_placeBy_4 : decode cX12_placeBy 4 = .ok (.iload_n 1, 1) := by decide +kernel
theorem dX12_placeBy_5 : decode cX12_placeBy 5 = .ok (.iaload, 1) := by decide +kernel
theorem dX12_placeBy_6 : decode cX12_placeBy 6 = .ok (.istore 4, 2) := by decide +kernel
theorem dX12_placeBy_8 : decode cX12_placeBy 8 = .ok (.iconst 0, 1) := by decide +kernel
theorem dX12_placeBy_9 : decode cX12_placeBy 9 = .ok (.istore 5, 2) := by decide +kernel
theorem dX12_placeBy_11 : decode cX12_placeBy 11 = .ok (.iload 5, 2) := by decide +kernel
theorem dX12_placeBy_13 : decode cX12_placeBy 13 = .ok (.iload_n 3, 1) := by decide +kernel
theorem dX12_placeBy_14 : decode cX12_placeBy 14 = .ok (.if_icmp .gt 47, 3) := by decide +kernel
theorem dX12_placeBy_17 : decode cX12_placeBy 17 = .ok (.iload 4, 2) := by decide +kernel
theorem dX12_placeBy_19 : decode cX12_placeBy 19 = .ok (.iload 5, 2) := by decide +kernel
theorem dX12_placeBy_21 : decode cX12_placeBy 21 = .ok (.aload_n 0, 1) := by decide +kernel
theorem dX12_placeBy_22 : decode cX12_placeBy 22 = .ok (.getfield 96, 3) := by decide +kernel
theorem dX12_placeBy_25 : decode cX12_placeBy 25 = .ok (.aload_n 0, 1) := by decide +kernel
theorem dX12_placeBy_26 : decode cX12_placeBy 26 = .ok (.getfield 84, 3) := by decide +kernel
theorem dX12_placeBy_29 : decode cX12_placeBy 29 = .ok (.iload_n 1, 1) := by decide +kernel
theorem dX12_placeBy_30 : decode cX12_placeBy 30 = .ok (.iaload, 1) := by decide +kernel
theorem dX12_placeBy_31 : decode cX12_placeBy 31 = .ok (.isub, 1) := by decide +kernel
theorem dX12_placeBy_32 : decode cX12_placeBy 32 = .ok (.if_icmp .lt 12, 3) := by decide +kernel
theorem dX12_placeBy_35 : decode cX12_placeBy 35 = .ok (.aload_n 0, 1) := by decide +kernel
theorem dX12_placeBy_36 : decode cX12_placeBy 36 = .ok (.getfield 72, 3) := by decide +kernel
theorem dX12_placeBy_39 : decode cX12_placeBy 39 = .ok (.iload_n 1, 1) := by decide +kernel
theorem dX12_placeBy_40 : decode cX12_placeBy 40 = .ok (.iaload, 1) := by decide +kernel
theorem dX12_placeBy_41 : decode cX12_placeBy 41 = .ok (.goto 9, 3) := by decide +kernel
theorem dX12_placeBy_44 : decode cX12_placeBy 44 = .ok (.aload_n 0, 1) := by decide +kernel
theorem dX12_placeBy_45 : decode cX12_placeBy 45 = .ok (.getfield 72, 3) := by decide +kernel
theorem dX12_placeBy_48 : decode cX12_placeBy 48 = .ok (.iload_n 2, 1) := by decide +kernel
theorem dX12_placeBy_49 : decode cX12_placeBy 49 = .ok (.iaload, 1) := by decide +kernel
theorem dX12_placeBy_50 : decode cX12_placeBy 50 = .ok (.invokestatic 453, 3) := by decide +kernel
theorem dX12_placeBy_53 : decode cX12_placeBy 53 = .ok (.istore 4, 2) := by decide +kernel
theorem dX12_placeBy_55 : decode cX12_placeBy 55 = .ok (.iinc 5 1, 3) := by decide +kernel
theorem dX12_placeBy_58 : decode cX12_placeBy 58 = .ok (.goto (-47), 3) := by decide +kernel
theorem dX12_placeBy_61 : decode cX12_placeBy 61 = .ok (.iload 4, 2) := by decide +kernel
theorem dX12_placeBy_63 : decode cX12_placeBy 63 = .ok (.ireturn, 1) := by decide +kernel
theorem dX12_fitSet_0 : decode cX12_fitSet 0 = .ok (.iconst 0, 1) := by decide +kernel
theorem dX12_fitSet_1 : decode cX12_fitSet 1 = .ok (.istore_n 3, 1) := by decide +kernel
theorem dX12_fitSet_2 : decode cX12_fitSet 2 = .ok (.iconst 0, 1) := by decide +kernel
theorem dX12_fitSet_3 : decode cX12_fitSet 3 = .ok (.istore 4, 2) := by decide +kernel
theorem dX12_fitSet_5 : decode cX12_fitSet 5 = .ok (.iload 4, 2) := by decide +kernel
theorem dX12_fitSet_7 : decode cX12_fitSet 7 = .ok (.aload_n 0, 1) := by decide +kernel
theorem dX12_fitSet_8 : decode cX12_fitSet 8 = .ok (.getfield 401, 3) := by decide +kernel
theorem dX12_fitSet_11 : decode cX12_fitSet 11 = .ok (.if_icmp .ge 125, 3) := by decide +kernel
theorem dX12_fitSet_14 : decode cX12_fitSet 14 = .ok (.iconst 1, 1) := by decide +kernel
theorem dX12_fitSet_15 : decode cX12_fitSet 15 = .ok (.istore 5, 2) := by decide +kernel
theorem dX12_fitSet_17 : decode cX12_fitSet 17 = .ok (.iconst 0, 1) := by decide +kernel
theorem dX12_fitSet_18 : decode cX12_fitSet 18 = .ok (.istore 6, 2) := by decide +kernel
theorem dX12_fitSet_20 : decode cX12_fitSet 20 = .ok (.iload 6, 2) := by decide +kernel
theorem dX12_fitSet_22 : decode cX12_fitSet 22 = .ok (.aload_n 0, 1) := by decide +kernel
theorem dX12_fitSet_23 : decode cX12_fitSet 23 = .ok (.getfield 422, 3) := by decide +kernel
theorem dX12_fitSet_26 : decode cX12_fitSet 26 = .ok (.if_icmp .ge 88, 3) := by decide +kernel
theorem dX12_fitSet_29 : decode cX12_fitSet 29 = .ok (.aload_n 0, 1) := by decide +kernel
theorem dX12_fitSet_30 : decode cX12_fitSet 30 = .ok (.getfield 151, 3) := by decide +kernel
theorem dX12_fitSet_33 : decode cX12_fitSet 33 = .ok (.iload 6, 2) := by decide +kernel
theorem dX12_fitSet_35 : decode cX12_fitSet 35 = .ok (.iaload, 1) := by decide +kernel
theorem dX12_fitSet_36 : decode cX12_fitSet 36 = .ok (.iload_n 1, 1) := by decide +kernel
theorem dX12_fitSet_37 : decode cX12_fitSet 37 = .ok (.if_icmp .ne 71, 3) := by decide +kernel
theorem dX12_fitSet_40 : decode cX12_fitSet 40 = .ok (.aload_n 0, 1) := by decide +kernel
theorem dX12_fitSet_41 : decode cX12_fitSet 41 = .ok (.getfield 160, 3) := by decide +kernel
theorem dX12_fitSet_44 : decode cX12_fitSet 44 = .ok (.iload 6, 2) := by decide +kernel
theorem dX12_fitSet_46 : decode cX12_fitSet 46 = .ok (.iaload, 1) := by decide +kernel
theorem dX12_fitSet_47 : decode cX12_fitSet 47 = .ok (.iload_n 2, 1) := by decide +kernel
theorem dX12_fitSet_48 : decode cX12_fitSet 48 = .ok (.if_icmp .gt 60, 3) := by decide +kernel
theorem dX12_fitSet_51 : decode cX12_fitSet 51 = .ok (.aload_n 0, 1) := by decide +kernel
theorem dX12_fitSet_52 : decode cX12_fitSet 52 = .ok (.getfield 163, 3) := by decide +kernel
theorem dX12_fitSet_55 : decode cX12_fitSet 55 = .ok (.iload 6, 2) := by decide +kernel
theorem dX12_fitSet_57 : decode cX12_fitSet 57 = .ok (.iaload, 1) := by decide +kernel
theorem dX12_fitSet_58 : decode cX12_fitSet 58 = .ok (.ifCond .lt 14, 3) := by decide +kernel
theorem dX12_fitSet_61 : decode cX12_fitSet 61 = .ok (.aload_n 0, 1) := by decide +kernel
theorem dX12_fitSet_62 : decode cX12_fitSet 62 = .ok (.getfield 163, 3) := by decide +kernel
theorem dX12_fitSet_65 : decode cX12_fitSet 65 = .ok (.iload 6, 2) := by decide +kernel
theorem dX12_fitSet_67 : decode cX12_fitSet 67 = .ok (.iaload, 1) := by decide +kernel
theorem dX12_fitSet_68 : decode cX12_fitSet 68 = .ok (.iload_n 2, 1) := by decide +kernel
theorem dX12_fitSet_69 : decode cX12_fitSet 69 = .ok (.if_icmp .le 39, 3) := by decide +kernel
theorem dX12_fitSet_72 : decode cX12_fitSet 72 = .ok (.iload 5, 2) := by decide +kernel
theorem dX12_fitSet_74 : decode cX12_fitSet 74 = .ok (.ifCond .eq 31, 3) := by decide +kernel
theorem dX12_fitSet_77 : decode cX12_fitSet 77 = .ok (.aload_n 0, 1) := by decide +kernel
theorem dX12_fitSet_78 : decode cX12_fitSet 78 = .ok (.iload_n 1, 1) := by decide +kernel
theorem dX12_fitSet_79 : decode cX12_fitSet 79 = .ok (.iload 4, 2) := by decide +kernel
theorem dX12_fitSet_81 : decode cX12_fitSet 81 = .ok (.aload_n 0, 1) := by decide +kernel
theorem dX12_fitSet_82 : decode cX12_fitSet 82 = .ok (.getfield 154, 3) := by decide +kernel
theorem dX12_fitSet_85 : decode cX12_fitSet 85 = .ok (.iload 6, 2) := by decide +kernel
theorem dX12_fitSet_87 : decode cX12_fitSet 87 = .ok (.iaload, 1) := by decide +kernel
theorem dX12_fitSet_88 : decode cX12_fitSet 88 = .ok (.invokevirtual 550, 3) := by decide +kernel
theorem dX12_fitSet_91 : decode cX12_fitSet 91 = .ok (.aload_n 0, 1) := by decide +kernel
theorem dX12_fitSet_92 : decode cX12_fitSet 92 = .ok (.getfield 157, 3) := by decide +kernel
theorem dX12_fitSet_95 : decode cX12_fitSet 95 = .ok (.iload 6, 2) := by decide +kernel
theorem dX12_fitSet_97 : decode cX12_fitSet 97 = .ok (.iaload, 1) := by decide +kernel
theorem dX12_fitSet_98 : decode cX12_fitSet 98 = .ok (.if_icmp .ne 7, 3) := by decide +kernel
theorem dX12_fitSet_101 : decode cX12_fitSet 101 = .ok (.iconst 1, 1) := by decide +kernel
theorem dX12_fitSet_102 : decode cX12_fitSet 102 = .ok (.goto 4, 3) := by decide +kernel
theorem dX12_fitSet_105 : decode cX12_fitSet 105 = .ok (.iconst 0, 1) := by decide +kernel
theorem dX12_fitSet_106 : decode cX12_fitSet 106 = .ok (.istore 5, 2) := by decide +kernel
theorem dX12_fitSet_108 : decode cX12_fitSet 108 = .ok (.iinc 6 1, 3) := by decide +kernel
theorem dX12_fitSet_111 : decode cX12_fitSet 111 = .ok (.goto (-91), 3) := by decide +kernel
theorem dX12_fitSet_114 : decode cX12_fitSet 114 = .ok (.iload_n 3, 1) := by decide +kernel
theorem dX12_fitSet_115 : decode cX12_fitSet 115 = .ok (.iload 5, 2) := by decide +kernel
theorem dX12_fitSet_117 : decode cX12_fitSet 117 = .ok (.ifCond .eq 10, 3) := by decide +kernel
theorem dX12_fitSet_120 : decode cX12_fitSet 120 = .ok (.iconst 1, 1) := by decide +kernel
theorem dX12_fitSet_121 : decode cX12_fitSet 121 = .ok (.iload 4, 2) := by decide +kernel
theorem dX12_fitSet_123 : decode cX12_fitSet 123 = .ok (.ishl, 1) := by decide +kernel
theorem dX12_fitSet_124 : decode cX12_fitSet 124 = .ok (.goto 4, 3) := by decide +kernel
theorem dX12_fitSet_127 : decode cX12_fitSet 127 = .ok (.iconst 0, 1) := by decide +kernel
theorem dX12_fitSet_128 : decode cX12_fitSet 128 = .ok (.ior, 1) := by decide +kernel
theorem dX12_fitSet_129 : decode cX12_fitSet 129 = .ok (.istore_n 3, 1) := by decide +kernel
theorem dX12_fitSet_130 : decode cX12_fitSet 130 = .ok (.iinc 4 1, 3) := by decide +kernel
theorem dX12_fitSet_133 : decode cX12_fitSet 133 = .ok (.goto (-128), 3) := by decide +kernel
theorem dX12_fitSet_136 : decode cX12_fitSet 136 = .ok (.iload_n 3, 1) := by decide +kernel
theorem dX12_fitSet_137 : decode cX12_fitSet 137 = .ok (.ireturn, 1) := by decide +kernel
theorem dX12_fit_0 : decode cX12_fit 0 = .ok (.aload_n 0, 1) := by decide +kernel
theorem dX12_fit_1 : decode cX12_fit 1 = .ok (.iload_n 1, 1) := by decide +kernel
theorem dX12_fit_2 : decode cX12_fit 2 = .ok (.invokevirtual 432, 3) := by decide +kernel
theorem dX12_fit_5 : decode cX12_fit 5 = .ok (.ifCond .eq 12, 3) := by decide +kernel
theorem dX12_fit_8 : decode cX12_fit 8 = .ok (.aload_n 0, 1) := by decide +kernel
theorem dX12_fit_9 : decode cX12_fit 9 = .ok (.iload_n 1, 1) := by decide +kernel
theorem dX12_fit_10 : decode cX12_fit 10 = .ok (.iload_n 2, 1) := by decide +kernel
theorem dX12_fit_11 : decode cX12_fit 11 = .ok (.invokevirtual 553, 3) := by decide +kernel
theorem dX12_fit_14 : decode cX12_fit 14 = .ok (.goto 4, 3) := by decide +kernel
theorem dX12_fit_17 : decode cX12_fit 17 = .ok (.iconst (-1), 1) := by decide +kernel
theorem dX12_fit_18 : decode cX12_fit 18 = .ok (.ireturn, 1) := by decide +kernel
theorem dX12_sham_0 : decode cX12_sham 0 = .ok (.iconst 0, 1) := by decide +kernel
theorem dX12_sham_1 : decode cX12_sham 1 = .ok (.istore_n 2, 1) := by decide +kernel
theorem dX12_sham_2 : decode cX12_sham 2 = .ok (.iconst 0, 1) := by decide +kernel
theorem dX12_sham_3 : decode cX12_sham 3 = .ok (.istore_n 3, 1) := by decide +kernel
theorem dX12_sham_4 : decode cX12_sham 4 = .ok (.iload_n 3, 1) := by decide +kernel
theorem dX12_sham_5 : decode cX12_sham 5 = .ok (.aload_n 0, 1) := by decide +kernel
theorem dX12_sham_6 : decode cX12_sham 6 = .ok (.getfield 401, 3) := by decide +kernel
theorem dX12_sham_9 : decode cX12_sham 9 = .ok (.if_icmp .ge 28, 3) := by decide +kernel
theorem dX12_sham_12 : decode cX12_sham 12 = .ok (.iload_n 2, 1) := by decide +kernel
theorem dX12_sham_13 : decode cX12_sham 13 = .ok (.aload_n 0, 1) := by decide +kernel
theorem dX12_sham_14 : decode cX12_sham 14 = .ok (.iload_n 3, 1) := by decide +kernel
theorem dX12_sham_15 : decode cX12_sham 15 = .ok (.iload_n 1, 1) := by decide +kernel
theorem dX12_sham_16 : decode cX12_sham 16 = .ok (.invokevirtual 553, 3) := by decide +kernel
theorem dX12_sham_19 : decode cX12_sham 19 = .ok (.ifCond .ne 9, 3) := by decide +kernel
theorem dX12_sham_22 : decode cX12_sham 22 = .ok (.iconst 1, 1) := by decide +kernel
theorem dX12_sham_23 : decode cX12_sham 23 = .ok (.iload_n 3, 1) := by decide +kernel
theorem dX12_sham_24 : decode cX12_sham 24 = .ok (.ishl, 1) := by decide +kernel
theorem dX12_sham_25 : decode cX12_sham 25 = .ok (.goto 4, 3) := by decide +kernel
theorem dX12_sham_28 : decode cX12_sham 28 = .ok (.iconst 0, 1) := by decide +kernel
theorem dX12_sham_29 : decode cX12_sham 29 = .ok (.ior, 1) := by decide +kernel
theorem dX12_sham_30 : decode cX12_sham 30 = .ok (.istore_n 2, 1) := by decide +kernel
theorem dX12_sham_31 : decode cX12_sham 31 = .ok (.iinc 3 1, 3) := by decide +kernel
theorem dX12_sham_34 : decode cX12_sham 34 = .ok (.goto (-30), 3) := by decide +kernel
theorem dX12_sham_37 : decode cX12_sham 37 = .ok (.iload_n 2, 1) := by decide +kernel
theorem dX12_sham_38 : decode cX12_sham 38 = .ok (.ireturn, 1) := by decide +kernel
theorem dX12_mostAt_0 : decode cX12_mostAt 0 = .ok (.iconst 0, 1) := by decide +kernel
theorem dX12_mostAt_1 : decode cX12_mostAt 1 = .ok (.istore 4, 2) := by decide +kernel
theorem dX12_mostAt_3 : decode cX12_mostAt 3 = .ok (.iconst 0, 1) := by decide +kernel
theorem dX12_mostAt_4 : decode cX12_mostAt 4 = .ok (.istore 5, 2) := by decide +kernel
theorem dX12_mostAt_6 : decode cX12_mostAt 6 = .ok (.iload 5, 2) := by decide +kernel
theorem dX12_mostAt_8 : decode cX12_mostAt 8 = .ok (.aload_n 0, 1) := by decide +kernel
theorem dX12_mostAt_9 : decode cX12_mostAt 9 = .ok (.getfield 401, 3) := by decide +kernel
theorem dX12_mostAt_12 : decode cX12_mostAt 12 = .ok (.if_icmp .ge 90, 3) := by decide +kernel
theorem dX12_mostAt_15 : decode cX12_mostAt 15 = .ok (.iconst 0, 1) := by decide +kernel
theorem dX12_mostAt_16 : decode cX12_mostAt 16 = .ok (.istore 6, 2) := by decide +kernel
theorem dX12_mostAt_18 : decode cX12_mostAt 18 = .ok (.iconst 0, 1) := by decide +kernel
theorem dX12_mostAt_19 : decode cX12_mostAt 19 = .ok (.istore 7, 2) := by decide +kernel
theorem dX12_mostAt_21 : decode cX12_mostAt 21 = .ok (.iload 7, 2) := by decide +kernel
theorem dX12_mostAt_23 : decode cX12_mostAt 23 = .ok (.aload_n 0, 1) := by decide +kernel
theorem dX12_mostAt_24 : decode cX12_mostAt 24 = .ok (.getfield 401, 3) := by decide +kernel
theorem dX12_mostAt_27 : decode cX12_mostAt 27 = .ok (.if_icmp .ge 53, 3) := by decide +kernel
theorem dX12_mostAt_30 : decode cX12_mostAt 30 = .ok (.iload 6, 2) := by decide +kernel
theorem dX12_mostAt_32 : decode cX12_mostAt 32 = .ok (.iload_n 2, 1) := by decide +kernel
theorem dX12_mostAt_33 : decode cX12_mostAt 33 = .ok (.iload 5, 2) := by decide +kernel
theorem dX12_mostAt_35 : decode cX12_mostAt 35 = .ok (.ishr, 1) := by decide +kernel
theorem dX12_mostAt_36 : decode cX12_mostAt 36 = .ok (.iload_n 2, 1) := by decide +kernel
theorem dX12_mostAt_37 : decode cX12_mostAt 37 = .ok (.iload 7, 2) := by decide +kernel
theorem dX12_mostAt_39 : decode cX12_mostAt 39 = .ok (.ishr, 1) := by decide +kernel
theorem dX12_mostAt_40 : decode cX12_mostAt 40 = .ok (.iand, 1) := by decide +kernel
theorem dX12_mostAt_41 : decode cX12_mostAt 41 = .ok (.iconst 1, 1) := by decide +kernel
theorem dX12_mostAt_42 : decode cX12_mostAt 42 = .ok (.iand, 1) := by decide +kernel
theorem dX12_mostAt_43 : decode cX12_mostAt 43 = .ok (.iconst 1, 1) := by decide +kernel
theorem dX12_mostAt_44 : decode cX12_mostAt 44 = .ok (.if_icmp .ne 26, 3) := by decide +kernel
theorem dX12_mostAt_47 : decode cX12_mostAt 47 = .ok (.aload_n 0, 1) := by decide +kernel
theorem dX12_mostAt_48 : decode cX12_mostAt 48 = .ok (.iload_n 1, 1) := by decide +kernel
theorem dX12_mostAt_49 : decode cX12_mostAt 49 = .ok (.iload 5, 2) := by decide +kernel
theorem dX12_mostAt_51 : decode cX12_mostAt 51 = .ok (.iload_n 3, 1) := by decide +kernel
theorem dX12_mostAt_52 : decode cX12_mostAt 52 = .ok (.invokevirtual 550, 3) := by decide +kernel
theorem dX12_mostAt_55 : decode cX12_mostAt 55 = .ok (.aload_n 0, 1) := by decide +kernel
theorem dX12_mostAt_56 : decode cX12_mostAt 56 = .ok (.iload_n 1, 1) := by decide +kernel
theorem dX12_mostAt_57 : decode cX12_mostAt 57 = .ok (.iload 7, 2) := by decide +kernel
theorem dX12_mostAt_59 : decode cX12_mostAt 59 = .ok (.iload_n 3, 1) := by decide +kernel
theorem dX12_mostAt_60 : decode cX12_mostAt 60 = .ok (.invokevirtual 550, 3) := by decide +kernel
theorem dX12_mostAt_63 : decode cX12_mostAt 63 = .ok (.if_icmp .ne 7, 3) := by decide +kernel
theorem dX12_mostAt_66 : decode cX12_mostAt 66 = .ok (.iconst 1, 1) := by decide +kernel
theorem dX12_mostAt_67 : decode cX12_mostAt 67 = .ok (.goto 4, 3) := by decide +kernel
theorem dX12_mostAt_70 : decode cX12_mostAt 70 = .ok (.iconst 0, 1) := by decide +kernel
theorem dX12_mostAt_71 : decode cX12_mostAt 71 = .ok (.iadd, 1) := by decide +kernel
theorem dX12_mostAt_72 : decode cX12_mostAt 72 = .ok (.istore 6, 2) := by decide +kernel
theorem dX12_mostAt_74 : decode cX12_mostAt 74 = .ok (.iinc 7 1, 3) := by decide +kernel
theorem dX12_mostAt_77 : decode cX12_mostAt 77 = .ok (.goto (-56), 3) := by decide +kernel
theorem dX12_mostAt_80 : decode cX12_mostAt 80 = .ok (.iload 6, 2) := by decide +kernel
theorem dX12_mostAt_82 : decode cX12_mostAt 82 = .ok (.iload 4, 2) := by decide +kernel
theorem dX12_mostAt_84 : decode cX12_mostAt 84 = .ok (.if_icmp .le 8, 3) := by decide +kernel
theorem dX12_mostAt_87 : decode cX12_mostAt 87 = .ok (.iload 6, 2) := by decide +kernel
theorem dX12_mostAt_89 : decode cX12_mostAt 89 = .ok (.goto 5, 3) := by decide +kernel
theorem dX12_mostAt_92 : decode cX12_mostAt 92 = .ok (.iload 4, 2) := by decide +kernel
theorem dX12_mostAt_94 : decode cX12_mostAt 94 = .ok (.istore 4, 2) := by decide +kernel
theorem dX12_mostAt_96 : decode cX12_mostAt 96 = .ok (.iinc 5 1, 3) := by decide +kernel
theorem dX12_mostAt_99 : decode cX12_mostAt 99 = .ok (.goto (-93), 3) := by decide +kernel
theorem dX12_mostAt_102 : decode cX12_mostAt 102 = .ok (.iload 4, 2) := by decide +kernel
theorem dX12_mostAt_104 : decode cX12_mostAt 104 = .ok (.ireturn, 1) := by decide +kernel
theorem dX12_ask_0 : decode cX12_ask 0 = .ok (.aload_n 0, 1) := by decide +kernel
theorem dX12_ask_1 : decode cX12_ask 1 = .ok (.iload_n 1, 1) := by decide +kernel
theorem dX12_ask_2 : decode cX12_ask 2 = .ok (.invokevirtual 432, 3) := by decide +kernel
theorem dX12_ask_5 : decode cX12_ask 5 = .ok (.ifCond .eq 12, 3) := by decide +kernel
theorem dX12_ask_8 : decode cX12_ask 8 = .ok (.iload_n 2, 1) := by decide +kernel
theorem dX12_ask_9 : decode cX12_ask 9 = .ok (.iconst 0, 1) := by decide +kernel
theorem dX12_ask_10 : decode cX12_ask 10 = .ok (.iconst 1, 1) := by decide +kernel
theorem dX12_ask_11 : decode cX12_ask 11 = .ok (.invokestatic 428, 3) := by decide +kernel
theorem dX12_ask_14 : decode cX12_ask 14 = .ok (.ifCond .ne 5, 3) := by decide +kernel
theorem dX12_ask_17 : decode cX12_ask 17 = .ok (.iconst (-1), 1) := by decide +kernel
theorem dX12_ask_18 : decode cX12_ask 18 = .ok (.ireturn, 1) := by decide +kernel
theorem dX12_ask_19 : decode cX12_ask 19 = .ok (.aload_n 0, 1) := by decide +kernel
theorem dX12_ask_20 : decode cX12_ask 20 = .ok (.iload_n 1, 1) := by decide +kernel
theorem dX12_ask_21 : decode cX12_ask 21 = .ok (.iload_n 3, 1) := by decide +kernel
theorem dX12_ask_22 : decode cX12_ask 22 = .ok (.invokevirtual 553, 3) := by decide +kernel
theorem dX12_ask_25 : decode cX12_ask 25 = .ok (.istore 4, 2) := by decide +kernel
theorem dX12_ask_27 : decode cX12_ask 27 = .ok (.iload 4, 2) := by decide +kernel
theorem dX12_ask_29 : decode cX12_ask 29 = .ok (.ifCond .ne 5, 3) := by decide +kernel
theorem dX12_ask_32 : decode cX12_ask 32 = .ok (.iconst (-1), 1) := by decide +kernel
theorem dX12_ask_33 : decode cX12_ask 33 = .ok (.ireturn, 1) := by decide +kernel
theorem dX12_ask_34 : decode cX12_ask 34 = .ok (.iconst 0, 1) := by decide +kernel
theorem dX12_ask_35 : decode cX12_ask 35 = .ok (.istore 5, 2) := by decide +kernel
theorem dX12_ask_37 : decode cX12_ask 37 = .ok (.iconst 1, 1) := by decide +kernel
theorem dX12_ask_38 : decode cX12_ask 38 = .ok (.istore 6, 2) := by decide +kernel
theorem dX12_ask_40 : decode cX12_ask 40 = .ok (.iload 6, 2) := by decide +kernel
theorem dX12_ask_42 : decode cX12_ask 42 = .ok (.aload_n 0, 1) := by decide +kernel
theorem dX12_ask_43 : decode cX12_ask 43 = .ok (.getfield 96, 3) := by decide +kernel
theorem dX12_ask_46 : decode cX12_ask 46 = .ok (.if_icmp .ge 34, 3) := by decide +kernel
theorem dX12_ask_49 : decode cX12_ask 49 = .ok (.aload_n 0, 1) := by decide +kernel
theorem dX12_ask_50 : decode cX12_ask 50 = .ok (.iload_n 1, 1) := by decide +kernel
theorem dX12_ask_51 : decode cX12_ask 51 = .ok (.iload 4, 2) := by decide +kernel
theorem dX12_ask_53 : decode cX12_ask 53 = .ok (.iload 6, 2) := by decide +kernel
theorem dX12_ask_55 : decode cX12_ask 55 = .ok (.invokevirtual 556, 3) := by decide +kernel
theorem dX12_ask_58 : decode cX12_ask 58 = .ok (.aload_n 0, 1) := by decide +kernel
theorem dX12_ask_59 : decode cX12_ask 59 = .ok (.iload_n 1, 1) := by decide +kernel
theorem dX12_ask_60 : decode cX12_ask 60 = .ok (.iload 4, 2) := by decide +kernel
theorem dX12_ask_62 : decode cX12_ask 62 = .ok (.iload 5, 2) := by decide +kernel
theorem dX12_ask_64 : decode cX12_ask 64 = .ok (.invokevirtual 556, 3) := by decide +kernel
theorem dX12_ask_67 : decode cX12_ask 67 = .ok (.if_icmp .ge 7, 3) := by decide +kernel
theorem dX12_ask_70 : decode cX12_ask 70 = .ok (.iload 6, 2) := by decide +kernel
theorem dX12_ask_72 : decode cX12_ask 72 = .ok (.istore 5, 2) := by decide +kernel
theorem dX12_ask_74 : decode cX12_ask 74 = .ok (.iinc 6 1, 3) := by decide +kernel
theorem dX12_ask_77 : decode cX12_ask 77 = .ok (.goto (-37), 3) := by decide +kernel
theorem dX12_ask_80 : decode cX12_ask 80 = .ok (.iload_n 2, 1) := by decide +kernel
theorem dX12_ask_81 : decode cX12_ask 81 = .ok (.ifCond .ne 8, 3) := by decide +kernel
theorem dX12_ask_84 : decode cX12_ask 84 = .ok (.iload 5, 2) := by decide +kernel
theorem dX12_ask_86 : decode cX12_ask 86 = .ok (.goto 12, 3) := by decide +kernel
theorem dX12_ask_89 : decode cX12_ask 89 = .ok (.aload_n 0, 1) := by decide +kernel
theorem dX12_ask_90 : decode cX12_ask 90 = .ok (.iload_n 1, 1) := by decide +kernel
theorem dX12_ask_91 : decode cX12_ask 91 = .ok (.iload 4, 2) := by decide +kernel
theorem dX12_ask_93 : decode cX12_ask 93 = .ok (.iload 5, 2) := by decide +kernel
theorem dX12_ask_95 : decode cX12_ask 95 = .ok (.invokevirtual 556, 3) := by decide +kernel
theorem dX12_ask_98 : decode cX12_ask 98 = .ok (.ireturn, 1) := by decide +kernel
theorem dX12_isBox_0 : decode cX12_isBox 0 = .ok (.iload_n 0, 1) := by decide +kernel
theorem dX12_isBox_1 : decode cX12_isBox 1 = .ok (.ifCond .lt 12, 3) := by decide +kernel
theorem dX12_isBox_4 : decode cX12_isBox 4 = .ok (.iload_n 0, 1) := by decide +kernel
theorem dX12_isBox_5 : decode cX12_isBox 5 = .ok (.iconst 3, 1) := by decide +kernel
theorem dX12_isBox_6 : decode cX12_isBox 6 = .ok (.if_icmp .ge 7, 3) := by decide +kernel
theorem dX12_isBox_9 : decode cX12_isBox 9 = .ok (.iconst 1, 1) := by decide +kernel
theorem dX12_isBox_10 : decode cX12_isBox 10 = .ok (.goto 4, 3) := by decide +kernel
theorem dX12_isBox_13 : decode cX12_isBox 13 = .ok (.iconst 0, 1) := by decide +kernel
theorem dX12_isBox_14 : decode cX12_isBox 14 = .ok (.ireturn, 1) := by decide +kernel
theorem dX12_image_0 : decode cX12_image 0 = .ok (.iload_n 1, 1) := by decide +kernel
theorem dX12_image_1 : decode cX12_image 1 = .ok (.invokestatic 559, 3) := by decide +kernel
theorem dX12_image_4 : decode cX12_image 4 = .ok (.ifCond .ne 5, 3) := by decide +kernel
theorem dX12_image_7 : decode cX12_image 7 = .ok (.iconst (-1), 1) := by decide +kernel
theorem dX12_image_8 : decode cX12_image 8 = .ok (.ireturn, 1) := by decide +kernel
theorem dX12_image_9 : decode cX12_image 9 = .ok (.aload_n 0, 1) := by decide +kernel
theorem dX12_image_10 : decode cX12_image 10 = .ok (.getfield 166, 3) := by decide +kernel
theorem dX12_image_13 : decode cX12_image 13 = .ok (.iload_n 1, 1) := by decide +kernel
theorem dX12_image_14 : decode cX12_image 14 = .ok (.iconst 1, 1) := by decide +kernel
theorem dX12_image_15 : decode cX12_image 15 = .ok (.bastore, 1) := by decide +kernel
theorem dX12_image_16 : decode cX12_image 16 = .ok (.iconst 0, 1) := by decide +kernel
theorem dX12_image_17 : decode cX12_image 17 = .ok (.istore_n 2, 1) := by decide +kernel
theorem dX12_image_18 : decode cX12_image 18 = .ok (.iload_n 2, 1) := by decide +kernel
theorem dX12_image_19 : decode cX12_image 19 = .ok (.bipush 63, 2) := by decide +kernel
theorem dX12_image_21 : decode cX12_image 21 = .ok (.if_icmp .ge 26, 3) := by decide +kernel
theorem dX12_image_24 : decode cX12_image 24 = .ok (.aload_n 0, 1) := by decide +kernel
theorem dX12_image_25 : decode cX12_image 25 = .ok (.getfield 169, 3) := by decide +kernel
theorem dX12_image_28 : decode cX12_image 28 = .ok (.bipush 64, 2) := by decide +kernel
theorem dX12_image_30 : decode cX12_image 30 = .ok (.iload_n 1, 1) := by decide +kernel
theorem dX12_image_31 : decode cX12_image 31 = .ok (.imul, 1) := by decide +kernel
theorem dX12_image_32 : decode cX12_image 32 = .ok (.iload_n 2, 1) := by decide +kernel
theorem dX12_image_33 : decode cX12_image 33 = .ok (.iadd, 1) := by decide +kernel
theorem dX12_image_34 : decode cX12_image 34 = .ok (.aload_n 0, 1) := by decide +kernel
theorem dX12_image_35 : decode cX12_image 35 = .ok (.getfield 99, 3) := by decide +kernel
theorem dX12_image_38 : decode cX12_image 38 = .ok (.iload_n 2, 1) := by decide +kernel
theorem dX12_image_39 : decode cX12_image 39 = .ok (.iaload, 1) := by decide +kernel
theorem dX12_image_40 : decode cX12_image 40 = .ok (.iastore, 1) := by decide +kernel
theorem dX12_image_41 : decode cX12_image 41 = .ok (.iinc 2 1, 3) := by decide +kernel
theorem dX12_image_44 : decode cX12_image 44 = .ok (.goto (-26), 3) := by decide +kernel
theorem dX12_image_47 : decode cX12_image 47 = .ok (.aload_n 0, 1) := by decide +kernel
theorem dX12_image_48 : decode cX12_image 48 = .ok (.getfield 99, 3) := by decide +kernel
theorem dX12_image_51 : decode cX12_image 51 = .ok (.bipush 62, 2) := by decide +kernel
theorem dX12_image_53 : decode cX12_image 53 = .ok (.iaload, 1) := by decide +kernel
theorem dX12_image_54 : decode cX12_image 54 = .ok (.ireturn, 1) := by decide +kernel
theorem dX12_back_0 : decode cX12_back 0 = .ok (.iload_n 1, 1) := by decide +kernel
theorem dX12_back_1 : decode cX12_back 1 = .ok (.invokestatic 559, 3) := by decide +kernel
theorem dX12_back_4 : decode cX12_back 4 = .ok (.ifCond .eq 12, 3) := by decide +kernel
theorem dX12_back_7 : decode cX12_back 7 = .ok (.aload_n 0, 1) := by decide +kernel
theorem dX12_back_8 : decode cX12_back 8 = .ok (.getfield 166, 3) := by decide +kernel
theorem dX12_back_11 : decode cX12_back 11 = .ok (.iload_n 1, 1) := by decide +kernel
theorem dX12_back_12 : decode cX12_back 12 = .ok (.baload, 1) := by decide +kernel
theorem dX12_back_13 : decode cX12_back 13 = .ok (.ifCond .ne 5, 3) := by decide +kernel
theorem dX12_back_16 : decode cX12_back 16 = .ok (.iconst (-1), 1) := by decide +kernel
theorem dX12_back_17 : decode cX12_back 17 = .ok (.ireturn, 1) := by decide +kernel
theorem dX12_back_18 : decode cX12_back 18 = .ok (.iconst 0, 1) := by decide +kernel
theorem dX12_back_19 : decode cX12_back 19 = .ok (.istore_n 2, 1) := by decide +kernel
theorem dX12_back_20 : decode cX12_back 20 = .ok (.iload_n 2, 1) := by decide +kernel
theorem dX12_back_21 : decode cX12_back 21 = .ok (.bipush 63, 2) := by decide +kernel
theorem dX12_back_23 : decode cX12_back 23 = .ok (.if_icmp .ge 26, 3) := by decide +kernel
theorem dX12_back_26 : decode cX12_back 26 = .ok (.aload_n 0, 1) := by decide +kernel
theorem dX12_back_27 : decode cX12_back 27 = .ok (.getfield 99, 3) := by decide +kernel
theorem dX12_back_30 : decode cX12_back 30 = .ok (.iload_n 2, 1) := by decide +kernel
theorem dX12_back_31 : decode cX12_back 31 = .ok (.aload_n 0, 1) := by decide +kernel
theorem dX12_back_32 : decode cX12_back 32 = .ok (.getfield 169, 3) := by decide +kernel
theorem dX12_back_35 : decode cX12_back 35 = .ok (.bipush 64, 2) := by decide +kernel
theorem dX12_back_37 : decode cX12_back 37 = .ok (.iload_n 1, 1) := by decide +kernel
theorem dX12_back_38 : decode cX12_back 38 = .ok (.imul, 1) := by decide +kernel
theorem dX12_back_39 : decode cX12_back 39 = .ok (.iload_n 2, 1) := by decide +kernel
theorem dX12_back_40 : decode cX12_back 40 = .ok (.iadd, 1) := by decide +kernel
theorem dX12_back_41 : decode cX12_back 41 = .ok (.iaload, 1) := by decide +kernel
theorem dX12_back_42 : decode cX12_back 42 = .ok (.iastore, 1) := by decide +kernel
theorem dX12_back_43 : decode cX12_back 43 = .ok (.iinc 2 1, 3) := by decide +kernel
theorem dX12_back_46 : decode cX12_back 46 = .ok (.goto (-26), 3) := by decide +kernel
theorem dX12_back_49 : decode cX12_back 49 = .ok (.aload_n 0, 1) := by decide +kernel
theorem dX12_back_50 : decode cX12_back 50 = .ok (.iconst 0, 1) := by decide +kernel
theorem dX12_back_51 : decode cX12_back 51 = .ok (.putfield 416, 3) := by decide +kernel
theorem dX12_back_54 : decode cX12_back 54 = .ok (.aload_n 0, 1) := by decide +kernel
theorem dX12_back_55 : decode cX12_back 55 = .ok (.iconst 0, 1) := by decide +kernel
theorem dX12_back_56 : decode cX12_back 56 = .ok (.putfield 419, 3) := by decide +kernel
theorem dX12_back_59 : decode cX12_back 59 = .ok (.aload_n 0, 1) := by decide +kernel
theorem dX12_back_60 : decode cX12_back 60 = .ok (.getfield 99, 3) := by decide +kernel
theorem dX12_back_63 : decode cX12_back 63 = .ok (.bipush 62, 2) := by decide +kernel
theorem dX12_back_65 : decode cX12_back 65 = .ok (.iaload, 1) := by decide +kernel
theorem dX12_back_66 : decode cX12_back 66 = .ok (.ireturn, 1) := by decide +kernel
theorem dX12_numbers_0 : decode cX12_numbers 0 = .ok (.iconst 0, 1) := by decide +kernel
theorem dX12_numbers_1 : decode cX12_numbers 1 = .ok (.istore_n 1, 1) := by decide +kernel
theorem dX12_numbers_2 : decode cX12_numbers 2 = .ok (.iconst 0, 1) := by decide +kernel
theorem dX12_numbers_3 : decode cX12_numbers 3 = .ok (.istore_n 2, 1) := by decide +kernel
theorem dX12_numbers_4 : decode cX12_numbers 4 = .ok (.iload_n 2, 1) := by decide +kernel
theorem dX12_numbers_5 : decode cX12_numbers 5 = .ok (.aload_n 0, 1) := by decide +kernel
theorem dX12_numbers_6 : decode cX12_numbers 6 = .ok (.getfield 404, 3) := by decide +kernel
theorem dX12_numbers_9 : decode cX12_numbers 9 = .ok (.ifCond .eq 12, 3) := by decide +kernel
theorem dX12_numbers_12 : decode cX12_numbers 12 = .ok (.aload_n 0, 1) := by decide +kernel
theorem dX12_numbers_13 : decode cX12_numbers 13 = .ok (.getfield 36, 3) := by decide +kernel
theorem dX12_numbers_16 : decode cX12_numbers 16 = .ok (.iconst 0, 1) := by decide +kernel
theorem dX12_numbers_17 : decode cX12_numbers 17 = .ok (.iaload, 1) := by decide +kernel
theorem dX12_numbers_18 : decode cX12_numbers 18 = .ok (.goto 4, 3) := by decide +kernel
theorem dX12_numbers_21 : decode cX12_numbers 21 = .ok (.iconst 0, 1) := by decide +kernel
theorem dX12_numbers_22 : decode cX12_numbers 22 = .ok (.if_icmp .ge 29, 3) := by decide +kernel
theorem dX12_numbers_25 : decode cX12_numbers 25 = .ok (.iload_n 1, 1) := by decide +kernel
theorem dX12_numbers_26 : decode cX12_numbers 26 = .ok (.aload_n 0, 1) := by decide +kernel
theorem dX12_numbers_27 : decode cX12_numbers 27 = .ok (.getfield 30, 3) := by decide +kernel
theorem dX12_numbers_30 : decode cX12_numbers 30 = .ok (.iload_n 2, 1) := by decide +kernel
theorem dX12_numbers_31 : decode cX12_numbers 31 = .ok (.iaload, 1) := by decide +kernel
theorem dX12_numbers_32 : decode cX12_numbers 32 = .ok (.ifCond .ne 7, 3) := by decide +kernel
theorem dX12_numbers_35 : decode cX12_numbers 35 = .ok (.iconst 1, 1) := by decide +kernel
theorem dX12_numbers_36 : decode cX12_numbers 36 = .ok (.goto 4, 3) := by decide +kernel
theorem dX12_numbers_39 : decode cX12_numbers 39 = .ok (.iconst 0, 1) := by decide +kernel
theorem dX12_numbers_40 : decode cX12_numbers 40 = .ok (.invokestatic 343, 3) := by decide +kernel
theorem dX12_numbers_43 : decode cX12_numbers 43 = .ok (.iadd, 1) := by decide +kernel
theorem dX12_numbers_44 : decode cX12_numbers 44 = .ok (.istore_n 1, 1) := by decide +kernel
theorem dX12_numbers_45 : decode cX12_numbers 45 = .ok (.iinc 2 1, 3) := by decide +kernel
theorem dX12_numbers_48 : decode cX12_numbers 48 = .ok (.goto (-44), 3) := by decide +kernel
theorem dX12_numbers_51 : decode cX12_numbers 51 = .ok (.iload_n 1, 1) := by decide +kernel
theorem dX12_numbers_52 : decode cX12_numbers 52 = .ok (.ireturn, 1) := by decide +kernel
theorem dX12_debts_0 : decode cX12_debts 0 = .ok (.iconst 0, 1) := by decide +kernel
theorem dX12_debts_1 : decode cX12_debts 1 = .ok (.istore_n 1, 1) := by decide +kernel
theorem dX12_debts_2 : decode cX12_debts 2 = .ok (.iconst 0, 1) := by decide +kernel
theorem dX12_debts_3 : decode cX12_debts 3 = .ok (.istore_n 2, 1) := by decide +kernel
theorem dX12_debts_4 : decode cX12_debts 4 = .ok (.iload_n 2, 1) := by decide +kernel
theorem dX12_debts_5 : decode cX12_debts 5 = .ok (.bipush 36, 2) := by decide +kernel
theorem dX12_debts_7 : decode cX12_debts 7 = .ok (.if_icmp .ge 32, 3) := by decide +kernel
theorem dX12_debts_10 : decode cX12_debts 10 = .ok (.iload_n 1, 1) := by decide +kernel
theorem dX12_debts_11 : decode cX12_debts 11 = .ok (.aload_n 0, 1) := by decide +kernel
theorem dX12_debts_12 : decode cX12_debts 12 = .ok (.getfield 99, 3) := by decide +kernel
theorem dX12_debts_15 : decode cX12_debts 15 = .ok (.bipush 24, 2) := by decide +kernel
theorem dX12_debts_17 : decode cX12_debts 17 = .ok (.iload_n 2, 1) := by decide +kernel
theorem dX12_debts_18 : decode cX12_debts 18 = .ok (.iadd, 1) := by decide +kernel
theorem dX12_debts_19 : decode cX12_debts 19 = .ok (.iaload, 1) := by decide +kernel
theorem dX12_debts_20 : decode cX12_debts 20 = .ok (.ifCond .le 7, 3) := by decide +kernel
theorem dX12_debts_23 : decode cX12_debts 23 = .ok (.iconst 1, 1) := by decide +kernel
theorem dX12_debts_24 : decode cX12_debts 24 = .ok (.goto 4, 3) := by decide +kernel
theorem dX12_debts_27 : decode cX12_debts 27 = .ok (.iconst 0, 1) := by decide +kernel
theorem dX12_debts_28 : decode cX12_debts 28 = .ok (.invokestatic 343, 3) := by decide +kernel
theorem dX12_debts_31 : decode cX12_debts 31 = .ok (.iadd, 1) := by decide +kernel
theorem dX12_debts_32 : decode cX12_debts 32 = .ok (.istore_n 1, 1) := by decide +kernel
theorem dX12_debts_33 : decode cX12_debts 33 = .ok (.iinc 2 1, 3) := by decide +kernel
theorem dX12_debts_36 : decode cX12_debts 36 = .ok (.goto (-32), 3) := by decide +kernel
theorem dX12_debts_39 : decode cX12_debts 39 = .ok (.iload_n 1, 1) := by decide +kernel
theorem dX12_debts_40 : decode cX12_debts 40 = .ok (.ireturn, 1) := by decide +kernel
theorem dX12_about_0 : decode cX12_about 0 = .ok (.iload_n 1, 1) := by decide +kernel
theorem dX12_about_1 : decode cX12_about 1 = .ok (.tableswitch 150 0 13 #[71, 76, 81, 89, 97, 105, 110, 115, 120, 125, 130, 135, 140, 145], 71) := by decide +kernel
theorem dX12_about_72 : decode cX12_about 72 = .ok (.aload_n 0, 1) := by decide +kernel
theorem dX12_about_73 : decode cX12_about 73 = .ok (.getfield 401, 3) := by decide +kernel
theorem dX12_about_76 : decode cX12_about 76 = .ok (.ireturn, 1) := by decide +kernel
theorem dX12_about_77 : decode cX12_about 77 = .ok (.aload_n 0, 1) := by decide +kernel
theorem dX12_about_78 : decode cX12_about 78 = .ok (.getfield 96, 3) := by decide +kernel
theorem dX12_about_81 : decode cX12_about 81 = .ok (.ireturn, 1) := by decide +kernel
theorem dX12_about_82 : decode cX12_about 82 = .ok (.aload_n 0, 1) := by decide +kernel
theorem dX12_about_83 : decode cX12_about 83 = .ok (.getfield 99, 3) := by decide +kernel
theorem dX12_about_86 : decode cX12_about 86 = .ok (.bipush 60, 2) := by decide +kernel
theorem dX12_about_88 : decode cX12_about 88 = .ok (.iaload, 1) := by decide +kernel
theorem dX12_about_89 : decode cX12_about 89 = .ok (.ireturn, 1) := by decide +kernel
theorem dX12_about_90 : decode cX12_about 90 = .ok (.aload_n 0, 1) := by decide +kernel
theorem dX12_about_91 : decode cX12_about 91 = .ok (.getfield 99, 3) := by decide +kernel
theorem dX12_about_94 : decode cX12_about 94 = .ok (.bipush 61, 2) := by decide +kernel
theorem dX12_about_96 : decode cX12_about 96 = .ok (.iaload, 1) := by decide +kernel
theorem dX12_about_97 : decode cX12_about 97 = .ok (.ireturn, 1) := by decide +kernel
theorem dX12_about_98 : decode cX12_about 98 = .ok (.aload_n 0, 1) := by decide +kernel
theorem dX12_about_99 : decode cX12_about 99 = .ok (.getfield 99, 3) := by decide +kernel
theorem dX12_about_102 : decode cX12_about 102 = .ok (.bipush 62, 2) := by decide +kernel
theorem dX12_about_104 : decode cX12_about 104 = .ok (.iaload, 1) := by decide +kernel
theorem dX12_about_105 : decode cX12_about 105 = .ok (.ireturn, 1) := by decide +kernel
theorem dX12_about_106 : decode cX12_about 106 = .ok (.aload_n 0, 1) := by decide +kernel
theorem dX12_about_107 : decode cX12_about 107 = .ok (.getfield 416, 3) := by decide +kernel
theorem dX12_about_110 : decode cX12_about 110 = .ok (.ireturn, 1) := by decide +kernel
theorem dX12_about_111 : decode cX12_about 111 = .ok (.aload_n 0, 1) := by decide +kernel
theorem dX12_about_112 : decode cX12_about 112 = .ok (.getfield 419, 3) := by decide +kernel
theorem dX12_about_115 : decode cX12_about 115 = .ok (.ireturn, 1) := by decide +kernel
theorem dX12_about_116 : decode cX12_about 116 = .ok (.aload_n 0, 1) := by decide +kernel
theorem dX12_about_117 : decode cX12_about 117 = .ok (.getfield 422, 3) := by decide +kernel
theorem dX12_about_120 : decode cX12_about 120 = .ok (.ireturn, 1) := by decide +kernel
theorem dX12_about_121 : decode cX12_about 121 = .ok (.aload_n 0, 1) := by decide +kernel
theorem dX12_about_122 : decode cX12_about 122 = .ok (.getfield 546, 3) := by decide +kernel
theorem dX12_about_125 : decode cX12_about 125 = .ok (.ireturn, 1) := by decide +kernel
theorem dX12_about_126 : decode cX12_about 126 = .ok (.aload_n 0, 1) := by decide +kernel
theorem dX12_about_127 : decode cX12_about 127 = .ok (.getfield 172, 3) := by decide +kernel
theorem dX12_about_130 : decode cX12_about 130 = .ok (.ireturn, 1) := by decide +kernel
theorem dX12_about_131 : decode cX12_about 131 = .ok (.aload_n 0, 1) := by decide +kernel
theorem dX12_about_132 : decode cX12_about 132 = .ok (.getfield 413, 3) := by decide +kernel
theorem dX12_about_135 : decode cX12_about 135 = .ok (.ireturn, 1) := by decide +kernel
theorem dX12_about_136 : decode cX12_about 136 = .ok (.aload_n 0, 1) := by decide +kernel
theorem dX12_about_137 : decode cX12_about 137 = .ok (.invokevirtual 562, 3) := by decide +kernel
theorem dX12_about_140 : decode cX12_about 140 = .ok (.ireturn, 1) := by decide +kernel
theorem dX12_about_141 : decode cX12_about 141 = .ok (.aload_n 0, 1) := by decide +kernel
theorem dX12_about_142 : decode cX12_about 142 = .ok (.getfield 425, 3) := by decide +kernel
theorem dX12_about_145 : decode cX12_about 145 = .ok (.ireturn, 1) := by decide +kernel
theorem dX12_about_146 : decode cX12_about 146 = .ok (.aload_n 0, 1) := by decide +kernel
theorem dX12_about_147 : decode cX12_about 147 = .ok (.invokevirtual 565, 3) := by decide +kernel
theorem dX12_about_150 : decode cX12_about 150 = .ok (.ireturn, 1) := by decide +kernel
theorem dX12_about_151 : decode cX12_about 151 = .ok (.iconst (-1), 1) := by decide +kernel
theorem dX12_about_152 : decode cX12_about 152 = .ok (.ireturn, 1) := by decide +kernel
