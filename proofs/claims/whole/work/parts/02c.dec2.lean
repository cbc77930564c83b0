theorem dX11_init_0 : decode cX11_init 0 = .ok (.aload_n 0, 1) := by decide +kernel
theorem dX11_init_1 : decode cX11_init 1 = .ok (.invokespecial 1, 3) := by decide +kernel
theorem dX11_init_4 : decode cX11_init 4 = .ok (.aload_n 0, 1) := by decide +kernel
theorem dX11_init_5 : decode cX11_init 5 = .ok (.bipush 40, 2) := by decide +kernel
theorem dX11_init_7 : decode cX11_init 7 = .ok (.newarray .int, 2) := by decide +kernel
theorem dX11_init_9 : decode cX11_init 9 = .ok (.putfield 7, 3) := by decide +kernel
theorem dX11_init_12 : decode cX11_init 12 = .ok (.aload_n 0, 1) := by decide +kernel
theorem dX11_init_13 : decode cX11_init 13 = .ok (.sipush 2400, 3) := by decide +kernel
theorem dX11_init_16 : decode cX11_init 16 = .ok (.newarray .boolean, 2) := by decide +kernel
theorem dX11_init_18 : decode cX11_init 18 = .ok (.putfield 13, 3) := by decide +kernel
theorem dX11_init_21 : decode cX11_init 21 = .ok (.aload_n 0, 1) := by decide +kernel
theorem dX11_init_22 : decode cX11_init 22 = .ok (.sipush 301, 3) := by decide +kernel
theorem dX11_init_25 : decode cX11_init 25 = .ok (.newarray .int, 2) := by decide +kernel
theorem dX11_init_27 : decode cX11_init 27 = .ok (.putfield 17, 3) := by decide +kernel
theorem dX11_init_30 : decode cX11_init 30 = .ok (.aload_n 0, 1) := by decide +kernel
theorem dX11_init_31 : decode cX11_init 31 = .ok (.sipush 301, 3) := by decide +kernel
theorem dX11_init_34 : decode cX11_init 34 = .ok (.newarray .int, 2) := by decide +kernel
theorem dX11_init_36 : decode cX11_init 36 = .ok (.putfield 20, 3) := by decide +kernel
theorem dX11_init_39 : decode cX11_init 39 = .ok (.aload_n 0, 1) := by decide +kernel
theorem dX11_init_40 : decode cX11_init 40 = .ok (.sipush 301, 3) := by decide +kernel
theorem dX11_init_43 : decode cX11_init 43 = .ok (.newarray .int, 2) := by decide +kernel
theorem dX11_init_45 : decode cX11_init 45 = .ok (.putfield 23, 3) := by decide +kernel
theorem dX11_init_48 : decode cX11_init 48 = .ok (.aload_n 0, 1) := by decide +kernel
theorem dX11_init_49 : decode cX11_init 49 = .ok (.sipush 301, 3) := by decide +kernel
theorem dX11_init_52 : decode cX11_init 52 = .ok (.newarray .int, 2) := by decide +kernel
theorem dX11_init_54 : decode cX11_init 54 = .ok (.putfield 26, 3) := by decide +kernel
theorem dX11_init_57 : decode cX11_init 57 = .ok (.aload_n 0, 1) := by decide +kernel
theorem dX11_init_58 : decode cX11_init 58 = .ok (.sipush 301, 3) := by decide +kernel
theorem dX11_init_61 : decode cX11_init 61 = .ok (.newarray .int, 2) := by decide +kernel
theorem dX11_init_63 : decode cX11_init 63 = .ok (.putfield 29, 3) := by decide +kernel
theorem dX11_init_66 : decode cX11_init 66 = .ok (.aload_n 0, 1) := by decide +kernel
theorem dX11_init_67 : decode cX11_init 67 = .ok (.sipush 301, 3) := by decide +kernel
theorem dX11_init_70 : decode cX11_init 70 = .ok (.newarray .long, 2) := by decide +kernel
theorem dX11_init_72 : decode cX11_init 72 = .ok (.putfield 32, 3) := by decide +kernel
theorem dX11_init_75 : decode cX11_init 75 = .ok (.aload_n 0, 1) := by decide +kernel
theorem dX11_init_76 : decode cX11_init 76 = .ok (.sipush 301, 3) := by decide +kernel
theorem dX11_init_79 : decode cX11_init 79 = .ok (.newarray .int, 2) := by decide +kernel
theorem dX11_init_81 : decode cX11_init 81 = .ok (.putfield 36, 3) := by decide +kernel
theorem dX11_init_84 : decode cX11_init 84 = .ok (.aload_n 0, 1) := by decide +kernel
theorem dX11_init_85 : decode cX11_init 85 = .ok (.sipush 301, 3) := by decide +kernel
theorem dX11_init_88 : decode cX11_init 88 = .ok (.newarray .long, 2) := by decide +kernel
theorem dX11_init_90 : decode cX11_init 90 = .ok (.putfield 39, 3) := by decide +kernel
theorem dX11_init_93 : decode cX11_init 93 = .ok (.aload_n 0, 1) := by decide +kernel
theorem dX11_init_94 : decode cX11_init 94 = .ok (.sipush 301, 3) := by decide +kernel
theorem dX11_init_97 : decode cX11_init 97 = .ok (.newarray .int, 2) := by decide +kernel
theorem dX11_init_99 : decode cX11_init 99 = .ok (.putfield 42, 3) := by decide +kernel
theorem dX11_init_102 : decode cX11_init 102 = .ok (.aload_n 0, 1) := by decide +kernel
theorem dX11_init_103 : decode cX11_init 103 = .ok (.sipush 301, 3) := by decide +kernel
theorem dX11_init_106 : decode cX11_init 106 = .ok (.newarray .long, 2) := by decide +kernel
theorem dX11_init_108 : decode cX11_init 108 = .ok (.putfield 45, 3) := by decide +kernel
theorem dX11_init_111 : decode cX11_init 111 = .ok (.aload_n 0, 1) := by decide +kernel
theorem dX11_init_112 : decode cX11_init 112 = .ok (.sipush 301, 3) := by decide +kernel
theorem dX11_init_115 : decode cX11_init 115 = .ok (.newarray .int, 2) := by decide +kernel
theorem dX11_init_117 : decode cX11_init 117 = .ok (.putfield 48, 3) := by decide +kernel
theorem dX11_init_120 : decode cX11_init 120 = .ok (.aload_n 0, 1) := by decide +kernel
theorem dX11_init_121 : decode cX11_init 121 = .ok (.sipush 301, 3) := by decide +kernel
theorem dX11_init_124 : decode cX11_init 124 = .ok (.newarray .int, 2) := by decide +kernel
theorem dX11_init_126 : decode cX11_init 126 = .ok (.putfield 51, 3) := by decide +kernel
theorem dX11_init_129 : decode cX11_init 129 = .ok (.aload_n 0, 1) := by decide +kernel
theorem dX11_init_130 : decode cX11_init 130 = .ok (.sipush 301, 3) := by decide +kernel
theorem dX11_init_133 : decode cX11_init 133 = .ok (.newarray .int, 2) := by decide +kernel
theorem dX11_init_135 : decode cX11_init 135 = .ok (.putfield 54, 3) := by decide +kernel
theorem dX11_init_138 : decode cX11_init 138 = .ok (.aload_n 0, 1) := by decide +kernel
theorem dX11_init_139 : decode cX11_init 139 = .ok (.sipush 301, 3) := by decide +kernel
theorem dX11_init_142 : decode cX11_init 142 = .ok (.newarray .int, 2) := by decide +kernel
theorem dX11_init_144 : decode cX11_init 144 = .ok (.putfield 57, 3) := by decide +kernel
theorem dX11_init_147 : decode cX11_init 147 = .ok (.aload_n 0, 1) := by decide +kernel
theorem dX11_init_148 : decode cX11_init 148 = .ok (.sipush 301, 3) := by decide +kernel
theorem dX11_init_151 : decode cX11_init 151 = .ok (.newarray .int, 2) := by decide +kernel
theorem dX11_init_153 : decode cX11_init 153 = .ok (.putfield 60, 3) := by decide +kernel
theorem dX11_init_156 : decode cX11_init 156 = .ok (.aload_n 0, 1) := by decide +kernel
theorem dX11_init_157 : decode cX11_init 157 = .ok (.sipush 301, 3) := by decide +kernel
theorem dX11_init_160 : decode cX11_init 160 = .ok (.newarray .boolean, 2) := by decide +kernel
theorem dX11_init_162 : decode cX11_init 162 = .ok (.putfield 63, 3) := by decide +kernel
theorem dX11_init_165 : decode cX11_init 165 = .ok (.aload_n 0, 1) := by decide +kernel
theorem dX11_init_166 : decode cX11_init 166 = .ok (.sipush 301, 3) := by decide +kernel
theorem dX11_init_169 : decode cX11_init 169 = .ok (.newarray .boolean, 2) := by decide +kernel
theorem dX11_init_171 : decode cX11_init 171 = .ok (.putfield 66, 3) := by decide +kernel
theorem dX11_init_174 : decode cX11_init 174 = .ok (.aload_n 0, 1) := by decide +kernel
theorem dX11_init_175 : decode cX11_init 175 = .ok (.sipush 301, 3) := by decide +kernel
theorem dX11_init_178 : decode cX11_init 178 = .ok (.newarray .int, 2) := by decide +kernel
theorem dX11_init_180 : decode cX11_init 180 = .ok (.putfield 69, 3) := by decide +kernel
theorem dX11_init_183 : decode cX11_init 183 = .ok (.aload_n 0, 1) := by decide +kernel
theorem dX11_init_184 : decode cX11_init 184 = .ok (.sipush 301, 3) := by decide +kernel
theorem dX11_init_187 : decode cX11_init 187 = .ok (.newarray .int, 2) := by decide +kernel
theorem dX11_init_189 : decode cX11_init 189 = .ok (.putfield 72, 3) := by decide +kernel
theorem dX11_init_192 : decode cX11_init 192 = .ok (.aload_n 0, 1) := by decide +kernel
theorem dX11_init_193 : decode cX11_init 193 = .ok (.sipush 301, 3) := by decide +kernel
theorem dX11_init_196 : decode cX11_init 196 = .ok (.newarray .int, 2) := by decide +kernel
theorem dX11_init_198 : decode cX11_init 198 = .ok (.putfield 75, 3) := by decide +kernel
theorem dX11_init_201 : decode cX11_init 201 = .ok (.aload_n 0, 1) := by decide +kernel
theorem dX11_init_202 : decode cX11_init 202 = .ok (.sipush 301, 3) := by decide +kernel
theorem dX11_init_205 : decode cX11_init 205 = .ok (.newarray .int, 2) := by decide +kernel
theorem dX11_init_207 : decode cX11_init 207 = .ok (.putfield 78, 3) := by decide +kernel
theorem dX11_init_210 : decode cX11_init 210 = .ok (.aload_n 0, 1) := by decide +kernel
theorem dX11_init_211 : decode cX11_init 211 = .ok (.sipush 301, 3) := by decide +kernel
theorem dX11_init_214 : decode cX11_init 214 = .ok (.newarray .int, 2) := by decide +kernel
theorem dX11_init_216 : decode cX11_init 216 = .ok (.putfield 81, 3) := by decide +kernel
theorem dX11_init_219 : decode cX11_init 219 = .ok (.aload_n 0, 1) := by decide +kernel
theorem dX11_init_220 : decode cX11_init 220 = .ok (.sipush 301, 3) := by decide +kernel
theorem dX11_init_223 : decode cX11_init 223 = .ok (.newarray .int, 2) := by decide +kernel
theorem dX11_init_225 : decode cX11_init 225 = .ok (.putfield 84, 3) := by decide +kernel
theorem dX11_init_228 : decode cX11_init 228 = .ok (.aload_n 0, 1) := by decide +kernel
theorem dX11_init_229 : decode cX11_init 229 = .ok (.sipush 301, 3) := by decide +kernel
theorem dX11_init_232 : decode cX11_init 232 = .ok (.newarray .int, 2) := by decide +kernel
theorem dX11_init_234 : decode cX11_init 234 = .ok (.putfield 87, 3) := by decide +kernel
theorem dX11_init_237 : decode cX11_init 237 = .ok (.aload_n 0, 1) := by decide +kernel
theorem dX11_init_238 : decode cX11_init 238 = .ok (.sipush 301, 3) := by decide +kernel
theorem dX11_init_241 : decode cX11_init 241 = .ok (.newarray .int, 2) := by decide +kernel
theorem dX11_init_243 : decode cX11_init 243 = .ok (.putfield 90, 3) := by decide +kernel
theorem dX11_init_246 : decode cX11_init 246 = .ok (.aload_n 0, 1) := by decide +kernel
theorem dX11_init_247 : decode cX11_init 247 = .ok (.sipush 18060, 3) := by decide +kernel
theorem dX11_init_250 : decode cX11_init 250 = .ok (.newarray .int, 2) := by decide +kernel
theorem dX11_init_252 : decode cX11_init 252 = .ok (.putfield 93, 3) := by decide +kernel
theorem dX11_init_255 : decode cX11_init 255 = .ok (.aload_n 0, 1) := by decide +kernel
theorem dX11_init_256 : decode cX11_init 256 = .ok (.sipush 18060, 3) := by decide +kernel
theorem dX11_init_259 : decode cX11_init 259 = .ok (.newarray .int, 2) := by decide +kernel
theorem dX11_init_261 : decode cX11_init 261 = .ok (.putfield 96, 3) := by decide +kernel
theorem dX11_init_264 : decode cX11_init 264 = .ok (.aload_n 0, 1) := by decide +kernel
theorem dX11_init_265 : decode cX11_init 265 = .ok (.bipush 101, 2) := by decide +kernel
theorem dX11_init_267 : decode cX11_init 267 = .ok (.newarray .int, 2) := by decide +kernel
theorem dX11_init_269 : decode cX11_init 269 = .ok (.putfield 99, 3) := by decide +kernel
theorem dX11_init_272 : decode cX11_init 272 = .ok (.aload_n 0, 1) := by decide +kernel
theorem dX11_init_273 : decode cX11_init 273 = .ok (.bipush 101, 2) := by decide +kernel
theorem dX11_init_275 : decode cX11_init 275 = .ok (.newarray .int, 2) := by decide +kernel
theorem dX11_init_277 : decode cX11_init 277 = .ok (.putfield 102, 3) := by decide +kernel
theorem dX11_init_280 : decode cX11_init 280 = .ok (.aload_n 0, 1) := by decide +kernel
theorem dX11_init_281 : decode cX11_init 281 = .ok (.bipush 101, 2) := by decide +kernel
theorem dX11_init_283 : decode cX11_init 283 = .ok (.newarray .long, 2) := by decide +kernel
theorem dX11_init_285 : decode cX11_init 285 = .ok (.putfield 105, 3) := by decide +kernel
theorem dX11_init_288 : decode cX11_init 288 = .ok (.aload_n 0, 1) := by decide +kernel
theorem dX11_init_289 : decode cX11_init 289 = .ok (.bipush 101, 2) := by decide +kernel
theorem dX11_init_291 : decode cX11_init 291 = .ok (.newarray .int, 2) := by decide +kernel
theorem dX11_init_293 : decode cX11_init 293 = .ok (.putfield 108, 3) := by decide +kernel
theorem dX11_init_296 : decode cX11_init 296 = .ok (.aload_n 0, 1) := by decide +kernel
theorem dX11_init_297 : decode cX11_init 297 = .ok (.bipush 101, 2) := by decide +kernel
theorem dX11_init_299 : decode cX11_init 299 = .ok (.newarray .int, 2) := by decide +kernel
theorem dX11_init_301 : decode cX11_init 301 = .ok (.putfield 111, 3) := by decide +kernel
theorem dX11_init_304 : decode cX11_init 304 = .ok (.aload_n 0, 1) := by decide +kernel
theorem dX11_init_305 : decode cX11_init 305 = .ok (.bipush 101, 2) := by decide +kernel
theorem dX11_init_307 : decode cX11_init 307 = .ok (.newarray .int, 2) := by decide +kernel
theorem dX11_init_309 : decode cX11_init 309 = .ok (.putfield 114, 3) := by decide +kernel
theorem dX11_init_312 : decode cX11_init 312 = .ok (.aload_n 0, 1) := by decide +kernel
theorem dX11_init_313 : decode cX11_init 313 = .ok (.bipush 101, 2) := by decide +kernel
theorem dX11_init_315 : decode cX11_init 315 = .ok (.newarray .int, 2) := by decide +kernel
theorem dX11_init_317 : decode cX11_init 317 = .ok (.putfield 117, 3) := by decide +kernel
theorem dX11_init_320 : decode cX11_init 320 = .ok (.aload_n 0, 1) := by decide +kernel
theorem dX11_init_321 : decode cX11_init 321 = .ok (.iconst (-1), 1) := by decide +kernel
theorem dX11_init_322 : decode cX11_init 322 = .ok (.putfield 120, 3) := by decide +kernel
theorem dX11_init_325 : decode cX11_init 325 = .ok (.aload_n 0, 1) := by decide +kernel
theorem dX11_init_326 : decode cX11_init 326 = .ok (.sipush 301, 3) := by decide +kernel
theorem dX11_init_329 : decode cX11_init 329 = .ok (.newarray .int, 2) := by decide +kernel
theorem dX11_init_331 : decode cX11_init 331 = .ok (.putfield 124, 3) := by decide +kernel
theorem dX11_init_334 : decode cX11_init 334 = .ok (.aload_n 0, 1) := by decide +kernel
theorem dX11_init_335 : decode cX11_init 335 = .ok (.sipush 301, 3) := by decide +kernel
theorem dX11_init_338 : decode cX11_init 338 = .ok (.newarray .long, 2) := by decide +kernel
theorem dX11_init_340 : decode cX11_init 340 = .ok (.putfield 127, 3) := by decide +kernel
theorem dX11_init_343 : decode cX11_init 343 = .ok (.aload_n 0, 1) := by decide +kernel
theorem dX11_init_344 : decode cX11_init 344 = .ok (.sipush 301, 3) := by decide +kernel
theorem dX11_init_347 : decode cX11_init 347 = .ok (.newarray .int, 2) := by decide +kernel
theorem dX11_init_349 : decode cX11_init 349 = .ok (.putfield 130, 3) := by decide +kernel
theorem dX11_init_352 : decode cX11_init 352 = .ok (.aload_n 0, 1) := by decide +kernel
theorem dX11_init_353 : decode cX11_init 353 = .ok (.sipush 301, 3) := by decide +kernel
theorem dX11_init_356 : decode cX11_init 356 = .ok (.newarray .int, 2) := by decide +kernel
theorem dX11_init_358 : decode cX11_init 358 = .ok (.putfield 133, 3) := by decide +kernel
theorem dX11_init_361 : decode cX11_init 361 = .ok (.aload_n 0, 1) := by decide +kernel
theorem dX11_init_362 : decode cX11_init 362 = .ok (.sipush 602, 3) := by decide +kernel
theorem dX11_init_365 : decode cX11_init 365 = .ok (.newarray .int, 2) := by decide +kernel
theorem dX11_init_367 : decode cX11_init 367 = .ok (.putfield 136, 3) := by decide +kernel
theorem dX11_init_370 : decode cX11_init 370 = .ok (.aload_n 0, 1) := by decide +kernel
theorem dX11_init_371 : decode cX11_init 371 = .ok (.sipush 602, 3) := by decide +kernel
theorem dX11_init_374 : decode cX11_init 374 = .ok (.newarray .boolean, 2) := by decide +kernel
theorem dX11_init_376 : decode cX11_init 376 = .ok (.putfield 139, 3) := by decide +kernel
theorem dX11_init_379 : decode cX11_init 379 = .ok (.aload_n 0, 1) := by decide +kernel
theorem dX11_init_380 : decode cX11_init 380 = .ok (.sipush 301, 3) := by decide +kernel
theorem dX11_init_383 : decode cX11_init 383 = .ok (.newarray .int, 2) := by decide +kernel
theorem dX11_init_385 : decode cX11_init 385 = .ok (.putfield 142, 3) := by decide +kernel
theorem dX11_init_388 : decode cX11_init 388 = .ok (.aload_n 0, 1) := by decide +kernel
theorem dX11_init_389 : decode cX11_init 389 = .ok (.sipush 301, 3) := by decide +kernel
theorem dX11_init_392 : decode cX11_init 392 = .ok (.newarray .int, 2) := by decide +kernel
theorem dX11_init_394 : decode cX11_init 394 = .ok (.putfield 145, 3) := by decide +kernel
theorem dX11_init_397 : decode cX11_init 397 = .ok (.aload_n 0, 1) := by decide +kernel
theorem dX11_init_398 : decode cX11_init 398 = .ok (.sipush 301, 3) := by decide +kernel
theorem dX11_init_401 : decode cX11_init 401 = .ok (.newarray .long, 2) := by decide +kernel
theorem dX11_init_403 : decode cX11_init 403 = .ok (.putfield 148, 3) := by decide +kernel
theorem dX11_init_406 : decode cX11_init 406 = .ok (.aload_n 0, 1) := by decide +kernel
theorem dX11_init_407 : decode cX11_init 407 = .ok (.sipush 301, 3) := by decide +kernel
theorem dX11_init_410 : decode cX11_init 410 = .ok (.newarray .long, 2) := by decide +kernel
theorem dX11_init_412 : decode cX11_init 412 = .ok (.putfield 151, 3) := by decide +kernel
theorem dX11_init_415 : decode cX11_init 415 = .ok (.aload_n 0, 1) := by decide +kernel
theorem dX11_init_416 : decode cX11_init 416 = .ok (.sipush 301, 3) := by decide +kernel
theorem dX11_init_419 : decode cX11_init 419 = .ok (.newarray .boolean, 2) := by decide +kernel
theorem dX11_init_421 : decode cX11_init 421 = .ok (.putfield 154, 3) := by decide +kernel
theorem dX11_init_424 : decode cX11_init 424 = .ok (.aload_n 0, 1) := by decide +kernel
theorem dX11_init_425 : decode cX11_init 425 = .ok (.sipush 301, 3) := by decide +kernel
theorem dX11_init_428 : decode cX11_init 428 = .ok (.newarray .long, 2) := by decide +kernel
theorem dX11_init_430 : decode cX11_init 430 = .ok (.putfield 157, 3) := by decide +kernel
theorem dX11_init_433 : decode cX11_init 433 = .ok (.aload_n 0, 1) := by decide +kernel
theorem dX11_init_434 : decode cX11_init 434 = .ok (.sipush 301, 3) := by decide +kernel
theorem dX11_init_437 : decode cX11_init 437 = .ok (.newarray .long, 2) := by decide +kernel
theorem dX11_init_439 : decode cX11_init 439 = .ok (.putfield 160, 3) := by decide +kernel
theorem dX11_init_442 : decode cX11_init 442 = .ok (.return_, 1) := by decide +kernel
theorem dX11_refuse_0 : decode cX11_refuse 0 = .ok (.aload_n 0, 1) := by decide +kernel
theorem dX11_refuse_1 : decode cX11_refuse 1 = .ok (.iload_n 1, 1) := by decide +kernel
theorem dX11_refuse_2 : decode cX11_refuse 2 = .ok (.putfield 163, 3) := by decide +kernel
theorem dX11_refuse_5 : decode cX11_refuse 5 = .ok (.iconst (-1), 1) := by decide +kernel
theorem dX11_refuse_6 : decode cX11_refuse 6 = .ok (.ireturn, 1) := by decide +kernel
theorem dX11_no_0 : decode cX11_no 0 = .ok (.aload_n 0, 1) := by decide +kernel
theorem dX11_no_1 : decode cX11_no 1 = .ok (.iload_n 1, 1) := by decide +kernel
theorem dX11_no_2 : decode cX11_no 2 = .ok (.putfield 163, 3) := by decide +kernel
theorem dX11_no_5 : decode cX11_no 5 = .ok (.iconst 0, 1) := by decide +kernel
theorem dX11_no_6 : decode cX11_no 6 = .ok (.ireturn, 1) := by decide +kernel
theorem dX11_dateNow_0 : decode cX11_dateNow 0 = .ok (.aload_n 0, 1) := by decide +kernel
theorem dX11_dateNow_1 : decode cX11_dateNow 1 = .ok (.getfield 120, 3) := by decide +kernel
theorem dX11_dateNow_4 : decode cX11_dateNow 4 = .ok (.iconst (-1), 1) := by decide +kernel
theorem dX11_dateNow_5 : decode cX11_dateNow 5 = .ok (.if_icmp .ne 10, 3) := by decide +kernel
theorem dX11_dateNow_8 : decode cX11_dateNow 8 = .ok (.aload_n 0, 1) := by decide +kernel
theorem dX11_dateNow_9 : decode cX11_dateNow 9 = .ok (.getfield 166, 3) := by decide +kernel
theorem dX11_dateNow_12 : decode cX11_dateNow 12 = .ok (.goto 7, 3) := by decide +kernel
theorem dX11_dateNow_15 : decode cX11_dateNow 15 = .ok (.aload_n 0, 1) := by decide +kernel
theorem dX11_dateNow_16 : decode cX11_dateNow 16 = .ok (.getfield 120, 3) := by decide +kernel
theorem dX11_dateNow_19 : decode cX11_dateNow 19 = .ok (.ireturn, 1) := by decide +kernel
theorem dX11_isEntry_0 : decode cX11_isEntry 0 = .ok (.iload_n 1, 1) := by decide +kernel
theorem dX11_isEntry_1 : decode cX11_isEntry 1 = .ok (.iconst 1, 1) := by decide +kernel
theorem dX11_isEntry_2 : decode cX11_isEntry 2 = .ok (.if_icmp .lt 15, 3) := by decide +kernel
theorem dX11_isEntry_5 : decode cX11_isEntry 5 = .ok (.iload_n 1, 1) := by decide +kernel
theorem dX11_isEntry_6 : decode cX11_isEntry 6 = .ok (.aload_n 0, 1) := by decide +kernel
theorem dX11_isEntry_7 : decode cX11_isEntry 7 = .ok (.getfield 169, 3) := by decide +kernel
theorem dX11_isEntry_10 : decode cX11_isEntry 10 = .ok (.if_icmp .gt 7, 3) := by decide +kernel
theorem dX11_isEntry_13 : decode cX11_isEntry 13 = .ok (.iconst 1, 1) := by decide +kernel
theorem dX11_isEntry_14 : decode cX11_isEntry 14 = .ok (.goto 4, 3) := by decide +kernel
theorem dX11_isEntry_17 : decode cX11_isEntry 17 = .ok (.iconst 0, 1) := by decide +kernel
theorem dX11_isEntry_18 : decode cX11_isEntry 18 = .ok (.ireturn, 1) := by decide +kernel
theorem dX11_wrong_0 : decode cX11_wrong 0 = .ok (.iload_n 1, 1) := by decide +kernel
theorem dX11_wrong_1 : decode cX11_wrong 1 = .ok (.ifCond .lt 11, 3) := by decide +kernel
theorem dX11_wrong_4 : decode cX11_wrong 4 = .ok (.iload_n 1, 1) := by decide +kernel
theorem dX11_wrong_5 : decode cX11_wrong 5 = .ok (.aload_n 0, 1) := by decide +kernel
theorem dX11_wrong_6 : decode cX11_wrong 6 = .ok (.getfield 172, 3) := by decide +kernel
theorem dX11_wrong_9 : decode cX11_wrong 9 = .ok (.if_icmp .lt 5, 3) := by decide +kernel
theorem dX11_wrong_12 : decode cX11_wrong 12 = .ok (.iconst 1, 1) := by decide +kernel
theorem dX11_wrong_13 : decode cX11_wrong 13 = .ok (.ireturn, 1) := by decide +kernel
theorem dX11_wrong_14 : decode cX11_wrong 14 = .ok (.iload_n 2, 1) := by decide +kernel
theorem dX11_wrong_15 : decode cX11_wrong 15 = .ok (.ifCond .lt 13, 3) := by decide +kernel
theorem dX11_wrong_18 : decode cX11_wrong 18 = .ok (.iload_n 2, 1) := by decide +kernel
theorem dX11_wrong_19 : decode cX11_wrong 19 = .ok (.aload_n 0, 1) := by decide +kernel
theorem dX11_wrong_20 : decode cX11_wrong 20 = .ok (.getfield 7, 3) := by decide +kernel
theorem dX11_wrong_23 : decode cX11_wrong 23 = .ok (.iload_n 1, 1) := by decide +kernel
theorem dX11_wrong_24 : decode cX11_wrong 24 = .ok (.iaload, 1) := by decide +kernel
theorem dX11_wrong_25 : decode cX11_wrong 25 = .ok (.if_icmp .lt 5, 3) := by decide +kernel
theorem dX11_wrong_28 : decode cX11_wrong 28 = .ok (.iconst 2, 1) := by decide +kernel
theorem dX11_wrong_29 : decode cX11_wrong 29 = .ok (.ireturn, 1) := by decide +kernel
theorem dX11_wrong_30 : decode cX11_wrong 30 = .ok (.aload_n 0, 1) := by decide +kernel
theorem dX11_wrong_31 : decode cX11_wrong 31 = .ok (.getfield 13, 3) := by decide +kernel
theorem dX11_wrong_34 : decode cX11_wrong 34 = .ok (.bipush 60, 2) := by decide +kernel
theorem dX11_wrong_36 : decode cX11_wrong 36 = .ok (.iload_n 1, 1) := by decide +kernel
theorem dX11_wrong_37 : decode cX11_wrong 37 = .ok (.imul, 1) := by decide +kernel
theorem dX11_wrong_38 : decode cX11_wrong 38 = .ok (.iload_n 2, 1) := by decide +kernel
theorem dX11_wrong_39 : decode cX11_wrong 39 = .ok (.iadd, 1) := by decide +kernel
theorem dX11_wrong_40 : decode cX11_wrong 40 = .ok (.baload, 1) := by decide +kernel
theorem dX11_wrong_41 : decode cX11_wrong 41 = .ok (.ifCond .eq 7, 3) := by decide +kernel
theorem dX11_wrong_44 : decode cX11_wrong 44 = .ok (.iconst 3, 1) := by decide +kernel
theorem dX11_wrong_45 : decode cX11_wrong 45 = .ok (.goto 4, 3) := by decide +kernel
theorem dX11_wrong_48 : decode cX11_wrong 48 = .ok (.iconst 0, 1) := by decide +kernel
theorem dX11_wrong_49 : decode cX11_wrong 49 = .ok (.ireturn, 1) := by decide +kernel
theorem dX11_view_0 : decode cX11_view 0 = .ok (.aload_n 0, 1) := by decide +kernel
theorem dX11_view_1 : decode cX11_view 1 = .ok (.iload_n 1, 1) := by decide +kernel
theorem dX11_view_2 : decode cX11_view 2 = .ok (.putfield 175, 3) := by decide +kernel
theorem dX11_view_5 : decode cX11_view 5 = .ok (.aload_n 0, 1) := by decide +kernel
theorem dX11_view_6 : decode cX11_view 6 = .ok (.iload_n 2, 1) := by decide +kernel
theorem dX11_view_7 : decode cX11_view 7 = .ok (.putfield 178, 3) := by decide +kernel
theorem dX11_view_10 : decode cX11_view 10 = .ok (.return_, 1) := by decide +kernel
theorem dX11_now_0 : decode cX11_now 0 = .ok (.aload_n 0, 1) := by decide +kernel
theorem dX11_now_1 : decode cX11_now 1 = .ok (.aload_n 0, 1) := by decide +kernel
theorem dX11_now_2 : decode cX11_now 2 = .ok (.getfield 166, 3) := by decide +kernel
theorem dX11_now_5 : decode cX11_now 5 = .ok (.aload_n 0, 1) := by decide +kernel
theorem dX11_now_6 : decode cX11_now 6 = .ok (.getfield 166, 3) := by decide +kernel
theorem dX11_now_9 : decode cX11_now 9 = .ok (.invokevirtual 181, 3) := by decide +kernel
theorem dX11_now_12 : decode cX11_now 12 = .ok (.return_, 1) := by decide +kernel
theorem dX11_counts_0 : decode cX11_counts 0 = .ok (.iload_n 2, 1) := by decide +kernel
theorem dX11_counts_1 : decode cX11_counts 1 = .ok (.iconst (-1), 1) := by decide +kernel
theorem dX11_counts_2 : decode cX11_counts 2 = .ok (.if_icmp .eq 23, 3) := by decide +kernel
theorem dX11_counts_5 : decode cX11_counts 5 = .ok (.iload_n 1, 1) := by decide +kernel
theorem dX11_counts_6 : decode cX11_counts 6 = .ok (.aload_n 0, 1) := by decide +kernel
theorem dX11_counts_7 : decode cX11_counts 7 = .ok (.getfield 175, 3) := by decide +kernel
theorem dX11_counts_10 : decode cX11_counts 10 = .ok (.if_icmp .gt 15, 3) := by decide +kernel
theorem dX11_counts_13 : decode cX11_counts 13 = .ok (.iload_n 2, 1) := by decide +kernel
theorem dX11_counts_14 : decode cX11_counts 14 = .ok (.aload_n 0, 1) := by decide +kernel
theorem dX11_counts_15 : decode cX11_counts 15 = .ok (.getfield 178, 3) := by decide +kernel
theorem dX11_counts_18 : decode cX11_counts 18 = .ok (.if_icmp .gt 7, 3) := by decide +kernel
theorem dX11_counts_21 : decode cX11_counts 21 = .ok (.iconst 1, 1) := by decide +kernel
theorem dX11_counts_22 : decode cX11_counts 22 = .ok (.goto 4, 3) := by decide +kernel
theorem dX11_counts_25 : decode cX11_counts 25 = .ok (.iconst 0, 1) := by decide +kernel
theorem dX11_counts_26 : decode cX11_counts 26 = .ok (.ireturn, 1) := by decide +kernel
theorem dX11_lives_0 : decode cX11_lives 0 = .ok (.aload_n 0, 1) := by decide +kernel
theorem dX11_lives_1 : decode cX11_lives 1 = .ok (.getfield 23, 3) := by decide +kernel
theorem dX11_lives_4 : decode cX11_lives 4 = .ok (.iload_n 1, 1) := by decide +kernel
theorem dX11_lives_5 : decode cX11_lives 5 = .ok (.iaload, 1) := by decide +kernel
theorem dX11_lives_6 : decode cX11_lives 6 = .ok (.istore_n 2, 1) := by decide +kernel
theorem dX11_lives_7 : decode cX11_lives 7 = .ok (.aload_n 0, 1) := by decide +kernel
theorem dX11_lives_8 : decode cX11_lives 8 = .ok (.aload_n 0, 1) := by decide +kernel
theorem dX11_lives_9 : decode cX11_lives 9 = .ok (.getfield 48, 3) := by decide +kernel
theorem dX11_lives_12 : decode cX11_lives 12 = .ok (.iload_n 2, 1) := by decide +kernel
theorem dX11_lives_13 : decode cX11_lives 13 = .ok (.iaload, 1) := by decide +kernel
theorem dX11_lives_14 : decode cX11_lives 14 = .ok (.aload_n 0, 1) := by decide +kernel
theorem dX11_lives_15 : decode cX11_lives 15 = .ok (.getfield 51, 3) := by decide +kernel
theorem dX11_lives_18 : decode cX11_lives 18 = .ok (.iload_n 2, 1) := by decide +kernel
theorem dX11_lives_19 : decode cX11_lives 19 = .ok (.iaload, 1) := by decide +kernel
theorem dX11_lives_20 : decode cX11_lives 20 = .ok (.invokevirtual 185, 3) := by decide +kernel
theorem dX11_lives_23 : decode cX11_lives 23 = .ok (.ifCond .eq 26, 3) := by decide +kernel
theorem dX11_lives_26 : decode cX11_lives 26 = .ok (.aload_n 0, 1) := by decide +kernel
theorem dX11_lives_27 : decode cX11_lives 27 = .ok (.aload_n 0, 1) := by decide +kernel
theorem dX11_lives_28 : decode cX11_lives 28 = .ok (.getfield 54, 3) := by decide +kernel
theorem dX11_lives_31 : decode cX11_lives 31 = .ok (.iload_n 2, 1) := by decide +kernel
theorem dX11_lives_32 : decode cX11_lives 32 = .ok (.iaload, 1) := by decide +kernel
theorem dX11_lives_33 : decode cX11_lives 33 = .ok (.aload_n 0, 1) := by decide +kernel
theorem dX11_lives_34 : decode cX11_lives 34 = .ok (.getfield 57, 3) := by decide +kernel
theorem dX11_lives_37 : decode cX11_lives 37 = .ok (.iload_n 2, 1) := by decide +kernel
theorem dX11_lives_38 : decode cX11_lives 38 = .ok (.iaload, 1) := by decide +kernel
theorem dX11_lives_39 : decode cX11_lives 39 = .ok (.invokevirtual 185, 3) := by decide +kernel
theorem dX11_lives_42 : decode cX11_lives 42 = .ok (.ifCond .ne 7, 3) := by decide +kernel
theorem dX11_lives_45 : decode cX11_lives 45 = .ok (.iconst 1, 1) := by decide +kernel
theorem dX11_lives_46 : decode cX11_lives 46 = .ok (.goto 4, 3) := by decide +kernel
theorem dX11_lives_49 : decode cX11_lives 49 = .ok (.iconst 0, 1) := by decide +kernel
theorem dX11_lives_50 : decode cX11_lives 50 = .ok (.ireturn, 1) := by decide +kernel
theorem dX11_isOff_0 : decode cX11_isOff 0 = .ok (.iload_n 1, 1) := by decide +kernel
theorem dX11_isOff_1 : decode cX11_isOff 1 = .ok (.istore_n 3, 1) := by decide +kernel
theorem dX11_isOff_2 : decode cX11_isOff 2 = .ok (.iload_n 3, 1) := by decide +kernel
theorem dX11_isOff_3 : decode cX11_isOff 3 = .ok (.ifCond .eq 44, 3) := by decide +kernel
theorem dX11_isOff_6 : decode cX11_isOff 6 = .ok (.aload_n 0, 1) := by decide +kernel
theorem dX11_isOff_7 : decode cX11_isOff 7 = .ok (.aload_n 0, 1) := by decide +kernel
theorem dX11_isOff_8 : decode cX11_isOff 8 = .ok (.getfield 93, 3) := by decide +kernel
theorem dX11_isOff_11 : decode cX11_isOff 11 = .ok (.bipush 60, 2) := by decide +kernel
theorem dX11_isOff_13 : decode cX11_isOff 13 = .ok (.iload_n 3, 1) := by decide +kernel
theorem dX11_isOff_14 : decode cX11_isOff 14 = .ok (.imul, 1) := by decide +kernel
theorem dX11_isOff_15 : decode cX11_isOff 15 = .ok (.iload_n 2, 1) := by decide +kernel
theorem dX11_isOff_16 : decode cX11_isOff 16 = .ok (.iadd, 1) := by decide +kernel
theorem dX11_isOff_17 : decode cX11_isOff 17 = .ok (.iaload, 1) := by decide +kernel
theorem dX11_isOff_18 : decode cX11_isOff 18 = .ok (.aload_n 0, 1) := by decide +kernel
theorem dX11_isOff_19 : decode cX11_isOff 19 = .ok (.getfield 96, 3) := by decide +kernel
theorem dX11_isOff_22 : decode cX11_isOff 22 = .ok (.bipush 60, 2) := by decide +kernel
theorem dX11_isOff_24 : decode cX11_isOff 24 = .ok (.iload_n 3, 1) := by decide +kernel
theorem dX11_isOff_25 : decode cX11_isOff 25 = .ok (.imul, 1) := by decide +kernel
theorem dX11_isOff_26 : decode cX11_isOff 26 = .ok (.iload_n 2, 1) := by decide +kernel
theorem dX11_isOff_27 : decode cX11_isOff 27 = .ok (.iadd, 1) := by decide +kernel
theorem dX11_isOff_28 : decode cX11_isOff 28 = .ok (.iaload, 1) := by decide +kernel
theorem dX11_isOff_29 : decode cX11_isOff 29 = .ok (.invokevirtual 185, 3) := by decide +kernel
theorem dX11_isOff_32 : decode cX11_isOff 32 = .ok (.ifCond .eq 5, 3) := by decide +kernel
theorem dX11_isOff_35 : decode cX11_isOff 35 = .ok (.iconst 1, 1) := by decide +kernel
theorem dX11_isOff_36 : decode cX11_isOff 36 = .ok (.ireturn, 1) := by decide +kernel
theorem dX11_isOff_37 : decode cX11_isOff 37 = .ok (.aload_n 0, 1) := by decide +kernel
theorem dX11_isOff_38 : decode cX11_isOff 38 = .ok (.getfield 26, 3) := by decide +kernel
theorem dX11_isOff_41 : decode cX11_isOff 41 = .ok (.iload_n 3, 1) := by decide +kernel
theorem dX11_isOff_42 : decode cX11_isOff 42 = .ok (.iaload, 1) := by decide +kernel
theorem dX11_isOff_43 : decode cX11_isOff 43 = .ok (.istore_n 3, 1) := by decide +kernel
theorem dX11_isOff_44 : decode cX11_isOff 44 = .ok (.goto (-42), 3) := by decide +kernel
theorem dX11_isOff_47 : decode cX11_isOff 47 = .ok (.iconst 0, 1) := by decide +kernel
theorem dX11_isOff_48 : decode cX11_isOff 48 = .ok (.ireturn, 1) := by decide +kernel
theorem dX11_hasLeafOn_0 : decode cX11_hasLeafOn 0 = .ok (.aload_n 0, 1) := by decide +kernel
theorem dX11_hasLeafOn_1 : decode cX11_hasLeafOn 1 = .ok (.getfield 36, 3) := by decide +kernel
theorem dX11_hasLeafOn_4 : decode cX11_hasLeafOn 4 = .ok (.iload_n 1, 1) := by decide +kernel
theorem dX11_hasLeafOn_5 : decode cX11_hasLeafOn 5 = .ok (.iaload, 1) := by decide +kernel
theorem dX11_hasLeafOn_6 : decode cX11_hasLeafOn 6 = .ok (.ifCond .ne 18, 3) := by decide +kernel
theorem dX11_hasLeafOn_9 : decode cX11_hasLeafOn 9 = .ok (.aload_n 0, 1) := by decide +kernel
theorem dX11_hasLeafOn_10 : decode cX11_hasLeafOn 10 = .ok (.iload_n 1, 1) := by decide +kernel
theorem dX11_hasLeafOn_11 : decode cX11_hasLeafOn 11 = .ok (.iload_n 2, 1) := by decide +kernel
theorem dX11_hasLeafOn_12 : decode cX11_hasLeafOn 12 = .ok (.invokevirtual 189, 3) := by decide +kernel
theorem dX11_hasLeafOn_15 : decode cX11_hasLeafOn 15 = .ok (.ifCond .ne 7, 3) := by decide +kernel
theorem dX11_hasLeafOn_18 : decode cX11_hasLeafOn 18 = .ok (.iconst 1, 1) := by decide +kernel
theorem dX11_hasLeafOn_19 : decode cX11_hasLeafOn 19 = .ok (.goto 4, 3) := by decide +kernel
theorem dX11_hasLeafOn_22 : decode cX11_hasLeafOn 22 = .ok (.iconst 0, 1) := by decide +kernel
theorem dX11_hasLeafOn_23 : decode cX11_hasLeafOn 23 = .ok (.ireturn, 1) := by decide +kernel
theorem dX11_hasLeafOn_24 : decode cX11_hasLeafOn 24 = .ok (.aload_n 0, 1) := by decide +kernel
theorem dX11_hasLeafOn_25 : decode cX11_hasLeafOn 25 = .ok (.aload_n 0, 1) := by decide +kernel
theorem dX11_hasLeafOn_26 : decode cX11_hasLeafOn 26 = .ok (.getfield 36, 3) := by decide +kernel
theorem dX11_hasLeafOn_29 : decode cX11_hasLeafOn 29 = .ok (.iload_n 1, 1) := by decide +kernel
theorem dX11_hasLeafOn_30 : decode cX11_hasLeafOn 30 = .ok (.iaload, 1) := by decide +kernel
theorem dX11_hasLeafOn_31 : decode cX11_hasLeafOn 31 = .ok (.iload_n 2, 1) := by decide +kernel
theorem dX11_hasLeafOn_32 : decode cX11_hasLeafOn 32 = .ok (.invokevirtual 192, 3) := by decide +kernel
theorem dX11_hasLeafOn_35 : decode cX11_hasLeafOn 35 = .ok (.ifCond .ne 19, 3) := by decide +kernel
theorem dX11_hasLeafOn_38 : decode cX11_hasLeafOn 38 = .ok (.aload_n 0, 1) := by decide +kernel
theorem dX11_hasLeafOn_39 : decode cX11_hasLeafOn 39 = .ok (.aload_n 0, 1) := by decide +kernel
theorem dX11_hasLeafOn_40 : decode cX11_hasLeafOn 40 = .ok (.getfield 36, 3) := by decide +kernel
theorem dX11_hasLeafOn_43 : decode cX11_hasLeafOn 43 = .ok (.iload_n 1, 1) := by decide +kernel
theorem dX11_hasLeafOn_44 : decode cX11_hasLeafOn 44 = .ok (.iaload, 1) := by decide +kernel
theorem dX11_hasLeafOn_45 : decode cX11_hasLeafOn 45 = .ok (.iconst 1, 1) := by decide +kernel
theorem dX11_hasLeafOn_46 : decode cX11_hasLeafOn 46 = .ok (.iadd, 1) := by decide +kernel
theorem dX11_hasLeafOn_47 : decode cX11_hasLeafOn 47 = .ok (.iload_n 2, 1) := by decide +kernel
theorem dX11_hasLeafOn_48 : decode cX11_hasLeafOn 48 = .ok (.invokevirtual 192, 3) := by decide +kernel
theorem dX11_hasLeafOn_51 : decode cX11_hasLeafOn 51 = .ok (.ifCond .eq 7, 3) := by decide +kernel
theorem dX11_hasLeafOn_54 : decode cX11_hasLeafOn 54 = .ok (.iconst 1, 1) := by decide +kernel
theorem dX11_hasLeafOn_55 : decode cX11_hasLeafOn 55 = .ok (.goto 4, 3) := by decide +kernel
theorem dX11_hasLeafOn_58 : decode cX11_hasLeafOn 58 = .ok (.iconst 0, 1) := by decide +kernel
theorem dX11_hasLeafOn_59 : decode cX11_hasLeafOn 59 = .ok (.ireturn, 1) := by decide +kernel
theorem dX11_lies_0 : decode cX11_lies 0 = .ok (.aload_n 0, 1) := by decide +kernel
theorem dX11_lies_1 : decode cX11_lies 1 = .ok (.getfield 23, 3) := by decide +kernel
theorem dX11_lies_4 : decode cX11_lies 4 = .ok (.iload_n 1, 1) := by decide +kernel
theorem dX11_lies_5 : decode cX11_lies 5 = .ok (.iaload, 1) := by decide +kernel
theorem dX11_lies_6 : decode cX11_lies 6 = .ok (.istore_n 3, 1) := by decide +kernel
theorem dX11_lies_7 : decode cX11_lies 7 = .ok (.aload_n 0, 1) := by decide +kernel
theorem dX11_lies_8 : decode cX11_lies 8 = .ok (.getfield 20, 3) := by decide +kernel
theorem dX11_lies_11 : decode cX11_lies 11 = .ok (.iload_n 1, 1) := by decide +kernel
theorem dX11_lies_12 : decode cX11_lies 12 = .ok (.iaload, 1) := by decide +kernel
theorem dX11_lies_13 : decode cX11_lies 13 = .ok (.istore 4, 2) := by decide +kernel
theorem dX11_lies_15 : decode cX11_lies 15 = .ok (.aload_n 0, 1) := by decide +kernel
theorem dX11_lies_16 : decode cX11_lies 16 = .ok (.getfield 39, 3) := by decide +kernel
theorem dX11_lies_19 : decode cX11_lies 19 = .ok (.iload_n 3, 1) := by decide +kernel
theorem dX11_lies_20 : decode cX11_lies 20 = .ok (.laload, 1) := by decide +kernel
theorem dX11_lies_21 : decode cX11_lies 21 = .ok (.iload_n 2, 1) := by decide +kernel
theorem dX11_lies_22 : decode cX11_lies 22 = .ok (.lshr, 1) := by decide +kernel
theorem dX11_lies_23 : decode cX11_lies 23 = .ok (.lconst 1, 1) := by decide +kernel
theorem dX11_lies_24 : decode cX11_lies 24 = .ok (.land, 1) := by decide +kernel
theorem dX11_lies_25 : decode cX11_lies 25 = .ok (.lconst 0, 1) := by decide +kernel
theorem dX11_lies_26 : decode cX11_lies 26 = .ok (.lcmp, 1) := by decide +kernel
theorem dX11_lies_27 : decode cX11_lies 27 = .ok (.ifCond .eq 18, 3) := by decide +kernel
theorem dX11_lies_30 : decode cX11_lies 30 = .ok (.aload_n 0, 1) := by decide +kernel
theorem dX11_lies_31 : decode cX11_lies 31 = .ok (.getfield 13, 3) := by decide +kernel
theorem dX11_lies_34 : decode cX11_lies 34 = .ok (.bipush 60, 2) := by decide +kernel
theorem dX11_lies_36 : decode cX11_lies 36 = .ok (.iload 4, 2) := by decide +kernel
theorem dX11_lies_38 : decode cX11_lies 38 = .ok (.imul, 1) := by decide +kernel
theorem dX11_lies_39 : decode cX11_lies 39 = .ok (.iload_n 2, 1) := by decide +kernel
theorem dX11_lies_40 : decode cX11_lies 40 = .ok (.iadd, 1) := by decide +kernel
theorem dX11_lies_41 : decode cX11_lies 41 = .ok (.baload, 1) := by decide +kernel
theorem dX11_lies_42 : decode cX11_lies 42 = .ok (.ifCond .eq 5, 3) := by decide +kernel
theorem dX11_lies_45 : decode cX11_lies 45 = .ok (.iconst 0, 1) := by decide +kernel
theorem dX11_lies_46 : decode cX11_lies 46 = .ok (.ireturn, 1) := by decide +kernel
theorem dX11_lies_47 : decode cX11_lies 47 = .ok (.aload_n 0, 1) := by decide +kernel
theorem dX11_lies_48 : decode cX11_lies 48 = .ok (.iload_n 1, 1) := by decide +kernel
theorem dX11_lies_49 : decode cX11_lies 49 = .ok (.invokevirtual 195, 3) := by decide +kernel
theorem dX11_lies_52 : decode cX11_lies 52 = .ok (.ifCond .eq 16, 3) := by decide +kernel
theorem dX11_lies_55 : decode cX11_lies 55 = .ok (.aload_n 0, 1) := by decide +kernel
theorem dX11_lies_56 : decode cX11_lies 56 = .ok (.iload_n 1, 1) := by decide +kernel
theorem dX11_lies_57 : decode cX11_lies 57 = .ok (.iload_n 2, 1) := by decide +kernel
theorem dX11_lies_58 : decode cX11_lies 58 = .ok (.invokevirtual 192, 3) := by decide +kernel
theorem dX11_lies_61 : decode cX11_lies 61 = .ok (.ifCond .eq 7, 3) := by decide +kernel
theorem dX11_lies_64 : decode cX11_lies 64 = .ok (.iconst 1, 1) := by decide +kernel
theorem dX11_lies_65 : decode cX11_lies 65 = .ok (.goto 4, 3) := by decide +kernel
theorem dX11_lies_68 : decode cX11_lies 68 = .ok (.iconst 0, 1) := by decide +kernel
theorem dX11_lies_69 : decode cX11_lies 69 = .ok (.ireturn, 1) := by decide +kernel
theorem dX11_gather_0 : decode cX11_gather 0 = .ok (.aload_n 0, 1) := by decide +kernel
theorem dX11_gather_1 : decode cX11_gather 1 = .ok (.getfield 36, 3) := by decide +kernel
theorem dX11_gather_4 : decode cX11_gather 4 = .ok (.iload_n 1, 1) := by decide +kernel
theorem dX11_gather_5 : decode cX11_gather 5 = .ok (.iaload, 1) := by decide +kernel
theorem dX11_gather_6 : decode cX11_gather 6 = .ok (.ifCond .ne 24, 3) := by decide +kernel
theorem dX11_gather_9 : decode cX11_gather 9 = .ok (.aload_n 0, 1) := by decide +kernel
theorem dX11_gather_10 : decode cX11_gather 10 = .ok (.getfield 124, 3) := by decide +kernel
theorem dX11_gather_13 : decode cX11_gather 13 = .ok (.aload_n 0, 1) := by decide +kernel
theorem dX11_gather_14 : decode cX11_gather 14 = .ok (.getfield 199, 3) := by decide +kernel
theorem dX11_gather_17 : decode cX11_gather 17 = .ok (.iload_n 1, 1) := by decide +kernel
theorem dX11_gather_18 : decode cX11_gather 18 = .ok (.iastore, 1) := by decide +kernel
theorem dX11_gather_19 : decode cX11_gather 19 = .ok (.aload_n 0, 1) := by decide +kernel
theorem dX11_gather_20 : decode cX11_gather 20 = .ok (.dup, 1) := by decide +kernel
theorem dX11_gather_21 : decode cX11_gather 21 = .ok (.getfield 199, 3) := by decide +kernel
theorem dX11_gather_24 : decode cX11_gather 24 = .ok (.iconst 1, 1) := by decide +kernel
theorem dX11_gather_25 : decode cX11_gather 25 = .ok (.iadd, 1) := by decide +kernel
theorem dX11_gather_26 : decode cX11_gather 26 = .ok (.putfield 199, 3) := by decide +kernel
theorem dX11_gather_29 : decode cX11_gather 29 = .ok (.return_, 1) := by decide +kernel
theorem dX11_gather_30 : decode cX11_gather 30 = .ok (.aload_n 0, 1) := by decide +kernel
theorem dX11_gather_31 : decode cX11_gather 31 = .ok (.aload_n 0, 1) := by decide +kernel
theorem dX11_gather_32 : decode cX11_gather 32 = .ok (.getfield 36, 3) := by decide +kernel
theorem dX11_gather_35 : decode cX11_gather 35 = .ok (.iload_n 1, 1) := by decide +kernel
theorem dX11_gather_36 : decode cX11_gather 36 = .ok (.iaload, 1) := by decide +kernel
theorem dX11_gather_37 : decode cX11_gather 37 = .ok (.invokevirtual 202, 3) := by decide +kernel
theorem dX11_gather_40 : decode cX11_gather 40 = .ok (.aload_n 0, 1) := by decide +kernel
theorem dX11_gather_41 : decode cX11_gather 41 = .ok (.aload_n 0, 1) := by decide +kernel
theorem dX11_gather_42 : decode cX11_gather 42 = .ok (.getfield 36, 3) := by decide +kernel
theorem dX11_gather_45 : decode cX11_gather 45 = .ok (.iload_n 1, 1) := by decide +kernel
theorem dX11_gather_46 : decode cX11_gather 46 = .ok (.iaload, 1) := by decide +kernel
theorem dX11_gather_47 : decode cX11_gather 47 = .ok (.iconst 1, 1) := by decide +kernel
theorem dX11_gather_48 : decode cX11_gather 48 = .ok (.iadd, 1) := by decide +kernel
theorem dX11_gather_49 : decode cX11_gather 49 = .ok (.invokevirtual 202, 3) := by decide +kernel
theorem dX11_gather_52 : decode cX11_gather 52 = .ok (.return_, 1) := by decide +kernel
theorem dX11_leavesOf_0 : decode cX11_leavesOf 0 = .ok (.aload_n 0, 1) := by decide +kernel
theorem dX11_leavesOf_1 : decode cX11_leavesOf 1 = .ok (.iconst 0, 1) := by decide +kernel
theorem dX11_leavesOf_2 : decode cX11_leavesOf 2 = .ok (.putfield 199, 3) := by decide +kernel
theorem dX11_leavesOf_5 : decode cX11_leavesOf 5 = .ok (.aload_n 0, 1) := by decide +kernel
theorem dX11_leavesOf_6 : decode cX11_leavesOf 6 = .ok (.iload_n 1, 1) := by decide +kernel
theorem dX11_leavesOf_7 : decode cX11_leavesOf 7 = .ok (.invokevirtual 202, 3) := by decide +kernel
theorem dX11_leavesOf_10 : decode cX11_leavesOf 10 = .ok (.return_, 1) := by decide +kernel
theorem dX11_sumBelow_0 : decode cX11_sumBelow 0 = .ok (.aload_n 0, 1) := by decide +kernel
theorem dX11_sumBelow_1 : decode cX11_sumBelow 1 = .ok (.iload_n 1, 1) := by decide +kernel
theorem dX11_sumBelow_2 : decode cX11_sumBelow 2 = .ok (.invokevirtual 206, 3) := by decide +kernel
theorem dX11_sumBelow_5 : decode cX11_sumBelow 5 = .ok (.lconst 0, 1) := by decide +kernel
theorem dX11_sumBelow_6 : decode cX11_sumBelow 6 = .ok (.lstore_n 2, 1) := by decide +kernel
theorem dX11_sumBelow_7 : decode cX11_sumBelow 7 = .ok (.iconst 0, 1) := by decide +kernel
theorem dX11_sumBelow_8 : decode cX11_sumBelow 8 = .ok (.istore 4, 2) := by decide +kernel
theorem dX11_sumBelow_10 : decode cX11_sumBelow 10 = .ok (.iload 4, 2) := by decide +kernel
theorem dX11_sumBelow_12 : decode cX11_sumBelow 12 = .ok (.aload_n 0, 1) := by decide +kernel
theorem dX11_sumBelow_13 : decode cX11_sumBelow 13 = .ok (.getfield 199, 3) := by decide +kernel
theorem dX11_sumBelow_16 : decode cX11_sumBelow 16 = .ok (.if_icmp .ge 24, 3) := by decide +kernel
theorem dX11_sumBelow_19 : decode cX11_sumBelow 19 = .ok (.lload_n 2, 1) := by decide +kernel
theorem dX11_sumBelow_20 : decode cX11_sumBelow 20 = .ok (.aload_n 0, 1) := by decide +kernel
theorem dX11_sumBelow_21 : decode cX11_sumBelow 21 = .ok (.getfield 32, 3) := by decide +kernel
theorem dX11_sumBelow_24 : decode cX11_sumBelow 24 = .ok (.aload_n 0, 1) := by decide +kernel
theorem dX11_sumBelow_25 : decode cX11_sumBelow 25 = .ok (.getfield 124, 3) := by decide +kernel
theorem dX11_sumBelow_28 : decode cX11_sumBelow 28 = .ok (.iload 4, 2) := by decide +kernel
theorem dX11_sumBelow_30 : decode cX11_sumBelow 30 = .ok (.iaload, 1) := by decide +kernel
theorem dX11_sumBelow_31 : decode cX11_sumBelow 31 = .ok (.laload, 1) := by decide +kernel
theorem dX11_sumBelow_32 : decode cX11_sumBelow 32 = .ok (.ladd, 1) := by decide +kernel
theorem dX11_sumBelow_33 : decode cX11_sumBelow 33 = .ok (.lstore_n 2, 1) := by decide +kernel
theorem dX11_sumBelow_34 : decode cX11_sumBelow 34 = .ok (.iinc 4 1, 3) := by decide +kernel
theorem dX11_sumBelow_37 : decode cX11_sumBelow 37 = .ok (.goto (-27), 3) := by decide +kernel
theorem dX11_sumBelow_40 : decode cX11_sumBelow 40 = .ok (.lload_n 2, 1) := by decide +kernel
theorem dX11_sumBelow_41 : decode cX11_sumBelow 41 = .ok (.lreturn, 1) := by decide +kernel
theorem dX11_dueOfSum_0 : decode cX11_dueOfSum 0 = .ok (.aload_n 0, 1) := by decide +kernel
theorem dX11_dueOfSum_1 : decode cX11_dueOfSum 1 = .ok (.getfield 17, 3) := by decide +kernel
theorem dX11_dueOfSum_4 : decode cX11_dueOfSum 4 = .ok (.iload_n 1, 1) := by decide +kernel
theorem dX11_dueOfSum_5 : decode cX11_dueOfSum 5 = .ok (.iaload, 1) := by decide +kernel
theorem dX11_dueOfSum_6 : decode cX11_dueOfSum 6 = .ok (.istore 4, 2) := by decide +kernel
theorem dX11_dueOfSum_8 : decode cX11_dueOfSum 8 = .ok (.iload 4, 2) := by decide +kernel
theorem dX11_dueOfSum_10 : decode cX11_dueOfSum 10 = .ok (.bipush 6, 2) := by decide +kernel
theorem dX11_dueOfSum_12 : decode cX11_dueOfSum 12 = .ok (.if_icmp .ne 5, 3) := by decide +kernel
theorem dX11_dueOfSum_15 : decode cX11_dueOfSum 15 = .ok (.lconst 0, 1) := by decide +kernel
theorem dX11_dueOfSum_16 : decode cX11_dueOfSum 16 = .ok (.lreturn, 1) := by decide +kernel
theorem dX11_dueOfSum_17 : decode cX11_dueOfSum 17 = .ok (.iload 4, 2) := by decide +kernel
theorem dX11_dueOfSum_19 : decode cX11_dueOfSum 19 = .ok (.iconst 4, 1) := by decide +kernel
theorem dX11_dueOfSum_20 : decode cX11_dueOfSum 20 = .ok (.if_icmp .ne 75, 3) := by decide +kernel
theorem dX11_dueOfSum_23 : decode cX11_dueOfSum 23 = .ok (.aload_n 0, 1) := by decide +kernel
theorem dX11_dueOfSum_24 : decode cX11_dueOfSum 24 = .ok (.getfield 42, 3) := by decide +kernel
theorem dX11_dueOfSum_27 : decode cX11_dueOfSum 27 = .ok (.iload_n 1, 1) := by decide +kernel
theorem dX11_dueOfSum_28 : decode cX11_dueOfSum 28 = .ok (.iaload, 1) := by decide +kernel
theorem dX11_dueOfSum_29 : decode cX11_dueOfSum 29 = .ok (.ifCond .ne 8, 3) := by decide +kernel
theorem dX11_dueOfSum_32 : decode cX11_dueOfSum 32 = .ok (.bipush 20, 2) := by decide +kernel
theorem dX11_dueOfSum_34 : decode cX11_dueOfSum 34 = .ok (.goto 35, 3) := by decide +kernel
theorem dX11_dueOfSum_37 : decode cX11_dueOfSum 37 = .ok (.aload_n 0, 1) := by decide +kernel
theorem dX11_dueOfSum_38 : decode cX11_dueOfSum 38 = .ok (.getfield 42, 3) := by decide +kernel
theorem dX11_dueOfSum_41 : decode cX11_dueOfSum 41 = .ok (.iload_n 1, 1) := by decide +kernel
theorem dX11_dueOfSum_42 : decode cX11_dueOfSum 42 = .ok (.iaload, 1) := by decide +kernel
theorem dX11_dueOfSum_43 : decode cX11_dueOfSum 43 = .ok (.aload_n 0, 1) := by decide +kernel
theorem dX11_dueOfSum_44 : decode cX11_dueOfSum 44 = .ok (.getfield 166, 3) := by decide +kernel
theorem dX11_dueOfSum_47 : decode cX11_dueOfSum 47 = .ok (.if_icmp .gt 7, 3) := by decide +kernel
theorem dX11_dueOfSum_50 : decode cX11_dueOfSum 50 = .ok (.iconst 0, 1) := by decide +kernel
theorem dX11_dueOfSum_51 : decode cX11_dueOfSum 51 = .ok (.goto 18, 3) := by decide +kernel
theorem dX11_dueOfSum_54 : decode cX11_dueOfSum 54 = .ok (.aload_n 0, 1) := by decide +kernel
theorem dX11_dueOfSum_55 : decode cX11_dueOfSum 55 = .ok (.getfield 42, 3) := by decide +kernel
theorem dX11_dueOfSum_58 : decode cX11_dueOfSum 58 = .ok (.iload_n 1, 1) := by decide +kernel
theorem dX11_dueOfSum_59 : decode cX11_dueOfSum 59 = .ok (.iaload, 1) := by decide +kernel
theorem dX11_dueOfSum_60 : decode cX11_dueOfSum 60 = .ok (.aload_n 0, 1) := by decide +kernel
theorem dX11_dueOfSum_61 : decode cX11_dueOfSum 61 = .ok (.getfield 166, 3) := by decide +kernel
theorem dX11_dueOfSum_64 : decode cX11_dueOfSum 64 = .ok (.isub, 1) := by decide +kernel
theorem dX11_dueOfSum_65 : decode cX11_dueOfSum 65 = .ok (.sipush 365, 3) := by decide +kernel
theorem dX11_dueOfSum_68 : decode cX11_dueOfSum 68 = .ok (.idiv, 1) := by decide +kernel
theorem dX11_dueOfSum_69 : decode cX11_dueOfSum 69 = .ok (.istore 5, 2) := by decide +kernel
theorem dX11_dueOfSum_71 : decode cX11_dueOfSum 71 = .ok (.aload_n 0, 1) := by decide +kernel
theorem dX11_dueOfSum_72 : decode cX11_dueOfSum 72 = .ok (.getfield 63, 3) := by decide +kernel
theorem dX11_dueOfSum_75 : decode cX11_dueOfSum 75 = .ok (.iload_n 1, 1) := by decide +kernel
theorem dX11_dueOfSum_76 : decode cX11_dueOfSum 76 = .ok (.baload, 1) := by decide +kernel
theorem dX11_dueOfSum_77 : decode cX11_dueOfSum 77 = .ok (.ifCond .eq 7, 3) := by decide +kernel
theorem dX11_dueOfSum_80 : decode cX11_dueOfSum 80 = .ok (.lload_n 2, 1) := by decide +kernel
theorem dX11_dueOfSum_81 : decode cX11_dueOfSum 81 = .ok (.goto 13, 3) := by decide +kernel
theorem dX11_dueOfSum_84 : decode cX11_dueOfSum 84 = .ok (.lload_n 2, 1) := by decide +kernel
theorem dX11_dueOfSum_85 : decode cX11_dueOfSum 85 = .ok (.bipush 20, 2) := by decide +kernel
theorem dX11_dueOfSum_87 : decode cX11_dueOfSum 87 = .ok (.iload 5, 2) := by decide +kernel
theorem dX11_dueOfSum_89 : decode cX11_dueOfSum 89 = .ok (.invokestatic 209, 3) := by decide +kernel
theorem dX11_dueOfSum_92 : decode cX11_dueOfSum 92 = .ok (.i2l, 1) := by decide +kernel
theorem dX11_dueOfSum_93 : decode cX11_dueOfSum 93 = .ok (.lmul, 1) := by decide +kernel
theorem dX11_dueOfSum_94 : decode cX11_dueOfSum 94 = .ok (.lreturn, 1) := by decide +kernel
theorem dX11_dueOfSum_95 : decode cX11_dueOfSum 95 = .ok (.iload 4, 2) := by decide +kernel
theorem dX11_dueOfSum_97 : decode cX11_dueOfSum 97 = .ok (.iconst 5, 1) := by decide +kernel
theorem dX11_dueOfSum_98 : decode cX11_dueOfSum 98 = .ok (.if_icmp .ne 16, 3) := by decide +kernel
theorem dX11_dueOfSum_101 : decode cX11_dueOfSum 101 = .ok (.sipush 365, 3) := by decide +kernel
theorem dX11_dueOfSum_104 : decode cX11_dueOfSum 104 = .ok (.aload_n 0, 1) := by decide +kernel
theorem dX11_dueOfSum_105 : decode cX11_dueOfSum 105 = .ok (.getfield 72, 3) := by decide +kernel
theorem dX11_dueOfSum_108 : decode cX11_dueOfSum 108 = .ok (.iload_n 1, 1) := by decide +kernel
theorem dX11_dueOfSum_109 : decode cX11_dueOfSum 109 = .ok (.iaload, 1) := by decide +kernel
theorem dX11_dueOfSum_110 : decode cX11_dueOfSum 110 = .ok (.imul, 1) := by decide +kernel
theorem dX11_dueOfSum_111 : decode cX11_dueOfSum 111 = .ok (.goto 6, 3) := by decide +kernel
theorem dX11_dueOfSum_114 : decode cX11_dueOfSum 114 = .ok (.sipush 730, 3) := by decide +kernel
theorem dX11_dueOfSum_117 : decode cX11_dueOfSum 117 = .ok (.istore 5, 2) := by decide +kernel
theorem dX11_dueOfSum_119 : decode cX11_dueOfSum 119 = .ok (.iload 5, 2) := by decide +kernel
theorem dX11_dueOfSum_121 : decode cX11_dueOfSum 121 = .ok (.aload_n 0, 1) := by decide +kernel
theorem dX11_dueOfSum_122 : decode cX11_dueOfSum 122 = .ok (.getfield 166, 3) := by decide +kernel
theorem dX11_dueOfSum_125 : decode cX11_dueOfSum 125 = .ok (.aload_n 0, 1) := by decide +kernel
theorem dX11_dueOfSum_126 : decode cX11_dueOfSum 126 = .ok (.getfield 60, 3) := by decide +kernel
theorem dX11_dueOfSum_129 : decode cX11_dueOfSum 129 = .ok (.iload_n 1, 1) := by decide +kernel
theorem dX11_dueOfSum_130 : decode cX11_dueOfSum 130 = .ok (.iaload, 1) := by decide +kernel
theorem dX11_dueOfSum_131 : decode cX11_dueOfSum 131 = .ok (.isub, 1) := by decide +kernel
theorem dX11_dueOfSum_132 : decode cX11_dueOfSum 132 = .ok (.invokestatic 209, 3) := by decide +kernel
theorem dX11_dueOfSum_135 : decode cX11_dueOfSum 135 = .ok (.i2l, 1) := by decide +kernel
theorem dX11_dueOfSum_136 : decode cX11_dueOfSum 136 = .ok (.lstore 6, 2) := by decide +kernel
theorem dX11_dueOfSum_138 : decode cX11_dueOfSum 138 = .ok (.lload_n 2, 1) := by decide +kernel
theorem dX11_dueOfSum_139 : decode cX11_dueOfSum 139 = .ok (.lload_n 2, 1) := by decide +kernel
theorem dX11_dueOfSum_140 : decode cX11_dueOfSum 140 = .ok (.aload_n 0, 1) := by decide +kernel
theorem dX11_dueOfSum_141 : decode cX11_dueOfSum 141 = .ok (.getfield 42, 3) := by decide +kernel
theorem dX11_dueOfSum_144 : decode cX11_dueOfSum 144 = .ok (.iload_n 1, 1) := by decide +kernel
theorem dX11_dueOfSum_145 : decode cX11_dueOfSum 145 = .ok (.iaload, 1) := by decide +kernel
theorem dX11_dueOfSum_146 : decode cX11_dueOfSum 146 = .ok (.i2l, 1) := by decide +kernel
theorem dX11_dueOfSum_147 : decode cX11_dueOfSum 147 = .ok (.lmul, 1) := by decide +kernel
theorem dX11_dueOfSum_148 : decode cX11_dueOfSum 148 = .ok (.lload 6, 2) := by decide +kernel
theorem dX11_dueOfSum_150 : decode cX11_dueOfSum 150 = .ok (.lmul, 1) := by decide +kernel
theorem dX11_dueOfSum_151 : decode cX11_dueOfSum 151 = .ok (.ldc2_w 215, 3) := by decide +kernel
theorem dX11_dueOfSum_154 : decode cX11_dueOfSum 154 = .ok (.ldiv, 1) := by decide +kernel
theorem dX11_dueOfSum_155 : decode cX11_dueOfSum 155 = .ok (.ladd, 1) := by decide +kernel
theorem dX11_dueOfSum_156 : decode cX11_dueOfSum 156 = .ok (.lstore 8, 2) := by decide +kernel
theorem dX11_dueOfSum_158 : decode cX11_dueOfSum 158 = .ok (.iload 4, 2) := by decide +kernel
theorem dX11_dueOfSum_160 : decode cX11_dueOfSum 160 = .ok (.iconst 3, 1) := by decide +kernel
theorem dX11_dueOfSum_161 : decode cX11_dueOfSum 161 = .ok (.if_icmp .ne 17, 3) := by decide +kernel
theorem dX11_dueOfSum_164 : decode cX11_dueOfSum 164 = .ok (.aload_n 0, 1) := by decide +kernel
theorem dX11_dueOfSum_165 : decode cX11_dueOfSum 165 = .ok (.getfield 45, 3) := by decide +kernel
theorem dX11_dueOfSum_168 : decode cX11_dueOfSum 168 = .ok (.iload_n 1, 1) := by decide +kernel
theorem dX11_dueOfSum_169 : decode cX11_dueOfSum 169 = .ok (.laload, 1) := by decide +kernel
theorem dX11_dueOfSum_170 : decode cX11_dueOfSum 170 = .ok (.lload 8, 2) := by decide +kernel
theorem dX11_dueOfSum_172 : decode cX11_dueOfSum 172 = .ok (.invokestatic 217, 3) := by decide +kernel
theorem dX11_dueOfSum_175 : decode cX11_dueOfSum 175 = .ok (.goto 5, 3) := by decide +kernel
theorem dX11_dueOfSum_178 : decode cX11_dueOfSum 178 = .ok (.lload 8, 2) := by decide +kernel
theorem dX11_dueOfSum_180 : decode cX11_dueOfSum 180 = .ok (.lreturn, 1) := by decide +kernel
theorem dX11_dues_0 : decode cX11_dues 0 = .ok (.aload_n 0, 1) := by decide +kernel
theorem dX11_dues_1 : decode cX11_dues 1 = .ok (.iload_n 1, 1) := by decide +kernel
theorem dX11_dues_2 : decode cX11_dues 2 = .ok (.invokevirtual 206, 3) := by decide +kernel
theorem dX11_dues_5 : decode cX11_dues 5 = .ok (.lconst 0, 1) := by decide +kernel
theorem dX11_dues_6 : decode cX11_dues 6 = .ok (.lstore_n 2, 1) := by decide +kernel
theorem dX11_dues_7 : decode cX11_dues 7 = .ok (.lconst 0, 1) := by decide +kernel
theorem dX11_dues_8 : decode cX11_dues 8 = .ok (.lstore 4, 2) := by decide +kernel
theorem dX11_dues_10 : decode cX11_dues 10 = .ok (.iconst 0, 1) := by decide +kernel
theorem dX11_dues_11 : decode cX11_dues 11 = .ok (.istore 6, 2) := by decide +kernel
theorem dX11_dues_13 : decode cX11_dues 13 = .ok (.iload 6, 2) := by decide +kernel
theorem dX11_dues_15 : decode cX11_dues 15 = .ok (.aload_n 0, 1) := by decide +kernel
theorem dX11_dues_16 : decode cX11_dues 16 = .ok (.getfield 199, 3) := by decide +kernel
theorem dX11_dues_19 : decode cX11_dues 19 = .ok (.if_icmp .ge 53, 3) := by decide +kernel
theorem dX11_dues_22 : decode cX11_dues 22 = .ok (.lload_n 2, 1) := by decide +kernel
theorem dX11_dues_23 : decode cX11_dues 23 = .ok (.aload_n 0, 1) := by decide +kernel
theorem dX11_dues_24 : decode cX11_dues 24 = .ok (.getfield 32, 3) := by decide +kernel
theorem dX11_dues_27 : decode cX11_dues 27 = .ok (.aload_n 0, 1) := by decide +kernel
theorem dX11_dues_28 : decode cX11_dues 28 = .ok (.getfield 124, 3) := by decide +kernel
theorem dX11_dues_31 : decode cX11_dues 31 = .ok (.iload 6, 2) := by decide +kernel
theorem dX11_dues_33 : decode cX11_dues 33 = .ok (.iaload, 1) := by decide +kernel
theorem dX11_dues_34 : decode cX11_dues 34 = .ok (.laload, 1) := by decide +kernel
theorem dX11_dues_35 : decode cX11_dues 35 = .ok (.ladd, 1) := by decide +kernel
theorem dX11_dues_36 : decode cX11_dues 36 = .ok (.lstore_n 2, 1) := by decide +kernel
theorem dX11_dues_37 : decode cX11_dues 37 = .ok (.aload_n 0, 1) := by decide +kernel
theorem dX11_dues_38 : decode cX11_dues 38 = .ok (.iload_n 1, 1) := by decide +kernel
theorem dX11_dues_39 : decode cX11_dues 39 = .ok (.lload_n 2, 1) := by decide +kernel
theorem dX11_dues_40 : decode cX11_dues 40 = .ok (.invokevirtual 220, 3) := by decide +kernel
theorem dX11_dues_43 : decode cX11_dues 43 = .ok (.lstore 7, 2) := by decide +kernel
theorem dX11_dues_45 : decode cX11_dues 45 = .ok (.aload_n 0, 1) := by decide +kernel
theorem dX11_dues_46 : decode cX11_dues 46 = .ok (.getfield 127, 3) := by decide +kernel
theorem dX11_dues_49 : decode cX11_dues 49 = .ok (.aload_n 0, 1) := by decide +kernel
theorem dX11_dues_50 : decode cX11_dues 50 = .ok (.getfield 124, 3) := by decide +kernel
theorem dX11_dues_53 : decode cX11_dues 53 = .ok (.iload 6, 2) := by decide +kernel
theorem dX11_dues_55 : decode cX11_dues 55 = .ok (.iaload, 1) := by decide +kernel
theorem dX11_dues_56 : decode cX11_dues 56 = .ok (.lload 7, 2) := by decide +kernel
theorem dX11_dues_58 : decode cX11_dues 58 = .ok (.lload 4, 2) := by decide +kernel
theorem dX11_dues_60 : decode cX11_dues 60 = .ok (.lsub, 1) := by decide +kernel
theorem dX11_dues_61 : decode cX11_dues 61 = .ok (.lastore, 1) := by decide +kernel
theorem dX11_dues_62 : decode cX11_dues 62 = .ok (.lload 7, 2) := by decide +kernel
theorem dX11_dues_64 : decode cX11_dues 64 = .ok (.lstore 4, 2) := by decide +kernel
theorem dX11_dues_66 : decode cX11_dues 66 = .ok (.iinc 6 1, 3) := by decide +kernel
theorem dX11_dues_69 : decode cX11_dues 69 = .ok (.goto (-56), 3) := by decide +kernel
theorem dX11_dues_72 : decode cX11_dues 72 = .ok (.return_, 1) := by decide +kernel
theorem dX11_due_0 : decode cX11_due 0 = .ok (.aload_n 0, 1) := by decide +kernel
theorem dX11_due_1 : decode cX11_due 1 = .ok (.iload_n 1, 1) := by decide +kernel
theorem dX11_due_2 : decode cX11_due 2 = .ok (.invokevirtual 224, 3) := by decide +kernel
theorem dX11_due_5 : decode cX11_due 5 = .ok (.ifCond .ne 7, 3) := by decide +kernel
theorem dX11_due_8 : decode cX11_due 8 = .ok (.ldc2_w 227, 3) := by decide +kernel
theorem dX11_due_11 : decode cX11_due 11 = .ok (.lreturn, 1) := by decide +kernel
theorem dX11_due_12 : decode cX11_due 12 = .ok (.aload_n 0, 1) := by decide +kernel
theorem dX11_due_13 : decode cX11_due 13 = .ok (.aload_n 0, 1) := by decide +kernel
theorem dX11_due_14 : decode cX11_due 14 = .ok (.getfield 23, 3) := by decide +kernel
theorem dX11_due_17 : decode cX11_due 17 = .ok (.iload_n 1, 1) := by decide +kernel
theorem dX11_due_18 : decode cX11_due 18 = .ok (.iaload, 1) := by decide +kernel
theorem dX11_due_19 : decode cX11_due 19 = .ok (.invokevirtual 229, 3) := by decide +kernel
theorem dX11_due_22 : decode cX11_due 22 = .ok (.aload_n 0, 1) := by decide +kernel
theorem dX11_due_23 : decode cX11_due 23 = .ok (.iload_n 1, 1) := by decide +kernel
theorem dX11_due_24 : decode cX11_due 24 = .ok (.invokevirtual 206, 3) := by decide +kernel
theorem dX11_due_27 : decode cX11_due 27 = .ok (.lconst 0, 1) := by decide +kernel
theorem dX11_due_28 : decode cX11_due 28 = .ok (.lstore_n 2, 1) := by decide +kernel
theorem dX11_due_29 : decode cX11_due 29 = .ok (.iconst 0, 1) := by decide +kernel
theorem dX11_due_30 : decode cX11_due 30 = .ok (.istore 4, 2) := by decide +kernel
theorem dX11_due_32 : decode cX11_due 32 = .ok (.iload 4, 2) := by decide +kernel
theorem dX11_due_34 : decode cX11_due 34 = .ok (.aload_n 0, 1) := by decide +kernel
theorem dX11_due_35 : decode cX11_due 35 = .ok (.getfield 199, 3) := by decide +kernel
theorem dX11_due_38 : decode cX11_due 38 = .ok (.if_icmp .ge 24, 3) := by decide +kernel
theorem dX11_due_41 : decode cX11_due 41 = .ok (.lload_n 2, 1) := by decide +kernel
theorem dX11_due_42 : decode cX11_due 42 = .ok (.aload_n 0, 1) := by decide +kernel
theorem dX11_due_43 : decode cX11_due 43 = .ok (.getfield 127, 3) := by decide +kernel
theorem dX11_due_46 : decode cX11_due 46 = .ok (.aload_n 0, 1) := by decide +kernel
theorem dX11_due_47 : decode cX11_due 47 = .ok (.getfield 124, 3) := by decide +kernel
theorem dX11_due_50 : decode cX11_due 50 = .ok (.iload 4, 2) := by decide +kernel
theorem dX11_due_52 : decode cX11_due 52 = .ok (.iaload, 1) := by decide +kernel
theorem dX11_due_53 : decode cX11_due 53 = .ok (.laload, 1) := by decide +kernel
theorem dX11_due_54 : decode cX11_due 54 = .ok (.ladd, 1) := by decide +kernel
theorem dX11_due_55 : decode cX11_due 55 = .ok (.lstore_n 2, 1) := by decide +kernel
theorem dX11_due_56 : decode cX11_due 56 = .ok (.iinc 4 1, 3) := by decide +kernel
theorem dX11_due_59 : decode cX11_due 59 = .ok (.goto (-27), 3) := by decide +kernel
theorem dX11_due_62 : decode cX11_due 62 = .ok (.lload_n 2, 1) := by decide +kernel
theorem dX11_due_63 : decode cX11_due 63 = .ok (.lreturn, 1) := by decide +kernel
theorem dX11_folio_0 : decode cX11_folio 0 = .ok (.iload_n 1, 1) := by decide +kernel
theorem dX11_folio_1 : decode cX11_folio 1 = .ok (.iconst 1, 1) := by decide +kernel
theorem dX11_folio_2 : decode cX11_folio 2 = .ok (.if_icmp .lt 9, 3) := by decide +kernel
theorem dX11_folio_5 : decode cX11_folio 5 = .ok (.iload_n 1, 1) := by decide +kernel
theorem dX11_folio_6 : decode cX11_folio 6 = .ok (.bipush 60, 2) := by decide +kernel
theorem dX11_folio_8 : decode cX11_folio 8 = .ok (.if_icmp .le 9, 3) := by decide +kernel
theorem dX11_folio_11 : decode cX11_folio 11 = .ok (.aload_n 0, 1) := by decide +kernel
theorem dX11_folio_12 : decode cX11_folio 12 = .ok (.iconst 5, 1) := by decide +kernel
theorem dX11_folio_13 : decode cX11_folio 13 = .ok (.invokevirtual 231, 3) := by decide +kernel
theorem dX11_folio_16 : decode cX11_folio 16 = .ok (.ireturn, 1) := by decide +kernel
theorem dX11_folio_17 : decode cX11_folio 17 = .ok (.aload_n 0, 1) := by decide +kernel
theorem dX11_folio_18 : decode cX11_folio 18 = .ok (.getfield 172, 3) := by decide +kernel
theorem dX11_folio_21 : decode cX11_folio 21 = .ok (.bipush 40, 2) := by decide +kernel
theorem dX11_folio_23 : decode cX11_folio 23 = .ok (.if_icmp .ne 10, 3) := by decide +kernel
theorem dX11_folio_26 : decode cX11_folio 26 = .ok (.aload_n 0, 1) := by decide +kernel
theorem dX11_folio_27 : decode cX11_folio 27 = .ok (.bipush 10, 2) := by decide +kernel
theorem dX11_folio_29 : decode cX11_folio 29 = .ok (.invokevirtual 231, 3) := by decide +kernel
theorem dX11_folio_32 : decode cX11_folio 32 = .ok (.ireturn, 1) := by decide +kernel
theorem dX11_folio_33 : decode cX11_folio 33 = .ok (.aload_n 0, 1) := by decide +kernel
theorem dX11_folio_34 : decode cX11_folio 34 = .ok (.getfield 7, 3) := by decide +kernel
theorem dX11_folio_37 : decode cX11_folio 37 = .ok (.aload_n 0, 1) := by decide +kernel
theorem dX11_folio_38 : decode cX11_folio 38 = .ok (.getfield 172, 3) := by decide +kernel
theorem dX11_folio_41 : decode cX11_folio 41 = .ok (.iload_n 1, 1) := by decide +kernel
theorem dX11_folio_42 : decode cX11_folio 42 = .ok (.iastore, 1) := by decide +kernel
theorem dX11_folio_43 : decode cX11_folio 43 = .ok (.aload_n 0, 1) := by decide +kernel
theorem dX11_folio_44 : decode cX11_folio 44 = .ok (.dup, 1) := by decide +kernel
theorem dX11_folio_45 : decode cX11_folio 45 = .ok (.getfield 172, 3) := by decide +kernel
theorem dX11_folio_48 : decode cX11_folio 48 = .ok (.iconst 1, 1) := by decide +kernel
theorem dX11_folio_49 : decode cX11_folio 49 = .ok (.iadd, 1) := by decide +kernel
theorem dX11_folio_50 : decode cX11_folio 50 = .ok (.putfield 172, 3) := by decide +kernel
theorem dX11_folio_53 : decode cX11_folio 53 = .ok (.aload_n 0, 1) := by decide +kernel
theorem dX11_folio_54 : decode cX11_folio 54 = .ok (.iconst 0, 1) := by decide +kernel
theorem dX11_folio_55 : decode cX11_folio 55 = .ok (.putfield 163, 3) := by decide +kernel
theorem dX11_folio_58 : decode cX11_folio 58 = .ok (.aload_n 0, 1) := by decide +kernel
theorem dX11_folio_59 : decode cX11_folio 59 = .ok (.getfield 172, 3) := by decide +kernel
theorem dX11_folio_62 : decode cX11_folio 62 = .ok (.iconst 1, 1) := by decide +kernel
theorem dX11_folio_63 : decode cX11_folio 63 = .ok (.isub, 1) := by decide +kernel
theorem dX11_folio_64 : decode cX11_folio 64 = .ok (.ireturn, 1) := by decide +kernel
theorem dX11_tear_0 : decode cX11_tear 0 = .ok (.aload_n 0, 1) := by decide +kernel
theorem dX11_tear_1 : decode cX11_tear 1 = .ok (.iload_n 1, 1) := by decide +kernel
theorem dX11_tear_2 : decode cX11_tear 2 = .ok (.iload_n 2, 1) := by decide +kernel
theorem dX11_tear_3 : decode cX11_tear 3 = .ok (.invokevirtual 235, 3) := by decide +kernel
theorem dX11_tear_6 : decode cX11_tear 6 = .ok (.istore_n 3, 1) := by decide +kernel
theorem dX11_tear_7 : decode cX11_tear 7 = .ok (.iload_n 3, 1) := by decide +kernel
theorem dX11_tear_8 : decode cX11_tear 8 = .ok (.ifCond .le 9, 3) := by decide +kernel
theorem dX11_tear_11 : decode cX11_tear 11 = .ok (.aload_n 0, 1) := by decide +kernel
theorem dX11_tear_12 : decode cX11_tear 12 = .ok (.iload_n 3, 1) := by decide +kernel
theorem dX11_tear_13 : decode cX11_tear 13 = .ok (.invokevirtual 238, 3) := by decide +kernel
theorem dX11_tear_16 : decode cX11_tear 16 = .ok (.ireturn, 1) := by decide +kernel
theorem dX11_tear_17 : decode cX11_tear 17 = .ok (.aload_n 0, 1) := by decide +kernel
theorem dX11_tear_18 : decode cX11_tear 18 = .ok (.getfield 13, 3) := by decide +kernel
theorem dX11_tear_21 : decode cX11_tear 21 = .ok (.bipush 60, 2) := by decide +kernel
theorem dX11_tear_23 : decode cX11_tear 23 = .ok (.iload_n 1, 1) := by decide +kernel
theorem dX11_tear_24 : decode cX11_tear 24 = .ok (.imul, 1) := by decide +kernel
theorem dX11_tear_25 : decode cX11_tear 25 = .ok (.iload_n 2, 1) := by decide +kernel
theorem dX11_tear_26 : decode cX11_tear 26 = .ok (.iadd, 1) := by decide +kernel
theorem dX11_tear_27 : decode cX11_tear 27 = .ok (.iconst 1, 1) := by decide +kernel
theorem dX11_tear_28 : decode cX11_tear 28 = .ok (.bastore, 1) := by decide +kernel
theorem dX11_tear_29 : decode cX11_tear 29 = .ok (.aload_n 0, 1) := by decide +kernel
theorem dX11_tear_30 : decode cX11_tear 30 = .ok (.iconst 0, 1) := by decide +kernel
theorem dX11_tear_31 : decode cX11_tear 31 = .ok (.putfield 163, 3) := by decide +kernel
theorem dX11_tear_34 : decode cX11_tear 34 = .ok (.iconst 1, 1) := by decide +kernel
theorem dX11_tear_35 : decode cX11_tear 35 = .ok (.ireturn, 1) := by decide +kernel
theorem dX11_day_0 : decode cX11_day 0 = .ok (.iload_n 1, 1) := by decide +kernel
theorem dX11_day_1 : decode cX11_day 1 = .ok (.ldc 241, 2) := by decide +kernel
theorem dX11_day_3 : decode cX11_day 3 = .ok (.if_icmp .le 9, 3) := by decide +kernel
theorem dX11_day_6 : decode cX11_day 6 = .ok (.aload_n 0, 1) := by decide +kernel
theorem dX11_day_7 : decode cX11_day 7 = .ok (.iconst 5, 1) := by decide +kernel
theorem dX11_day_8 : decode cX11_day 8 = .ok (.invokevirtual 238, 3) := by decide +kernel
theorem dX11_day_11 : decode cX11_day 11 = .ok (.ireturn, 1) := by decide +kernel
theorem dX11_day_12 : decode cX11_day 12 = .ok (.iload_n 1, 1) := by decide +kernel
theorem dX11_day_13 : decode cX11_day 13 = .ok (.aload_n 0, 1) := by decide +kernel
theorem dX11_day_14 : decode cX11_day 14 = .ok (.getfield 166, 3) := by decide +kernel
theorem dX11_day_17 : decode cX11_day 17 = .ok (.if_icmp .ge 10, 3) := by decide +kernel
theorem dX11_day_20 : decode cX11_day 20 = .ok (.aload_n 0, 1) := by decide +kernel
theorem dX11_day_21 : decode cX11_day 21 = .ok (.bipush 8, 2) := by decide +kernel
theorem dX11_day_23 : decode cX11_day 23 = .ok (.invokevirtual 238, 3) := by decide +kernel
theorem dX11_day_26 : decode cX11_day 26 = .ok (.ireturn, 1) := by decide +kernel
theorem dX11_day_27 : decode cX11_day 27 = .ok (.aload_n 0, 1) := by decide +kernel
theorem dX11_day_28 : decode cX11_day 28 = .ok (.iload_n 1, 1) := by decide +kernel
theorem dX11_day_29 : decode cX11_day 29 = .ok (.putfield 166, 3) := by decide +kernel
theorem dX11_day_32 : decode cX11_day 32 = .ok (.aload_n 0, 1) := by decide +kernel
theorem dX11_day_33 : decode cX11_day 33 = .ok (.iconst (-1), 1) := by decide +kernel
theorem dX11_day_34 : decode cX11_day 34 = .ok (.putfield 120, 3) := by decide +kernel
theorem dX11_day_37 : decode cX11_day 37 = .ok (.aload_n 0, 1) := by decide +kernel
theorem dX11_day_38 : decode cX11_day 38 = .ok (.iconst 0, 1) := by decide +kernel
theorem dX11_day_39 : decode cX11_day 39 = .ok (.putfield 163, 3) := by decide +kernel
theorem dX11_day_42 : decode cX11_day 42 = .ok (.iconst 1, 1) := by decide +kernel
theorem dX11_day_43 : decode cX11_day 43 = .ok (.ireturn, 1) := by decide +kernel
theorem dX11_since_0 : decode cX11_since 0 = .ok (.iload_n 1, 1) := by decide +kernel
theorem dX11_since_1 : decode cX11_since 1 = .ok (.ifCond .lt 11, 3) := by decide +kernel
theorem dX11_since_4 : decode cX11_since 4 = .ok (.iload_n 1, 1) := by decide +kernel
theorem dX11_since_5 : decode cX11_since 5 = .ok (.aload_n 0, 1) := by decide +kernel
theorem dX11_since_6 : decode cX11_since 6 = .ok (.getfield 166, 3) := by decide +kernel
theorem dX11_since_9 : decode cX11_since 9 = .ok (.if_icmp .le 9, 3) := by decide +kernel
theorem dX11_since_12 : decode cX11_since 12 = .ok (.aload_n 0, 1) := by decide +kernel
theorem dX11_since_13 : decode cX11_since 13 = .ok (.iconst 5, 1) := by decide +kernel
theorem dX11_since_14 : decode cX11_since 14 = .ok (.invokevirtual 238, 3) := by decide +kernel
theorem dX11_since_17 : decode cX11_since 17 = .ok (.ireturn, 1) := by decide +kernel
theorem dX11_since_18 : decode cX11_since 18 = .ok (.aload_n 0, 1) := by decide +kernel
theorem dX11_since_19 : decode cX11_since 19 = .ok (.iload_n 1, 1) := by decide +kernel
theorem dX11_since_20 : decode cX11_since 20 = .ok (.putfield 120, 3) := by decide +kernel
theorem dX11_since_23 : decode cX11_since 23 = .ok (.aload_n 0, 1) := by decide +kernel
theorem dX11_since_24 : decode cX11_since 24 = .ok (.iconst 0, 1) := by decide +kernel
theorem dX11_since_25 : decode cX11_since 25 = .ok (.putfield 163, 3) := by decide +kernel
theorem dX11_since_28 : decode cX11_since 28 = .ok (.iconst 1, 1) := by decide +kernel
theorem dX11_since_29 : decode cX11_since 29 = .ok (.ireturn, 1) := by decide +kernel
theorem dX11_make_0 : decode cX11_make 0 = .ok (.aload_n 0, 1) := by decide +kernel
theorem dX11_make_1 : decode cX11_make 1 = .ok (.dup, 1) := by decide +kernel
theorem dX11_make_2 : decode cX11_make 2 = .ok (.getfield 169, 3) := by decide +kernel
theorem dX11_make_5 : decode cX11_make 5 = .ok (.iconst 1, 1) := by decide +kernel
theorem dX11_make_6 : decode cX11_make 6 = .ok (.iadd, 1) := by decide +kernel
theorem dX11_make_7 : decode cX11_make 7 = .ok (.putfield 169, 3) := by decide +kernel
theorem dX11_make_10 : decode cX11_make 10 = .ok (.aload_n 0, 1) := by decide +kernel
theorem dX11_make_11 : decode cX11_make 11 = .ok (.getfield 169, 3) := by decide +kernel
theorem dX11_make_14 : decode cX11_make 14 = .ok (.istore 8, 2) := by decide +kernel
theorem dX11_make_16 : decode cX11_make 16 = .ok (.aload_n 0, 1) := by decide +kernel
theorem dX11_make_17 : decode cX11_make 17 = .ok (.getfield 17, 3) := by decide +kernel
theorem dX11_make_20 : decode cX11_make 20 = .ok (.iload 8, 2) := by decide +kernel
theorem dX11_make_22 : decode cX11_make 22 = .ok (.iload_n 2, 1) := by decide +kernel
theorem dX11_make_23 : decode cX11_make 23 = .ok (.iastore, 1) := by decide +kernel
theorem dX11_make_24 : decode cX11_make 24 = .ok (.aload_n 0, 1) := by decide +kernel
theorem dX11_make_25 : decode cX11_make 25 = .ok (.getfield 20, 3) := by decide +kernel
theorem dX11_make_28 : decode cX11_make 28 = .ok (.iload 8, 2) := by decide +kernel
theorem dX11_make_30 : decode cX11_make 30 = .ok (.iload_n 1, 1) := by decide +kernel
theorem dX11_make_31 : decode cX11_make 31 = .ok (.iastore, 1) := by decide +kernel
theorem dX11_make_32 : decode cX11_make 32 = .ok (.aload_n 0, 1) := by decide +kernel
theorem dX11_make_33 : decode cX11_make 33 = .ok (.getfield 23, 3) := by decide +kernel
theorem dX11_make_36 : decode cX11_make 36 = .ok (.iload 8, 2) := by decide +kernel
theorem dX11_make_38 : decode cX11_make 38 = .ok (.iload_n 3, 1) := by decide +kernel
theorem dX11_make_39 : decode cX11_make 39 = .ok (.ifCond .ne 8, 3) := by decide +kernel
theorem dX11_make_42 : decode cX11_make 42 = .ok (.iload 8, 2) := by decide +kernel
theorem dX11_make_44 : decode cX11_make 44 = .ok (.goto 4, 3) := by decide +kernel
theorem dX11_make_47 : decode cX11_make 47 = .ok (.iload_n 3, 1) := by decide +kernel
theorem dX11_make_48 : decode cX11_make 48 = .ok (.iastore, 1) := by decide +kernel
theorem dX11_make_49 : decode cX11_make 49 = .ok (.aload_n 0, 1) := by decide +kernel
theorem dX11_make_50 : decode cX11_make 50 = .ok (.getfield 26, 3) := by decide +kernel
theorem dX11_make_53 : decode cX11_make 53 = .ok (.iload 8, 2) := by decide +kernel
theorem dX11_make_55 : decode cX11_make 55 = .ok (.iload 4, 2) := by decide +kernel
theorem dX11_make_57 : decode cX11_make 57 = .ok (.iastore, 1) := by decide +kernel
theorem dX11_make_58 : decode cX11_make 58 = .ok (.aload_n 0, 1) := by decide +kernel
theorem dX11_make_59 : decode cX11_make 59 = .ok (.getfield 29, 3) := by decide +kernel
theorem dX11_make_62 : decode cX11_make 62 = .ok (.iload 8, 2) := by decide +kernel
theorem dX11_make_64 : decode cX11_make 64 = .ok (.iload 5, 2) := by decide +kernel
theorem dX11_make_66 : decode cX11_make 66 = .ok (.iastore, 1) := by decide +kernel
theorem dX11_make_67 : decode cX11_make 67 = .ok (.aload_n 0, 1) := by decide +kernel
theorem dX11_make_68 : decode cX11_make 68 = .ok (.getfield 32, 3) := by decide +kernel
theorem dX11_make_71 : decode cX11_make 71 = .ok (.iload 8, 2) := by decide +kernel
theorem dX11_make_73 : decode cX11_make 73 = .ok (.lload 6, 2) := by decide +kernel
theorem dX11_make_75 : decode cX11_make 75 = .ok (.lastore, 1) := by decide +kernel
theorem dX11_make_76 : decode cX11_make 76 = .ok (.aload_n 0, 1) := by decide +kernel
theorem dX11_make_77 : decode cX11_make 77 = .ok (.getfield 36, 3) := by decide +kernel
theorem dX11_make_80 : decode cX11_make 80 = .ok (.iload 8, 2) := by decide +kernel
theorem dX11_make_82 : decode cX11_make 82 = .ok (.iconst 0, 1) := by decide +kernel
theorem dX11_make_83 : decode cX11_make 83 = .ok (.iastore, 1) := by decide +kernel
theorem dX11_make_84 : decode cX11_make 84 = .ok (.aload_n 0, 1) := by decide +kernel
theorem dX11_make_85 : decode cX11_make 85 = .ok (.getfield 57, 3) := by decide +kernel
theorem dX11_make_88 : decode cX11_make 88 = .ok (.iload 8, 2) := by decide +kernel
theorem dX11_make_90 : decode cX11_make 90 = .ok (.iconst (-1), 1) := by decide +kernel
theorem dX11_make_91 : decode cX11_make 91 = .ok (.iastore, 1) := by decide +kernel
theorem dX11_make_92 : decode cX11_make 92 = .ok (.aload_n 0, 1) := by decide +kernel
theorem dX11_make_93 : decode cX11_make 93 = .ok (.getfield 78, 3) := by decide +kernel
theorem dX11_make_96 : decode cX11_make 96 = .ok (.iload 8, 2) := by decide +kernel
theorem dX11_make_98 : decode cX11_make 98 = .ok (.iconst (-1), 1) := by decide +kernel
theorem dX11_make_99 : decode cX11_make 99 = .ok (.iastore, 1) := by decide +kernel
theorem dX11_make_100 : decode cX11_make 100 = .ok (.aload_n 0, 1) := by decide +kernel
theorem dX11_make_101 : decode cX11_make 101 = .ok (.getfield 90, 3) := by decide +kernel
theorem dX11_make_104 : decode cX11_make 104 = .ok (.iload 8, 2) := by decide +kernel
theorem dX11_make_106 : decode cX11_make 106 = .ok (.iconst (-1), 1) := by decide +kernel
theorem dX11_make_107 : decode cX11_make 107 = .ok (.iastore, 1) := by decide +kernel
theorem dX11_make_108 : decode cX11_make 108 = .ok (.iconst 0, 1) := by decide +kernel
theorem dX11_make_109 : decode cX11_make 109 = .ok (.istore 9, 2) := by decide +kernel
theorem dX11_make_111 : decode cX11_make 111 = .ok (.iload 9, 2) := by decide +kernel
theorem dX11_make_113 : decode cX11_make 113 = .ok (.bipush 60, 2) := by decide +kernel
theorem dX11_make_115 : decode cX11_make 115 = .ok (.if_icmp .ge 23, 3) := by decide +kernel
theorem dX11_make_118 : decode cX11_make 118 = .ok (.aload_n 0, 1) := by decide +kernel
theorem dX11_make_119 : decode cX11_make 119 = .ok (.getfield 96, 3) := by decide +kernel
theorem dX11_make_122 : decode cX11_make 122 = .ok (.bipush 60, 2) := by decide +kernel
theorem dX11_make_124 : decode cX11_make 124 = .ok (.iload 8, 2) := by decide +kernel
theorem dX11_make_126 : decode cX11_make 126 = .ok (.imul, 1) := by decide +kernel
theorem dX11_make_127 : decode cX11_make 127 = .ok (.iload 9, 2) := by decide +kernel
theorem dX11_make_129 : decode cX11_make 129 = .ok (.iadd, 1) := by decide +kernel
theorem dX11_make_130 : decode cX11_make 130 = .ok (.iconst (-1), 1) := by decide +kernel
theorem dX11_make_131 : decode cX11_make 131 = .ok (.iastore, 1) := by decide +kernel
theorem dX11_make_132 : decode cX11_make 132 = .ok (.iinc 9 1, 3) := by decide +kernel
theorem dX11_make_135 : decode cX11_make 135 = .ok (.goto (-24), 3) := by decide +kernel
theorem dX11_make_138 : decode cX11_make 138 = .ok (.iload 8, 2) := by decide +kernel
theorem dX11_make_140 : decode cX11_make 140 = .ok (.ireturn, 1) := by decide +kernel
theorem dX11_wrongBits_0 : decode cX11_wrongBits 0 = .ok (.lload_n 2, 1) := by decide +kernel
theorem dX11_wrongBits_1 : decode cX11_wrongBits 1 = .ok (.lconst 0, 1) := by decide +kernel
theorem dX11_wrongBits_2 : decode cX11_wrongBits 2 = .ok (.lcmp, 1) := by decide +kernel
theorem dX11_wrongBits_3 : decode cX11_wrongBits 3 = .ok (.ifCond .eq 16, 3) := by decide +kernel
theorem dX11_wrongBits_6 : decode cX11_wrongBits 6 = .ok (.lload_n 2, 1) := by decide +kernel
theorem dX11_wrongBits_7 : decode cX11_wrongBits 7 = .ok (.aload_n 0, 1) := by decide +kernel
theorem dX11_wrongBits_8 : decode cX11_wrongBits 8 = .ok (.getfield 7, 3) := by decide +kernel
theorem dX11_wrongBits_11 : decode cX11_wrongBits 11 = .ok (.iload_n 1, 1) := by decide +kernel
theorem dX11_wrongBits_12 : decode cX11_wrongBits 12 = .ok (.iaload, 1) := by decide +kernel
theorem dX11_wrongBits_13 : decode cX11_wrongBits 13 = .ok (.lshr, 1) := by decide +kernel
theorem dX11_wrongBits_14 : decode cX11_wrongBits 14 = .ok (.lconst 0, 1) := by decide +kernel
theorem dX11_wrongBits_15 : decode cX11_wrongBits 15 = .ok (.lcmp, 1) := by decide +kernel
theorem dX11_wrongBits_16 : decode cX11_wrongBits 16 = .ok (.ifCond .eq 5, 3) := by decide +kernel
theorem dX11_wrongBits_19 : decode cX11_wrongBits 19 = .ok (.iconst 2, 1) := by decide +kernel
theorem dX11_wrongBits_20 : decode cX11_wrongBits 20 = .ok (.ireturn, 1) := by decide +kernel
theorem dX11_wrongBits_21 : decode cX11_wrongBits 21 = .ok (.iconst 0, 1) := by decide +kernel
theorem dX11_wrongBits_22 : decode cX11_wrongBits 22 = .ok (.istore 4, 2) := by decide +kernel
theorem dX11_wrongBits_24 : decode cX11_wrongBits 24 = .ok (.iload 4, 2) := by decide +kernel
theorem dX11_wrongBits_26 : decode cX11_wrongBits 26 = .ok (.aload_n 0, 1) := by decide +kernel
theorem dX11_wrongBits_27 : decode cX11_wrongBits 27 = .ok (.getfield 7, 3) := by decide +kernel
theorem dX11_wrongBits_30 : decode cX11_wrongBits 30 = .ok (.iload_n 1, 1) := by decide +kernel
theorem dX11_wrongBits_31 : decode cX11_wrongBits 31 = .ok (.iaload, 1) := by decide +kernel
theorem dX11_wrongBits_32 : decode cX11_wrongBits 32 = .ok (.if_icmp .ge 37, 3) := by decide +kernel
theorem dX11_wrongBits_35 : decode cX11_wrongBits 35 = .ok (.lload_n 2, 1) := by decide +kernel
theorem dX11_wrongBits_36 : decode cX11_wrongBits 36 = .ok (.iload 4, 2) := by decide +kernel
theorem dX11_wrongBits_38 : decode cX11_wrongBits 38 = .ok (.lshr, 1) := by decide +kernel
theorem dX11_wrongBits_39 : decode cX11_wrongBits 39 = .ok (.lconst 1, 1) := by decide +kernel
theorem dX11_wrongBits_40 : decode cX11_wrongBits 40 = .ok (.land, 1) := by decide +kernel
theorem dX11_wrongBits_41 : decode cX11_wrongBits 41 = .ok (.lconst 1, 1) := by decide +kernel
theorem dX11_wrongBits_42 : decode cX11_wrongBits 42 = .ok (.lcmp, 1) := by decide +kernel
theorem dX11_wrongBits_43 : decode cX11_wrongBits 43 = .ok (.ifCond .ne 20, 3) := by decide +kernel
theorem dX11_wrongBits_46 : decode cX11_wrongBits 46 = .ok (.aload_n 0, 1) := by decide +kernel
theorem dX11_wrongBits_47 : decode cX11_wrongBits 47 = .ok (.getfield 13, 3) := by decide +kernel
theorem dX11_wrongBits_50 : decode cX11_wrongBits 50 = .ok (.bipush 60, 2) := by decide +kernel
theorem dX11_wrongBits_52 : decode cX11_wrongBits 52 = .ok (.iload_n 1, 1) := by decide +kernel
theorem dX11_wrongBits_53 : decode cX11_wrongBits 53 = .ok (.imul, 1) := by decide +kernel
theorem dX11_wrongBits_54 : decode cX11_wrongBits 54 = .ok (.iload 4, 2) := by decide +kernel
theorem dX11_wrongBits_56 : decode cX11_wrongBits 56 = .ok (.iadd, 1) := by decide +kernel
theorem dX11_wrongBits_57 : decode cX11_wrongBits 57 = .ok (.baload, 1) := by decide +kernel
theorem dX11_wrongBits_58 : decode cX11_wrongBits 58 = .ok (.ifCond .eq 5, 3) := by decide +kernel
theorem dX11_wrongBits_61 : decode cX11_wrongBits 61 = .ok (.iconst 3, 1) := by decide +kernel
theorem dX11_wrongBits_62 : decode cX11_wrongBits 62 = .ok (.ireturn, 1) := by decide +kernel
theorem dX11_wrongBits_63 : decode cX11_wrongBits 63 = .ok (.iinc 4 1, 3) := by decide +kernel
theorem dX11_wrongBits_66 : decode cX11_wrongBits 66 = .ok (.goto (-42), 3) := by decide +kernel
theorem dX11_wrongBits_69 : decode cX11_wrongBits 69 = .ok (.iconst 0, 1) := by decide +kernel
theorem dX11_wrongBits_70 : decode cX11_wrongBits 70 = .ok (.ireturn, 1) := by decide +kernel
theorem dX11_enter_0 : decode cX11_enter 0 = .ok (.iload_n 1, 1) := by decide +kernel
theorem dX11_enter_1 : decode cX11_enter 1 = .ok (.ifCond .lt 11, 3) := by decide +kernel
theorem dX11_enter_4 : decode cX11_enter 4 = .ok (.iload_n 1, 1) := by decide +kernel
theorem dX11_enter_5 : decode cX11_enter 5 = .ok (.aload_n 0, 1) := by decide +kernel
theorem dX11_enter_6 : decode cX11_enter 6 = .ok (.getfield 172, 3) := by decide +kernel
theorem dX11_enter_9 : decode cX11_enter 9 = .ok (.if_icmp .lt 9, 3) := by decide +kernel
theorem dX11_enter_12 : decode cX11_enter 12 = .ok (.aload_n 0, 1) := by decide +kernel
theorem dX11_enter_13 : decode cX11_enter 13 = .ok (.iconst 1, 1) := by decide +kernel
theorem dX11_enter_14 : decode cX11_enter 14 = .ok (.invokevirtual 231, 3) := by decide +kernel
theorem dX11_enter_17 : decode cX11_enter 17 = .ok (.ireturn, 1) := by decide +kernel
theorem dX11_enter_18 : decode cX11_enter 18 = .ok (.aload_n 0, 1) := by decide +kernel
theorem dX11_enter_19 : decode cX11_enter 19 = .ok (.iload_n 1, 1) := by decide +kernel
theorem dX11_enter_20 : decode cX11_enter 20 = .ok (.lload 6, 2) := by decide +kernel
theorem dX11_enter_22 : decode cX11_enter 22 = .ok (.invokevirtual 242, 3) := by decide +kernel
theorem dX11_enter_25 : decode cX11_enter 25 = .ok (.istore 8, 2) := by decide +kernel
theorem dX11_enter_27 : decode cX11_enter 27 = .ok (.iload 8, 2) := by decide +kernel
theorem dX11_enter_29 : decode cX11_enter 29 = .ok (.ifCond .le 10, 3) := by decide +kernel
theorem dX11_enter_32 : decode cX11_enter 32 = .ok (.aload_n 0, 1) := by decide +kernel
theorem dX11_enter_33 : decode cX11_enter 33 = .ok (.iload 8, 2) := by decide +kernel
theorem dX11_enter_35 : decode cX11_enter 35 = .ok (.invokevirtual 231, 3) := by decide +kernel
theorem dX11_enter_38 : decode cX11_enter 38 = .ok (.ireturn, 1) := by decide +kernel
theorem dX11_enter_39 : decode cX11_enter 39 = .ok (.iload_n 2, 1) := by decide +kernel
theorem dX11_enter_40 : decode cX11_enter 40 = .ok (.iconst 4, 1) := by decide +kernel
theorem dX11_enter_41 : decode cX11_enter 41 = .ok (.if_icmp .eq 9, 3) := by decide +kernel
theorem dX11_enter_44 : decode cX11_enter 44 = .ok (.iload_n 2, 1) := by decide +kernel
theorem dX11_enter_45 : decode cX11_enter 45 = .ok (.bipush 6, 2) := by decide +kernel
theorem dX11_enter_47 : decode cX11_enter 47 = .ok (.if_icmp .ne 8, 3) := by decide +kernel
theorem dX11_enter_50 : decode cX11_enter 50 = .ok (.ldc 241, 2) := by decide +kernel
theorem dX11_enter_52 : decode cX11_enter 52 = .ok (.goto 6, 3) := by decide +kernel
theorem dX11_enter_55 : decode cX11_enter 55 = .ok (.sipush 200, 3) := by decide +kernel
theorem dX11_enter_58 : decode cX11_enter 58 = .ok (.istore 9, 2) := by decide +kernel
theorem dX11_enter_60 : decode cX11_enter 60 = .ok (.iload_n 2, 1) := by decide +kernel
theorem dX11_enter_61 : decode cX11_enter 61 = .ok (.iconst 1, 1) := by decide +kernel
theorem dX11_enter_62 : decode cX11_enter 62 = .ok (.if_icmp .lt 35, 3) := by decide +kernel
theorem dX11_enter_65 : decode cX11_enter 65 = .ok (.iload_n 2, 1) := by decide +kernel
theorem dX11_enter_66 : decode cX11_enter 66 = .ok (.bipush 6, 2) := by decide +kernel
theorem dX11_enter_68 : decode cX11_enter 68 = .ok (.if_icmp .gt 29, 3) := by decide +kernel
theorem dX11_enter_71 : decode cX11_enter 71 = .ok (.lload_n 3, 1) := by decide +kernel
theorem dX11_enter_72 : decode cX11_enter 72 = .ok (.lconst 0, 1) := by decide +kernel
theorem dX11_enter_73 : decode cX11_enter 73 = .ok (.lcmp, 1) := by decide +kernel
theorem dX11_enter_74 : decode cX11_enter 74 = .ok (.ifCond .lt 23, 3) := by decide +kernel
theorem dX11_enter_77 : decode cX11_enter 77 = .ok (.lload_n 3, 1) := by decide +kernel
theorem dX11_enter_78 : decode cX11_enter 78 = .ok (.ldc2_w 246, 3) := by decide +kernel
theorem dX11_enter_81 : decode cX11_enter 81 = .ok (.lcmp, 1) := by decide +kernel
theorem dX11_enter_82 : decode cX11_enter 82 = .ok (.ifCond .gt 15, 3) := by decide +kernel
theorem dX11_enter_85 : decode cX11_enter 85 = .ok (.iload 5, 2) := by decide +kernel
theorem dX11_enter_87 : decode cX11_enter 87 = .ok (.ifCond .lt 10, 3) := by decide +kernel
theorem dX11_enter_90 : decode cX11_enter 90 = .ok (.iload 5, 2) := by decide +kernel
theorem dX11_enter_92 : decode cX11_enter 92 = .ok (.iload 9, 2) := by decide +kernel
theorem dX11_enter_94 : decode cX11_enter 94 = .ok (.if_icmp .le 9, 3) := by decide +kernel
theorem dX11_enter_97 : decode cX11_enter 97 = .ok (.aload_n 0, 1) := by decide +kernel
theorem dX11_enter_98 : decode cX11_enter 98 = .ok (.iconst 5, 1) := by decide +kernel
theorem dX11_enter_99 : decode cX11_enter 99 = .ok (.invokevirtual 231, 3) := by decide +kernel
theorem dX11_enter_102 : decode cX11_enter 102 = .ok (.ireturn, 1) := by decide +kernel
theorem dX11_enter_103 : decode cX11_enter 103 = .ok (.aload_n 0, 1) := by decide +kernel
theorem dX11_enter_104 : decode cX11_enter 104 = .ok (.getfield 169, 3) := by decide +kernel
theorem dX11_enter_107 : decode cX11_enter 107 = .ok (.sipush 300, 3) := by decide +kernel
theorem dX11_enter_110 : decode cX11_enter 110 = .ok (.if_icmp .ne 10, 3) := by decide +kernel
theorem dX11_enter_113 : decode cX11_enter 113 = .ok (.aload_n 0, 1) := by decide +kernel
theorem dX11_enter_114 : decode cX11_enter 114 = .ok (.bipush 10, 2) := by decide +kernel
theorem dX11_enter_116 : decode cX11_enter 116 = .ok (.invokevirtual 231, 3) := by decide +kernel
theorem dX11_enter_119 : decode cX11_enter 119 = .ok (.ireturn, 1) := by decide +kernel
theorem dX11_enter_120 : decode cX11_enter 120 = .ok (.aload_n 0, 1) := by decide +kernel
theorem dX11_enter_121 : decode cX11_enter 121 = .ok (.iload_n 1, 1) := by decide +kernel
theorem dX11_enter_122 : decode cX11_enter 122 = .ok (.iload_n 2, 1) := by decide +kernel
theorem dX11_enter_123 : decode cX11_enter 123 = .ok (.iconst 0, 1) := by decide +kernel
theorem dX11_enter_124 : decode cX11_enter 124 = .ok (.iconst 0, 1) := by decide +kernel
theorem dX11_enter_125 : decode cX11_enter 125 = .ok (.iconst 0, 1) := by decide +kernel
theorem dX11_enter_126 : decode cX11_enter 126 = .ok (.iload_n 2, 1) := by decide +kernel
theorem dX11_enter_127 : decode cX11_enter 127 = .ok (.iconst 3, 1) := by decide +kernel
theorem dX11_enter_128 : decode cX11_enter 128 = .ok (.if_icmp .ne 7, 3) := by decide +kernel
theorem dX11_enter_131 : decode cX11_enter 131 = .ok (.lconst 0, 1) := by decide +kernel
theorem dX11_enter_132 : decode cX11_enter 132 = .ok (.goto 4, 3) := by decide +kernel
theorem dX11_enter_135 : decode cX11_enter 135 = .ok (.lload_n 3, 1) := by decide +kernel
theorem dX11_enter_136 : decode cX11_enter 136 = .ok (.invokevirtual 248, 3) := by decide +kernel
theorem dX11_enter_139 : decode cX11_enter 139 = .ok (.istore 10, 2) := by decide +kernel
theorem dX11_enter_141 : decode cX11_enter 141 = .ok (.aload_n 0, 1) := by decide +kernel
theorem dX11_enter_142 : decode cX11_enter 142 = .ok (.getfield 39, 3) := by decide +kernel
theorem dX11_enter_145 : decode cX11_enter 145 = .ok (.iload 10, 2) := by decide +kernel
theorem dX11_enter_147 : decode cX11_enter 147 = .ok (.lload 6, 2) := by decide +kernel
theorem dX11_enter_149 : decode cX11_enter 149 = .ok (.lastore, 1) := by decide +kernel
theorem dX11_enter_150 : decode cX11_enter 150 = .ok (.aload_n 0, 1) := by decide +kernel
theorem dX11_enter_151 : decode cX11_enter 151 = .ok (.getfield 42, 3) := by decide +kernel
theorem dX11_enter_154 : decode cX11_enter 154 = .ok (.iload 10, 2) := by decide +kernel
theorem dX11_enter_156 : decode cX11_enter 156 = .ok (.iload 5, 2) := by decide +kernel
theorem dX11_enter_158 : decode cX11_enter 158 = .ok (.iastore, 1) := by decide +kernel
theorem dX11_enter_159 : decode cX11_enter 159 = .ok (.aload_n 0, 1) := by decide +kernel
theorem dX11_enter_160 : decode cX11_enter 160 = .ok (.getfield 45, 3) := by decide +kernel
theorem dX11_enter_163 : decode cX11_enter 163 = .ok (.iload 10, 2) := by decide +kernel
theorem dX11_enter_165 : decode cX11_enter 165 = .ok (.lload_n 3, 1) := by decide +kernel
theorem dX11_enter_166 : decode cX11_enter 166 = .ok (.lastore, 1) := by decide +kernel
theorem dX11_enter_167 : decode cX11_enter 167 = .ok (.aload_n 0, 1) := by decide +kernel
theorem dX11_enter_168 : decode cX11_enter 168 = .ok (.getfield 48, 3) := by decide +kernel
theorem dX11_enter_171 : decode cX11_enter 171 = .ok (.iload 10, 2) := by decide +kernel
theorem dX11_enter_173 : decode cX11_enter 173 = .ok (.aload_n 0, 1) := by decide +kernel
theorem dX11_enter_174 : decode cX11_enter 174 = .ok (.invokevirtual 252, 3) := by decide +kernel
theorem dX11_enter_177 : decode cX11_enter 177 = .ok (.iastore, 1) := by decide +kernel
theorem dX11_enter_178 : decode cX11_enter 178 = .ok (.aload_n 0, 1) := by decide +kernel
theorem dX11_enter_179 : decode cX11_enter 179 = .ok (.getfield 51, 3) := by decide +kernel
theorem dX11_enter_182 : decode cX11_enter 182 = .ok (.iload 10, 2) := by decide +kernel
theorem dX11_enter_184 : decode cX11_enter 184 = .ok (.aload_n 0, 1) := by decide +kernel
theorem dX11_enter_185 : decode cX11_enter 185 = .ok (.getfield 166, 3) := by decide +kernel
theorem dX11_enter_188 : decode cX11_enter 188 = .ok (.iastore, 1) := by decide +kernel
theorem dX11_enter_189 : decode cX11_enter 189 = .ok (.aload_n 0, 1) := by decide +kernel
theorem dX11_enter_190 : decode cX11_enter 190 = .ok (.getfield 60, 3) := by decide +kernel
theorem dX11_enter_193 : decode cX11_enter 193 = .ok (.iload 10, 2) := by decide +kernel
theorem dX11_enter_195 : decode cX11_enter 195 = .ok (.aload_n 0, 1) := by decide +kernel
theorem dX11_enter_196 : decode cX11_enter 196 = .ok (.getfield 48, 3) := by decide +kernel
theorem dX11_enter_199 : decode cX11_enter 199 = .ok (.iload 10, 2) := by decide +kernel
theorem dX11_enter_201 : decode cX11_enter 201 = .ok (.iaload, 1) := by decide +kernel
theorem dX11_enter_202 : decode cX11_enter 202 = .ok (.iastore, 1) := by decide +kernel
theorem dX11_enter_203 : decode cX11_enter 203 = .ok (.aload_n 0, 1) := by decide +kernel
theorem dX11_enter_204 : decode cX11_enter 204 = .ok (.getfield 69, 3) := by decide +kernel
theorem dX11_enter_207 : decode cX11_enter 207 = .ok (.iload 10, 2) := by decide +kernel
theorem dX11_enter_209 : decode cX11_enter 209 = .ok (.ldc_w 256, 3) := by decide +kernel
theorem dX11_enter_212 : decode cX11_enter 212 = .ok (.iastore, 1) := by decide +kernel
theorem dX11_enter_213 : decode cX11_enter 213 = .ok (.aload_n 0, 1) := by decide +kernel
theorem dX11_enter_214 : decode cX11_enter 214 = .ok (.getfield 72, 3) := by decide +kernel
theorem dX11_enter_217 : decode cX11_enter 217 = .ok (.iload 10, 2) := by decide +kernel
theorem dX11_enter_219 : decode cX11_enter 219 = .ok (.iconst 2, 1) := by decide +kernel
theorem dX11_enter_220 : decode cX11_enter 220 = .ok (.iastore, 1) := by decide +kernel
theorem dX11_enter_221 : decode cX11_enter 221 = .ok (.aload_n 0, 1) := by decide +kernel
theorem dX11_enter_222 : decode cX11_enter 222 = .ok (.iconst 0, 1) := by decide +kernel
theorem dX11_enter_223 : decode cX11_enter 223 = .ok (.putfield 163, 3) := by decide +kernel
theorem dX11_enter_226 : decode cX11_enter 226 = .ok (.iload 10, 2) := by decide +kernel
theorem dX11_enter_228 : decode cX11_enter 228 = .ok (.ireturn, 1) := by decide +kernel
theorem dX11_claim_0 : decode cX11_claim 0 = .ok (.aload_n 0, 1) := by decide +kernel
theorem dX11_claim_1 : decode cX11_claim 1 = .ok (.iload_n 1, 1) := by decide +kernel
theorem dX11_claim_2 : decode cX11_claim 2 = .ok (.invokevirtual 224, 3) := by decide +kernel
theorem dX11_claim_5 : decode cX11_claim 5 = .ok (.ifCond .ne 9, 3) := by decide +kernel
theorem dX11_claim_8 : decode cX11_claim 8 = .ok (.aload_n 0, 1) := by decide +kernel
theorem dX11_claim_9 : decode cX11_claim 9 = .ok (.iconst 1, 1) := by decide +kernel
theorem dX11_claim_10 : decode cX11_claim 10 = .ok (.invokevirtual 238, 3) := by decide +kernel
theorem dX11_claim_13 : decode cX11_claim 13 = .ok (.ireturn, 1) := by decide +kernel
theorem dX11_claim_14 : decode cX11_claim 14 = .ok (.aload_n 0, 1) := by decide +kernel
theorem dX11_claim_15 : decode cX11_claim 15 = .ok (.getfield 17, 3) := by decide +kernel
theorem dX11_claim_18 : decode cX11_claim 18 = .ok (.iload_n 1, 1) := by decide +kernel
theorem dX11_claim_19 : decode cX11_claim 19 = .ok (.iaload, 1) := by decide +kernel
theorem dX11_claim_20 : decode cX11_claim 20 = .ok (.iconst 5, 1) := by decide +kernel
theorem dX11_claim_21 : decode cX11_claim 21 = .ok (.if_icmp .ne 12, 3) := by decide +kernel
theorem dX11_claim_24 : decode cX11_claim 24 = .ok (.aload_n 0, 1) := by decide +kernel
theorem dX11_claim_25 : decode cX11_claim 25 = .ok (.getfield 26, 3) := by decide +kernel
theorem dX11_claim_28 : decode cX11_claim 28 = .ok (.iload_n 1, 1) := by decide +kernel
theorem dX11_claim_29 : decode cX11_claim 29 = .ok (.iaload, 1) := by decide +kernel
theorem dX11_claim_30 : decode cX11_claim 30 = .ok (.ifCond .eq 9, 3) := by decide +kernel
theorem dX11_claim_33 : decode cX11_claim 33 = .ok (.aload_n 0, 1) := by decide +kernel
theorem dX11_claim_34 : decode cX11_claim 34 = .ok (.iconst 4, 1) := by decide +kernel
theorem dX11_claim_35 : decode cX11_claim 35 = .ok (.invokevirtual 238, 3) := by decide +kernel
theorem dX11_claim_38 : decode cX11_claim 38 = .ok (.ireturn, 1) := by decide +kernel
theorem dX11_claim_39 : decode cX11_claim 39 = .ok (.iload_n 2, 1) := by decide +kernel
theorem dX11_claim_40 : decode cX11_claim 40 = .ok (.ifCond .lt 20, 3) := by decide +kernel
theorem dX11_claim_43 : decode cX11_claim 43 = .ok (.iload_n 2, 1) := by decide +kernel
theorem dX11_claim_44 : decode cX11_claim 44 = .ok (.ldc 241, 2) := by decide +kernel
theorem dX11_claim_46 : decode cX11_claim 46 = .ok (.if_icmp .gt 14, 3) := by decide +kernel
theorem dX11_claim_49 : decode cX11_claim 49 = .ok (.iload_n 3, 1) := by decide +kernel
theorem dX11_claim_50 : decode cX11_claim 50 = .ok (.iconst 1, 1) := by decide +kernel
theorem dX11_claim_51 : decode cX11_claim 51 = .ok (.if_icmp .lt 9, 3) := by decide +kernel
theorem dX11_claim_54 : decode cX11_claim 54 = .ok (.iload_n 3, 1) := by decide +kernel
theorem dX11_claim_55 : decode cX11_claim 55 = .ok (.bipush 30, 2) := by decide +kernel
theorem dX11_claim_57 : decode cX11_claim 57 = .ok (.if_icmp .le 9, 3) := by decide +kernel
theorem dX11_claim_60 : decode cX11_claim 60 = .ok (.aload_n 0, 1) := by decide +kernel
theorem dX11_claim_61 : decode cX11_claim 61 = .ok (.iconst 5, 1) := by decide +kernel
theorem dX11_claim_62 : decode cX11_claim 62 = .ok (.invokevirtual 238, 3) := by decide +kernel
theorem dX11_claim_65 : decode cX11_claim 65 = .ok (.ireturn, 1) := by decide +kernel
theorem dX11_claim_66 : decode cX11_claim 66 = .ok (.aload_n 0, 1) := by decide +kernel
theorem dX11_claim_67 : decode cX11_claim 67 = .ok (.getfield 78, 3) := by decide +kernel
theorem dX11_claim_70 : decode cX11_claim 70 = .ok (.iload_n 1, 1) := by decide +kernel
theorem dX11_claim_71 : decode cX11_claim 71 = .ok (.iaload, 1) := by decide +kernel
theorem dX11_claim_72 : decode cX11_claim 72 = .ok (.iconst (-1), 1) := by decide +kernel
theorem dX11_claim_73 : decode cX11_claim 73 = .ok (.if_icmp .eq 10, 3) := by decide +kernel
theorem dX11_claim_76 : decode cX11_claim 76 = .ok (.aload_n 0, 1) := by decide +kernel
theorem dX11_claim_77 : decode cX11_claim 77 = .ok (.bipush 8, 2) := by decide +kernel
theorem dX11_claim_79 : decode cX11_claim 79 = .ok (.invokevirtual 238, 3) := by decide +kernel
theorem dX11_claim_82 : decode cX11_claim 82 = .ok (.ireturn, 1) := by decide +kernel
theorem dX11_claim_83 : decode cX11_claim 83 = .ok (.aload_n 0, 1) := by decide +kernel
theorem dX11_claim_84 : decode cX11_claim 84 = .ok (.getfield 69, 3) := by decide +kernel
theorem dX11_claim_87 : decode cX11_claim 87 = .ok (.iload_n 1, 1) := by decide +kernel
theorem dX11_claim_88 : decode cX11_claim 88 = .ok (.iload_n 2, 1) := by decide +kernel
theorem dX11_claim_89 : decode cX11_claim 89 = .ok (.iastore, 1) := by decide +kernel
theorem dX11_claim_90 : decode cX11_claim 90 = .ok (.aload_n 0, 1) := by decide +kernel
theorem dX11_claim_91 : decode cX11_claim 91 = .ok (.getfield 72, 3) := by decide +kernel
theorem dX11_claim_94 : decode cX11_claim 94 = .ok (.iload_n 1, 1) := by decide +kernel
theorem dX11_claim_95 : decode cX11_claim 95 = .ok (.iload_n 3, 1) := by decide +kernel
theorem dX11_claim_96 : decode cX11_claim 96 = .ok (.iastore, 1) := by decide +kernel
theorem dX11_claim_97 : decode cX11_claim 97 = .ok (.aload_n 0, 1) := by decide +kernel
theorem dX11_claim_98 : decode cX11_claim 98 = .ok (.getfield 75, 3) := by decide +kernel
theorem dX11_claim_101 : decode cX11_claim 101 = .ok (.iload_n 1, 1) := by decide +kernel
theorem dX11_claim_102 : decode cX11_claim 102 = .ok (.aload_n 0, 1) := by decide +kernel
theorem dX11_claim_103 : decode cX11_claim 103 = .ok (.invokevirtual 252, 3) := by decide +kernel
theorem dX11_claim_106 : decode cX11_claim 106 = .ok (.iastore, 1) := by decide +kernel
theorem dX11_claim_107 : decode cX11_claim 107 = .ok (.aload_n 0, 1) := by decide +kernel
theorem dX11_claim_108 : decode cX11_claim 108 = .ok (.getfield 78, 3) := by decide +kernel
theorem dX11_claim_111 : decode cX11_claim 111 = .ok (.iload_n 1, 1) := by decide +kernel
theorem dX11_claim_112 : decode cX11_claim 112 = .ok (.aload_n 0, 1) := by decide +kernel
theorem dX11_claim_113 : decode cX11_claim 113 = .ok (.getfield 166, 3) := by decide +kernel
theorem dX11_claim_116 : decode cX11_claim 116 = .ok (.iastore, 1) := by decide +kernel
theorem dX11_claim_117 : decode cX11_claim 117 = .ok (.aload_n 0, 1) := by decide +kernel
theorem dX11_claim_118 : decode cX11_claim 118 = .ok (.iconst 0, 1) := by decide +kernel
theorem dX11_claim_119 : decode cX11_claim 119 = .ok (.putfield 163, 3) := by decide +kernel
theorem dX11_claim_122 : decode cX11_claim 122 = .ok (.iconst 1, 1) := by decide +kernel
theorem dX11_claim_123 : decode cX11_claim 123 = .ok (.ireturn, 1) := by decide +kernel
theorem dX11_livesNow_0 : decode cX11_livesNow 0 = .ok (.aload_n 0, 1) := by decide +kernel
theorem dX11_livesNow_1 : decode cX11_livesNow 1 = .ok (.invokevirtual 257, 3) := by decide +kernel
theorem dX11_livesNow_4 : decode cX11_livesNow 4 = .ok (.aload_n 0, 1) := by decide +kernel
theorem dX11_livesNow_5 : decode cX11_livesNow 5 = .ok (.iload_n 1, 1) := by decide +kernel
theorem dX11_livesNow_6 : decode cX11_livesNow 6 = .ok (.invokevirtual 195, 3) := by decide +kernel
theorem dX11_livesNow_9 : decode cX11_livesNow 9 = .ok (.ireturn, 1) := by decide +kernel
theorem dX11_owe_0 : decode cX11_owe 0 = .ok (.aload_n 0, 1) := by decide +kernel
theorem dX11_owe_1 : decode cX11_owe 1 = .ok (.iload_n 1, 1) := by decide +kernel
theorem dX11_owe_2 : decode cX11_owe 2 = .ok (.invokevirtual 224, 3) := by decide +kernel
theorem dX11_owe_5 : decode cX11_owe 5 = .ok (.ifCond .ne 9, 3) := by decide +kernel
theorem dX11_owe_8 : decode cX11_owe 8 = .ok (.aload_n 0, 1) := by decide +kernel
theorem dX11_owe_9 : decode cX11_owe 9 = .ok (.iconst 1, 1) := by decide +kernel
theorem dX11_owe_10 : decode cX11_owe 10 = .ok (.invokevirtual 238, 3) := by decide +kernel
theorem dX11_owe_13 : decode cX11_owe 13 = .ok (.ireturn, 1) := by decide +kernel
theorem dX11_owe_14 : decode cX11_owe 14 = .ok (.aload_n 0, 1) := by decide +kernel
theorem dX11_owe_15 : decode cX11_owe 15 = .ok (.getfield 23, 3) := by decide +kernel
theorem dX11_owe_18 : decode cX11_owe 18 = .ok (.iload_n 1, 1) := by decide +kernel
theorem dX11_owe_19 : decode cX11_owe 19 = .ok (.iaload, 1) := by decide +kernel
theorem dX11_owe_20 : decode cX11_owe 20 = .ok (.istore 4, 2) := by decide +kernel
theorem dX11_owe_22 : decode cX11_owe 22 = .ok (.aload_n 0, 1) := by decide +kernel
theorem dX11_owe_23 : decode cX11_owe 23 = .ok (.getfield 17, 3) := by decide +kernel
theorem dX11_owe_26 : decode cX11_owe 26 = .ok (.iload_n 1, 1) := by decide +kernel
theorem dX11_owe_27 : decode cX11_owe 27 = .ok (.iaload, 1) := by decide +kernel
theorem dX11_owe_28 : decode cX11_owe 28 = .ok (.iconst 3, 1) := by decide +kernel
theorem dX11_owe_29 : decode cX11_owe 29 = .ok (.if_icmp .eq 9, 3) := by decide +kernel
theorem dX11_owe_32 : decode cX11_owe 32 = .ok (.aload_n 0, 1) := by decide +kernel
theorem dX11_owe_33 : decode cX11_owe 33 = .ok (.iconst 4, 1) := by decide +kernel
theorem dX11_owe_34 : decode cX11_owe 34 = .ok (.invokevirtual 238, 3) := by decide +kernel
theorem dX11_owe_37 : decode cX11_owe 37 = .ok (.ireturn, 1) := by decide +kernel
theorem dX11_owe_38 : decode cX11_owe 38 = .ok (.lload_n 2, 1) := by decide +kernel
theorem dX11_owe_39 : decode cX11_owe 39 = .ok (.lconst 0, 1) := by decide +kernel
theorem dX11_owe_40 : decode cX11_owe 40 = .ok (.lcmp, 1) := by decide +kernel
theorem dX11_owe_41 : decode cX11_owe 41 = .ok (.ifCond .lt 15, 3) := by decide +kernel
theorem dX11_owe_44 : decode cX11_owe 44 = .ok (.lload_n 2, 1) := by decide +kernel
theorem dX11_owe_45 : decode cX11_owe 45 = .ok (.aload_n 0, 1) := by decide +kernel
theorem dX11_owe_46 : decode cX11_owe 46 = .ok (.getfield 45, 3) := by decide +kernel
theorem dX11_owe_49 : decode cX11_owe 49 = .ok (.iload 4, 2) := by decide +kernel
theorem dX11_owe_51 : decode cX11_owe 51 = .ok (.laload, 1) := by decide +kernel
theorem dX11_owe_52 : decode cX11_owe 52 = .ok (.lcmp, 1) := by decide +kernel
theorem dX11_owe_53 : decode cX11_owe 53 = .ok (.ifCond .le 9, 3) := by decide +kernel
theorem dX11_owe_56 : decode cX11_owe 56 = .ok (.aload_n 0, 1) := by decide +kernel
theorem dX11_owe_57 : decode cX11_owe 57 = .ok (.iconst 5, 1) := by decide +kernel
theorem dX11_owe_58 : decode cX11_owe 58 = .ok (.invokevirtual 238, 3) := by decide +kernel
theorem dX11_owe_61 : decode cX11_owe 61 = .ok (.ireturn, 1) := by decide +kernel
theorem dX11_owe_62 : decode cX11_owe 62 = .ok (.aload_n 0, 1) := by decide +kernel
theorem dX11_owe_63 : decode cX11_owe 63 = .ok (.iload_n 1, 1) := by decide +kernel
theorem dX11_owe_64 : decode cX11_owe 64 = .ok (.invokevirtual 260, 3) := by decide +kernel
theorem dX11_owe_67 : decode cX11_owe 67 = .ok (.ifCond .ne 10, 3) := by decide +kernel
theorem dX11_owe_70 : decode cX11_owe 70 = .ok (.aload_n 0, 1) := by decide +kernel
theorem dX11_owe_71 : decode cX11_owe 71 = .ok (.bipush 6, 2) := by decide +kernel
theorem dX11_owe_73 : decode cX11_owe 73 = .ok (.invokevirtual 238, 3) := by decide +kernel
theorem dX11_owe_76 : decode cX11_owe 76 = .ok (.ireturn, 1) := by decide +kernel
theorem dX11_owe_77 : decode cX11_owe 77 = .ok (.aload_n 0, 1) := by decide +kernel
theorem dX11_owe_78 : decode cX11_owe 78 = .ok (.getfield 36, 3) := by decide +kernel
theorem dX11_owe_81 : decode cX11_owe 81 = .ok (.iload_n 1, 1) := by decide +kernel
theorem dX11_owe_82 : decode cX11_owe 82 = .ok (.iaload, 1) := by decide +kernel
theorem dX11_owe_83 : decode cX11_owe 83 = .ok (.ifCond .ne 29, 3) := by decide +kernel
theorem dX11_owe_86 : decode cX11_owe 86 = .ok (.aload_n 0, 1) := by decide +kernel
theorem dX11_owe_87 : decode cX11_owe 87 = .ok (.iload 4, 2) := by decide +kernel
theorem dX11_owe_89 : decode cX11_owe 89 = .ok (.invokevirtual 263, 3) := by decide +kernel
theorem dX11_owe_92 : decode cX11_owe 92 = .ok (.aload_n 0, 1) := by decide +kernel
theorem dX11_owe_93 : decode cX11_owe 93 = .ok (.getfield 32, 3) := by decide +kernel
theorem dX11_owe_96 : decode cX11_owe 96 = .ok (.iload_n 1, 1) := by decide +kernel
theorem dX11_owe_97 : decode cX11_owe 97 = .ok (.laload, 1) := by decide +kernel
theorem dX11_owe_98 : decode cX11_owe 98 = .ok (.lsub, 1) := by decide +kernel
theorem dX11_owe_99 : decode cX11_owe 99 = .ok (.lload_n 2, 1) := by decide +kernel
theorem dX11_owe_100 : decode cX11_owe 100 = .ok (.ladd, 1) := by decide +kernel
theorem dX11_owe_101 : decode cX11_owe 101 = .ok (.aload_n 0, 1) := by decide +kernel
theorem dX11_owe_102 : decode cX11_owe 102 = .ok (.getfield 45, 3) := by decide +kernel
theorem dX11_owe_105 : decode cX11_owe 105 = .ok (.iload 4, 2) := by decide +kernel
theorem dX11_owe_107 : decode cX11_owe 107 = .ok (.laload, 1) := by decide +kernel
theorem dX11_owe_108 : decode cX11_owe 108 = .ok (.lcmp, 1) := by decide +kernel
theorem dX11_owe_109 : decode cX11_owe 109 = .ok (.ifCond .le 10, 3) := by decide +kernel
theorem dX11_owe_112 : decode cX11_owe 112 = .ok (.aload_n 0, 1) := by decide +kernel
theorem dX11_owe_113 : decode cX11_owe 113 = .ok (.bipush 8, 2) := by decide +kernel
theorem dX11_owe_115 : decode cX11_owe 115 = .ok (.invokevirtual 238, 3) := by decide +kernel
theorem dX11_owe_118 : decode cX11_owe 118 = .ok (.ireturn, 1) := by decide +kernel
theorem dX11_owe_119 : decode cX11_owe 119 = .ok (.aload_n 0, 1) := by decide +kernel
theorem dX11_owe_120 : decode cX11_owe 120 = .ok (.getfield 32, 3) := by decide +kernel
theorem dX11_owe_123 : decode cX11_owe 123 = .ok (.iload_n 1, 1) := by decide +kernel
theorem dX11_owe_124 : decode cX11_owe 124 = .ok (.lload_n 2, 1) := by decide +kernel
theorem dX11_owe_125 : decode cX11_owe 125 = .ok (.lastore, 1) := by decide +kernel
theorem dX11_owe_126 : decode cX11_owe 126 = .ok (.aload_n 0, 1) := by decide +kernel
theorem dX11_owe_127 : decode cX11_owe 127 = .ok (.iconst 0, 1) := by decide +kernel
theorem dX11_owe_128 : decode cX11_owe 128 = .ok (.putfield 163, 3) := by decide +kernel
theorem dX11_owe_131 : decode cX11_owe 131 = .ok (.iconst 1, 1) := by decide +kernel
theorem dX11_owe_132 : decode cX11_owe 132 = .ok (.ireturn, 1) := by decide +kernel
theorem dX11_pay_0 : decode cX11_pay 0 = .ok (.aload_n 0, 1) := by decide +kernel
theorem dX11_pay_1 : decode cX11_pay 1 = .ok (.iload_n 1, 1) := by decide +kernel
theorem dX11_pay_2 : decode cX11_pay 2 = .ok (.invokevirtual 224, 3) := by decide +kernel
theorem dX11_pay_5 : decode cX11_pay 5 = .ok (.ifCond .ne 10, 3) := by decide +kernel
theorem dX11_pay_8 : decode cX11_pay 8 = .ok (.aload_n 0, 1) := by decide +kernel
theorem dX11_pay_9 : decode cX11_pay 9 = .ok (.iconst 1, 1) := by decide +kernel
theorem dX11_pay_10 : decode cX11_pay 10 = .ok (.invokevirtual 231, 3) := by decide +kernel
theorem dX11_pay_13 : decode cX11_pay 13 = .ok (.i2l, 1) := by decide +kernel
theorem dX11_pay_14 : decode cX11_pay 14 = .ok (.lreturn, 1) := by decide +kernel
theorem dX11_pay_15 : decode cX11_pay 15 = .ok (.aload_n 0, 1) := by decide +kernel
theorem dX11_pay_16 : decode cX11_pay 16 = .ok (.getfield 17, 3) := by decide +kernel
theorem dX11_pay_19 : decode cX11_pay 19 = .ok (.iload_n 1, 1) := by decide +kernel
theorem dX11_pay_20 : decode cX11_pay 20 = .ok (.iaload, 1) := by decide +kernel
theorem dX11_pay_21 : decode cX11_pay 21 = .ok (.iconst 4, 1) := by decide +kernel
theorem dX11_pay_22 : decode cX11_pay 22 = .ok (.if_icmp .eq 14, 3) := by decide +kernel
theorem dX11_pay_25 : decode cX11_pay 25 = .ok (.aload_n 0, 1) := by decide +kernel
theorem dX11_pay_26 : decode cX11_pay 26 = .ok (.getfield 17, 3) := by decide +kernel
theorem dX11_pay_29 : decode cX11_pay 29 = .ok (.iload_n 1, 1) := by decide +kernel
theorem dX11_pay_30 : decode cX11_pay 30 = .ok (.iaload, 1) := by decide +kernel
theorem dX11_pay_31 : decode cX11_pay 31 = .ok (.bipush 6, 2) := by decide +kernel
theorem dX11_pay_33 : decode cX11_pay 33 = .ok (.if_icmp .ne 10, 3) := by decide +kernel
theorem dX11_pay_36 : decode cX11_pay 36 = .ok (.aload_n 0, 1) := by decide +kernel
theorem dX11_pay_37 : decode cX11_pay 37 = .ok (.iconst 4, 1) := by decide +kernel
theorem dX11_pay_38 : decode cX11_pay 38 = .ok (.invokevirtual 231, 3) := by decide +kernel
theorem dX11_pay_41 : decode cX11_pay 41 = .ok (.i2l, 1) := by decide +kernel
theorem dX11_pay_42 : decode cX11_pay 42 = .ok (.lreturn, 1) := by decide +kernel
theorem dX11_pay_43 : decode cX11_pay 43 = .ok (.lload_n 2, 1) := by decide +kernel
theorem dX11_pay_44 : decode cX11_pay 44 = .ok (.lconst 0, 1) := by decide +kernel
theorem dX11_pay_45 : decode cX11_pay 45 = .ok (.lcmp, 1) := by decide +kernel
theorem dX11_pay_46 : decode cX11_pay 46 = .ok (.ifCond .lt 13, 3) := by decide +kernel
theorem dX11_pay_49 : decode cX11_pay 49 = .ok (.lload_n 2, 1) := by decide +kernel
theorem dX11_pay_50 : decode cX11_pay 50 = .ok (.aload_n 0, 1) := by decide +kernel
theorem dX11_pay_51 : decode cX11_pay 51 = .ok (.iload_n 1, 1) := by decide +kernel
theorem dX11_pay_52 : decode cX11_pay 52 = .ok (.invokevirtual 263, 3) := by decide +kernel
theorem dX11_pay_55 : decode cX11_pay 55 = .ok (.lcmp, 1) := by decide +kernel
theorem dX11_pay_56 : decode cX11_pay 56 = .ok (.ifCond .le 10, 3) := by decide +kernel
theorem dX11_pay_59 : decode cX11_pay 59 = .ok (.aload_n 0, 1) := by decide +kernel
theorem dX11_pay_60 : decode cX11_pay 60 = .ok (.iconst 5, 1) := by decide +kernel
theorem dX11_pay_61 : decode cX11_pay 61 = .ok (.invokevirtual 231, 3) := by decide +kernel
theorem dX11_pay_64 : decode cX11_pay 64 = .ok (.i2l, 1) := by decide +kernel
theorem dX11_pay_65 : decode cX11_pay 65 = .ok (.lreturn, 1) := by decide +kernel
theorem dX11_pay_66 : decode cX11_pay 66 = .ok (.aload_n 0, 1) := by decide +kernel
theorem dX11_pay_67 : decode cX11_pay 67 = .ok (.iload_n 1, 1) := by decide +kernel
theorem dX11_pay_68 : decode cX11_pay 68 = .ok (.invokevirtual 260, 3) := by decide +kernel
theorem dX11_pay_71 : decode cX11_pay 71 = .ok (.ifCond .ne 11, 3) := by decide +kernel
theorem dX11_pay_74 : decode cX11_pay 74 = .ok (.aload_n 0, 1) := by decide +kernel
theorem dX11_pay_75 : decode cX11_pay 75 = .ok (.bipush 6, 2) := by decide +kernel
theorem dX11_pay_77 : decode cX11_pay 77 = .ok (.invokevirtual 231, 3) := by decide +kernel
theorem dX11_pay_80 : decode cX11_pay 80 = .ok (.i2l, 1) := by decide +kernel
theorem dX11_pay_81 : decode cX11_pay 81 = .ok (.lreturn, 1) := by decide +kernel
theorem dX11_pay_82 : decode cX11_pay 82 = .ok (.aload_n 0, 1) := by decide +kernel
theorem dX11_pay_83 : decode cX11_pay 83 = .ok (.getfield 36, 3) := by decide +kernel
theorem dX11_pay_86 : decode cX11_pay 86 = .ok (.iload_n 1, 1) := by decide +kernel
theorem dX11_pay_87 : decode cX11_pay 87 = .ok (.iaload, 1) := by decide +kernel
theorem dX11_pay_88 : decode cX11_pay 88 = .ok (.ifCond .eq 11, 3) := by decide +kernel
theorem dX11_pay_91 : decode cX11_pay 91 = .ok (.aload_n 0, 1) := by decide +kernel
theorem dX11_pay_92 : decode cX11_pay 92 = .ok (.bipush 8, 2) := by decide +kernel
theorem dX11_pay_94 : decode cX11_pay 94 = .ok (.invokevirtual 231, 3) := by decide +kernel
theorem dX11_pay_97 : decode cX11_pay 97 = .ok (.i2l, 1) := by decide +kernel
theorem dX11_pay_98 : decode cX11_pay 98 = .ok (.lreturn, 1) := by decide +kernel
theorem dX11_pay_99 : decode cX11_pay 99 = .ok (.aload_n 0, 1) := by decide +kernel
theorem dX11_pay_100 : decode cX11_pay 100 = .ok (.getfield 32, 3) := by decide +kernel
theorem dX11_pay_103 : decode cX11_pay 103 = .ok (.iload_n 1, 1) := by decide +kernel
theorem dX11_pay_104 : decode cX11_pay 104 = .ok (.dup2, 1) := by decide +kernel
theorem dX11_pay_105 : decode cX11_pay 105 = .ok (.laload, 1) := by decide +kernel
theorem dX11_pay_106 : decode cX11_pay 106 = .ok (.lload_n 2, 1) := by decide +kernel
theorem dX11_pay_107 : decode cX11_pay 107 = .ok (.lsub, 1) := by decide +kernel
theorem dX11_pay_108 : decode cX11_pay 108 = .ok (.lastore, 1) := by decide +kernel
theorem dX11_pay_109 : decode cX11_pay 109 = .ok (.aload_n 0, 1) := by decide +kernel
theorem dX11_pay_110 : decode cX11_pay 110 = .ok (.iconst 0, 1) := by decide +kernel
theorem dX11_pay_111 : decode cX11_pay 111 = .ok (.putfield 163, 3) := by decide +kernel
theorem dX11_pay_114 : decode cX11_pay 114 = .ok (.aload_n 0, 1) := by decide +kernel
theorem dX11_pay_115 : decode cX11_pay 115 = .ok (.getfield 32, 3) := by decide +kernel
theorem dX11_pay_118 : decode cX11_pay 118 = .ok (.iload_n 1, 1) := by decide +kernel
theorem dX11_pay_119 : decode cX11_pay 119 = .ok (.laload, 1) := by decide +kernel
theorem dX11_pay_120 : decode cX11_pay 120 = .ok (.lreturn, 1) := by decide +kernel
theorem dX11_paper_0 : decode cX11_paper 0 = .ok (.aload_n 0, 1) := by decide +kernel
theorem dX11_paper_1 : decode cX11_paper 1 = .ok (.iload_n 1, 1) := by decide +kernel
theorem dX11_paper_2 : decode cX11_paper 2 = .ok (.invokevirtual 224, 3) := by decide +kernel
theorem dX11_paper_5 : decode cX11_paper 5 = .ok (.ifCond .ne 9, 3) := by decide +kernel
theorem dX11_paper_8 : decode cX11_paper 8 = .ok (.aload_n 0, 1) := by decide +kernel
theorem dX11_paper_9 : decode cX11_paper 9 = .ok (.iconst 1, 1) := by decide +kernel
theorem dX11_paper_10 : decode cX11_paper 10 = .ok (.invokevirtual 238, 3) := by decide +kernel
theorem dX11_paper_13 : decode cX11_paper 13 = .ok (.ireturn, 1) := by decide +kernel
theorem dX11_paper_14 : decode cX11_paper 14 = .ok (.aload_n 0, 1) := by decide +kernel
theorem dX11_paper_15 : decode cX11_paper 15 = .ok (.getfield 17, 3) := by decide +kernel
theorem dX11_paper_18 : decode cX11_paper 18 = .ok (.iload_n 1, 1) := by decide +kernel
theorem dX11_paper_19 : decode cX11_paper 19 = .ok (.iaload, 1) := by decide +kernel
theorem dX11_paper_20 : decode cX11_paper 20 = .ok (.iconst 2, 1) := by decide +kernel
theorem dX11_paper_21 : decode cX11_paper 21 = .ok (.if_icmp .eq 19, 3) := by decide +kernel
theorem dX11_paper_24 : decode cX11_paper 24 = .ok (.aload_n 0, 1) := by decide +kernel
theorem dX11_paper_25 : decode cX11_paper 25 = .ok (.getfield 17, 3) := by decide +kernel
theorem dX11_paper_28 : decode cX11_paper 28 = .ok (.iload_n 1, 1) := by decide +kernel
theorem dX11_paper_29 : decode cX11_paper 29 = .ok (.iaload, 1) := by decide +kernel
theorem dX11_paper_30 : decode cX11_paper 30 = .ok (.iconst 3, 1) := by decide +kernel
theorem dX11_paper_31 : decode cX11_paper 31 = .ok (.if_icmp .eq 9, 3) := by decide +kernel
theorem dX11_paper_34 : decode cX11_paper 34 = .ok (.aload_n 0, 1) := by decide +kernel
theorem dX11_paper_35 : decode cX11_paper 35 = .ok (.iconst 4, 1) := by decide +kernel
theorem dX11_paper_36 : decode cX11_paper 36 = .ok (.invokevirtual 238, 3) := by decide +kernel
theorem dX11_paper_39 : decode cX11_paper 39 = .ok (.ireturn, 1) := by decide +kernel
theorem dX11_paper_40 : decode cX11_paper 40 = .ok (.aload_n 0, 1) := by decide +kernel
theorem dX11_paper_41 : decode cX11_paper 41 = .ok (.getfield 66, 3) := by decide +kernel
theorem dX11_paper_44 : decode cX11_paper 44 = .ok (.aload_n 0, 1) := by decide +kernel
theorem dX11_paper_45 : decode cX11_paper 45 = .ok (.getfield 23, 3) := by decide +kernel
theorem dX11_paper_48 : decode cX11_paper 48 = .ok (.iload_n 1, 1) := by decide +kernel
theorem dX11_paper_49 : decode cX11_paper 49 = .ok (.iaload, 1) := by decide +kernel
theorem dX11_paper_50 : decode cX11_paper 50 = .ok (.iload_n 2, 1) := by decide +kernel
theorem dX11_paper_51 : decode cX11_paper 51 = .ok (.ifCond .ne 7, 3) := by decide +kernel
theorem dX11_paper_54 : decode cX11_paper 54 = .ok (.iconst 1, 1) := by decide +kernel
theorem dX11_paper_55 : decode cX11_paper 55 = .ok (.goto 4, 3) := by decide +kernel
theorem dX11_paper_58 : decode cX11_paper 58 = .ok (.iconst 0, 1) := by decide +kernel
theorem dX11_paper_59 : decode cX11_paper 59 = .ok (.bastore, 1) := by decide +kernel
theorem dX11_paper_60 : decode cX11_paper 60 = .ok (.aload_n 0, 1) := by decide +kernel
theorem dX11_paper_61 : decode cX11_paper 61 = .ok (.iconst 0, 1) := by decide +kernel
theorem dX11_paper_62 : decode cX11_paper 62 = .ok (.putfield 163, 3) := by decide +kernel
theorem dX11_paper_65 : decode cX11_paper 65 = .ok (.iconst 1, 1) := by decide +kernel
theorem dX11_paper_66 : decode cX11_paper 66 = .ok (.ireturn, 1) := by decide +kernel
theorem dX11_parting_0 : decode cX11_parting 0 = .ok (.aload_n 0, 1) := by decide +kernel
theorem dX11_parting_1 : decode cX11_parting 1 = .ok (.iload_n 1, 1) := by decide +kernel
theorem dX11_parting_2 : decode cX11_parting 2 = .ok (.invokevirtual 224, 3) := by decide +kernel
theorem dX11_parting_5 : decode cX11_parting 5 = .ok (.ifCond .ne 5, 3) := by decide +kernel
theorem dX11_parting_8 : decode cX11_parting 8 = .ok (.iconst 1, 1) := by decide +kernel
theorem dX11_parting_9 : decode cX11_parting 9 = .ok (.ireturn, 1) := by decide +kernel
theorem dX11_parting_10 : decode cX11_parting 10 = .ok (.aload_n 0, 1) := by decide +kernel
theorem dX11_parting_11 : decode cX11_parting 11 = .ok (.getfield 17, 3) := by decide +kernel
theorem dX11_parting_14 : decode cX11_parting 14 = .ok (.iload_n 1, 1) := by decide +kernel
theorem dX11_parting_15 : decode cX11_parting 15 = .ok (.iaload, 1) := by decide +kernel
theorem dX11_parting_16 : decode cX11_parting 16 = .ok (.istore 6, 2) := by decide +kernel
theorem dX11_parting_18 : decode cX11_parting 18 = .ok (.iload 6, 2) := by decide +kernel
theorem dX11_parting_20 : decode cX11_parting 20 = .ok (.bipush 6, 2) := by decide +kernel
theorem dX11_parting_22 : decode cX11_parting 22 = .ok (.if_icmp .eq 9, 3) := by decide +kernel
theorem dX11_parting_25 : decode cX11_parting 25 = .ok (.iload 6, 2) := by decide +kernel
theorem dX11_parting_27 : decode cX11_parting 27 = .ok (.iconst 4, 1) := by decide +kernel
theorem dX11_parting_28 : decode cX11_parting 28 = .ok (.if_icmp .ne 5, 3) := by decide +kernel
theorem dX11_parting_31 : decode cX11_parting 31 = .ok (.iconst 4, 1) := by decide +kernel
theorem dX11_parting_32 : decode cX11_parting 32 = .ok (.ireturn, 1) := by decide +kernel
theorem dX11_parting_33 : decode cX11_parting 33 = .ok (.iload 5, 2) := by decide +kernel
theorem dX11_parting_35 : decode cX11_parting 35 = .ok (.ifCond .eq 17, 3) := by decide +kernel
theorem dX11_parting_38 : decode cX11_parting 38 = .ok (.iload 4, 2) := by decide +kernel
theorem dX11_parting_40 : decode cX11_parting 40 = .ok (.iconst 1, 1) := by decide +kernel
theorem dX11_parting_41 : decode cX11_parting 41 = .ok (.if_icmp .lt 27, 3) := by decide +kernel
theorem dX11_parting_44 : decode cX11_parting 44 = .ok (.iload 4, 2) := by decide +kernel
theorem dX11_parting_46 : decode cX11_parting 46 = .ok (.sipush 1000, 3) := by decide +kernel
theorem dX11_parting_49 : decode cX11_parting 49 = .ok (.if_icmp .gt 19, 3) := by decide +kernel
theorem dX11_parting_52 : decode cX11_parting 52 = .ok (.lload_n 2, 1) := by decide +kernel
theorem dX11_parting_53 : decode cX11_parting 53 = .ok (.lconst 0, 1) := by decide +kernel
theorem dX11_parting_54 : decode cX11_parting 54 = .ok (.lcmp, 1) := by decide +kernel
theorem dX11_parting_55 : decode cX11_parting 55 = .ok (.ifCond .lt 13, 3) := by decide +kernel
theorem dX11_parting_58 : decode cX11_parting 58 = .ok (.lload_n 2, 1) := by decide +kernel
theorem dX11_parting_59 : decode cX11_parting 59 = .ok (.aload_n 0, 1) := by decide +kernel
theorem dX11_parting_60 : decode cX11_parting 60 = .ok (.iload_n 1, 1) := by decide +kernel
theorem dX11_parting_61 : decode cX11_parting 61 = .ok (.invokevirtual 263, 3) := by decide +kernel
theorem dX11_parting_64 : decode cX11_parting 64 = .ok (.lcmp, 1) := by decide +kernel
theorem dX11_parting_65 : decode cX11_parting 65 = .ok (.ifCond .le 5, 3) := by decide +kernel
theorem dX11_parting_68 : decode cX11_parting 68 = .ok (.iconst 5, 1) := by decide +kernel
theorem dX11_parting_69 : decode cX11_parting 69 = .ok (.ireturn, 1) := by decide +kernel
theorem dX11_parting_70 : decode cX11_parting 70 = .ok (.aload_n 0, 1) := by decide +kernel
theorem dX11_parting_71 : decode cX11_parting 71 = .ok (.iload_n 1, 1) := by decide +kernel
theorem dX11_parting_72 : decode cX11_parting 72 = .ok (.invokevirtual 260, 3) := by decide +kernel
theorem dX11_parting_75 : decode cX11_parting 75 = .ok (.ifCond .ne 6, 3) := by decide +kernel
theorem dX11_parting_78 : decode cX11_parting 78 = .ok (.bipush 6, 2) := by decide +kernel
theorem dX11_parting_80 : decode cX11_parting 80 = .ok (.ireturn, 1) := by decide +kernel
theorem dX11_parting_81 : decode cX11_parting 81 = .ok (.iload 5, 2) := by decide +kernel
theorem dX11_parting_83 : decode cX11_parting 83 = .ok (.ifCond .eq 32, 3) := by decide +kernel
theorem dX11_parting_86 : decode cX11_parting 86 = .ok (.iload 6, 2) := by decide +kernel
theorem dX11_parting_88 : decode cX11_parting 88 = .ok (.iconst 2, 1) := by decide +kernel
theorem dX11_parting_89 : decode cX11_parting 89 = .ok (.if_icmp .eq 9, 3) := by decide +kernel
theorem dX11_parting_92 : decode cX11_parting 92 = .ok (.iload 6, 2) := by decide +kernel
theorem dX11_parting_94 : decode cX11_parting 94 = .ok (.iconst 3, 1) := by decide +kernel
theorem dX11_parting_95 : decode cX11_parting 95 = .ok (.if_icmp .ne 20, 3) := by decide +kernel
theorem dX11_parting_98 : decode cX11_parting 98 = .ok (.aload_n 0, 1) := by decide +kernel
theorem dX11_parting_99 : decode cX11_parting 99 = .ok (.getfield 66, 3) := by decide +kernel
theorem dX11_parting_102 : decode cX11_parting 102 = .ok (.aload_n 0, 1) := by decide +kernel
theorem dX11_parting_103 : decode cX11_parting 103 = .ok (.getfield 23, 3) := by decide +kernel
theorem dX11_parting_106 : decode cX11_parting 106 = .ok (.iload_n 1, 1) := by decide +kernel
theorem dX11_parting_107 : decode cX11_parting 107 = .ok (.iaload, 1) := by decide +kernel
theorem dX11_parting_108 : decode cX11_parting 108 = .ok (.baload, 1) := by decide +kernel
theorem dX11_parting_109 : decode cX11_parting 109 = .ok (.ifCond .eq 6, 3) := by decide +kernel
theorem dX11_parting_112 : decode cX11_parting 112 = .ok (.bipush 7, 2) := by decide +kernel
theorem dX11_parting_114 : decode cX11_parting 114 = .ok (.ireturn, 1) := by decide +kernel
theorem dX11_parting_115 : decode cX11_parting 115 = .ok (.aload_n 0, 1) := by decide +kernel
theorem dX11_parting_116 : decode cX11_parting 116 = .ok (.getfield 36, 3) := by decide +kernel
theorem dX11_parting_119 : decode cX11_parting 119 = .ok (.iload_n 1, 1) := by decide +kernel
theorem dX11_parting_120 : decode cX11_parting 120 = .ok (.iaload, 1) := by decide +kernel
theorem dX11_parting_121 : decode cX11_parting 121 = .ok (.ifCond .eq 6, 3) := by decide +kernel
theorem dX11_parting_124 : decode cX11_parting 124 = .ok (.bipush 8, 2) := by decide +kernel
theorem dX11_parting_126 : decode cX11_parting 126 = .ok (.ireturn, 1) := by decide +kernel
theorem dX11_parting_127 : decode cX11_parting 127 = .ok (.aload_n 0, 1) := by decide +kernel
theorem dX11_parting_128 : decode cX11_parting 128 = .ok (.getfield 169, 3) := by decide +kernel
theorem dX11_parting_131 : decode cX11_parting 131 = .ok (.sipush 298, 3) := by decide +kernel
theorem dX11_parting_134 : decode cX11_parting 134 = .ok (.if_icmp .le 8, 3) := by decide +kernel
theorem dX11_parting_137 : decode cX11_parting 137 = .ok (.bipush 10, 2) := by decide +kernel
theorem dX11_parting_139 : decode cX11_parting 139 = .ok (.goto 4, 3) := by decide +kernel
theorem dX11_parting_142 : decode cX11_parting 142 = .ok (.iconst 0, 1) := by decide +kernel
theorem dX11_parting_143 : decode cX11_parting 143 = .ok (.ireturn, 1) := by decide +kernel
theorem dX11_part_0 : decode cX11_part 0 = .ok (.aload_n 0, 1) := by decide +kernel
theorem dX11_part_1 : decode cX11_part 1 = .ok (.getfield 23, 3) := by decide +kernel
theorem dX11_part_4 : decode cX11_part 4 = .ok (.iload_n 1, 1) := by decide +kernel
theorem dX11_part_5 : decode cX11_part 5 = .ok (.iaload, 1) := by decide +kernel
theorem dX11_part_6 : decode cX11_part 6 = .ok (.istore 5, 2) := by decide +kernel
theorem dX11_part_8 : decode cX11_part 8 = .ok (.aload_n 0, 1) := by decide +kernel
theorem dX11_part_9 : decode cX11_part 9 = .ok (.getfield 32, 3) := by decide +kernel
theorem dX11_part_12 : decode cX11_part 12 = .ok (.iload_n 1, 1) := by decide +kernel
theorem dX11_part_13 : decode cX11_part 13 = .ok (.laload, 1) := by decide +kernel
theorem dX11_part_14 : decode cX11_part 14 = .ok (.lstore 6, 2) := by decide +kernel
theorem dX11_part_16 : decode cX11_part 16 = .ok (.aload_n 0, 1) := by decide +kernel
theorem dX11_part_17 : decode cX11_part 17 = .ok (.aload_n 0, 1) := by decide +kernel
theorem dX11_part_18 : decode cX11_part 18 = .ok (.getfield 20, 3) := by decide +kernel
theorem dX11_part_21 : decode cX11_part 21 = .ok (.iload_n 1, 1) := by decide +kernel
theorem dX11_part_22 : decode cX11_part 22 = .ok (.iaload, 1) := by decide +kernel
theorem dX11_part_23 : decode cX11_part 23 = .ok (.aload_n 0, 1) := by decide +kernel
theorem dX11_part_24 : decode cX11_part 24 = .ok (.getfield 17, 3) := by decide +kernel
theorem dX11_part_27 : decode cX11_part 27 = .ok (.iload_n 1, 1) := by decide +kernel
theorem dX11_part_28 : decode cX11_part 28 = .ok (.iaload, 1) := by decide +kernel
theorem dX11_part_29 : decode cX11_part 29 = .ok (.iload 5, 2) := by decide +kernel
theorem dX11_part_31 : decode cX11_part 31 = .ok (.iload_n 1, 1) := by decide +kernel
theorem dX11_part_32 : decode cX11_part 32 = .ok (.aload_n 0, 1) := by decide +kernel
theorem dX11_part_33 : decode cX11_part 33 = .ok (.getfield 29, 3) := by decide +kernel
theorem dX11_part_36 : decode cX11_part 36 = .ok (.iload_n 1, 1) := by decide +kernel
theorem dX11_part_37 : decode cX11_part 37 = .ok (.iaload, 1) := by decide +kernel
theorem dX11_part_38 : decode cX11_part 38 = .ok (.lload_n 2, 1) := by decide +kernel
theorem dX11_part_39 : decode cX11_part 39 = .ok (.invokevirtual 248, 3) := by decide +kernel
theorem dX11_part_42 : decode cX11_part 42 = .ok (.istore 8, 2) := by decide +kernel
theorem dX11_part_44 : decode cX11_part 44 = .ok (.aload_n 0, 1) := by decide +kernel
theorem dX11_part_45 : decode cX11_part 45 = .ok (.aload_n 0, 1) := by decide +kernel
theorem dX11_part_46 : decode cX11_part 46 = .ok (.getfield 20, 3) := by decide +kernel
theorem dX11_part_49 : decode cX11_part 49 = .ok (.iload_n 1, 1) := by decide +kernel
theorem dX11_part_50 : decode cX11_part 50 = .ok (.iaload, 1) := by decide +kernel
theorem dX11_part_51 : decode cX11_part 51 = .ok (.aload_n 0, 1) := by decide +kernel
theorem dX11_part_52 : decode cX11_part 52 = .ok (.getfield 17, 3) := by decide +kernel
theorem dX11_part_55 : decode cX11_part 55 = .ok (.iload_n 1, 1) := by decide +kernel
theorem dX11_part_56 : decode cX11_part 56 = .ok (.iaload, 1) := by decide +kernel
theorem dX11_part_57 : decode cX11_part 57 = .ok (.iload 5, 2) := by decide +kernel
theorem dX11_part_59 : decode cX11_part 59 = .ok (.iload_n 1, 1) := by decide +kernel
theorem dX11_part_60 : decode cX11_part 60 = .ok (.iload 4, 2) := by decide +kernel
theorem dX11_part_62 : decode cX11_part 62 = .ok (.lload 6, 2) := by decide +kernel
theorem dX11_part_64 : decode cX11_part 64 = .ok (.lload_n 2, 1) := by decide +kernel
theorem dX11_part_65 : decode cX11_part 65 = .ok (.lsub, 1) := by decide +kernel
theorem dX11_part_66 : decode cX11_part 66 = .ok (.invokevirtual 248, 3) := by decide +kernel
theorem dX11_part_69 : decode cX11_part 69 = .ok (.istore 9, 2) := by decide +kernel
theorem dX11_part_71 : decode cX11_part 71 = .ok (.aload_n 0, 1) := by decide +kernel
theorem dX11_part_72 : decode cX11_part 72 = .ok (.getfield 36, 3) := by decide +kernel
theorem dX11_part_75 : decode cX11_part 75 = .ok (.iload_n 1, 1) := by decide +kernel
theorem dX11_part_76 : decode cX11_part 76 = .ok (.iload 8, 2) := by decide +kernel
theorem dX11_part_78 : decode cX11_part 78 = .ok (.iastore, 1) := by decide +kernel
theorem dX11_part_79 : decode cX11_part 79 = .ok (.aload_n 0, 1) := by decide +kernel
theorem dX11_part_80 : decode cX11_part 80 = .ok (.iconst 0, 1) := by decide +kernel
theorem dX11_part_81 : decode cX11_part 81 = .ok (.putfield 163, 3) := by decide +kernel
theorem dX11_part_84 : decode cX11_part 84 = .ok (.iload 9, 2) := by decide +kernel
theorem dX11_part_86 : decode cX11_part 86 = .ok (.iconst 1, 1) := by decide +kernel
theorem dX11_part_87 : decode cX11_part 87 = .ok (.isub, 1) := by decide +kernel
theorem dX11_part_88 : decode cX11_part 88 = .ok (.ireturn, 1) := by decide +kernel
theorem dX11_split_0 : decode cX11_split 0 = .ok (.aload_n 0, 1) := by decide +kernel
theorem dX11_split_1 : decode cX11_split 1 = .ok (.iload_n 1, 1) := by decide +kernel
theorem dX11_split_2 : decode cX11_split 2 = .ok (.lload_n 2, 1) := by decide +kernel
theorem dX11_split_3 : decode cX11_split 3 = .ok (.iconst 1, 1) := by decide +kernel
theorem dX11_split_4 : decode cX11_split 4 = .ok (.iconst 0, 1) := by decide +kernel
theorem dX11_split_5 : decode cX11_split 5 = .ok (.invokevirtual 267, 3) := by decide +kernel
theorem dX11_split_8 : decode cX11_split 8 = .ok (.istore 4, 2) := by decide +kernel
theorem dX11_split_10 : decode cX11_split 10 = .ok (.iload 4, 2) := by decide +kernel
theorem dX11_split_12 : decode cX11_split 12 = .ok (.ifCond .le 10, 3) := by decide +kernel
theorem dX11_split_15 : decode cX11_split 15 = .ok (.aload_n 0, 1) := by decide +kernel
theorem dX11_split_16 : decode cX11_split 16 = .ok (.iload 4, 2) := by decide +kernel
theorem dX11_split_18 : decode cX11_split 18 = .ok (.invokevirtual 231, 3) := by decide +kernel
theorem dX11_split_21 : decode cX11_split 21 = .ok (.ireturn, 1) := by decide +kernel
theorem dX11_split_22 : decode cX11_split 22 = .ok (.aload_n 0, 1) := by decide +kernel
theorem dX11_split_23 : decode cX11_split 23 = .ok (.iload_n 1, 1) := by decide +kernel
theorem dX11_split_24 : decode cX11_split 24 = .ok (.lload_n 2, 1) := by decide +kernel
theorem dX11_split_25 : decode cX11_split 25 = .ok (.aload_n 0, 1) := by decide +kernel
theorem dX11_split_26 : decode cX11_split 26 = .ok (.getfield 29, 3) := by decide +kernel
theorem dX11_split_29 : decode cX11_split 29 = .ok (.iload_n 1, 1) := by decide +kernel
theorem dX11_split_30 : decode cX11_split 30 = .ok (.iaload, 1) := by decide +kernel
theorem dX11_split_31 : decode cX11_split 31 = .ok (.invokevirtual 271, 3) := by decide +kernel
theorem dX11_split_34 : decode cX11_split 34 = .ok (.ireturn, 1) := by decide +kernel
theorem dX11_hand_0 : decode cX11_hand 0 = .ok (.aload_n 0, 1) := by decide +kernel
theorem dX11_hand_1 : decode cX11_hand 1 = .ok (.iload_n 1, 1) := by decide +kernel
theorem dX11_hand_2 : decode cX11_hand 2 = .ok (.lload_n 2, 1) := by decide +kernel
theorem dX11_hand_3 : decode cX11_hand 3 = .ok (.iload 4, 2) := by decide +kernel
theorem dX11_hand_5 : decode cX11_hand 5 = .ok (.iconst 1, 1) := by decide +kernel
theorem dX11_hand_6 : decode cX11_hand 6 = .ok (.invokevirtual 267, 3) := by decide +kernel
theorem dX11_hand_9 : decode cX11_hand 9 = .ok (.istore 5, 2) := by decide +kernel
theorem dX11_hand_11 : decode cX11_hand 11 = .ok (.iload 5, 2) := by decide +kernel
theorem dX11_hand_13 : decode cX11_hand 13 = .ok (.ifCond .le 10, 3) := by decide +kernel
theorem dX11_hand_16 : decode cX11_hand 16 = .ok (.aload_n 0, 1) := by decide +kernel
theorem dX11_hand_17 : decode cX11_hand 17 = .ok (.iload 5, 2) := by decide +kernel
theorem dX11_hand_19 : decode cX11_hand 19 = .ok (.invokevirtual 231, 3) := by decide +kernel
theorem dX11_hand_22 : decode cX11_hand 22 = .ok (.ireturn, 1) := by decide +kernel
theorem dX11_hand_23 : decode cX11_hand 23 = .ok (.aload_n 0, 1) := by decide +kernel
theorem dX11_hand_24 : decode cX11_hand 24 = .ok (.getfield 32, 3) := by decide +kernel
theorem dX11_hand_27 : decode cX11_hand 27 = .ok (.iload_n 1, 1) := by decide +kernel
theorem dX11_hand_28 : decode cX11_hand 28 = .ok (.laload, 1) := by decide +kernel
theorem dX11_hand_29 : decode cX11_hand 29 = .ok (.lload_n 2, 1) := by decide +kernel
theorem dX11_hand_30 : decode cX11_hand 30 = .ok (.lsub, 1) := by decide +kernel
theorem dX11_hand_31 : decode cX11_hand 31 = .ok (.lstore 6, 2) := by decide +kernel
theorem dX11_hand_33 : decode cX11_hand 33 = .ok (.aload_n 0, 1) := by decide +kernel
theorem dX11_hand_34 : decode cX11_hand 34 = .ok (.iload_n 1, 1) := by decide +kernel
theorem dX11_hand_35 : decode cX11_hand 35 = .ok (.lload 6, 2) := by decide +kernel
theorem dX11_hand_37 : decode cX11_hand 37 = .ok (.iload 4, 2) := by decide +kernel
theorem dX11_hand_39 : decode cX11_hand 39 = .ok (.invokevirtual 271, 3) := by decide +kernel
theorem dX11_hand_42 : decode cX11_hand 42 = .ok (.iconst 1, 1) := by decide +kernel
theorem dX11_hand_43 : decode cX11_hand 43 = .ok (.iadd, 1) := by decide +kernel
theorem dX11_hand_44 : decode cX11_hand 44 = .ok (.ireturn, 1) := by decide +kernel
theorem dX11_isUndone_0 : decode cX11_isUndone 0 = .ok (.aload_n 0, 1) := by decide +kernel
theorem dX11_isUndone_1 : decode cX11_isUndone 1 = .ok (.getfield 117, 3) := by decide +kernel
theorem dX11_isUndone_4 : decode cX11_isUndone 4 = .ok (.iload_n 1, 1) := by decide +kernel
theorem dX11_isUndone_5 : decode cX11_isUndone 5 = .ok (.iaload, 1) := by decide +kernel
theorem dX11_isUndone_6 : decode cX11_isUndone 6 = .ok (.iconst (-1), 1) := by decide +kernel
theorem dX11_isUndone_7 : decode cX11_isUndone 7 = .ok (.if_icmp .eq 7, 3) := by decide +kernel
theorem dX11_isUndone_10 : decode cX11_isUndone 10 = .ok (.iconst 1, 1) := by decide +kernel
theorem dX11_isUndone_11 : decode cX11_isUndone 11 = .ok (.goto 4, 3) := by decide +kernel
theorem dX11_isUndone_14 : decode cX11_isUndone 14 = .ok (.iconst 0, 1) := by decide +kernel
theorem dX11_isUndone_15 : decode cX11_isUndone 15 = .ok (.ireturn, 1) := by decide +kernel
theorem dX11_measure_0 : decode cX11_measure 0 = .ok (.iconst 1, 1) := by decide +kernel
theorem dX11_measure_1 : decode cX11_measure 1 = .ok (.istore_n 2, 1) := by decide +kernel
theorem dX11_measure_2 : decode cX11_measure 2 = .ok (.iload_n 2, 1) := by decide +kernel
theorem dX11_measure_3 : decode cX11_measure 3 = .ok (.aload_n 0, 1) := by decide +kernel
theorem dX11_measure_4 : decode cX11_measure 4 = .ok (.getfield 169, 3) := by decide +kernel
theorem dX11_measure_7 : decode cX11_measure 7 = .ok (.if_icmp .gt 25, 3) := by decide +kernel
theorem dX11_measure_10 : decode cX11_measure 10 = .ok (.aload_n 0, 1) := by decide +kernel
theorem dX11_measure_11 : decode cX11_measure 11 = .ok (.getfield 130, 3) := by decide +kernel
theorem dX11_measure_14 : decode cX11_measure 14 = .ok (.iload_n 2, 1) := by decide +kernel
theorem dX11_measure_15 : decode cX11_measure 15 = .ok (.iload_n 2, 1) := by decide +kernel
theorem dX11_measure_16 : decode cX11_measure 16 = .ok (.iload_n 1, 1) := by decide +kernel
theorem dX11_measure_17 : decode cX11_measure 17 = .ok (.if_icmp .ne 7, 3) := by decide +kernel
theorem dX11_measure_20 : decode cX11_measure 20 = .ok (.iconst 0, 1) := by decide +kernel
theorem dX11_measure_21 : decode cX11_measure 21 = .ok (.goto 4, 3) := by decide +kernel
theorem dX11_measure_24 : decode cX11_measure 24 = .ok (.iconst (-1), 1) := by decide +kernel
theorem dX11_measure_25 : decode cX11_measure 25 = .ok (.iastore, 1) := by decide +kernel
theorem dX11_measure_26 : decode cX11_measure 26 = .ok (.iinc 2 1, 3) := by decide +kernel
theorem dX11_measure_29 : decode cX11_measure 29 = .ok (.goto (-27), 3) := by decide +kernel
theorem dX11_measure_32 : decode cX11_measure 32 = .ok (.iconst 0, 1) := by decide +kernel
theorem dX11_measure_33 : decode cX11_measure 33 = .ok (.istore_n 2, 1) := by decide +kernel
theorem dX11_measure_34 : decode cX11_measure 34 = .ok (.iload_n 2, 1) := by decide +kernel
theorem dX11_measure_35 : decode cX11_measure 35 = .ok (.aload_n 0, 1) := by decide +kernel
theorem dX11_measure_36 : decode cX11_measure 36 = .ok (.getfield 169, 3) := by decide +kernel
theorem dX11_measure_39 : decode cX11_measure 39 = .ok (.if_icmp .ge 91, 3) := by decide +kernel
theorem dX11_measure_42 : decode cX11_measure 42 = .ok (.iconst 1, 1) := by decide +kernel
theorem dX11_measure_43 : decode cX11_measure 43 = .ok (.istore_n 3, 1) := by decide +kernel
theorem dX11_measure_44 : decode cX11_measure 44 = .ok (.iload_n 3, 1) := by decide +kernel
theorem dX11_measure_45 : decode cX11_measure 45 = .ok (.aload_n 0, 1) := by decide +kernel
theorem dX11_measure_46 : decode cX11_measure 46 = .ok (.getfield 275, 3) := by decide +kernel
theorem dX11_measure_49 : decode cX11_measure 49 = .ok (.if_icmp .gt 75, 3) := by decide +kernel
theorem dX11_measure_52 : decode cX11_measure 52 = .ok (.aload_n 0, 1) := by decide +kernel
theorem dX11_measure_53 : decode cX11_measure 53 = .ok (.getfield 23, 3) := by decide +kernel
theorem dX11_measure_56 : decode cX11_measure 56 = .ok (.aload_n 0, 1) := by decide +kernel
theorem dX11_measure_57 : decode cX11_measure 57 = .ok (.getfield 99, 3) := by decide +kernel
theorem dX11_measure_60 : decode cX11_measure 60 = .ok (.iload_n 3, 1) := by decide +kernel
theorem dX11_measure_61 : decode cX11_measure 61 = .ok (.iaload, 1) := by decide +kernel
theorem dX11_measure_62 : decode cX11_measure 62 = .ok (.iaload, 1) := by decide +kernel
theorem dX11_measure_63 : decode cX11_measure 63 = .ok (.istore 4, 2) := by decide +kernel
theorem dX11_measure_65 : decode cX11_measure 65 = .ok (.aload_n 0, 1) := by decide +kernel
theorem dX11_measure_66 : decode cX11_measure 66 = .ok (.getfield 23, 3) := by decide +kernel
theorem dX11_measure_69 : decode cX11_measure 69 = .ok (.aload_n 0, 1) := by decide +kernel
theorem dX11_measure_70 : decode cX11_measure 70 = .ok (.getfield 102, 3) := by decide +kernel
theorem dX11_measure_73 : decode cX11_measure 73 = .ok (.iload_n 3, 1) := by decide +kernel
theorem dX11_measure_74 : decode cX11_measure 74 = .ok (.iaload, 1) := by decide +kernel
theorem dX11_measure_75 : decode cX11_measure 75 = .ok (.iaload, 1) := by decide +kernel
theorem dX11_measure_76 : decode cX11_measure 76 = .ok (.istore 5, 2) := by decide +kernel
theorem dX11_measure_78 : decode cX11_measure 78 = .ok (.aload_n 0, 1) := by decide +kernel
theorem dX11_measure_79 : decode cX11_measure 79 = .ok (.iload_n 3, 1) := by decide +kernel
theorem dX11_measure_80 : decode cX11_measure 80 = .ok (.invokevirtual 278, 3) := by decide +kernel
theorem dX11_measure_83 : decode cX11_measure 83 = .ok (.ifCond .ne 35, 3) := by decide +kernel
theorem dX11_measure_86 : decode cX11_measure 86 = .ok (.aload_n 0, 1) := by decide +kernel
theorem dX11_measure_87 : decode cX11_measure 87 = .ok (.getfield 130, 3) := by decide +kernel
theorem dX11_measure_90 : decode cX11_measure 90 = .ok (.iload 5, 2) := by decide +kernel
theorem dX11_measure_92 : decode cX11_measure 92 = .ok (.iaload, 1) := by decide +kernel
theorem dX11_measure_93 : decode cX11_measure 93 = .ok (.iload_n 2, 1) := by decide +kernel
theorem dX11_measure_94 : decode cX11_measure 94 = .ok (.if_icmp .ne 24, 3) := by decide +kernel
theorem dX11_measure_97 : decode cX11_measure 97 = .ok (.aload_n 0, 1) := by decide +kernel
theorem dX11_measure_98 : decode cX11_measure 98 = .ok (.getfield 130, 3) := by decide +kernel
theorem dX11_measure_101 : decode cX11_measure 101 = .ok (.iload 4, 2) := by decide +kernel
theorem dX11_measure_103 : decode cX11_measure 103 = .ok (.iaload, 1) := by decide +kernel
theorem dX11_measure_104 : decode cX11_measure 104 = .ok (.iconst (-1), 1) := by decide +kernel
theorem dX11_measure_105 : decode cX11_measure 105 = .ok (.if_icmp .ne 13, 3) := by decide +kernel
theorem dX11_measure_108 : decode cX11_measure 108 = .ok (.aload_n 0, 1) := by decide +kernel
theorem dX11_measure_109 : decode cX11_measure 109 = .ok (.getfield 130, 3) := by decide +kernel
theorem dX11_measure_112 : decode cX11_measure 112 = .ok (.iload 4, 2) := by decide +kernel
theorem dX11_measure_114 : decode cX11_measure 114 = .ok (.iload_n 2, 1) := by decide +kernel
theorem dX11_measure_115 : decode cX11_measure 115 = .ok (.iconst 1, 1) := by decide +kernel
theorem dX11_measure_116 : decode cX11_measure 116 = .ok (.iadd, 1) := by decide +kernel
theorem dX11_measure_117 : decode cX11_measure 117 = .ok (.iastore, 1) := by decide +kernel
theorem dX11_measure_118 : decode cX11_measure 118 = .ok (.iinc 3 1, 3) := by decide +kernel
theorem dX11_measure_121 : decode cX11_measure 121 = .ok (.goto (-77), 3) := by decide +kernel
theorem dX11_measure_124 : decode cX11_measure 124 = .ok (.iinc 2 1, 3) := by decide +kernel
theorem dX11_measure_127 : decode cX11_measure 127 = .ok (.goto (-93), 3) := by decide +kernel
theorem dX11_measure_130 : decode cX11_measure 130 = .ok (.return_, 1) := by decide +kernel
theorem dX11_draw_0 : decode cX11_draw 0 = .ok (.aload_n 0, 1) := by decide +kernel
theorem dX11_draw_1 : decode cX11_draw 1 = .ok (.getfield 133, 3) := by decide +kernel
theorem dX11_draw_4 : decode cX11_draw 4 = .ok (.iconst 0, 1) := by decide +kernel
theorem dX11_draw_5 : decode cX11_draw 5 = .ok (.iload_n 1, 1) := by decide +kernel
theorem dX11_draw_6 : decode cX11_draw 6 = .ok (.iastore, 1) := by decide +kernel
theorem dX11_draw_7 : decode cX11_draw 7 = .ok (.aload_n 0, 1) := by decide +kernel
theorem dX11_draw_8 : decode cX11_draw 8 = .ok (.iconst 1, 1) := by decide +kernel
theorem dX11_draw_9 : decode cX11_draw 9 = .ok (.putfield 281, 3) := by decide +kernel
theorem dX11_draw_12 : decode cX11_draw 12 = .ok (.iload_n 2, 1) := by decide +kernel
theorem dX11_draw_13 : decode cX11_draw 13 = .ok (.istore_n 3, 1) := by decide +kernel
theorem dX11_draw_14 : decode cX11_draw 14 = .ok (.iload_n 3, 1) := by decide +kernel
theorem dX11_draw_15 : decode cX11_draw 15 = .ok (.iload_n 1, 1) := by decide +kernel
theorem dX11_draw_16 : decode cX11_draw 16 = .ok (.if_icmp .eq 133, 3) := by decide +kernel
theorem dX11_draw_19 : decode cX11_draw 19 = .ok (.aload_n 0, 1) := by decide +kernel
theorem dX11_draw_20 : decode cX11_draw 20 = .ok (.getfield 133, 3) := by decide +kernel
theorem dX11_draw_23 : decode cX11_draw 23 = .ok (.aload_n 0, 1) := by decide +kernel
theorem dX11_draw_24 : decode cX11_draw 24 = .ok (.getfield 281, 3) := by decide +kernel
theorem dX11_draw_27 : decode cX11_draw 27 = .ok (.iload_n 3, 1) := by decide +kernel
theorem dX11_draw_28 : decode cX11_draw 28 = .ok (.iastore, 1) := by decide +kernel
theorem dX11_draw_29 : decode cX11_draw 29 = .ok (.aload_n 0, 1) := by decide +kernel
theorem dX11_draw_30 : decode cX11_draw 30 = .ok (.dup, 1) := by decide +kernel
theorem dX11_draw_31 : decode cX11_draw 31 = .ok (.getfield 281, 3) := by decide +kernel
theorem dX11_draw_34 : decode cX11_draw 34 = .ok (.iconst 1, 1) := by decide +kernel
theorem dX11_draw_35 : decode cX11_draw 35 = .ok (.iadd, 1) := by decide +kernel
theorem dX11_draw_36 : decode cX11_draw 36 = .ok (.putfield 281, 3) := by decide +kernel
theorem dX11_draw_39 : decode cX11_draw 39 = .ok (.iconst 0, 1) := by decide +kernel
theorem dX11_draw_40 : decode cX11_draw 40 = .ok (.istore 4, 2) := by decide +kernel
theorem dX11_draw_42 : decode cX11_draw 42 = .ok (.aload_n 0, 1) := by decide +kernel
theorem dX11_draw_43 : decode cX11_draw 43 = .ok (.getfield 275, 3) := by decide +kernel
theorem dX11_draw_46 : decode cX11_draw 46 = .ok (.istore 5, 2) := by decide +kernel
theorem dX11_draw_48 : decode cX11_draw 48 = .ok (.iload 5, 2) := by decide +kernel
theorem dX11_draw_50 : decode cX11_draw 50 = .ok (.ifCond .le 83, 3) := by decide +kernel
theorem dX11_draw_53 : decode cX11_draw 53 = .ok (.aload_n 0, 1) := by decide +kernel
theorem dX11_draw_54 : decode cX11_draw 54 = .ok (.iload 5, 2) := by decide +kernel
theorem dX11_draw_56 : decode cX11_draw 56 = .ok (.invokevirtual 278, 3) := by decide +kernel
theorem dX11_draw_59 : decode cX11_draw 59 = .ok (.ifCond .ne 51, 3) := by decide +kernel
theorem dX11_draw_62 : decode cX11_draw 62 = .ok (.aload_n 0, 1) := by decide +kernel
theorem dX11_draw_63 : decode cX11_draw 63 = .ok (.getfield 23, 3) := by decide +kernel
theorem dX11_draw_66 : decode cX11_draw 66 = .ok (.aload_n 0, 1) := by decide +kernel
theorem dX11_draw_67 : decode cX11_draw 67 = .ok (.getfield 99, 3) := by decide +kernel
theorem dX11_draw_70 : decode cX11_draw 70 = .ok (.iload 5, 2) := by decide +kernel
theorem dX11_draw_72 : decode cX11_draw 72 = .ok (.iaload, 1) := by decide +kernel
theorem dX11_draw_73 : decode cX11_draw 73 = .ok (.iaload, 1) := by decide +kernel
theorem dX11_draw_74 : decode cX11_draw 74 = .ok (.iload_n 3, 1) := by decide +kernel
theorem dX11_draw_75 : decode cX11_draw 75 = .ok (.if_icmp .ne 35, 3) := by decide +kernel
theorem dX11_draw_78 : decode cX11_draw 78 = .ok (.aload_n 0, 1) := by decide +kernel
theorem dX11_draw_79 : decode cX11_draw 79 = .ok (.getfield 130, 3) := by decide +kernel
theorem dX11_draw_82 : decode cX11_draw 82 = .ok (.aload_n 0, 1) := by decide +kernel
theorem dX11_draw_83 : decode cX11_draw 83 = .ok (.getfield 23, 3) := by decide +kernel
theorem dX11_draw_86 : decode cX11_draw 86 = .ok (.aload_n 0, 1) := by decide +kernel
theorem dX11_draw_87 : decode cX11_draw 87 = .ok (.getfield 102, 3) := by decide +kernel
theorem dX11_draw_90 : decode cX11_draw 90 = .ok (.iload 5, 2) := by decide +kernel
theorem dX11_draw_92 : decode cX11_draw 92 = .ok (.iaload, 1) := by decide +kernel
theorem dX11_draw_93 : decode cX11_draw 93 = .ok (.iaload, 1) := by decide +kernel
theorem dX11_draw_94 : decode cX11_draw 94 = .ok (.iaload, 1) := by decide +kernel
theorem dX11_draw_95 : decode cX11_draw 95 = .ok (.aload_n 0, 1) := by decide +kernel
theorem dX11_draw_96 : decode cX11_draw 96 = .ok (.getfield 130, 3) := by decide +kernel
theorem dX11_draw_99 : decode cX11_draw 99 = .ok (.iload_n 3, 1) := by decide +kernel
theorem dX11_draw_100 : decode cX11_draw 100 = .ok (.iaload, 1) := by decide +kernel
theorem dX11_draw_101 : decode cX11_draw 101 = .ok (.iconst 1, 1) := by decide +kernel
theorem dX11_draw_102 : decode cX11_draw 102 = .ok (.isub, 1) := by decide +kernel
theorem dX11_draw_103 : decode cX11_draw 103 = .ok (.if_icmp .ne 7, 3) := by decide +kernel
theorem dX11_draw_106 : decode cX11_draw 106 = .ok (.iconst 1, 1) := by decide +kernel
theorem dX11_draw_107 : decode cX11_draw 107 = .ok (.goto 4, 3) := by decide +kernel
theorem dX11_draw_110 : decode cX11_draw 110 = .ok (.iconst 0, 1) := by decide +kernel
theorem dX11_draw_111 : decode cX11_draw 111 = .ok (.istore 6, 2) := by decide +kernel
theorem dX11_draw_113 : decode cX11_draw 113 = .ok (.iload 6, 2) := by decide +kernel
theorem dX11_draw_115 : decode cX11_draw 115 = .ok (.ifCond .eq 8, 3) := by decide +kernel
theorem dX11_draw_118 : decode cX11_draw 118 = .ok (.iload 5, 2) := by decide +kernel
theorem dX11_draw_120 : decode cX11_draw 120 = .ok (.goto 5, 3) := by decide +kernel
theorem dX11_draw_123 : decode cX11_draw 123 = .ok (.iload 4, 2) := by decide +kernel
theorem dX11_draw_125 : decode cX11_draw 125 = .ok (.istore 4, 2) := by decide +kernel
theorem dX11_draw_127 : decode cX11_draw 127 = .ok (.iinc 5 (-1), 3) := by decide +kernel
theorem dX11_draw_130 : decode cX11_draw 130 = .ok (.goto (-82), 3) := by decide +kernel
theorem dX11_draw_133 : decode cX11_draw 133 = .ok (.aload_n 0, 1) := by decide +kernel
theorem dX11_draw_134 : decode cX11_draw 134 = .ok (.getfield 23, 3) := by decide +kernel
theorem dX11_draw_137 : decode cX11_draw 137 = .ok (.aload_n 0, 1) := by decide +kernel
theorem dX11_draw_138 : decode cX11_draw 138 = .ok (.getfield 102, 3) := by decide +kernel
theorem dX11_draw_141 : decode cX11_draw 141 = .ok (.iload 4, 2) := by decide +kernel
theorem dX11_draw_143 : decode cX11_draw 143 = .ok (.iaload, 1) := by decide +kernel
theorem dX11_draw_144 : decode cX11_draw 144 = .ok (.iaload, 1) := by decide +kernel
theorem dX11_draw_145 : decode cX11_draw 145 = .ok (.istore_n 3, 1) := by decide +kernel
theorem dX11_draw_146 : decode cX11_draw 146 = .ok (.goto (-132), 3) := by decide +kernel
theorem dX11_draw_149 : decode cX11_draw 149 = .ok (.return_, 1) := by decide +kernel
theorem dX11_post_0 : decode cX11_post 0 = .ok (.aload_n 0, 1) := by decide +kernel
theorem dX11_post_1 : decode cX11_post 1 = .ok (.iload_n 1, 1) := by decide +kernel
theorem dX11_post_2 : decode cX11_post 2 = .ok (.invokevirtual 224, 3) := by decide +kernel
theorem dX11_post_5 : decode cX11_post 5 = .ok (.ifCond .eq 11, 3) := by decide +kernel
theorem dX11_post_8 : decode cX11_post 8 = .ok (.aload_n 0, 1) := by decide +kernel
theorem dX11_post_9 : decode cX11_post 9 = .ok (.iload_n 2, 1) := by decide +kernel
theorem dX11_post_10 : decode cX11_post 10 = .ok (.invokevirtual 224, 3) := by decide +kernel
theorem dX11_post_13 : decode cX11_post 13 = .ok (.ifCond .ne 9, 3) := by decide +kernel
theorem dX11_post_16 : decode cX11_post 16 = .ok (.aload_n 0, 1) := by decide +kernel
theorem dX11_post_17 : decode cX11_post 17 = .ok (.iconst 1, 1) := by decide +kernel
theorem dX11_post_18 : decode cX11_post 18 = .ok (.invokevirtual 231, 3) := by decide +kernel
theorem dX11_post_21 : decode cX11_post 21 = .ok (.ireturn, 1) := by decide +kernel
theorem dX11_post_22 : decode cX11_post 22 = .ok (.aload_n 0, 1) := by decide +kernel
theorem dX11_post_23 : decode cX11_post 23 = .ok (.getfield 17, 3) := by decide +kernel
theorem dX11_post_26 : decode cX11_post 26 = .ok (.iload_n 1, 1) := by decide +kernel
theorem dX11_post_27 : decode cX11_post 27 = .ok (.iaload, 1) := by decide +kernel
theorem dX11_post_28 : decode cX11_post 28 = .ok (.bipush 6, 2) := by decide +kernel
theorem dX11_post_30 : decode cX11_post 30 = .ok (.if_icmp .eq 14, 3) := by decide +kernel
theorem dX11_post_33 : decode cX11_post 33 = .ok (.aload_n 0, 1) := by decide +kernel
theorem dX11_post_34 : decode cX11_post 34 = .ok (.getfield 17, 3) := by decide +kernel
theorem dX11_post_37 : decode cX11_post 37 = .ok (.iload_n 2, 1) := by decide +kernel
theorem dX11_post_38 : decode cX11_post 38 = .ok (.iaload, 1) := by decide +kernel
theorem dX11_post_39 : decode cX11_post 39 = .ok (.bipush 6, 2) := by decide +kernel
theorem dX11_post_41 : decode cX11_post 41 = .ok (.if_icmp .ne 9, 3) := by decide +kernel
theorem dX11_post_44 : decode cX11_post 44 = .ok (.aload_n 0, 1) := by decide +kernel
theorem dX11_post_45 : decode cX11_post 45 = .ok (.iconst 4, 1) := by decide +kernel
theorem dX11_post_46 : decode cX11_post 46 = .ok (.invokevirtual 231, 3) := by decide +kernel
theorem dX11_post_49 : decode cX11_post 49 = .ok (.ireturn, 1) := by decide +kernel
theorem dX11_post_50 : decode cX11_post 50 = .ok (.lload_n 3, 1) := by decide +kernel
theorem dX11_post_51 : decode cX11_post 51 = .ok (.lconst 0, 1) := by decide +kernel
theorem dX11_post_52 : decode cX11_post 52 = .ok (.lcmp, 1) := by decide +kernel
theorem dX11_post_53 : decode cX11_post 53 = .ok (.ifCond .lt 26, 3) := by decide +kernel
theorem dX11_post_56 : decode cX11_post 56 = .ok (.lload_n 3, 1) := by decide +kernel
theorem dX11_post_57 : decode cX11_post 57 = .ok (.ldc2_w 246, 3) := by decide +kernel
theorem dX11_post_60 : decode cX11_post 60 = .ok (.lcmp, 1) := by decide +kernel
theorem dX11_post_61 : decode cX11_post 61 = .ok (.ifCond .gt 18, 3) := by decide +kernel
theorem dX11_post_64 : decode cX11_post 64 = .ok (.aload_n 0, 1) := by decide +kernel
theorem dX11_post_65 : decode cX11_post 65 = .ok (.getfield 23, 3) := by decide +kernel
theorem dX11_post_68 : decode cX11_post 68 = .ok (.iload_n 1, 1) := by decide +kernel
theorem dX11_post_69 : decode cX11_post 69 = .ok (.iaload, 1) := by decide +kernel
theorem dX11_post_70 : decode cX11_post 70 = .ok (.aload_n 0, 1) := by decide +kernel
theorem dX11_post_71 : decode cX11_post 71 = .ok (.getfield 23, 3) := by decide +kernel
theorem dX11_post_74 : decode cX11_post 74 = .ok (.iload_n 2, 1) := by decide +kernel
theorem dX11_post_75 : decode cX11_post 75 = .ok (.iaload, 1) := by decide +kernel
theorem dX11_post_76 : decode cX11_post 76 = .ok (.if_icmp .ne 9, 3) := by decide +kernel
theorem dX11_post_79 : decode cX11_post 79 = .ok (.aload_n 0, 1) := by decide +kernel
theorem dX11_post_80 : decode cX11_post 80 = .ok (.iconst 5, 1) := by decide +kernel
theorem dX11_post_81 : decode cX11_post 81 = .ok (.invokevirtual 231, 3) := by decide +kernel
theorem dX11_post_84 : decode cX11_post 84 = .ok (.ireturn, 1) := by decide +kernel
theorem dX11_post_85 : decode cX11_post 85 = .ok (.aload_n 0, 1) := by decide +kernel
theorem dX11_post_86 : decode cX11_post 86 = .ok (.iload_n 1, 1) := by decide +kernel
theorem dX11_post_87 : decode cX11_post 87 = .ok (.invokevirtual 260, 3) := by decide +kernel
theorem dX11_post_90 : decode cX11_post 90 = .ok (.ifCond .eq 26, 3) := by decide +kernel
theorem dX11_post_93 : decode cX11_post 93 = .ok (.aload_n 0, 1) := by decide +kernel
theorem dX11_post_94 : decode cX11_post 94 = .ok (.iload_n 2, 1) := by decide +kernel
theorem dX11_post_95 : decode cX11_post 95 = .ok (.invokevirtual 195, 3) := by decide +kernel
theorem dX11_post_98 : decode cX11_post 98 = .ok (.ifCond .eq 18, 3) := by decide +kernel
theorem dX11_post_101 : decode cX11_post 101 = .ok (.aload_n 0, 1) := by decide +kernel
theorem dX11_post_102 : decode cX11_post 102 = .ok (.getfield 20, 3) := by decide +kernel
theorem dX11_post_105 : decode cX11_post 105 = .ok (.iload_n 1, 1) := by decide +kernel
theorem dX11_post_106 : decode cX11_post 106 = .ok (.iaload, 1) := by decide +kernel
theorem dX11_post_107 : decode cX11_post 107 = .ok (.aload_n 0, 1) := by decide +kernel
theorem dX11_post_108 : decode cX11_post 108 = .ok (.getfield 20, 3) := by decide +kernel
theorem dX11_post_111 : decode cX11_post 111 = .ok (.iload_n 2, 1) := by decide +kernel
theorem dX11_post_112 : decode cX11_post 112 = .ok (.iaload, 1) := by decide +kernel
theorem dX11_post_113 : decode cX11_post 113 = .ok (.if_icmp .eq 10, 3) := by decide +kernel
theorem dX11_post_116 : decode cX11_post 116 = .ok (.aload_n 0, 1) := by decide +kernel
theorem dX11_post_117 : decode cX11_post 117 = .ok (.bipush 6, 2) := by decide +kernel
theorem dX11_post_119 : decode cX11_post 119 = .ok (.invokevirtual 231, 3) := by decide +kernel
theorem dX11_post_122 : decode cX11_post 122 = .ok (.ireturn, 1) := by decide +kernel
theorem dX11_post_123 : decode cX11_post 123 = .ok (.aload_n 0, 1) := by decide +kernel
theorem dX11_post_124 : decode cX11_post 124 = .ok (.aload_n 0, 1) := by decide +kernel
theorem dX11_post_125 : decode cX11_post 125 = .ok (.getfield 23, 3) := by decide +kernel
theorem dX11_post_128 : decode cX11_post 128 = .ok (.iload_n 1, 1) := by decide +kernel
theorem dX11_post_129 : decode cX11_post 129 = .ok (.iaload, 1) := by decide +kernel
theorem dX11_post_130 : decode cX11_post 130 = .ok (.invokevirtual 284, 3) := by decide +kernel
theorem dX11_post_133 : decode cX11_post 133 = .ok (.aload_n 0, 1) := by decide +kernel
theorem dX11_post_134 : decode cX11_post 134 = .ok (.getfield 130, 3) := by decide +kernel
theorem dX11_post_137 : decode cX11_post 137 = .ok (.aload_n 0, 1) := by decide +kernel
theorem dX11_post_138 : decode cX11_post 138 = .ok (.getfield 23, 3) := by decide +kernel
theorem dX11_post_141 : decode cX11_post 141 = .ok (.iload_n 2, 1) := by decide +kernel
theorem dX11_post_142 : decode cX11_post 142 = .ok (.iaload, 1) := by decide +kernel
theorem dX11_post_143 : decode cX11_post 143 = .ok (.iaload, 1) := by decide +kernel
theorem dX11_post_144 : decode cX11_post 144 = .ok (.iconst (-1), 1) := by decide +kernel
theorem dX11_post_145 : decode cX11_post 145 = .ok (.if_icmp .eq 36, 3) := by decide +kernel
theorem dX11_post_148 : decode cX11_post 148 = .ok (.aload_n 0, 1) := by decide +kernel
theorem dX11_post_149 : decode cX11_post 149 = .ok (.aload_n 0, 1) := by decide +kernel
theorem dX11_post_150 : decode cX11_post 150 = .ok (.getfield 23, 3) := by decide +kernel
theorem dX11_post_153 : decode cX11_post 153 = .ok (.iload_n 1, 1) := by decide +kernel
theorem dX11_post_154 : decode cX11_post 154 = .ok (.iaload, 1) := by decide +kernel
theorem dX11_post_155 : decode cX11_post 155 = .ok (.aload_n 0, 1) := by decide +kernel
theorem dX11_post_156 : decode cX11_post 156 = .ok (.getfield 23, 3) := by decide +kernel
theorem dX11_post_159 : decode cX11_post 159 = .ok (.iload_n 2, 1) := by decide +kernel
theorem dX11_post_160 : decode cX11_post 160 = .ok (.iaload, 1) := by decide +kernel
theorem dX11_post_161 : decode cX11_post 161 = .ok (.invokevirtual 287, 3) := by decide +kernel
theorem dX11_post_164 : decode cX11_post 164 = .ok (.aload_n 0, 1) := by decide +kernel
theorem dX11_post_165 : decode cX11_post 165 = .ok (.dup, 1) := by decide +kernel
theorem dX11_post_166 : decode cX11_post 166 = .ok (.getfield 290, 3) := by decide +kernel
theorem dX11_post_169 : decode cX11_post 169 = .ok (.iconst 1, 1) := by decide +kernel
theorem dX11_post_170 : decode cX11_post 170 = .ok (.iadd, 1) := by decide +kernel
theorem dX11_post_171 : decode cX11_post 171 = .ok (.putfield 290, 3) := by decide +kernel
theorem dX11_post_174 : decode cX11_post 174 = .ok (.aload_n 0, 1) := by decide +kernel
theorem dX11_post_175 : decode cX11_post 175 = .ok (.bipush 9, 2) := by decide +kernel
theorem dX11_post_177 : decode cX11_post 177 = .ok (.invokevirtual 231, 3) := by decide +kernel
theorem dX11_post_180 : decode cX11_post 180 = .ok (.ireturn, 1) := by decide +kernel
theorem dX11_post_181 : decode cX11_post 181 = .ok (.aload_n 0, 1) := by decide +kernel
theorem dX11_post_182 : decode cX11_post 182 = .ok (.getfield 275, 3) := by decide +kernel
theorem dX11_post_185 : decode cX11_post 185 = .ok (.bipush 100, 2) := by decide +kernel
theorem dX11_post_187 : decode cX11_post 187 = .ok (.if_icmp .ne 10, 3) := by decide +kernel
theorem dX11_post_190 : decode cX11_post 190 = .ok (.aload_n 0, 1) := by decide +kernel
theorem dX11_post_191 : decode cX11_post 191 = .ok (.bipush 10, 2) := by decide +kernel
theorem dX11_post_193 : decode cX11_post 193 = .ok (.invokevirtual 231, 3) := by decide +kernel
theorem dX11_post_196 : decode cX11_post 196 = .ok (.ireturn, 1) := by decide +kernel
theorem dX11_post_197 : decode cX11_post 197 = .ok (.aload_n 0, 1) := by decide +kernel
theorem dX11_post_198 : decode cX11_post 198 = .ok (.dup, 1) := by decide +kernel
theorem dX11_post_199 : decode cX11_post 199 = .ok (.getfield 275, 3) := by decide +kernel
theorem dX11_post_202 : decode cX11_post 202 = .ok (.iconst 1, 1) := by decide +kernel
theorem dX11_post_203 : decode cX11_post 203 = .ok (.iadd, 1) := by decide +kernel
theorem dX11_post_204 : decode cX11_post 204 = .ok (.putfield 275, 3) := by decide +kernel
theorem dX11_post_207 : decode cX11_post 207 = .ok (.aload_n 0, 1) := by decide +kernel
theorem dX11_post_208 : decode cX11_post 208 = .ok (.getfield 99, 3) := by decide +kernel
theorem dX11_post_211 : decode cX11_post 211 = .ok (.aload_n 0, 1) := by decide +kernel
theorem dX11_post_212 : decode cX11_post 212 = .ok (.getfield 275, 3) := by decide +kernel
