theorem dX12_does_0 : decode cX12_does 0 = .ok (.aload_n 0, 1) := by decide +kernel
theorem dX12_does_1 : decode cX12_does 1 = .ok (.bipush 28, 2) := by decide +kernel
theorem dX12_does_3 : decode cX12_does 3 = .ok (.bipush 23, 2) := by decide +kernel
theorem dX12_does_5 : decode cX12_does 5 = .ok (.invokevirtual 121, 3) := by decide +kernel
theorem dX12_does_8 : decode cX12_does 8 = .ok (.bipush 34, 2) := by decide +kernel
theorem dX12_does_10 : decode cX12_does 10 = .ok (.if_icmp .ne 10, 3) := by decide +kernel
theorem dX12_does_13 : decode cX12_does 13 = .ok (.aload_n 0, 1) := by decide +kernel
theorem dX12_does_14 : decode cX12_does 14 = .ok (.invokevirtual 230, 3) := by decide +kernel
theorem dX12_does_17 : decode cX12_does 17 = .ok (.goto 827, 3) := by decide +kernel
theorem dX12_does_20 : decode cX12_does 20 = .ok (.aload_n 0, 1) := by decide +kernel
theorem dX12_does_21 : decode cX12_does 21 = .ok (.bipush 28, 2) := by decide +kernel
theorem dX12_does_23 : decode cX12_does 23 = .ok (.bipush 24, 2) := by decide +kernel
theorem dX12_does_25 : decode cX12_does 25 = .ok (.invokevirtual 121, 3) := by decide +kernel
theorem dX12_does_28 : decode cX12_does 28 = .ok (.bipush 11, 2) := by decide +kernel
theorem dX12_does_30 : decode cX12_does 30 = .ok (.if_icmp .ne 19, 3) := by decide +kernel
theorem dX12_does_33 : decode cX12_does 33 = .ok (.aload_n 0, 1) := by decide +kernel
theorem dX12_does_34 : decode cX12_does 34 = .ok (.bipush 21, 2) := by decide +kernel
theorem dX12_does_36 : decode cX12_does 36 = .ok (.invokevirtual 118, 3) := by decide +kernel
theorem dX12_does_39 : decode cX12_does 39 = .ok (.ifCond .ne 10, 3) := by decide +kernel
theorem dX12_does_42 : decode cX12_does 42 = .ok (.aload_n 0, 1) := by decide +kernel
theorem dX12_does_43 : decode cX12_does 43 = .ok (.invokevirtual 233, 3) := by decide +kernel
theorem dX12_does_46 : decode cX12_does 46 = .ok (.goto 798, 3) := by decide +kernel
theorem dX12_does_49 : decode cX12_does 49 = .ok (.aload_n 0, 1) := by decide +kernel
theorem dX12_does_50 : decode cX12_does 50 = .ok (.bipush 28, 2) := by decide +kernel
theorem dX12_does_52 : decode cX12_does 52 = .ok (.bipush 24, 2) := by decide +kernel
theorem dX12_does_54 : decode cX12_does 54 = .ok (.invokevirtual 121, 3) := by decide +kernel
theorem dX12_does_57 : decode cX12_does 57 = .ok (.bipush 10, 2) := by decide +kernel
theorem dX12_does_59 : decode cX12_does 59 = .ok (.if_icmp .ne 10, 3) := by decide +kernel
theorem dX12_does_62 : decode cX12_does 62 = .ok (.aload_n 0, 1) := by decide +kernel
theorem dX12_does_63 : decode cX12_does 63 = .ok (.invokevirtual 236, 3) := by decide +kernel
theorem dX12_does_66 : decode cX12_does 66 = .ok (.goto 778, 3) := by decide +kernel
theorem dX12_does_69 : decode cX12_does 69 = .ok (.aload_n 0, 1) := by decide +kernel
theorem dX12_does_70 : decode cX12_does 70 = .ok (.bipush 28, 2) := by decide +kernel
theorem dX12_does_72 : decode cX12_does 72 = .ok (.bipush 23, 2) := by decide +kernel
theorem dX12_does_74 : decode cX12_does 74 = .ok (.invokevirtual 121, 3) := by decide +kernel
theorem dX12_does_77 : decode cX12_does 77 = .ok (.bipush 36, 2) := by decide +kernel
theorem dX12_does_79 : decode cX12_does 79 = .ok (.if_icmp .ne 10, 3) := by decide +kernel
theorem dX12_does_82 : decode cX12_does 82 = .ok (.aload_n 0, 1) := by decide +kernel
theorem dX12_does_83 : decode cX12_does 83 = .ok (.invokevirtual 239, 3) := by decide +kernel
theorem dX12_does_86 : decode cX12_does 86 = .ok (.goto 758, 3) := by decide +kernel
theorem dX12_does_89 : decode cX12_does 89 = .ok (.aload_n 0, 1) := by decide +kernel
theorem dX12_does_90 : decode cX12_does 90 = .ok (.bipush 28, 2) := by decide +kernel
theorem dX12_does_92 : decode cX12_does 92 = .ok (.bipush 23, 2) := by decide +kernel
theorem dX12_does_94 : decode cX12_does 94 = .ok (.invokevirtual 121, 3) := by decide +kernel
theorem dX12_does_97 : decode cX12_does 97 = .ok (.bipush 37, 2) := by decide +kernel
theorem dX12_does_99 : decode cX12_does 99 = .ok (.if_icmp .ne 10, 3) := by decide +kernel
theorem dX12_does_102 : decode cX12_does 102 = .ok (.aload_n 0, 1) := by decide +kernel
theorem dX12_does_103 : decode cX12_does 103 = .ok (.invokevirtual 242, 3) := by decide +kernel
theorem dX12_does_106 : decode cX12_does 106 = .ok (.goto 738, 3) := by decide +kernel
theorem dX12_does_109 : decode cX12_does 109 = .ok (.aload_n 0, 1) := by decide +kernel
theorem dX12_does_110 : decode cX12_does 110 = .ok (.bipush 28, 2) := by decide +kernel
theorem dX12_does_112 : decode cX12_does 112 = .ok (.bipush 24, 2) := by decide +kernel
theorem dX12_does_114 : decode cX12_does 114 = .ok (.invokevirtual 121, 3) := by decide +kernel
theorem dX12_does_117 : decode cX12_does 117 = .ok (.bipush 16, 2) := by decide +kernel
theorem dX12_does_119 : decode cX12_does 119 = .ok (.if_icmp .ne 10, 3) := by decide +kernel
theorem dX12_does_122 : decode cX12_does 122 = .ok (.aload_n 0, 1) := by decide +kernel
theorem dX12_does_123 : decode cX12_does 123 = .ok (.invokevirtual 245, 3) := by decide +kernel
theorem dX12_does_126 : decode cX12_does 126 = .ok (.goto 718, 3) := by decide +kernel
theorem dX12_does_129 : decode cX12_does 129 = .ok (.aload_n 0, 1) := by decide +kernel
theorem dX12_does_130 : decode cX12_does 130 = .ok (.bipush 28, 2) := by decide +kernel
theorem dX12_does_132 : decode cX12_does 132 = .ok (.bipush 23, 2) := by decide +kernel
theorem dX12_does_134 : decode cX12_does 134 = .ok (.invokevirtual 121, 3) := by decide +kernel
theorem dX12_does_137 : decode cX12_does 137 = .ok (.bipush 38, 2) := by decide +kernel
theorem dX12_does_139 : decode cX12_does 139 = .ok (.if_icmp .ne 10, 3) := by decide +kernel
theorem dX12_does_142 : decode cX12_does 142 = .ok (.aload_n 0, 1) := by decide +kernel
theorem dX12_does_143 : decode cX12_does 143 = .ok (.invokevirtual 248, 3) := by decide +kernel
theorem dX12_does_146 : decode cX12_does 146 = .ok (.goto 698, 3) := by decide +kernel
theorem dX12_does_149 : decode cX12_does 149 = .ok (.aload_n 0, 1) := by decide +kernel
theorem dX12_does_150 : decode cX12_does 150 = .ok (.bipush 30, 2) := by decide +kernel
theorem dX12_does_152 : decode cX12_does 152 = .ok (.bipush 23, 2) := by decide +kernel
theorem dX12_does_154 : decode cX12_does 154 = .ok (.invokevirtual 121, 3) := by decide +kernel
theorem dX12_does_157 : decode cX12_does 157 = .ok (.bipush 39, 2) := by decide +kernel
theorem dX12_does_159 : decode cX12_does 159 = .ok (.if_icmp .ne 19, 3) := by decide +kernel
theorem dX12_does_162 : decode cX12_does 162 = .ok (.aload_n 0, 1) := by decide +kernel
theorem dX12_does_163 : decode cX12_does 163 = .ok (.bipush 21, 2) := by decide +kernel
theorem dX12_does_165 : decode cX12_does 165 = .ok (.invokevirtual 118, 3) := by decide +kernel
theorem dX12_does_168 : decode cX12_does 168 = .ok (.ifCond .ne 10, 3) := by decide +kernel
theorem dX12_does_171 : decode cX12_does 171 = .ok (.aload_n 0, 1) := by decide +kernel
theorem dX12_does_172 : decode cX12_does 172 = .ok (.invokevirtual 251, 3) := by decide +kernel
theorem dX12_does_175 : decode cX12_does 175 = .ok (.goto 669, 3) := by decide +kernel
theorem dX12_does_178 : decode cX12_does 178 = .ok (.aload_n 0, 1) := by decide +kernel
theorem dX12_does_179 : decode cX12_does 179 = .ok (.bipush 29, 2) := by decide +kernel
theorem dX12_does_181 : decode cX12_does 181 = .ok (.bipush 21, 2) := by decide +kernel
theorem dX12_does_183 : decode cX12_does 183 = .ok (.invokevirtual 121, 3) := by decide +kernel
theorem dX12_does_186 : decode cX12_does 186 = .ok (.sipush 212, 3) := by decide +kernel
theorem dX12_does_189 : decode cX12_does 189 = .ok (.if_icmp .ne 19, 3) := by decide +kernel
theorem dX12_does_192 : decode cX12_does 192 = .ok (.aload_n 0, 1) := by decide +kernel
theorem dX12_does_193 : decode cX12_does 193 = .ok (.bipush 11, 2) := by decide +kernel
theorem dX12_does_195 : decode cX12_does 195 = .ok (.invokevirtual 118, 3) := by decide +kernel
theorem dX12_does_198 : decode cX12_does 198 = .ok (.ifCond .ne 10, 3) := by decide +kernel
theorem dX12_does_201 : decode cX12_does 201 = .ok (.aload_n 0, 1) := by decide +kernel
theorem dX12_does_202 : decode cX12_does 202 = .ok (.invokevirtual 254, 3) := by decide +kernel
theorem dX12_does_205 : decode cX12_does 205 = .ok (.goto 639, 3) := by decide +kernel
theorem dX12_does_208 : decode cX12_does 208 = .ok (.aload_n 0, 1) := by decide +kernel
theorem dX12_does_209 : decode cX12_does 209 = .ok (.bipush 29, 2) := by decide +kernel
theorem dX12_does_211 : decode cX12_does 211 = .ok (.bipush 21, 2) := by decide +kernel
theorem dX12_does_213 : decode cX12_does 213 = .ok (.invokevirtual 121, 3) := by decide +kernel
theorem dX12_does_216 : decode cX12_does 216 = .ok (.sipush 466, 3) := by decide +kernel
theorem dX12_does_219 : decode cX12_does 219 = .ok (.if_icmp .ne 27, 3) := by decide +kernel
theorem dX12_does_222 : decode cX12_does 222 = .ok (.aload_n 0, 1) := by decide +kernel
theorem dX12_does_223 : decode cX12_does 223 = .ok (.bipush 10, 2) := by decide +kernel
theorem dX12_does_225 : decode cX12_does 225 = .ok (.invokevirtual 118, 3) := by decide +kernel
theorem dX12_does_228 : decode cX12_does 228 = .ok (.ifCond .ne 18, 3) := by decide +kernel
theorem dX12_does_231 : decode cX12_does 231 = .ok (.aload_n 0, 1) := by decide +kernel
theorem dX12_does_232 : decode cX12_does 232 = .ok (.iconst 4, 1) := by decide +kernel
theorem dX12_does_233 : decode cX12_does 233 = .ok (.invokevirtual 118, 3) := by decide +kernel
theorem dX12_does_236 : decode cX12_does 236 = .ok (.ifCond .ne 10, 3) := by decide +kernel
theorem dX12_does_239 : decode cX12_does 239 = .ok (.aload_n 0, 1) := by decide +kernel
theorem dX12_does_240 : decode cX12_does 240 = .ok (.invokevirtual 257, 3) := by decide +kernel
theorem dX12_does_243 : decode cX12_does 243 = .ok (.goto 601, 3) := by decide +kernel
theorem dX12_does_246 : decode cX12_does 246 = .ok (.aload_n 0, 1) := by decide +kernel
theorem dX12_does_247 : decode cX12_does 247 = .ok (.bipush 30, 2) := by decide +kernel
theorem dX12_does_249 : decode cX12_does 249 = .ok (.bipush 21, 2) := by decide +kernel
theorem dX12_does_251 : decode cX12_does 251 = .ok (.invokevirtual 121, 3) := by decide +kernel
theorem dX12_does_254 : decode cX12_does 254 = .ok (.sipush 216, 3) := by decide +kernel
theorem dX12_does_257 : decode cX12_does 257 = .ok (.if_icmp .ne 10, 3) := by decide +kernel
theorem dX12_does_260 : decode cX12_does 260 = .ok (.aload_n 0, 1) := by decide +kernel
theorem dX12_does_261 : decode cX12_does 261 = .ok (.invokevirtual 260, 3) := by decide +kernel
theorem dX12_does_264 : decode cX12_does 264 = .ok (.goto 580, 3) := by decide +kernel
theorem dX12_does_267 : decode cX12_does 267 = .ok (.aload_n 0, 1) := by decide +kernel
theorem dX12_does_268 : decode cX12_does 268 = .ok (.bipush 31, 2) := by decide +kernel
theorem dX12_does_270 : decode cX12_does 270 = .ok (.bipush 24, 2) := by decide +kernel
theorem dX12_does_272 : decode cX12_does 272 = .ok (.invokevirtual 121, 3) := by decide +kernel
theorem dX12_does_275 : decode cX12_does 275 = .ok (.sipush 155, 3) := by decide +kernel
theorem dX12_does_278 : decode cX12_does 278 = .ok (.if_icmp .ne 35, 3) := by decide +kernel
theorem dX12_does_281 : decode cX12_does 281 = .ok (.aload_n 0, 1) := by decide +kernel
theorem dX12_does_282 : decode cX12_does 282 = .ok (.bipush 22, 2) := by decide +kernel
theorem dX12_does_284 : decode cX12_does 284 = .ok (.bipush 21, 2) := by decide +kernel
theorem dX12_does_286 : decode cX12_does 286 = .ok (.invokevirtual 121, 3) := by decide +kernel
theorem dX12_does_289 : decode cX12_does 289 = .ok (.iconst 2, 1) := by decide +kernel
theorem dX12_does_290 : decode cX12_does 290 = .ok (.if_icmp .ne 23, 3) := by decide +kernel
theorem dX12_does_293 : decode cX12_does 293 = .ok (.aload_n 0, 1) := by decide +kernel
theorem dX12_does_294 : decode cX12_does 294 = .ok (.bipush 15, 2) := by decide +kernel
theorem dX12_does_296 : decode cX12_does 296 = .ok (.bipush 10, 2) := by decide +kernel
theorem dX12_does_298 : decode cX12_does 298 = .ok (.invokevirtual 121, 3) := by decide +kernel
theorem dX12_does_301 : decode cX12_does 301 = .ok (.bipush 31, 2) := by decide +kernel
theorem dX12_does_303 : decode cX12_does 303 = .ok (.if_icmp .ne 10, 3) := by decide +kernel
theorem dX12_does_306 : decode cX12_does 306 = .ok (.aload_n 0, 1) := by decide +kernel
theorem dX12_does_307 : decode cX12_does 307 = .ok (.invokevirtual 263, 3) := by decide +kernel
theorem dX12_does_310 : decode cX12_does 310 = .ok (.goto 534, 3) := by decide +kernel
theorem dX12_does_313 : decode cX12_does 313 = .ok (.aload_n 0, 1) := by decide +kernel
theorem dX12_does_314 : decode cX12_does 314 = .ok (.bipush 30, 2) := by decide +kernel
theorem dX12_does_316 : decode cX12_does 316 = .ok (.bipush 21, 2) := by decide +kernel
theorem dX12_does_318 : decode cX12_does 318 = .ok (.invokevirtual 121, 3) := by decide +kernel
theorem dX12_does_321 : decode cX12_does 321 = .ok (.sipush 214, 3) := by decide +kernel
theorem dX12_does_324 : decode cX12_does 324 = .ok (.if_icmp .ne 10, 3) := by decide +kernel
theorem dX12_does_327 : decode cX12_does 327 = .ok (.aload_n 0, 1) := by decide +kernel
theorem dX12_does_328 : decode cX12_does 328 = .ok (.invokevirtual 266, 3) := by decide +kernel
theorem dX12_does_331 : decode cX12_does 331 = .ok (.goto 513, 3) := by decide +kernel
theorem dX12_does_334 : decode cX12_does 334 = .ok (.aload_n 0, 1) := by decide +kernel
theorem dX12_does_335 : decode cX12_does 335 = .ok (.bipush 30, 2) := by decide +kernel
theorem dX12_does_337 : decode cX12_does 337 = .ok (.bipush 16, 2) := by decide +kernel
theorem dX12_does_339 : decode cX12_does 339 = .ok (.invokevirtual 121, 3) := by decide +kernel
theorem dX12_does_342 : decode cX12_does 342 = .ok (.sipush 23232, 3) := by decide +kernel
theorem dX12_does_345 : decode cX12_does 345 = .ok (.if_icmp .ne 10, 3) := by decide +kernel
theorem dX12_does_348 : decode cX12_does 348 = .ok (.aload_n 0, 1) := by decide +kernel
theorem dX12_does_349 : decode cX12_does 349 = .ok (.invokevirtual 269, 3) := by decide +kernel
theorem dX12_does_352 : decode cX12_does 352 = .ok (.goto 492, 3) := by decide +kernel
theorem dX12_does_355 : decode cX12_does 355 = .ok (.aload_n 0, 1) := by decide +kernel
theorem dX12_does_356 : decode cX12_does 356 = .ok (.bipush 30, 2) := by decide +kernel
theorem dX12_does_358 : decode cX12_does 358 = .ok (.bipush 26, 2) := by decide +kernel
theorem dX12_does_360 : decode cX12_does 360 = .ok (.invokevirtual 121, 3) := by decide +kernel
theorem dX12_does_363 : decode cX12_does 363 = .ok (.iconst 5, 1) := by decide +kernel
theorem dX12_does_364 : decode cX12_does 364 = .ok (.if_icmp .ne 10, 3) := by decide +kernel
theorem dX12_does_367 : decode cX12_does 367 = .ok (.aload_n 0, 1) := by decide +kernel
theorem dX12_does_368 : decode cX12_does 368 = .ok (.invokevirtual 272, 3) := by decide +kernel
theorem dX12_does_371 : decode cX12_does 371 = .ok (.goto 473, 3) := by decide +kernel
theorem dX12_does_374 : decode cX12_does 374 = .ok (.aload_n 0, 1) := by decide +kernel
theorem dX12_does_375 : decode cX12_does 375 = .ok (.bipush 31, 2) := by decide +kernel
theorem dX12_does_377 : decode cX12_does 377 = .ok (.bipush 24, 2) := by decide +kernel
theorem dX12_does_379 : decode cX12_does 379 = .ok (.invokevirtual 121, 3) := by decide +kernel
theorem dX12_does_382 : decode cX12_does 382 = .ok (.bipush 84, 2) := by decide +kernel
theorem dX12_does_384 : decode cX12_does 384 = .ok (.if_icmp .ne 49, 3) := by decide +kernel
theorem dX12_does_387 : decode cX12_does 387 = .ok (.aload_n 0, 1) := by decide +kernel
theorem dX12_does_388 : decode cX12_does 388 = .ok (.iconst 4, 1) := by decide +kernel
theorem dX12_does_389 : decode cX12_does 389 = .ok (.invokevirtual 118, 3) := by decide +kernel
theorem dX12_does_392 : decode cX12_does 392 = .ok (.ifCond .ne 41, 3) := by decide +kernel
theorem dX12_does_395 : decode cX12_does 395 = .ok (.aload_n 0, 1) := by decide +kernel
theorem dX12_does_396 : decode cX12_does 396 = .ok (.aload_n 0, 1) := by decide +kernel
theorem dX12_does_397 : decode cX12_does 397 = .ok (.iconst 3, 1) := by decide +kernel
theorem dX12_does_398 : decode cX12_does 398 = .ok (.iconst 0, 1) := by decide +kernel
theorem dX12_does_399 : decode cX12_does 399 = .ok (.invokevirtual 121, 3) := by decide +kernel
theorem dX12_does_402 : decode cX12_does 402 = .ok (.invokevirtual 176, 3) := by decide +kernel
theorem dX12_does_405 : decode cX12_does 405 = .ok (.ifCond .eq 439, 3) := by decide +kernel
theorem dX12_does_408 : decode cX12_does 408 = .ok (.aload_n 0, 1) := by decide +kernel
theorem dX12_does_409 : decode cX12_does 409 = .ok (.aload_n 0, 1) := by decide +kernel
theorem dX12_does_410 : decode cX12_does 410 = .ok (.getfield 22, 3) := by decide +kernel
theorem dX12_does_413 : decode cX12_does 413 = .ok (.iconst 2, 1) := by decide +kernel
theorem dX12_does_414 : decode cX12_does 414 = .ok (.laload, 1) := by decide +kernel
theorem dX12_does_415 : decode cX12_does 415 = .ok (.ldc2_w 90, 3) := by decide +kernel
theorem dX12_does_418 : decode cX12_does 418 = .ok (.aload_n 0, 1) := by decide +kernel
theorem dX12_does_419 : decode cX12_does 419 = .ok (.bipush 23, 2) := by decide +kernel
theorem dX12_does_421 : decode cX12_does 421 = .ok (.iconst 5, 1) := by decide +kernel
theorem dX12_does_422 : decode cX12_does 422 = .ok (.invokevirtual 191, 3) := by decide +kernel
theorem dX12_does_425 : decode cX12_does 425 = .ok (.lmul, 1) := by decide +kernel
theorem dX12_does_426 : decode cX12_does 426 = .ok (.ladd, 1) := by decide +kernel
theorem dX12_does_427 : decode cX12_does 427 = .ok (.invokevirtual 194, 3) := by decide +kernel
theorem dX12_does_430 : decode cX12_does 430 = .ok (.goto 414, 3) := by decide +kernel
theorem dX12_does_433 : decode cX12_does 433 = .ok (.aload_n 0, 1) := by decide +kernel
theorem dX12_does_434 : decode cX12_does 434 = .ok (.bipush 30, 2) := by decide +kernel
theorem dX12_does_436 : decode cX12_does 436 = .ok (.bipush 25, 2) := by decide +kernel
theorem dX12_does_438 : decode cX12_does 438 = .ok (.invokevirtual 121, 3) := by decide +kernel
theorem dX12_does_441 : decode cX12_does 441 = .ok (.bipush 26, 2) := by decide +kernel
theorem dX12_does_443 : decode cX12_does 443 = .ok (.if_icmp .ne 10, 3) := by decide +kernel
theorem dX12_does_446 : decode cX12_does 446 = .ok (.aload_n 0, 1) := by decide +kernel
theorem dX12_does_447 : decode cX12_does 447 = .ok (.invokevirtual 275, 3) := by decide +kernel
theorem dX12_does_450 : decode cX12_does 450 = .ok (.goto 394, 3) := by decide +kernel
theorem dX12_does_453 : decode cX12_does 453 = .ok (.aload_n 0, 1) := by decide +kernel
theorem dX12_does_454 : decode cX12_does 454 = .ok (.bipush 30, 2) := by decide +kernel
theorem dX12_does_456 : decode cX12_does 456 = .ok (.bipush 25, 2) := by decide +kernel
theorem dX12_does_458 : decode cX12_does 458 = .ok (.invokevirtual 121, 3) := by decide +kernel
theorem dX12_does_461 : decode cX12_does 461 = .ok (.bipush 27, 2) := by decide +kernel
theorem dX12_does_463 : decode cX12_does 463 = .ok (.if_icmp .ne 10, 3) := by decide +kernel
theorem dX12_does_466 : decode cX12_does 466 = .ok (.aload_n 0, 1) := by decide +kernel
theorem dX12_does_467 : decode cX12_does 467 = .ok (.invokevirtual 278, 3) := by decide +kernel
theorem dX12_does_470 : decode cX12_does 470 = .ok (.goto 374, 3) := by decide +kernel
theorem dX12_does_473 : decode cX12_does 473 = .ok (.aload_n 0, 1) := by decide +kernel
theorem dX12_does_474 : decode cX12_does 474 = .ok (.bipush 31, 2) := by decide +kernel
theorem dX12_does_476 : decode cX12_does 476 = .ok (.bipush 23, 2) := by decide +kernel
theorem dX12_does_478 : decode cX12_does 478 = .ok (.invokevirtual 121, 3) := by decide +kernel
theorem dX12_does_481 : decode cX12_does 481 = .ok (.sipush 428, 3) := by decide +kernel
theorem dX12_does_484 : decode cX12_does 484 = .ok (.if_icmp .ne 33, 3) := by decide +kernel
theorem dX12_does_487 : decode cX12_does 487 = .ok (.aload_n 0, 1) := by decide +kernel
theorem dX12_does_488 : decode cX12_does 488 = .ok (.bipush 20, 2) := by decide +kernel
theorem dX12_does_490 : decode cX12_does 490 = .ok (.bipush 10, 2) := by decide +kernel
theorem dX12_does_492 : decode cX12_does 492 = .ok (.invokevirtual 121, 3) := by decide +kernel
theorem dX12_does_495 : decode cX12_does 495 = .ok (.sipush 1984, 3) := by decide +kernel
theorem dX12_does_498 : decode cX12_does 498 = .ok (.if_icmp .ne 19, 3) := by decide +kernel
theorem dX12_does_501 : decode cX12_does 501 = .ok (.aload_n 0, 1) := by decide +kernel
theorem dX12_does_502 : decode cX12_does 502 = .ok (.iconst 4, 1) := by decide +kernel
theorem dX12_does_503 : decode cX12_does 503 = .ok (.iconst 0, 1) := by decide +kernel
theorem dX12_does_504 : decode cX12_does 504 = .ok (.invokevirtual 121, 3) := by decide +kernel
theorem dX12_does_507 : decode cX12_does 507 = .ok (.ifCond .ne 10, 3) := by decide +kernel
theorem dX12_does_510 : decode cX12_does 510 = .ok (.aload_n 0, 1) := by decide +kernel
theorem dX12_does_511 : decode cX12_does 511 = .ok (.invokevirtual 281, 3) := by decide +kernel
theorem dX12_does_514 : decode cX12_does 514 = .ok (.goto 330, 3) := by decide +kernel
theorem dX12_does_517 : decode cX12_does 517 = .ok (.aload_n 0, 1) := by decide +kernel
theorem dX12_does_518 : decode cX12_does 518 = .ok (.bipush 29, 2) := by decide +kernel
theorem dX12_does_520 : decode cX12_does 520 = .ok (.bipush 24, 2) := by decide +kernel
theorem dX12_does_522 : decode cX12_does 522 = .ok (.invokevirtual 121, 3) := by decide +kernel
theorem dX12_does_525 : decode cX12_does 525 = .ok (.bipush 57, 2) := by decide +kernel
theorem dX12_does_527 : decode cX12_does 527 = .ok (.if_icmp .eq 16, 3) := by decide +kernel
theorem dX12_does_530 : decode cX12_does 530 = .ok (.aload_n 0, 1) := by decide +kernel
theorem dX12_does_531 : decode cX12_does 531 = .ok (.bipush 29, 2) := by decide +kernel
theorem dX12_does_533 : decode cX12_does 533 = .ok (.bipush 24, 2) := by decide +kernel
theorem dX12_does_535 : decode cX12_does 535 = .ok (.invokevirtual 121, 3) := by decide +kernel
theorem dX12_does_538 : decode cX12_does 538 = .ok (.bipush 56, 2) := by decide +kernel
theorem dX12_does_540 : decode cX12_does 540 = .ok (.if_icmp .ne 10, 3) := by decide +kernel
theorem dX12_does_543 : decode cX12_does 543 = .ok (.aload_n 0, 1) := by decide +kernel
theorem dX12_does_544 : decode cX12_does 544 = .ok (.invokevirtual 284, 3) := by decide +kernel
theorem dX12_does_547 : decode cX12_does 547 = .ok (.goto 297, 3) := by decide +kernel
theorem dX12_does_550 : decode cX12_does 550 = .ok (.aload_n 0, 1) := by decide +kernel
theorem dX12_does_551 : decode cX12_does 551 = .ok (.bipush 29, 2) := by decide +kernel
theorem dX12_does_553 : decode cX12_does 553 = .ok (.bipush 25, 2) := by decide +kernel
theorem dX12_does_555 : decode cX12_does 555 = .ok (.invokevirtual 121, 3) := by decide +kernel
theorem dX12_does_558 : decode cX12_does 558 = .ok (.bipush 20, 2) := by decide +kernel
theorem dX12_does_560 : decode cX12_does 560 = .ok (.if_icmp .ne 10, 3) := by decide +kernel
theorem dX12_does_563 : decode cX12_does 563 = .ok (.aload_n 0, 1) := by decide +kernel
theorem dX12_does_564 : decode cX12_does 564 = .ok (.invokevirtual 287, 3) := by decide +kernel
theorem dX12_does_567 : decode cX12_does 567 = .ok (.goto 277, 3) := by decide +kernel
theorem dX12_does_570 : decode cX12_does 570 = .ok (.aload_n 0, 1) := by decide +kernel
theorem dX12_does_571 : decode cX12_does 571 = .ok (.bipush 29, 2) := by decide +kernel
theorem dX12_does_573 : decode cX12_does 573 = .ok (.bipush 24, 2) := by decide +kernel
theorem dX12_does_575 : decode cX12_does 575 = .ok (.invokevirtual 121, 3) := by decide +kernel
theorem dX12_does_578 : decode cX12_does 578 = .ok (.bipush 24, 2) := by decide +kernel
theorem dX12_does_580 : decode cX12_does 580 = .ok (.if_icmp .ne 19, 3) := by decide +kernel
theorem dX12_does_583 : decode cX12_does 583 = .ok (.aload_n 0, 1) := by decide +kernel
theorem dX12_does_584 : decode cX12_does 584 = .ok (.bipush 31, 2) := by decide +kernel
theorem dX12_does_586 : decode cX12_does 586 = .ok (.invokevirtual 118, 3) := by decide +kernel
theorem dX12_does_589 : decode cX12_does 589 = .ok (.ifCond .ne 10, 3) := by decide +kernel
theorem dX12_does_592 : decode cX12_does 592 = .ok (.aload_n 0, 1) := by decide +kernel
theorem dX12_does_593 : decode cX12_does 593 = .ok (.invokevirtual 290, 3) := by decide +kernel
theorem dX12_does_596 : decode cX12_does 596 = .ok (.goto 248, 3) := by decide +kernel
theorem dX12_does_599 : decode cX12_does 599 = .ok (.aload_n 0, 1) := by decide +kernel
theorem dX12_does_600 : decode cX12_does 600 = .ok (.bipush 31, 2) := by decide +kernel
theorem dX12_does_602 : decode cX12_does 602 = .ok (.bipush 21, 2) := by decide +kernel
theorem dX12_does_604 : decode cX12_does 604 = .ok (.invokevirtual 121, 3) := by decide +kernel
theorem dX12_does_607 : decode cX12_does 607 = .ok (.sipush 1696, 3) := by decide +kernel
theorem dX12_does_610 : decode cX12_does 610 = .ok (.if_icmp .ne 40, 3) := by decide +kernel
theorem dX12_does_613 : decode cX12_does 613 = .ok (.aload_n 0, 1) := by decide +kernel
theorem dX12_does_614 : decode cX12_does 614 = .ok (.iconst 4, 1) := by decide +kernel
theorem dX12_does_615 : decode cX12_does 615 = .ok (.iconst 0, 1) := by decide +kernel
theorem dX12_does_616 : decode cX12_does 616 = .ok (.invokevirtual 121, 3) := by decide +kernel
theorem dX12_does_619 : decode cX12_does 619 = .ok (.iconst 1, 1) := by decide +kernel
theorem dX12_does_620 : decode cX12_does 620 = .ok (.if_icmp .ne 30, 3) := by decide +kernel
theorem dX12_does_623 : decode cX12_does 623 = .ok (.aload_n 0, 1) := by decide +kernel
theorem dX12_does_624 : decode cX12_does 624 = .ok (.bipush 21, 2) := by decide +kernel
theorem dX12_does_626 : decode cX12_does 626 = .ok (.aload_n 0, 1) := by decide +kernel
theorem dX12_does_627 : decode cX12_does 627 = .ok (.bipush 20, 2) := by decide +kernel
theorem dX12_does_629 : decode cX12_does 629 = .ok (.iconst 5, 1) := by decide +kernel
theorem dX12_does_630 : decode cX12_does 630 = .ok (.invokevirtual 121, 3) := by decide +kernel
theorem dX12_does_633 : decode cX12_does 633 = .ok (.i2l, 1) := by decide +kernel
theorem dX12_does_634 : decode cX12_does 634 = .ok (.aload_n 0, 1) := by decide +kernel
theorem dX12_does_635 : decode cX12_does 635 = .ok (.getfield 22, 3) := by decide +kernel
theorem dX12_does_638 : decode cX12_does 638 = .ok (.iconst 2, 1) := by decide +kernel
theorem dX12_does_639 : decode cX12_does 639 = .ok (.laload, 1) := by decide +kernel
theorem dX12_does_640 : decode cX12_does 640 = .ok (.ldc2_w 90, 3) := by decide +kernel
theorem dX12_does_643 : decode cX12_does 643 = .ok (.ladd, 1) := by decide +kernel
theorem dX12_does_644 : decode cX12_does 644 = .ok (.invokevirtual 106, 3) := by decide +kernel
theorem dX12_does_647 : decode cX12_does 647 = .ok (.goto 197, 3) := by decide +kernel
theorem dX12_does_650 : decode cX12_does 650 = .ok (.aload_n 0, 1) := by decide +kernel
theorem dX12_does_651 : decode cX12_does 651 = .ok (.bipush 31, 2) := by decide +kernel
theorem dX12_does_653 : decode cX12_does 653 = .ok (.bipush 21, 2) := by decide +kernel
theorem dX12_does_655 : decode cX12_does 655 = .ok (.invokevirtual 121, 3) := by decide +kernel
theorem dX12_does_658 : decode cX12_does 658 = .ok (.sipush 1697, 3) := by decide +kernel
theorem dX12_does_661 : decode cX12_does 661 = .ok (.if_icmp .ne 35, 3) := by decide +kernel
theorem dX12_does_664 : decode cX12_does 664 = .ok (.aload_n 0, 1) := by decide +kernel
theorem dX12_does_665 : decode cX12_does 665 = .ok (.iconst 4, 1) := by decide +kernel
theorem dX12_does_666 : decode cX12_does 666 = .ok (.iconst 0, 1) := by decide +kernel
theorem dX12_does_667 : decode cX12_does 667 = .ok (.invokevirtual 121, 3) := by decide +kernel
theorem dX12_does_670 : decode cX12_does 670 = .ok (.ifCond .ne 26, 3) := by decide +kernel
theorem dX12_does_673 : decode cX12_does 673 = .ok (.aload_n 0, 1) := by decide +kernel
theorem dX12_does_674 : decode cX12_does 674 = .ok (.bipush 60, 2) := by decide +kernel
theorem dX12_does_676 : decode cX12_does 676 = .ok (.aload_n 0, 1) := by decide +kernel
theorem dX12_does_677 : decode cX12_does 677 = .ok (.bipush 20, 2) := by decide +kernel
theorem dX12_does_679 : decode cX12_does 679 = .ok (.iconst 5, 1) := by decide +kernel
theorem dX12_does_680 : decode cX12_does 680 = .ok (.invokevirtual 121, 3) := by decide +kernel
theorem dX12_does_683 : decode cX12_does 683 = .ok (.i2l, 1) := by decide +kernel
theorem dX12_does_684 : decode cX12_does 684 = .ok (.aload_n 0, 1) := by decide +kernel
theorem dX12_does_685 : decode cX12_does 685 = .ok (.getfield 22, 3) := by decide +kernel
theorem dX12_does_688 : decode cX12_does 688 = .ok (.iconst 2, 1) := by decide +kernel
theorem dX12_does_689 : decode cX12_does 689 = .ok (.laload, 1) := by decide +kernel
theorem dX12_does_690 : decode cX12_does 690 = .ok (.invokevirtual 106, 3) := by decide +kernel
theorem dX12_does_693 : decode cX12_does 693 = .ok (.goto 151, 3) := by decide +kernel
theorem dX12_does_696 : decode cX12_does 696 = .ok (.aload_n 0, 1) := by decide +kernel
theorem dX12_does_697 : decode cX12_does 697 = .ok (.bipush 31, 2) := by decide +kernel
theorem dX12_does_699 : decode cX12_does 699 = .ok (.bipush 13, 2) := by decide +kernel
theorem dX12_does_701 : decode cX12_does 701 = .ok (.invokevirtual 121, 3) := by decide +kernel
theorem dX12_does_704 : decode cX12_does 704 = .ok (.ldc_w 293, 3) := by decide +kernel
theorem dX12_does_707 : decode cX12_does 707 = .ok (.if_icmp .ne 22, 3) := by decide +kernel
theorem dX12_does_710 : decode cX12_does 710 = .ok (.aload_n 0, 1) := by decide +kernel
theorem dX12_does_711 : decode cX12_does 711 = .ok (.iconst 4, 1) := by decide +kernel
theorem dX12_does_712 : decode cX12_does 712 = .ok (.iconst 0, 1) := by decide +kernel
theorem dX12_does_713 : decode cX12_does 713 = .ok (.invokevirtual 121, 3) := by decide +kernel
theorem dX12_does_716 : decode cX12_does 716 = .ok (.bipush 31, 2) := by decide +kernel
theorem dX12_does_718 : decode cX12_does 718 = .ok (.if_icmp .ne 11, 3) := by decide +kernel
theorem dX12_does_721 : decode cX12_does 721 = .ok (.aload_n 0, 1) := by decide +kernel
theorem dX12_does_722 : decode cX12_does 722 = .ok (.iconst 0, 1) := by decide +kernel
theorem dX12_does_723 : decode cX12_does 723 = .ok (.putfield 51, 3) := by decide +kernel
theorem dX12_does_726 : decode cX12_does 726 = .ok (.goto 118, 3) := by decide +kernel
theorem dX12_does_729 : decode cX12_does 729 = .ok (.aload_n 0, 1) := by decide +kernel
theorem dX12_does_730 : decode cX12_does 730 = .ok (.bipush 31, 2) := by decide +kernel
theorem dX12_does_732 : decode cX12_does 732 = .ok (.bipush 16, 2) := by decide +kernel
theorem dX12_does_734 : decode cX12_does 734 = .ok (.invokevirtual 121, 3) := by decide +kernel
theorem dX12_does_737 : decode cX12_does 737 = .ok (.ldc_w 294, 3) := by decide +kernel
theorem dX12_does_740 : decode cX12_does 740 = .ok (.if_icmp .ne 23, 3) := by decide +kernel
theorem dX12_does_743 : decode cX12_does 743 = .ok (.aload_n 0, 1) := by decide +kernel
theorem dX12_does_744 : decode cX12_does 744 = .ok (.bipush 15, 2) := by decide +kernel
theorem dX12_does_746 : decode cX12_does 746 = .ok (.iconst 0, 1) := by decide +kernel
theorem dX12_does_747 : decode cX12_does 747 = .ok (.invokevirtual 121, 3) := by decide +kernel
theorem dX12_does_750 : decode cX12_does 750 = .ok (.sipush 992, 3) := by decide +kernel
theorem dX12_does_753 : decode cX12_does 753 = .ok (.if_icmp .ne 10, 3) := by decide +kernel
theorem dX12_does_756 : decode cX12_does 756 = .ok (.aload_n 0, 1) := by decide +kernel
theorem dX12_does_757 : decode cX12_does 757 = .ok (.invokevirtual 295, 3) := by decide +kernel
theorem dX12_does_760 : decode cX12_does 760 = .ok (.goto 84, 3) := by decide +kernel
theorem dX12_does_763 : decode cX12_does 763 = .ok (.aload_n 0, 1) := by decide +kernel
theorem dX12_does_764 : decode cX12_does 764 = .ok (.bipush 31, 2) := by decide +kernel
theorem dX12_does_766 : decode cX12_does 766 = .ok (.bipush 22, 2) := by decide +kernel
theorem dX12_does_768 : decode cX12_does 768 = .ok (.invokevirtual 121, 3) := by decide +kernel
theorem dX12_does_771 : decode cX12_does 771 = .ok (.sipush 852, 3) := by decide +kernel
theorem dX12_does_774 : decode cX12_does 774 = .ok (.if_icmp .ne 22, 3) := by decide +kernel
theorem dX12_does_777 : decode cX12_does 777 = .ok (.aload_n 0, 1) := by decide +kernel
theorem dX12_does_778 : decode cX12_does 778 = .ok (.bipush 20, 2) := by decide +kernel
theorem dX12_does_780 : decode cX12_does 780 = .ok (.bipush 19, 2) := by decide +kernel
theorem dX12_does_782 : decode cX12_does 782 = .ok (.invokevirtual 121, 3) := by decide +kernel
theorem dX12_does_785 : decode cX12_does 785 = .ok (.iconst 3, 1) := by decide +kernel
theorem dX12_does_786 : decode cX12_does 786 = .ok (.if_icmp .ne 10, 3) := by decide +kernel
theorem dX12_does_789 : decode cX12_does 789 = .ok (.aload_n 0, 1) := by decide +kernel
theorem dX12_does_790 : decode cX12_does 790 = .ok (.invokevirtual 298, 3) := by decide +kernel
theorem dX12_does_793 : decode cX12_does 793 = .ok (.goto 51, 3) := by decide +kernel
theorem dX12_does_796 : decode cX12_does 796 = .ok (.aload_n 0, 1) := by decide +kernel
theorem dX12_does_797 : decode cX12_does 797 = .ok (.bipush 31, 2) := by decide +kernel
theorem dX12_does_799 : decode cX12_does 799 = .ok (.bipush 19, 2) := by decide +kernel
theorem dX12_does_801 : decode cX12_does 801 = .ok (.invokevirtual 121, 3) := by decide +kernel
theorem dX12_does_804 : decode cX12_does 804 = .ok (.sipush 6816, 3) := by decide +kernel
theorem dX12_does_807 : decode cX12_does 807 = .ok (.if_icmp .ne 33, 3) := by decide +kernel
theorem dX12_does_810 : decode cX12_does 810 = .ok (.aload_n 0, 1) := by decide +kernel
theorem dX12_does_811 : decode cX12_does 811 = .ok (.bipush 15, 2) := by decide +kernel
theorem dX12_does_813 : decode cX12_does 813 = .ok (.bipush 12, 2) := by decide +kernel
theorem dX12_does_815 : decode cX12_does 815 = .ok (.invokevirtual 121, 3) := by decide +kernel
theorem dX12_does_818 : decode cX12_does 818 = .ok (.iconst 4, 1) := by decide +kernel
theorem dX12_does_819 : decode cX12_does 819 = .ok (.if_icmp .ne 21, 3) := by decide +kernel
theorem dX12_does_822 : decode cX12_does 822 = .ok (.aload_n 0, 1) := by decide +kernel
theorem dX12_does_823 : decode cX12_does 823 = .ok (.iconst 4, 1) := by decide +kernel
theorem dX12_does_824 : decode cX12_does 824 = .ok (.iconst 0, 1) := by decide +kernel
theorem dX12_does_825 : decode cX12_does 825 = .ok (.invokevirtual 121, 3) := by decide +kernel
theorem dX12_does_828 : decode cX12_does 828 = .ok (.bipush 31, 2) := by decide +kernel
theorem dX12_does_830 : decode cX12_does 830 = .ok (.if_icmp .ne 10, 3) := by decide +kernel
theorem dX12_does_833 : decode cX12_does 833 = .ok (.aload_n 0, 1) := by decide +kernel
theorem dX12_does_834 : decode cX12_does 834 = .ok (.invokevirtual 301, 3) := by decide +kernel
theorem dX12_does_837 : decode cX12_does 837 = .ok (.goto 7, 3) := by decide +kernel
theorem dX12_does_840 : decode cX12_does 840 = .ok (.aload_n 0, 1) := by decide +kernel
theorem dX12_does_841 : decode cX12_does 841 = .ok (.invokevirtual 158, 3) := by decide +kernel
theorem dX12_does_844 : decode cX12_does 844 = .ok (.return_, 1) := by decide +kernel
def F_X12_does_c543 (τ : MS) : Option (MS) := ((F_X12_loads τ).bind fun v21 => some (v21))
def F_X12_does_c840 (τ : MS) : Option (MS) := some ((F_X12_none τ))
def F_X12_does_c796 (τ : MS) : Option (MS) := ((F_X12_f τ (31 : Int32) (19 : Int32)).bind fun v30 => (if v30 = (6816 : Int32) then ((F_X12_f τ (15 : Int32) (12 : Int32)).bind fun v31 => (if v31 = (4 : Int32) then ((F_X12_f τ (4 : Int32) (0 : Int32)).bind fun v32 => (if v32 = (31 : Int32) then ((F_X12_sets τ).bind fun v33 => some (v33)) else (F_X12_does_c840 τ))) else (F_X12_does_c840 τ))) else (F_X12_does_c840 τ)))
def F_X12_does_c763 (τ : MS) : Option (MS) := ((F_X12_f τ (31 : Int32) (22 : Int32)).bind fun v29 => (if v29 = (852 : Int32) then ((F_X12_f τ (20 : Int32) (19 : Int32)).bind fun v34 => (if v34 = (3 : Int32) then ((F_X12_system τ).bind fun v35 => some (v35)) else (F_X12_does_c796 τ))) else (F_X12_does_c796 τ)))
def F_X12_does_c729 (τ : MS) : Option (MS) := ((F_X12_f τ (31 : Int32) (16 : Int32)).bind fun v28 => (if v28 = (54943 : Int32) then ((F_X12_f τ (15 : Int32) (0 : Int32)).bind fun v36 => (if v36 = (992 : Int32) then ((F_X12_back τ).bind fun v37 => some (v37)) else (F_X12_does_c763 τ))) else (F_X12_does_c763 τ)))
def F_X12_does_c696 (τ : MS) : Option (MS) := ((F_X12_f τ (31 : Int32) (13 : Int32)).bind fun v27 => (if v27 = (436249 : Int32) then ((F_X12_f τ (4 : Int32) (0 : Int32)).bind fun v38 => (if v38 = (31 : Int32) then some ((mu_carry τ (0 : Int32))) else (F_X12_does_c729 τ))) else (F_X12_does_c729 τ)))
def F_X12_does_c650 (τ : MS) : Option (MS) := ((F_X12_f τ (31 : Int32) (21 : Int32)).bind fun v26 => (if v26 = (1697 : Int32) then ((F_X12_f τ (4 : Int32) (0 : Int32)).bind fun v39 => (if v39 = 0 then ((F_X12_f τ (20 : Int32) (5 : Int32)).bind fun v40 => some ((F_X12_exception τ (60 : Int32) v40.toInt64 (m_state τ (2 : Int32).toNatClampNeg)))) else (F_X12_does_c696 τ))) else (F_X12_does_c696 τ)))
def F_X12_does_c599 (τ : MS) : Option (MS) := ((F_X12_f τ (31 : Int32) (21 : Int32)).bind fun v25 => (if v25 = (1696 : Int32) then ((F_X12_f τ (4 : Int32) (0 : Int32)).bind fun v41 => (if v41 = (1 : Int32) then ((F_X12_f τ (20 : Int32) (5 : Int32)).bind fun v42 => some ((F_X12_exception τ (21 : Int32) v42.toInt64 ((m_state τ (2 : Int32).toNatClampNeg) + (4 : Int64))))) else (F_X12_does_c650 τ))) else (F_X12_does_c650 τ)))
def F_X12_does_c517 (τ : MS) : Option (MS) := ((F_X12_f τ (29 : Int32) (24 : Int32)).bind fun v20 => (if v20 = (57 : Int32) then (F_X12_does_c543 τ) else ((F_X12_f τ (29 : Int32) (24 : Int32)).bind fun v22 => (if v22 = (56 : Int32) then (F_X12_does_c543 τ) else ((F_X12_f τ (29 : Int32) (25 : Int32)).bind fun v23 => (if v23 = (20 : Int32) then ((F_X12_pair τ).bind fun v44 => some (v44)) else ((F_X12_f τ (29 : Int32) (24 : Int32)).bind fun v24 => (if v24 = (24 : Int32) then (if (F_X12_on τ (31 : Int32)) = true then (F_X12_does_c599 τ) else ((F_X12_near τ).bind fun v43 => some (v43))) else (F_X12_does_c599 τ)))))))))
def F_X12_does_c433 (τ : MS) : Option (MS) := ((F_X12_f τ (30 : Int32) (25 : Int32)).bind fun v17 => (if v17 = (26 : Int32) then ((F_X12_zero τ).bind fun v49 => some (v49)) else ((F_X12_f τ (30 : Int32) (25 : Int32)).bind fun v18 => (if v18 = (27 : Int32) then ((F_X12_byBit τ).bind fun v48 => some (v48)) else ((F_X12_f τ (31 : Int32) (23 : Int32)).bind fun v19 => (if v19 = (428 : Int32) then ((F_X12_f τ (20 : Int32) (10 : Int32)).bind fun v45 => (if v45 = (1984 : Int32) then ((F_X12_f τ (4 : Int32) (0 : Int32)).bind fun v46 => (if v46 = 0 then ((F_X12_toRegister τ).bind fun v47 => some (v47)) else (F_X12_does_c517 τ))) else (F_X12_does_c517 τ))) else (F_X12_does_c517 τ)))))))
def F_X12_does_c313 (τ : MS) : Option (MS) := ((F_X12_f τ (30 : Int32) (21 : Int32)).bind fun v13 => (if v13 = (214 : Int32) then ((F_X12_two τ).bind fun v54 => some (v54)) else ((F_X12_f τ (30 : Int32) (16 : Int32)).bind fun v14 => (if v14 = (23232 : Int32) then ((F_X12_one τ).bind fun v53 => some (v53)) else ((F_X12_f τ (30 : Int32) (26 : Int32)).bind fun v15 => (if v15 = (5 : Int32) then ((F_X12_branch τ).bind fun v52 => some (v52)) else ((F_X12_f τ (31 : Int32) (24 : Int32)).bind fun v16 => (if v16 = (84 : Int32) then (if (F_X12_on τ (4 : Int32)) = true then (F_X12_does_c433 τ) else ((F_X12_f τ (3 : Int32) (0 : Int32)).bind fun v50 => (if (F_X12_holds τ v50) = true then ((F_X12_signed τ (23 : Int32) (5 : Int32)).bind fun v51 => some ((F_X12_goes τ ((m_state τ (2 : Int32).toNatClampNeg) + ((4 : Int64) * v51))))) else some (τ)))) else (F_X12_does_c433 τ)))))))))
def F_X12_does_c246 (τ : MS) : Option (MS) := ((F_X12_f τ (30 : Int32) (21 : Int32)).bind fun v11 => (if v11 = (216 : Int32) then ((F_X12_times τ).bind fun v58 => some (v58)) else ((F_X12_f τ (31 : Int32) (24 : Int32)).bind fun v12 => (if v12 = (155 : Int32) then ((F_X12_f τ (22 : Int32) (21 : Int32)).bind fun v55 => (if v55 = (2 : Int32) then ((F_X12_f τ (15 : Int32) (10 : Int32)).bind fun v56 => (if v56 = (31 : Int32) then ((F_X12_highOf τ).bind fun v57 => some (v57)) else (F_X12_does_c313 τ))) else (F_X12_does_c313 τ))) else (F_X12_does_c313 τ)))))
def F_X12_does_c208 (τ : MS) : Option (MS) := ((F_X12_f τ (29 : Int32) (21 : Int32)).bind fun v10 => (if v10 = (466 : Int32) then (if (F_X12_on τ (10 : Int32)) = true then (F_X12_does_c246 τ) else (if (F_X12_on τ (4 : Int32)) = true then (F_X12_does_c246 τ) else ((F_X12_compare τ).bind fun v59 => some (v59)))) else (F_X12_does_c246 τ)))
def F_X12_does_c178 (τ : MS) : Option (MS) := ((F_X12_f τ (29 : Int32) (21 : Int32)).bind fun v9 => (if v9 = (212 : Int32) then (if (F_X12_on τ (11 : Int32)) = true then (F_X12_does_c208 τ) else ((F_X12_choose τ).bind fun v60 => some (v60))) else (F_X12_does_c208 τ)))
def F_X12_does_c49 (τ : MS) : Option (MS) := ((F_X12_f τ (28 : Int32) (24 : Int32)).bind fun v3 => (if v3 = (10 : Int32) then ((F_X12_logic τ).bind fun v66 => some (v66)) else ((F_X12_f τ (28 : Int32) (23 : Int32)).bind fun v4 => (if v4 = (36 : Int32) then ((F_X12_masks τ).bind fun v65 => some (v65)) else ((F_X12_f τ (28 : Int32) (23 : Int32)).bind fun v5 => (if v5 = (37 : Int32) then ((F_X12_move τ).bind fun v64 => some (v64)) else ((F_X12_f τ (28 : Int32) (24 : Int32)).bind fun v6 => (if v6 = (16 : Int32) then ((F_X12_placeOf τ).bind fun v63 => some (v63)) else ((F_X12_f τ (28 : Int32) (23 : Int32)).bind fun v7 => (if v7 = (38 : Int32) then ((F_X12_bitsOf τ).bind fun v62 => some (v62)) else ((F_X12_f τ (30 : Int32) (23 : Int32)).bind fun v8 => (if v8 = (39 : Int32) then (if (F_X12_on τ (21 : Int32)) = true then (F_X12_does_c178 τ) else ((F_X12_twice τ).bind fun v61 => some (v61))) else (F_X12_does_c178 τ)))))))))))))
def F_X12_does (σ : MS)  : Option (MS) := ((F_X12_f σ (28 : Int32) (23 : Int32)).bind fun v1 => (if v1 = (34 : Int32) then ((F_X12_number σ).bind fun v68 => some (v68)) else ((F_X12_f σ (28 : Int32) (24 : Int32)).bind fun v2 => (if v2 = (11 : Int32) then (if (F_X12_on σ (21 : Int32)) = true then (F_X12_does_c49 σ) else ((F_X12_sums σ).bind fun v67 => some (v67))) else (F_X12_does_c49 σ)))))
set_option maxHeartbeats 4000000 in
set_option maxRecDepth 100000 in
theorem c_X12_does (l : Launch) (z : Cx) (r : Nat → Nat) (σ : MS) (sz : Nat) (res : MS) (hf : F_X12_does σ = some res) : Met l yX12_does (wsC yX12_does cX12_does 1 none) { frames := 6, cells := 0, slots := 0, locals := 170 } (mPc z (mW z r σ) sz [.ref (r 0)]) (gM z (va_A (mW z r σ) sz) none (mW z r res)) 0 0 (va_A (mW z r σ) sz) := by
  refine mk_m_v (own := RX12) (wf := mW z r) (by decide) rfl sz _ (Nat.le_of_ble_eq_true rfl) (fun p e s m below meth c A H locs Q ls S hK hA hP hD hS hl hend => ?_)
  have hx := S.1
  have hb := S.2.1
  have hown := S.2.2.2.1
  have hts := S.2.2.2.2
  have hl : lv_has ls 1 [(0, .ref (r 0))] := hl
  have J_c543 : ∀ (τ : MS) (H : Heap) (locs : List Loc) (ls : Array Slot), F_X12_does_c543 τ = some res → va_P z.1 vwCl (mW z r τ) H → va_D A (mW z r τ) → va_S A s.heap H locs → lv_has ls 1 [(0, .ref (r 0))] → W p l e { frames := 6, cells := 0, slots := 0, locals := 170 } s m ([.ref (r 0)] : List Value).toArray below meth c H locs 0 0 Q (F0 m 543 ls []) := by
    intro τ H locs ls hf hP hD hS hl
    unfold F_X12_does_c543 at hf
    refine lv_aload_n hx hb dX12_does_543 rfl (lv_at hl 0 rfl) ?_
    obtain ⟨v21, e_v21, hf⟩ := Option.bind_eq_some_iff.mp hf
    refine k_X12_loads (res := v21) (hres := e_v21) S hK hA hP hD hS tl_X12_284 ⟨Nat.le_of_ble_eq_true rfl, Nat.le_of_ble_eq_true rfl⟩ hl.1 (Nat.le_of_ble_eq_true rfl) dX12_does_544 (fun H locs hP hD hS => ?_)
    refine lv_goto (tgt := 844) hx hb dX12_does_547 (by decide) ?_
    exact hend v21 H locs 844 ls (Option.some.inj hf) hP hD hS dX12_does_844
  have J_c840 : ∀ (τ : MS) (H : Heap) (locs : List Loc) (ls : Array Slot), F_X12_does_c840 τ = some res → va_P z.1 vwCl (mW z r τ) H → va_D A (mW z r τ) → va_S A s.heap H locs → lv_has ls 1 [(0, .ref (r 0))] → W p l e { frames := 6, cells := 0, slots := 0, locals := 170 } s m ([.ref (r 0)] : List Value).toArray below meth c H locs 0 0 Q (F0 m 840 ls []) := by
    intro τ H locs ls hf hP hD hS hl
    unfold F_X12_does_c840 at hf
    refine lv_aload_n hx hb dX12_does_840 rfl (lv_at hl 0 rfl) ?_
    refine k_X12_none S hK hA hP hD hS tl_X12_158 ⟨Nat.le_of_ble_eq_true rfl, Nat.le_of_ble_eq_true rfl⟩ hl.1 (Nat.le_of_ble_eq_true rfl) dX12_does_841 (fun H locs hP hD hS => ?_)
    exact hend (F_X12_none τ) H locs 844 ls (Option.some.inj hf) hP hD hS dX12_does_844
  have J_c796 : ∀ (τ : MS) (H : Heap) (locs : List Loc) (ls : Array Slot), F_X12_does_c796 τ = some res → va_P z.1 vwCl (mW z r τ) H → va_D A (mW z r τ) → va_S A s.heap H locs → lv_has ls 1 [(0, .ref (r 0))] → W p l e { frames := 6, cells := 0, slots := 0, locals := 170 } s m ([.ref (r 0)] : List Value).toArray below meth c H locs 0 0 Q (F0 m 796 ls []) := by
    intro τ H locs ls hf hP hD hS hl
    unfold F_X12_does_c796 at hf
    refine lv_aload_n hx hb dX12_does_796 rfl (lv_at hl 0 rfl) ?_
    refine lv_bipush (v := 31) hx hb dX12_does_797 (by decide) ?_
    refine lv_bipush (v := 19) hx hb dX12_does_799 (by decide) ?_
    obtain ⟨v30, e_v30, hf⟩ := Option.bind_eq_some_iff.mp hf
    refine k_X12_f (a0 := (31 : Int32)) (a1 := (19 : Int32)) (res := v30) (hres := e_v30) S hK hP tl_X12_121 ⟨Nat.le_of_ble_eq_true rfl, Nat.le_of_ble_eq_true rfl⟩ hl.1 (Nat.le_of_ble_eq_true rfl) dX12_does_801 ?_
    refine lv_sipush (v := 6816) hx hb dX12_does_804 (by decide) ?_
    refine lv_icmp_ne (tgt := 840) hx hb dX12_does_807 (by decide) (fun c_807 => ?_) (fun c_807 => ?_)
    · rw [if_neg c_807] at hf
      exact J_c840 τ H locs ls hf hP hD hS (lv_sub hl [0] rfl)
    · rw [if_pos c_807] at hf
      refine lv_aload_n hx hb dX12_does_810 rfl (lv_at hl 0 rfl) ?_
      refine lv_bipush (v := 15) hx hb dX12_does_811 (by decide) ?_
      refine lv_bipush (v := 12) hx hb dX12_does_813 (by decide) ?_
      obtain ⟨v31, e_v31, hf⟩ := Option.bind_eq_some_iff.mp hf
      refine k_X12_f (a0 := (15 : Int32)) (a1 := (12 : Int32)) (res := v31) (hres := e_v31) S hK hP tl_X12_121 ⟨Nat.le_of_ble_eq_true rfl, Nat.le_of_ble_eq_true rfl⟩ hl.1 (Nat.le_of_ble_eq_true rfl) dX12_does_815 ?_
      refine lv_iconst (v := 4) hx hb dX12_does_818 (by decide) ?_
      refine lv_icmp_ne (tgt := 840) hx hb dX12_does_819 (by decide) (fun c_819 => ?_) (fun c_819 => ?_)
      · rw [if_neg c_819] at hf
        exact J_c840 τ H locs ls hf hP hD hS (lv_sub hl [0] rfl)
      · rw [if_pos c_819] at hf
        refine lv_aload_n hx hb dX12_does_822 rfl (lv_at hl 0 rfl) ?_
        refine lv_iconst (v := 4) hx hb dX12_does_823 (by decide) ?_
        refine lv_iconst (v := 0) hx hb dX12_does_824 (by decide) ?_
        obtain ⟨v32, e_v32, hf⟩ := Option.bind_eq_some_iff.mp hf
        refine k_X12_f (a0 := (4 : Int32)) (a1 := (0 : Int32)) (res := v32) (hres := e_v32) S hK hP tl_X12_121 ⟨Nat.le_of_ble_eq_true rfl, Nat.le_of_ble_eq_true rfl⟩ hl.1 (Nat.le_of_ble_eq_true rfl) dX12_does_825 ?_
        refine lv_bipush (v := 31) hx hb dX12_does_828 (by decide) ?_
        refine lv_icmp_ne (tgt := 840) hx hb dX12_does_830 (by decide) (fun c_830 => ?_) (fun c_830 => ?_)
        · rw [if_neg c_830] at hf
          exact J_c840 τ H locs ls hf hP hD hS (lv_sub hl [0] rfl)
        · rw [if_pos c_830] at hf
          refine lv_aload_n hx hb dX12_does_833 rfl (lv_at hl 0 rfl) ?_
          obtain ⟨v33, e_v33, hf⟩ := Option.bind_eq_some_iff.mp hf
          refine k_X12_sets (res := v33) (hres := e_v33) S hK hA hP hD hS tl_X12_301 ⟨Nat.le_of_ble_eq_true rfl, Nat.le_of_ble_eq_true rfl⟩ hl.1 (Nat.le_of_ble_eq_true rfl) dX12_does_834 (fun H locs hP hD hS => ?_)
          refine lv_goto (tgt := 844) hx hb dX12_does_837 (by decide) ?_
          exact hend v33 H locs 844 ls (Option.some.inj hf) hP hD hS dX12_does_844
  have J_c763 : ∀ (τ : MS) (H : Heap) (locs : List Loc) (ls : Array Slot), F_X12_does_c763 τ = some res → va_P z.1 vwCl (mW z r τ) H → va_D A (mW z r τ) → va_S A s.heap H locs → lv_has ls 1 [(0, .ref (r 0))] → W p l e { frames := 6, cells := 0, slots := 0, locals := 170 } s m ([.ref (r 0)] : List Value).toArray below meth c H locs 0 0 Q (F0 m 763 ls []) := by
    intro τ H locs ls hf hP hD hS hl
    unfold F_X12_does_c763 at hf
    refine lv_aload_n hx hb dX12_does_763 rfl (lv_at hl 0 rfl) ?_
    refine lv_bipush (v := 31) hx hb dX12_does_764 (by decide) ?_
    refine lv_bipush (v := 22) hx hb dX12_does_766 (by decide) ?_
    obtain ⟨v29, e_v29, hf⟩ := Option.bind_eq_some_iff.mp hf
    refine k_X12_f (a0 := (31 : Int32)) (a1 := (22 : Int32)) (res := v29) (hres := e_v29) S hK hP tl_X12_121 ⟨Nat.le_of_ble_eq_true rfl, Nat.le_of_ble_eq_true rfl⟩ hl.1 (Nat.le_of_ble_eq_true rfl) dX12_does_768 ?_
    refine lv_sipush (v := 852) hx hb dX12_does_771 (by decide) ?_
    refine lv_icmp_ne (tgt := 796) hx hb dX12_does_774 (by decide) (fun c_774 => ?_) (fun c_774 => ?_)
    · rw [if_neg c_774] at hf
      exact J_c796 τ H locs ls hf hP hD hS (lv_sub hl [0] rfl)
    · rw [if_pos c_774] at hf
      refine lv_aload_n hx hb dX12_does_777 rfl (lv_at hl 0 rfl) ?_
      refine lv_bipush (v := 20) hx hb dX12_does_778 (by decide) ?_
      refine lv_bipush (v := 19) hx hb dX12_does_780 (by decide) ?_
      obtain ⟨v34, e_v34, hf⟩ := Option.bind_eq_some_iff.mp hf
      refine k_X12_f (a0 := (20 : Int32)) (a1 := (19 : Int32)) (res := v34) (hres := e_v34) S hK hP tl_X12_121 ⟨Nat.le_of_ble_eq_true rfl, Nat.le_of_ble_eq_true rfl⟩ hl.1 (Nat.le_of_ble_eq_true rfl) dX12_does_782 ?_
      refine lv_iconst (v := 3) hx hb dX12_does_785 (by decide) ?_
      refine lv_icmp_ne (tgt := 796) hx hb dX12_does_786 (by decide) (fun c_786 => ?_) (fun c_786 => ?_)
      · rw [if_neg c_786] at hf
        exact J_c796 τ H locs ls hf hP hD hS (lv_sub hl [0] rfl)
      · rw [if_pos c_786] at hf
        refine lv_aload_n hx hb dX12_does_789 rfl (lv_at hl 0 rfl) ?_
        obtain ⟨v35, e_v35, hf⟩ := Option.bind_eq_some_iff.mp hf
        refine k_X12_system (res := v35) (hres := e_v35) S hK hA hP hD hS tl_X12_298 ⟨Nat.le_of_ble_eq_true rfl, Nat.le_of_ble_eq_true rfl⟩ hl.1 (Nat.le_of_ble_eq_true rfl) dX12_does_790 (fun H locs hP hD hS => ?_)
        refine lv_goto (tgt := 844) hx hb dX12_does_793 (by decide) ?_
        exact hend v35 H locs 844 ls (Option.some.inj hf) hP hD hS dX12_does_844
  have J_c729 : ∀ (τ : MS) (H : Heap) (locs : List Loc) (ls : Array Slot), F_X12_does_c729 τ = some res → va_P z.1 vwCl (mW z r τ) H → va_D A (mW z r τ) → va_S A s.heap H locs → lv_has ls 1 [(0, .ref (r 0))] → W p l e { frames := 6, cells := 0, slots := 0, locals := 170 } s m ([.ref (r 0)] : List Value).toArray below meth c H locs 0 0 Q (F0 m 729 ls []) := by
    intro τ H locs ls hf hP hD hS hl
    unfold F_X12_does_c729 at hf
    refine lv_aload_n hx hb dX12_does_729 rfl (lv_at hl 0 rfl) ?_
    refine lv_bipush (v := 31) hx hb dX12_does_730 (by decide) ?_
    refine lv_bipush (v := 16) hx hb dX12_does_732 (by decide) ?_
    obtain ⟨v28, e_v28, hf⟩ := Option.bind_eq_some_iff.mp hf
    refine k_X12_f (a0 := (31 : Int32)) (a1 := (16 : Int32)) (res := v28) (hres := e_v28) S hK hP tl_X12_121 ⟨Nat.le_of_ble_eq_true rfl, Nat.le_of_ble_eq_true rfl⟩ hl.1 (Nat.le_of_ble_eq_true rfl) dX12_does_734 ?_
    refine lv_ldcw (v := 54943) hx hb hown (hts _ tk_X12_294) dX12_does_737 ?_
    refine lv_icmp_ne (tgt := 763) hx hb dX12_does_740 (by decide) (fun c_740 => ?_) (fun c_740 => ?_)
    · rw [if_neg c_740] at hf
      exact J_c763 τ H locs ls hf hP hD hS (lv_sub hl [0] rfl)
    · rw [if_pos c_740] at hf
      refine lv_aload_n hx hb dX12_does_743 rfl (lv_at hl 0 rfl) ?_
      refine lv_bipush (v := 15) hx hb dX12_does_744 (by decide) ?_
      refine lv_iconst (v := 0) hx hb dX12_does_746 (by decide) ?_
      obtain ⟨v36, e_v36, hf⟩ := Option.bind_eq_some_iff.mp hf
      refine k_X12_f (a0 := (15 : Int32)) (a1 := (0 : Int32)) (res := v36) (hres := e_v36) S hK hP tl_X12_121 ⟨Nat.le_of_ble_eq_true rfl, Nat.le_of_ble_eq_true rfl⟩ hl.1 (Nat.le_of_ble_eq_true rfl) dX12_does_747 ?_
      refine lv_sipush (v := 992) hx hb dX12_does_750 (by decide) ?_
      refine lv_icmp_ne (tgt := 763) hx hb dX12_does_753 (by decide) (fun c_753 => ?_) (fun c_753 => ?_)
      · rw [if_neg c_753] at hf
        exact J_c763 τ H locs ls hf hP hD hS (lv_sub hl [0] rfl)
      · rw [if_pos c_753] at hf
        refine lv_aload_n hx hb dX12_does_756 rfl (lv_at hl 0 rfl) ?_
        obtain ⟨v37, e_v37, hf⟩ := Option.bind_eq_some_iff.mp hf
        refine k_X12_back (res := v37) (hres := e_v37) S hK hA hP hD hS tl_X12_295 ⟨Nat.le_of_ble_eq_true rfl, Nat.le_of_ble_eq_true rfl⟩ hl.1 (Nat.le_of_ble_eq_true rfl) dX12_does_757 (fun H locs hP hD hS => ?_)
        refine lv_goto (tgt := 844) hx hb dX12_does_760 (by decide) ?_
        exact hend v37 H locs 844 ls (Option.some.inj hf) hP hD hS dX12_does_844
  have J_c696 : ∀ (τ : MS) (H : Heap) (locs : List Loc) (ls : Array Slot), F_X12_does_c696 τ = some res → va_P z.1 vwCl (mW z r τ) H → va_D A (mW z r τ) → va_S A s.heap H locs → lv_has ls 1 [(0, .ref (r 0))] → W p l e { frames := 6, cells := 0, slots := 0, locals := 170 } s m ([.ref (r 0)] : List Value).toArray below meth c H locs 0 0 Q (F0 m 696 ls []) := by
    intro τ H locs ls hf hP hD hS hl
    unfold F_X12_does_c696 at hf
    refine lv_aload_n hx hb dX12_does_696 rfl (lv_at hl 0 rfl) ?_
    refine lv_bipush (v := 31) hx hb dX12_does_697 (by decide) ?_
    refine lv_bipush (v := 13) hx hb dX12_does_699 (by decide) ?_
    obtain ⟨v27, e_v27, hf⟩ := Option.bind_eq_some_iff.mp hf
    refine k_X12_f (a0 := (31 : Int32)) (a1 := (13 : Int32)) (res := v27) (hres := e_v27) S hK hP tl_X12_121 ⟨Nat.le_of_ble_eq_true rfl, Nat.le_of_ble_eq_true rfl⟩ hl.1 (Nat.le_of_ble_eq_true rfl) dX12_does_701 ?_
    refine lv_ldcw (v := 436249) hx hb hown (hts _ tk_X12_293) dX12_does_704 ?_
    refine lv_icmp_ne (tgt := 729) hx hb dX12_does_707 (by decide) (fun c_707 => ?_) (fun c_707 => ?_)
    · rw [if_neg c_707] at hf
      exact J_c729 τ H locs ls hf hP hD hS (lv_sub hl [0] rfl)
    · rw [if_pos c_707] at hf
      refine lv_aload_n hx hb dX12_does_710 rfl (lv_at hl 0 rfl) ?_
      refine lv_iconst (v := 4) hx hb dX12_does_711 (by decide) ?_
      refine lv_iconst (v := 0) hx hb dX12_does_712 (by decide) ?_
      obtain ⟨v38, e_v38, hf⟩ := Option.bind_eq_some_iff.mp hf
      refine k_X12_f (a0 := (4 : Int32)) (a1 := (0 : Int32)) (res := v38) (hres := e_v38) S hK hP tl_X12_121 ⟨Nat.le_of_ble_eq_true rfl, Nat.le_of_ble_eq_true rfl⟩ hl.1 (Nat.le_of_ble_eq_true rfl) dX12_does_713 ?_
      refine lv_bipush (v := 31) hx hb dX12_does_716 (by decide) ?_
      refine lv_icmp_ne (tgt := 729) hx hb dX12_does_718 (by decide) (fun c_718 => ?_) (fun c_718 => ?_)
      · rw [if_neg c_718] at hf
        exact J_c729 τ H locs ls hf hP hD hS (lv_sub hl [0] rfl)
      · rw [if_pos c_718] at hf
        refine lv_aload_n hx hb dX12_does_721 rfl (lv_at hl 0 rfl) ?_
        refine lv_iconst (v := 0) hx hb dX12_does_722 (by decide) ?_
        refine fp_X12_carry (v := (0 : Int32)) S hK hP hD hS tf_X12_51 dX12_does_723 (fun H locs hP hD hS => ?_)
        refine lv_goto (tgt := 844) hx hb dX12_does_726 (by decide) ?_
        exact hend (mu_carry τ (0 : Int32)) H locs 844 ls (Option.some.inj hf) hP hD hS dX12_does_844
  have J_c650 : ∀ (τ : MS) (H : Heap) (locs : List Loc) (ls : Array Slot), F_X12_does_c650 τ = some res → va_P z.1 vwCl (mW z r τ) H → va_D A (mW z r τ) → va_S A s.heap H locs → lv_has ls 1 [(0, .ref (r 0))] → W p l e { frames := 6, cells := 0, slots := 0, locals := 170 } s m ([.ref (r 0)] : List Value).toArray below meth c H locs 0 0 Q (F0 m 650 ls []) := by
    intro τ H locs ls hf hP hD hS hl
    unfold F_X12_does_c650 at hf
    refine lv_aload_n hx hb dX12_does_650 rfl (lv_at hl 0 rfl) ?_
    refine lv_bipush (v := 31) hx hb dX12_does_651 (by decide) ?_
    refine lv_bipush (v := 21) hx hb dX12_does_653 (by decide) ?_
    obtain ⟨v26, e_v26, hf⟩ := Option.bind_eq_some_iff.mp hf
    refine k_X12_f (a0 := (31 : Int32)) (a1 := (21 : Int32)) (res := v26) (hres := e_v26) S hK hP tl_X12_121 ⟨Nat.le_of_ble_eq_true rfl, Nat.le_of_ble_eq_true rfl⟩ hl.1 (Nat.le_of_ble_eq_true rfl) dX12_does_655 ?_
    refine lv_sipush (v := 1697) hx hb dX12_does_658 (by decide) ?_
    refine lv_icmp_ne (tgt := 696) hx hb dX12_does_661 (by decide) (fun c_661 => ?_) (fun c_661 => ?_)
    · rw [if_neg c_661] at hf
      exact J_c696 τ H locs ls hf hP hD hS (lv_sub hl [0] rfl)
    · rw [if_pos c_661] at hf
      refine lv_aload_n hx hb dX12_does_664 rfl (lv_at hl 0 rfl) ?_
      refine lv_iconst (v := 4) hx hb dX12_does_665 (by decide) ?_
      refine lv_iconst (v := 0) hx hb dX12_does_666 (by decide) ?_
      obtain ⟨v39, e_v39, hf⟩ := Option.bind_eq_some_iff.mp hf
      refine k_X12_f (a0 := (4 : Int32)) (a1 := (0 : Int32)) (res := v39) (hres := e_v39) S hK hP tl_X12_121 ⟨Nat.le_of_ble_eq_true rfl, Nat.le_of_ble_eq_true rfl⟩ hl.1 (Nat.le_of_ble_eq_true rfl) dX12_does_667 ?_
      refine lv_if_ne (tgt := 696) hx hb dX12_does_670 (by decide) (fun c_670 => ?_) (fun c_670 => ?_)
      · rw [if_neg c_670] at hf
        exact J_c696 τ H locs ls hf hP hD hS (lv_sub hl [0] rfl)
      · rw [if_pos c_670] at hf
        refine lv_aload_n hx hb dX12_does_673 rfl (lv_at hl 0 rfl) ?_
        refine lv_bipush (v := 60) hx hb dX12_does_674 (by decide) ?_
        refine lv_aload_n hx hb dX12_does_676 rfl (lv_at hl 0 rfl) ?_
        refine lv_bipush (v := 20) hx hb dX12_does_677 (by decide) ?_
        refine lv_iconst (v := 5) hx hb dX12_does_679 (by decide) ?_
        obtain ⟨v40, e_v40, hf⟩ := Option.bind_eq_some_iff.mp hf
        refine k_X12_f (a0 := (20 : Int32)) (a1 := (5 : Int32)) (res := v40) (hres := e_v40) S hK hP tl_X12_121 ⟨Nat.le_of_ble_eq_true rfl, Nat.le_of_ble_eq_true rfl⟩ hl.1 (Nat.le_of_ble_eq_true rfl) dX12_does_680 ?_
        refine lv_i2l hx hb dX12_does_683 rfl ?_
        refine lv_aload_n hx hb dX12_does_684 rfl (lv_at hl 0 rfl) ?_
        refine fg_X12_state S hK hP tf_X12_22 dX12_does_685 ?_
        refine lv_iconst (v := 2) hx hb dX12_does_688 (by decide) ?_
        refine al_m_state S hK hP (show vp_in (2 : Int32) 11 by unfold vp_in; decide) dX12_does_689 ?_
        refine k_X12_exception (a0 := (60 : Int32)) (a1 := v40.toInt64) (a2 := (m_state τ (2 : Int32).toNatClampNeg)) S hK hA hP hD hS tl_X12_106 ⟨Nat.le_of_ble_eq_true rfl, Nat.le_of_ble_eq_true rfl⟩ hl.1 (Nat.le_of_ble_eq_true rfl) dX12_does_690 (fun H locs hP hD hS => ?_)
        refine lv_goto (tgt := 844) hx hb dX12_does_693 (by decide) ?_
        exact hend (F_X12_exception τ (60 : Int32) v40.toInt64 (m_state τ (2 : Int32).toNatClampNeg)) H locs 844 ls (Option.some.inj hf) hP hD hS dX12_does_844
  have J_c599 : ∀ (τ : MS) (H : Heap) (locs : List Loc) (ls : Array Slot), F_X12_does_c599 τ = some res → va_P z.1 vwCl (mW z r τ) H → va_D A (mW z r τ) → va_S A s.heap H locs → lv_has ls 1 [(0, .ref (r 0))] → W p l e { frames := 6, cells := 0, slots := 0, locals := 170 } s m ([.ref (r 0)] : List Value).toArray below meth c H locs 0 0 Q (F0 m 599 ls []) := by
    intro τ H locs ls hf hP hD hS hl
    unfold F_X12_does_c599 at hf
    refine lv_aload_n hx hb dX12_does_599 rfl (lv_at hl 0 rfl) ?_
    refine lv_bipush (v := 31) hx hb dX12_does_600 (by decide) ?_
    refine lv_bipush (v := 21) hx hb dX12_does_602 (by decide) ?_
    obtain ⟨v25, e_v25, hf⟩ := Option.bind_eq_some_iff.mp hf
    refine k_X12_f (a0 := (31 : Int32)) (a1 := (21 : Int32)) (res := v25) (hres := e_v25) S hK hP tl_X12_121 ⟨Nat.le_of_ble_eq_true rfl, Nat.le_of_ble_eq_true rfl⟩ hl.1 (Nat.le_of_ble_eq_true rfl) dX12_does_604 ?_
    refine lv_sipush (v := 1696) hx hb dX12_does_607 (by decide) ?_
    refine lv_icmp_ne (tgt := 650) hx hb dX12_does_610 (by decide) (fun c_610 => ?_) (fun c_610 => ?_)
    · rw [if_neg c_610] at hf
      exact J_c650 τ H locs ls hf hP hD hS (lv_sub hl [0] rfl)
    · rw [if_pos c_610] at hf
      refine lv_aload_n hx hb dX12_does_613 rfl (lv_at hl 0 rfl) ?_
      refine lv_iconst (v := 4) hx hb dX12_does_614 (by decide) ?_
      refine lv_iconst (v := 0) hx hb dX12_does_615 (by decide) ?_
      obtain ⟨v41, e_v41, hf⟩ := Option.bind_eq_some_iff.mp hf
      refine k_X12_f (a0 := (4 : Int32)) (a1 := (0 : Int32)) (res := v41) (hres := e_v41) S hK hP tl_X12_121 ⟨Nat.le_of_ble_eq_true rfl, Nat.le_of_ble_eq_true rfl⟩ hl.1 (Nat.le_of_ble_eq_true rfl) dX12_does_616 ?_
      refine lv_iconst (v := 1) hx hb dX12_does_619 (by decide) ?_
      refine lv_icmp_ne (tgt := 650) hx hb dX12_does_620 (by decide) (fun c_620 => ?_) (fun c_620 => ?_)
      · rw [if_neg c_620] at hf
        exact J_c650 τ H locs ls hf hP hD hS (lv_sub hl [0] rfl)
      · rw [if_pos c_620] at hf
        refine lv_aload_n hx hb dX12_does_623 rfl (lv_at hl 0 rfl) ?_
        refine lv_bipush (v := 21) hx hb dX12_does_624 (by decide) ?_
        refine lv_aload_n hx hb dX12_does_626 rfl (lv_at hl 0 rfl) ?_
        refine lv_bipush (v := 20) hx hb dX12_does_627 (by decide) ?_
        refine lv_iconst (v := 5) hx hb dX12_does_629 (by decide) ?_
        obtain ⟨v42, e_v42, hf⟩ := Option.bind_eq_some_iff.mp hf
        refine k_X12_f (a0 := (20 : Int32)) (a1 := (5 : Int32)) (res := v42) (hres := e_v42) S hK hP tl_X12_121 ⟨Nat.le_of_ble_eq_true rfl, Nat.le_of_ble_eq_true rfl⟩ hl.1 (Nat.le_of_ble_eq_true rfl) dX12_does_630 ?_
        refine lv_i2l hx hb dX12_does_633 rfl ?_
        refine lv_aload_n hx hb dX12_does_634 rfl (lv_at hl 0 rfl) ?_
        refine fg_X12_state S hK hP tf_X12_22 dX12_does_635 ?_
        refine lv_iconst (v := 2) hx hb dX12_does_638 (by decide) ?_
        refine al_m_state S hK hP (show vp_in (2 : Int32) 11 by unfold vp_in; decide) dX12_does_639 ?_
        refine lv_ldc2 (v := 4) hx hb hown (hts _ tk_X12_90) dX12_does_640 ?_
        refine lv_ladd hx hb dX12_does_643 ?_
        refine k_X12_exception (a0 := (21 : Int32)) (a1 := v42.toInt64) (a2 := ((m_state τ (2 : Int32).toNatClampNeg) + (4 : Int64))) S hK hA hP hD hS tl_X12_106 ⟨Nat.le_of_ble_eq_true rfl, Nat.le_of_ble_eq_true rfl⟩ hl.1 (Nat.le_of_ble_eq_true rfl) dX12_does_644 (fun H locs hP hD hS => ?_)
        refine lv_goto (tgt := 844) hx hb dX12_does_647 (by decide) ?_
        exact hend (F_X12_exception τ (21 : Int32) v42.toInt64 ((m_state τ (2 : Int32).toNatClampNeg) + (4 : Int64))) H locs 844 ls (Option.some.inj hf) hP hD hS dX12_does_844
  have J_c517 : ∀ (τ : MS) (H : Heap) (locs : List Loc) (ls : Array Slot), F_X12_does_c517 τ = some res → va_P z.1 vwCl (mW z r τ) H → va_D A (mW z r τ) → va_S A s.heap H locs → lv_has ls 1 [(0, .ref (r 0))] → W p l e { frames := 6, cells := 0, slots := 0, locals := 170 } s m ([.ref (r 0)] : List Value).toArray below meth c H locs 0 0 Q (F0 m 517 ls []) := by
    intro τ H locs ls hf hP hD hS hl
    unfold F_X12_does_c517 at hf
    refine lv_aload_n hx hb dX12_does_517 rfl (lv_at hl 0 rfl) ?_
    refine lv_bipush (v := 29) hx hb dX12_does_518 (by decide) ?_
    refine lv_bipush (v := 24) hx hb dX12_does_520 (by decide) ?_
    obtain ⟨v20, e_v20, hf⟩ := Option.bind_eq_some_iff.mp hf
    refine k_X12_f (a0 := (29 : Int32)) (a1 := (24 : Int32)) (res := v20) (hres := e_v20) S hK hP tl_X12_121 ⟨Nat.le_of_ble_eq_true rfl, Nat.le_of_ble_eq_true rfl⟩ hl.1 (Nat.le_of_ble_eq_true rfl) dX12_does_522 ?_
    refine lv_bipush (v := 57) hx hb dX12_does_525 (by decide) ?_
    refine lv_icmp_eq (tgt := 543) hx hb dX12_does_527 (by decide) (fun c_527 => ?_) (fun c_527 => ?_)
    · rw [if_pos c_527] at hf
      exact J_c543 τ H locs ls hf hP hD hS (lv_sub hl [0] rfl)
    · rw [if_neg c_527] at hf
      refine lv_aload_n hx hb dX12_does_530 rfl (lv_at hl 0 rfl) ?_
      refine lv_bipush (v := 29) hx hb dX12_does_531 (by decide) ?_
      refine lv_bipush (v := 24) hx hb dX12_does_533 (by decide) ?_
      obtain ⟨v22, e_v22, hf⟩ := Option.bind_eq_some_iff.mp hf
      refine k_X12_f (a0 := (29 : Int32)) (a1 := (24 : Int32)) (res := v22) (hres := e_v22) S hK hP tl_X12_121 ⟨Nat.le_of_ble_eq_true rfl, Nat.le_of_ble_eq_true rfl⟩ hl.1 (Nat.le_of_ble_eq_true rfl) dX12_does_535 ?_
      refine lv_bipush (v := 56) hx hb dX12_does_538 (by decide) ?_
      refine lv_icmp_ne (tgt := 550) hx hb dX12_does_540 (by decide) (fun c_540 => ?_) (fun c_540 => ?_)
      · rw [if_neg c_540] at hf
        refine lv_aload_n hx hb dX12_does_550 rfl (lv_at hl 0 rfl) ?_
        refine lv_bipush (v := 29) hx hb dX12_does_551 (by decide) ?_
        refine lv_bipush (v := 25) hx hb dX12_does_553 (by decide) ?_
        obtain ⟨v23, e_v23, hf⟩ := Option.bind_eq_some_iff.mp hf
        refine k_X12_f (a0 := (29 : Int32)) (a1 := (25 : Int32)) (res := v23) (hres := e_v23) S hK hP tl_X12_121 ⟨Nat.le_of_ble_eq_true rfl, Nat.le_of_ble_eq_true rfl⟩ hl.1 (Nat.le_of_ble_eq_true rfl) dX12_does_555 ?_
        refine lv_bipush (v := 20) hx hb dX12_does_558 (by decide) ?_
        refine lv_icmp_ne (tgt := 570) hx hb dX12_does_560 (by decide) (fun c_560 => ?_) (fun c_560 => ?_)
        · rw [if_neg c_560] at hf
          refine lv_aload_n hx hb dX12_does_570 rfl (lv_at hl 0 rfl) ?_
          refine lv_bipush (v := 29) hx hb dX12_does_571 (by decide) ?_
          refine lv_bipush (v := 24) hx hb dX12_does_573 (by decide) ?_
          obtain ⟨v24, e_v24, hf⟩ := Option.bind_eq_some_iff.mp hf
          refine k_X12_f (a0 := (29 : Int32)) (a1 := (24 : Int32)) (res := v24) (hres := e_v24) S hK hP tl_X12_121 ⟨Nat.le_of_ble_eq_true rfl, Nat.le_of_ble_eq_true rfl⟩ hl.1 (Nat.le_of_ble_eq_true rfl) dX12_does_575 ?_
          refine lv_bipush (v := 24) hx hb dX12_does_578 (by decide) ?_
          refine lv_icmp_ne (tgt := 599) hx hb dX12_does_580 (by decide) (fun c_580 => ?_) (fun c_580 => ?_)
          · rw [if_neg c_580] at hf
            exact J_c599 τ H locs ls hf hP hD hS (lv_sub hl [0] rfl)
          · rw [if_pos c_580] at hf
            refine lv_aload_n hx hb dX12_does_583 rfl (lv_at hl 0 rfl) ?_
            refine lv_bipush (v := 31) hx hb dX12_does_584 (by decide) ?_
            refine k_X12_on (a0 := (31 : Int32)) S hK hP tl_X12_118 ⟨Nat.le_of_ble_eq_true rfl, Nat.le_of_ble_eq_true rfl⟩ hl.1 (Nat.le_of_ble_eq_true rfl) dX12_does_586 ?_
            refine gz_ne (tgt := 599) hx hb dX12_does_589 (by decide) (fun c_589 => ?_) (fun c_589 => ?_)
            · rw [if_pos c_589] at hf
              exact J_c599 τ H locs ls hf hP hD hS (lv_sub hl [0] rfl)
            · rw [if_neg c_589] at hf
              refine lv_aload_n hx hb dX12_does_592 rfl (lv_at hl 0 rfl) ?_
              obtain ⟨v43, e_v43, hf⟩ := Option.bind_eq_some_iff.mp hf
              refine k_X12_near (res := v43) (hres := e_v43) S hK hA hP hD hS tl_X12_290 ⟨Nat.le_of_ble_eq_true rfl, Nat.le_of_ble_eq_true rfl⟩ hl.1 (Nat.le_of_ble_eq_true rfl) dX12_does_593 (fun H locs hP hD hS => ?_)
              refine lv_goto (tgt := 844) hx hb dX12_does_596 (by decide) ?_
              exact hend v43 H locs 844 ls (Option.some.inj hf) hP hD hS dX12_does_844
        · rw [if_pos c_560] at hf
          refine lv_aload_n hx hb dX12_does_563 rfl (lv_at hl 0 rfl) ?_
          obtain ⟨v44, e_v44, hf⟩ := Option.bind_eq_some_iff.mp hf
          refine k_X12_pair (res := v44) (hres := e_v44) S hK hA hP hD hS tl_X12_287 ⟨Nat.le_of_ble_eq_true rfl, Nat.le_of_ble_eq_true rfl⟩ hl.1 (Nat.le_of_ble_eq_true rfl) dX12_does_564 (fun H locs hP hD hS => ?_)
          refine lv_goto (tgt := 844) hx hb dX12_does_567 (by decide) ?_
          exact hend v44 H locs 844 ls (Option.some.inj hf) hP hD hS dX12_does_844
      · rw [if_pos c_540] at hf
        exact J_c543 τ H locs ls hf hP hD hS (lv_sub hl [0] rfl)
  have J_c433 : ∀ (τ : MS) (H : Heap) (locs : List Loc) (ls : Array Slot), F_X12_does_c433 τ = some res → va_P z.1 vwCl (mW z r τ) H → va_D A (mW z r τ) → va_S A s.heap H locs → lv_has ls 1 [(0, .ref (r 0))] → W p l e { frames := 6, cells := 0, slots := 0, locals := 170 } s m ([.ref (r 0)] : List Value).toArray below meth c H locs 0 0 Q (F0 m 433 ls []) := by
    intro τ H locs ls hf hP hD hS hl
    unfold F_X12_does_c433 at hf
    refine lv_aload_n hx hb dX12_does_433 rfl (lv_at hl 0 rfl) ?_
    refine lv_bipush (v := 30) hx hb dX12_does_434 (by decide) ?_
    refine lv_bipush (v := 25) hx hb dX12_does_436 (by decide) ?_
    obtain ⟨v17, e_v17, hf⟩ := Option.bind_eq_some_iff.mp hf
    refine k_X12_f (a0 := (30 : Int32)) (a1 := (25 : Int32)) (res := v17) (hres := e_v17) S hK hP tl_X12_121 ⟨Nat.le_of_ble_eq_true rfl, Nat.le_of_ble_eq_true rfl⟩ hl.1 (Nat.le_of_ble_eq_true rfl) dX12_does_438 ?_
    refine lv_bipush (v := 26) hx hb dX12_does_441 (by decide) ?_
    refine lv_icmp_ne (tgt := 453) hx hb dX12_does_443 (by decide) (fun c_443 => ?_) (fun c_443 => ?_)
    · rw [if_neg c_443] at hf
      refine lv_aload_n hx hb dX12_does_453 rfl (lv_at hl 0 rfl) ?_
      refine lv_bipush (v := 30) hx hb dX12_does_454 (by decide) ?_
      refine lv_bipush (v := 25) hx hb dX12_does_456 (by decide) ?_
      obtain ⟨v18, e_v18, hf⟩ := Option.bind_eq_some_iff.mp hf
      refine k_X12_f (a0 := (30 : Int32)) (a1 := (25 : Int32)) (res := v18) (hres := e_v18) S hK hP tl_X12_121 ⟨Nat.le_of_ble_eq_true rfl, Nat.le_of_ble_eq_true rfl⟩ hl.1 (Nat.le_of_ble_eq_true rfl) dX12_does_458 ?_
      refine lv_bipush (v := 27) hx hb dX12_does_461 (by decide) ?_
      refine lv_icmp_ne (tgt := 473) hx hb dX12_does_463 (by decide) (fun c_463 => ?_) (fun c_463 => ?_)
      · rw [if_neg c_463] at hf
        refine lv_aload_n hx hb dX12_does_473 rfl (lv_at hl 0 rfl) ?_
        refine lv_bipush (v := 31) hx hb dX12_does_474 (by decide) ?_
        refine lv_bipush (v := 23) hx hb dX12_does_476 (by decide) ?_
        obtain ⟨v19, e_v19, hf⟩ := Option.bind_eq_some_iff.mp hf
        refine k_X12_f (a0 := (31 : Int32)) (a1 := (23 : Int32)) (res := v19) (hres := e_v19) S hK hP tl_X12_121 ⟨Nat.le_of_ble_eq_true rfl, Nat.le_of_ble_eq_true rfl⟩ hl.1 (Nat.le_of_ble_eq_true rfl) dX12_does_478 ?_
        refine lv_sipush (v := 428) hx hb dX12_does_481 (by decide) ?_
        refine lv_icmp_ne (tgt := 517) hx hb dX12_does_484 (by decide) (fun c_484 => ?_) (fun c_484 => ?_)
        · rw [if_neg c_484] at hf
          exact J_c517 τ H locs ls hf hP hD hS (lv_sub hl [0] rfl)
        · rw [if_pos c_484] at hf
          refine lv_aload_n hx hb dX12_does_487 rfl (lv_at hl 0 rfl) ?_
          refine lv_bipush (v := 20) hx hb dX12_does_488 (by decide) ?_
          refine lv_bipush (v := 10) hx hb dX12_does_490 (by decide) ?_
          obtain ⟨v45, e_v45, hf⟩ := Option.bind_eq_some_iff.mp hf
          refine k_X12_f (a0 := (20 : Int32)) (a1 := (10 : Int32)) (res := v45) (hres := e_v45) S hK hP tl_X12_121 ⟨Nat.le_of_ble_eq_true rfl, Nat.le_of_ble_eq_true rfl⟩ hl.1 (Nat.le_of_ble_eq_true rfl) dX12_does_492 ?_
          refine lv_sipush (v := 1984) hx hb dX12_does_495 (by decide) ?_
          refine lv_icmp_ne (tgt := 517) hx hb dX12_does_498 (by decide) (fun c_498 => ?_) (fun c_498 => ?_)
          · rw [if_neg c_498] at hf
            exact J_c517 τ H locs ls hf hP hD hS (lv_sub hl [0] rfl)
          · rw [if_pos c_498] at hf
            refine lv_aload_n hx hb dX12_does_501 rfl (lv_at hl 0 rfl) ?_
            refine lv_iconst (v := 4) hx hb dX12_does_502 (by decide) ?_
            refine lv_iconst (v := 0) hx hb dX12_does_503 (by decide) ?_
            obtain ⟨v46, e_v46, hf⟩ := Option.bind_eq_some_iff.mp hf
            refine k_X12_f (a0 := (4 : Int32)) (a1 := (0 : Int32)) (res := v46) (hres := e_v46) S hK hP tl_X12_121 ⟨Nat.le_of_ble_eq_true rfl, Nat.le_of_ble_eq_true rfl⟩ hl.1 (Nat.le_of_ble_eq_true rfl) dX12_does_504 ?_
            refine lv_if_ne (tgt := 517) hx hb dX12_does_507 (by decide) (fun c_507 => ?_) (fun c_507 => ?_)
            · rw [if_neg c_507] at hf
              exact J_c517 τ H locs ls hf hP hD hS (lv_sub hl [0] rfl)
            · rw [if_pos c_507] at hf
              refine lv_aload_n hx hb dX12_does_510 rfl (lv_at hl 0 rfl) ?_
              obtain ⟨v47, e_v47, hf⟩ := Option.bind_eq_some_iff.mp hf
              refine k_X12_toRegister (res := v47) (hres := e_v47) S hK hA hP hD hS tl_X12_281 ⟨Nat.le_of_ble_eq_true rfl, Nat.le_of_ble_eq_true rfl⟩ hl.1 (Nat.le_of_ble_eq_true rfl) dX12_does_511 (fun H locs hP hD hS => ?_)
              refine lv_goto (tgt := 844) hx hb dX12_does_514 (by decide) ?_
              exact hend v47 H locs 844 ls (Option.some.inj hf) hP hD hS dX12_does_844
      · rw [if_pos c_463] at hf
        refine lv_aload_n hx hb dX12_does_466 rfl (lv_at hl 0 rfl) ?_
        obtain ⟨v48, e_v48, hf⟩ := Option.bind_eq_some_iff.mp hf
        refine k_X12_byBit (res := v48) (hres := e_v48) S hK hA hP hD hS tl_X12_278 ⟨Nat.le_of_ble_eq_true rfl, Nat.le_of_ble_eq_true rfl⟩ hl.1 (Nat.le_of_ble_eq_true rfl) dX12_does_467 (fun H locs hP hD hS => ?_)
        refine lv_goto (tgt := 844) hx hb dX12_does_470 (by decide) ?_
        exact hend v48 H locs 844 ls (Option.some.inj hf) hP hD hS dX12_does_844
    · rw [if_pos c_443] at hf
      refine lv_aload_n hx hb dX12_does_446 rfl (lv_at hl 0 rfl) ?_
      obtain ⟨v49, e_v49, hf⟩ := Option.bind_eq_some_iff.mp hf
      refine k_X12_zero (res := v49) (hres := e_v49) S hK hA hP hD hS tl_X12_275 ⟨Nat.le_of_ble_eq_true rfl, Nat.le_of_ble_eq_true rfl⟩ hl.1 (Nat.le_of_ble_eq_true rfl) dX12_does_447 (fun H locs hP hD hS => ?_)
      refine lv_goto (tgt := 844) hx hb dX12_does_450 (by decide) ?_
      exact hend v49 H locs 844 ls (Option.some.inj hf) hP hD hS dX12_does_844
  have J_c313 : ∀ (τ : MS) (H : Heap) (locs : List Loc) (ls : Array Slot), F_X12_does_c313 τ = some res → va_P z.1 vwCl (mW z r τ) H → va_D A (mW z r τ) → va_S A s.heap H locs → lv_has ls 1 [(0, .ref (r 0))] → W p l e { frames := 6, cells := 0, slots := 0, locals := 170 } s m ([.ref (r 0)] : List Value).toArray below meth c H locs 0 0 Q (F0 m 313 ls []) := by
    intro τ H locs ls hf hP hD hS hl
    unfold F_X12_does_c313 at hf
    refine lv_aload_n hx hb dX12_does_313 rfl (lv_at hl 0 rfl) ?_
    refine lv_bipush (v := 30) hx hb dX12_does_314 (by decide) ?_
    refine lv_bipush (v := 21) hx hb dX12_does_316 (by decide) ?_
    obtain ⟨v13, e_v13, hf⟩ := Option.bind_eq_some_iff.mp hf
    refine k_X12_f (a0 := (30 : Int32)) (a1 := (21 : Int32)) (res := v13) (hres := e_v13) S hK hP tl_X12_121 ⟨Nat.le_of_ble_eq_true rfl, Nat.le_of_ble_eq_true rfl⟩ hl.1 (Nat.le_of_ble_eq_true rfl) dX12_does_318 ?_
    refine lv_sipush (v := 214) hx hb dX12_does_321 (by decide) ?_
    refine lv_icmp_ne (tgt := 334) hx hb dX12_does_324 (by decide) (fun c_324 => ?_) (fun c_324 => ?_)
    · rw [if_neg c_324] at hf
      refine lv_aload_n hx hb dX12_does_334 rfl (lv_at hl 0 rfl) ?_
      refine lv_bipush (v := 30) hx hb dX12_does_335 (by decide) ?_
      refine lv_bipush (v := 16) hx hb dX12_does_337 (by decide) ?_
      obtain ⟨v14, e_v14, hf⟩ := Option.bind_eq_some_iff.mp hf
      refine k_X12_f (a0 := (30 : Int32)) (a1 := (16 : Int32)) (res := v14) (hres := e_v14) S hK hP tl_X12_121 ⟨Nat.le_of_ble_eq_true rfl, Nat.le_of_ble_eq_true rfl⟩ hl.1 (Nat.le_of_ble_eq_true rfl) dX12_does_339 ?_
      refine lv_sipush (v := 23232) hx hb dX12_does_342 (by decide) ?_
      refine lv_icmp_ne (tgt := 355) hx hb dX12_does_345 (by decide) (fun c_345 => ?_) (fun c_345 => ?_)
      · rw [if_neg c_345] at hf
        refine lv_aload_n hx hb dX12_does_355 rfl (lv_at hl 0 rfl) ?_
        refine lv_bipush (v := 30) hx hb dX12_does_356 (by decide) ?_
        refine lv_bipush (v := 26) hx hb dX12_does_358 (by decide) ?_
        obtain ⟨v15, e_v15, hf⟩ := Option.bind_eq_some_iff.mp hf
        refine k_X12_f (a0 := (30 : Int32)) (a1 := (26 : Int32)) (res := v15) (hres := e_v15) S hK hP tl_X12_121 ⟨Nat.le_of_ble_eq_true rfl, Nat.le_of_ble_eq_true rfl⟩ hl.1 (Nat.le_of_ble_eq_true rfl) dX12_does_360 ?_
        refine lv_iconst (v := 5) hx hb dX12_does_363 (by decide) ?_
        refine lv_icmp_ne (tgt := 374) hx hb dX12_does_364 (by decide) (fun c_364 => ?_) (fun c_364 => ?_)
        · rw [if_neg c_364] at hf
          refine lv_aload_n hx hb dX12_does_374 rfl (lv_at hl 0 rfl) ?_
          refine lv_bipush (v := 31) hx hb dX12_does_375 (by decide) ?_
          refine lv_bipush (v := 24) hx hb dX12_does_377 (by decide) ?_
          obtain ⟨v16, e_v16, hf⟩ := Option.bind_eq_some_iff.mp hf
          refine k_X12_f (a0 := (31 : Int32)) (a1 := (24 : Int32)) (res := v16) (hres := e_v16) S hK hP tl_X12_121 ⟨Nat.le_of_ble_eq_true rfl, Nat.le_of_ble_eq_true rfl⟩ hl.1 (Nat.le_of_ble_eq_true rfl) dX12_does_379 ?_
          refine lv_bipush (v := 84) hx hb dX12_does_382 (by decide) ?_
          refine lv_icmp_ne (tgt := 433) hx hb dX12_does_384 (by decide) (fun c_384 => ?_) (fun c_384 => ?_)
          · rw [if_neg c_384] at hf
            exact J_c433 τ H locs ls hf hP hD hS (lv_sub hl [0] rfl)
          · rw [if_pos c_384] at hf
            refine lv_aload_n hx hb dX12_does_387 rfl (lv_at hl 0 rfl) ?_
            refine lv_iconst (v := 4) hx hb dX12_does_388 (by decide) ?_
            refine k_X12_on (a0 := (4 : Int32)) S hK hP tl_X12_118 ⟨Nat.le_of_ble_eq_true rfl, Nat.le_of_ble_eq_true rfl⟩ hl.1 (Nat.le_of_ble_eq_true rfl) dX12_does_389 ?_
            refine gz_ne (tgt := 433) hx hb dX12_does_392 (by decide) (fun c_392 => ?_) (fun c_392 => ?_)
            · rw [if_pos c_392] at hf
              exact J_c433 τ H locs ls hf hP hD hS (lv_sub hl [0] rfl)
            · rw [if_neg c_392] at hf
              refine lv_aload_n hx hb dX12_does_395 rfl (lv_at hl 0 rfl) ?_
              refine lv_aload_n hx hb dX12_does_396 rfl (lv_at hl 0 rfl) ?_
              refine lv_iconst (v := 3) hx hb dX12_does_397 (by decide) ?_
              refine lv_iconst (v := 0) hx hb dX12_does_398 (by decide) ?_
              obtain ⟨v50, e_v50, hf⟩ := Option.bind_eq_some_iff.mp hf
              refine k_X12_f (a0 := (3 : Int32)) (a1 := (0 : Int32)) (res := v50) (hres := e_v50) S hK hP tl_X12_121 ⟨Nat.le_of_ble_eq_true rfl, Nat.le_of_ble_eq_true rfl⟩ hl.1 (Nat.le_of_ble_eq_true rfl) dX12_does_399 ?_
              refine k_X12_holds (a0 := v50) S hK hP tl_X12_176 ⟨Nat.le_of_ble_eq_true rfl, Nat.le_of_ble_eq_true rfl⟩ hl.1 (Nat.le_of_ble_eq_true rfl) dX12_does_402 ?_
              refine gz_eq (tgt := 844) hx hb dX12_does_405 (by decide) (fun c_405 => ?_) (fun c_405 => ?_)
              · rw [if_neg c_405] at hf
                exact hend τ H locs 844 ls (Option.some.inj hf) hP hD hS dX12_does_844
              · rw [if_pos c_405] at hf
                refine lv_aload_n hx hb dX12_does_408 rfl (lv_at hl 0 rfl) ?_
                refine lv_aload_n hx hb dX12_does_409 rfl (lv_at hl 0 rfl) ?_
                refine fg_X12_state S hK hP tf_X12_22 dX12_does_410 ?_
                refine lv_iconst (v := 2) hx hb dX12_does_413 (by decide) ?_
                refine al_m_state S hK hP (show vp_in (2 : Int32) 11 by unfold vp_in; decide) dX12_does_414 ?_
                refine lv_ldc2 (v := 4) hx hb hown (hts _ tk_X12_90) dX12_does_415 ?_
                refine lv_aload_n hx hb dX12_does_418 rfl (lv_at hl 0 rfl) ?_
                refine lv_bipush (v := 23) hx hb dX12_does_419 (by decide) ?_
                refine lv_iconst (v := 5) hx hb dX12_does_421 (by decide) ?_
                obtain ⟨v51, e_v51, hf⟩ := Option.bind_eq_some_iff.mp hf
                refine k_X12_signed (a0 := (23 : Int32)) (a1 := (5 : Int32)) (res := v51) (hres := e_v51) S hK hP tl_X12_191 ⟨Nat.le_of_ble_eq_true rfl, Nat.le_of_ble_eq_true rfl⟩ hl.1 (Nat.le_of_ble_eq_true rfl) dX12_does_422 ?_
                refine lv_lmul hx hb dX12_does_425 ?_
                refine lv_ladd hx hb dX12_does_426 ?_
                refine k_X12_goes (a0 := ((m_state τ (2 : Int32).toNatClampNeg) + ((4 : Int64) * v51))) S hK hA hP hD hS tl_X12_194 ⟨Nat.le_of_ble_eq_true rfl, Nat.le_of_ble_eq_true rfl⟩ hl.1 (Nat.le_of_ble_eq_true rfl) dX12_does_427 (fun H locs hP hD hS => ?_)
                refine lv_goto (tgt := 844) hx hb dX12_does_430 (by decide) ?_
                exact hend (F_X12_goes τ ((m_state τ (2 : Int32).toNatClampNeg) + ((4 : Int64) * v51))) H locs 844 ls (Option.some.inj hf) hP hD hS dX12_does_844
        · rw [if_pos c_364] at hf
          refine lv_aload_n hx hb dX12_does_367 rfl (lv_at hl 0 rfl) ?_
          obtain ⟨v52, e_v52, hf⟩ := Option.bind_eq_some_iff.mp hf
          refine k_X12_branch (res := v52) (hres := e_v52) S hK hA hP hD hS tl_X12_272 ⟨Nat.le_of_ble_eq_true rfl, Nat.le_of_ble_eq_true rfl⟩ hl.1 (Nat.le_of_ble_eq_true rfl) dX12_does_368 (fun H locs hP hD hS => ?_)
          refine lv_goto (tgt := 844) hx hb dX12_does_371 (by decide) ?_
          exact hend v52 H locs 844 ls (Option.some.inj hf) hP hD hS dX12_does_844
      · rw [if_pos c_345] at hf
        refine lv_aload_n hx hb dX12_does_348 rfl (lv_at hl 0 rfl) ?_
        obtain ⟨v53, e_v53, hf⟩ := Option.bind_eq_some_iff.mp hf
        refine k_X12_one (res := v53) (hres := e_v53) S hK hA hP hD hS tl_X12_269 ⟨Nat.le_of_ble_eq_true rfl, Nat.le_of_ble_eq_true rfl⟩ hl.1 (Nat.le_of_ble_eq_true rfl) dX12_does_349 (fun H locs hP hD hS => ?_)
        refine lv_goto (tgt := 844) hx hb dX12_does_352 (by decide) ?_
        exact hend v53 H locs 844 ls (Option.some.inj hf) hP hD hS dX12_does_844
    · rw [if_pos c_324] at hf
      refine lv_aload_n hx hb dX12_does_327 rfl (lv_at hl 0 rfl) ?_
      obtain ⟨v54, e_v54, hf⟩ := Option.bind_eq_some_iff.mp hf
      refine k_X12_two (res := v54) (hres := e_v54) S hK hA hP hD hS tl_X12_266 ⟨Nat.le_of_ble_eq_true rfl, Nat.le_of_ble_eq_true rfl⟩ hl.1 (Nat.le_of_ble_eq_true rfl) dX12_does_328 (fun H locs hP hD hS => ?_)
      refine lv_goto (tgt := 844) hx hb dX12_does_331 (by decide) ?_
      exact hend v54 H locs 844 ls (Option.some.inj hf) hP hD hS dX12_does_844
  have J_c246 : ∀ (τ : MS) (H : Heap) (locs : List Loc) (ls : Array Slot), F_X12_does_c246 τ = some res → va_P z.1 vwCl (mW z r τ) H → va_D A (mW z r τ) → va_S A s.heap H locs → lv_has ls 1 [(0, .ref (r 0))] → W p l e { frames := 6, cells := 0, slots := 0, locals := 170 } s m ([.ref (r 0)] : List Value).toArray below meth c H locs 0 0 Q (F0 m 246 ls []) := by
    intro τ H locs ls hf hP hD hS hl
    unfold F_X12_does_c246 at hf
    refine lv_aload_n hx hb dX12_does_246 rfl (lv_at hl 0 rfl) ?_
    refine lv_bipush (v := 30) hx hb dX12_does_247 (by decide) ?_
    refine lv_bipush (v := 21) hx hb dX12_does_249 (by decide) ?_
    obtain ⟨v11, e_v11, hf⟩ := Option.bind_eq_some_iff.mp hf
    refine k_X12_f (a0 := (30 : Int32)) (a1 := (21 : Int32)) (res := v11) (hres := e_v11) S hK hP tl_X12_121 ⟨Nat.le_of_ble_eq_true rfl, Nat.le_of_ble_eq_true rfl⟩ hl.1 (Nat.le_of_ble_eq_true rfl) dX12_does_251 ?_
    refine lv_sipush (v := 216) hx hb dX12_does_254 (by decide) ?_
    refine lv_icmp_ne (tgt := 267) hx hb dX12_does_257 (by decide) (fun c_257 => ?_) (fun c_257 => ?_)
    · rw [if_neg c_257] at hf
      refine lv_aload_n hx hb dX12_does_267 rfl (lv_at hl 0 rfl) ?_
      refine lv_bipush (v := 31) hx hb dX12_does_268 (by decide) ?_
      refine lv_bipush (v := 24) hx hb dX12_does_270 (by decide) ?_
      obtain ⟨v12, e_v12, hf⟩ := Option.bind_eq_some_iff.mp hf
      refine k_X12_f (a0 := (31 : Int32)) (a1 := (24 : Int32)) (res := v12) (hres := e_v12) S hK hP tl_X12_121 ⟨Nat.le_of_ble_eq_true rfl, Nat.le_of_ble_eq_true rfl⟩ hl.1 (Nat.le_of_ble_eq_true rfl) dX12_does_272 ?_
      refine lv_sipush (v := 155) hx hb dX12_does_275 (by decide) ?_
      refine lv_icmp_ne (tgt := 313) hx hb dX12_does_278 (by decide) (fun c_278 => ?_) (fun c_278 => ?_)
      · rw [if_neg c_278] at hf
        exact J_c313 τ H locs ls hf hP hD hS (lv_sub hl [0] rfl)
      · rw [if_pos c_278] at hf
        refine lv_aload_n hx hb dX12_does_281 rfl (lv_at hl 0 rfl) ?_
        refine lv_bipush (v := 22) hx hb dX12_does_282 (by decide) ?_
        refine lv_bipush (v := 21) hx hb dX12_does_284 (by decide) ?_
        obtain ⟨v55, e_v55, hf⟩ := Option.bind_eq_some_iff.mp hf
        refine k_X12_f (a0 := (22 : Int32)) (a1 := (21 : Int32)) (res := v55) (hres := e_v55) S hK hP tl_X12_121 ⟨Nat.le_of_ble_eq_true rfl, Nat.le_of_ble_eq_true rfl⟩ hl.1 (Nat.le_of_ble_eq_true rfl) dX12_does_286 ?_
        refine lv_iconst (v := 2) hx hb dX12_does_289 (by decide) ?_
        refine lv_icmp_ne (tgt := 313) hx hb dX12_does_290 (by decide) (fun c_290 => ?_) (fun c_290 => ?_)
        · rw [if_neg c_290] at hf
          exact J_c313 τ H locs ls hf hP hD hS (lv_sub hl [0] rfl)
        · rw [if_pos c_290] at hf
          refine lv_aload_n hx hb dX12_does_293 rfl (lv_at hl 0 rfl) ?_
          refine lv_bipush (v := 15) hx hb dX12_does_294 (by decide) ?_
          refine lv_bipush (v := 10) hx hb dX12_does_296 (by decide) ?_
          obtain ⟨v56, e_v56, hf⟩ := Option.bind_eq_some_iff.mp hf
          refine k_X12_f (a0 := (15 : Int32)) (a1 := (10 : Int32)) (res := v56) (hres := e_v56) S hK hP tl_X12_121 ⟨Nat.le_of_ble_eq_true rfl, Nat.le_of_ble_eq_true rfl⟩ hl.1 (Nat.le_of_ble_eq_true rfl) dX12_does_298 ?_
          refine lv_bipush (v := 31) hx hb dX12_does_301 (by decide) ?_
          refine lv_icmp_ne (tgt := 313) hx hb dX12_does_303 (by decide) (fun c_303 => ?_) (fun c_303 => ?_)
          · rw [if_neg c_303] at hf
            exact J_c313 τ H locs ls hf hP hD hS (lv_sub hl [0] rfl)
          · rw [if_pos c_303] at hf
            refine lv_aload_n hx hb dX12_does_306 rfl (lv_at hl 0 rfl) ?_
            obtain ⟨v57, e_v57, hf⟩ := Option.bind_eq_some_iff.mp hf
            refine k_X12_highOf (res := v57) (hres := e_v57) S hK hA hP hD hS tl_X12_263 ⟨Nat.le_of_ble_eq_true rfl, Nat.le_of_ble_eq_true rfl⟩ hl.1 (Nat.le_of_ble_eq_true rfl) dX12_does_307 (fun H locs hP hD hS => ?_)
            refine lv_goto (tgt := 844) hx hb dX12_does_310 (by decide) ?_
            exact hend v57 H locs 844 ls (Option.some.inj hf) hP hD hS dX12_does_844
    · rw [if_pos c_257] at hf
      refine lv_aload_n hx hb dX12_does_260 rfl (lv_at hl 0 rfl) ?_
      obtain ⟨v58, e_v58, hf⟩ := Option.bind_eq_some_iff.mp hf
      refine k_X12_times (res := v58) (hres := e_v58) S hK hA hP hD hS tl_X12_260 ⟨Nat.le_of_ble_eq_true rfl, Nat.le_of_ble_eq_true rfl⟩ hl.1 (Nat.le_of_ble_eq_true rfl) dX12_does_261 (fun H locs hP hD hS => ?_)
      refine lv_goto (tgt := 844) hx hb dX12_does_264 (by decide) ?_
      exact hend v58 H locs 844 ls (Option.some.inj hf) hP hD hS dX12_does_844
  have J_c208 : ∀ (τ : MS) (H : Heap) (locs : List Loc) (ls : Array Slot), F_X12_does_c208 τ = some res → va_P z.1 vwCl (mW z r τ) H → va_D A (mW z r τ) → va_S A s.heap H locs → lv_has ls 1 [(0, .ref (r 0))] → W p l e { frames := 6, cells := 0, slots := 0, locals := 170 } s m ([.ref (r 0)] : List Value).toArray below meth c H locs 0 0 Q (F0 m 208 ls []) := by
    intro τ H locs ls hf hP hD hS hl
    unfold F_X12_does_c208 at hf
    refine lv_aload_n hx hb dX12_does_208 rfl (lv_at hl 0 rfl) ?_
    refine lv_bipush (v := 29) hx hb dX12_does_209 (by decide) ?_
    refine lv_bipush (v := 21) hx hb dX12_does_211 (by decide) ?_
    obtain ⟨v10, e_v10, hf⟩ := Option.bind_eq_some_iff.mp hf
    refine k_X12_f (a0 := (29 : Int32)) (a1 := (21 : Int32)) (res := v10) (hres := e_v10) S hK hP tl_X12_121 ⟨Nat.le_of_ble_eq_true rfl, Nat.le_of_ble_eq_true rfl⟩ hl.1 (Nat.le_of_ble_eq_true rfl) dX12_does_213 ?_
    refine lv_sipush (v := 466) hx hb dX12_does_216 (by decide) ?_
    refine lv_icmp_ne (tgt := 246) hx hb dX12_does_219 (by decide) (fun c_219 => ?_) (fun c_219 => ?_)
    · rw [if_neg c_219] at hf
      exact J_c246 τ H locs ls hf hP hD hS (lv_sub hl [0] rfl)
    · rw [if_pos c_219] at hf
      refine lv_aload_n hx hb dX12_does_222 rfl (lv_at hl 0 rfl) ?_
      refine lv_bipush (v := 10) hx hb dX12_does_223 (by decide) ?_
      refine k_X12_on (a0 := (10 : Int32)) S hK hP tl_X12_118 ⟨Nat.le_of_ble_eq_true rfl, Nat.le_of_ble_eq_true rfl⟩ hl.1 (Nat.le_of_ble_eq_true rfl) dX12_does_225 ?_
      refine gz_ne (tgt := 246) hx hb dX12_does_228 (by decide) (fun c_228 => ?_) (fun c_228 => ?_)
      · rw [if_pos c_228] at hf
        exact J_c246 τ H locs ls hf hP hD hS (lv_sub hl [0] rfl)
      · rw [if_neg c_228] at hf
        refine lv_aload_n hx hb dX12_does_231 rfl (lv_at hl 0 rfl) ?_
        refine lv_iconst (v := 4) hx hb dX12_does_232 (by decide) ?_
        refine k_X12_on (a0 := (4 : Int32)) S hK hP tl_X12_118 ⟨Nat.le_of_ble_eq_true rfl, Nat.le_of_ble_eq_true rfl⟩ hl.1 (Nat.le_of_ble_eq_true rfl) dX12_does_233 ?_
        refine gz_ne (tgt := 246) hx hb dX12_does_236 (by decide) (fun c_236 => ?_) (fun c_236 => ?_)
        · rw [if_pos c_236] at hf
          exact J_c246 τ H locs ls hf hP hD hS (lv_sub hl [0] rfl)
        · rw [if_neg c_236] at hf
          refine lv_aload_n hx hb dX12_does_239 rfl (lv_at hl 0 rfl) ?_
          obtain ⟨v59, e_v59, hf⟩ := Option.bind_eq_some_iff.mp hf
          refine k_X12_compare (res := v59) (hres := e_v59) S hK hA hP hD hS tl_X12_257 ⟨Nat.le_of_ble_eq_true rfl, Nat.le_of_ble_eq_true rfl⟩ hl.1 (Nat.le_of_ble_eq_true rfl) dX12_does_240 (fun H locs hP hD hS => ?_)
          refine lv_goto (tgt := 844) hx hb dX12_does_243 (by decide) ?_
          exact hend v59 H locs 844 ls (Option.some.inj hf) hP hD hS dX12_does_844
  have J_c178 : ∀ (τ : MS) (H : Heap) (locs : List Loc) (ls : Array Slot), F_X12_does_c178 τ = some res → va_P z.1 vwCl (mW z r τ) H → va_D A (mW z r τ) → va_S A s.heap H locs → lv_has ls 1 [(0, .ref (r 0))] → W p l e { frames := 6, cells := 0, slots := 0, locals := 170 } s m ([.ref (r 0)] : List Value).toArray below meth c H locs 0 0 Q (F0 m 178 ls []) := by
    intro τ H locs ls hf hP hD hS hl
    unfold F_X12_does_c178 at hf
    refine lv_aload_n hx hb dX12_does_178 rfl (lv_at hl 0 rfl) ?_
    refine lv_bipush (v := 29) hx hb dX12_does_179 (by decide) ?_
    refine lv_bipush (v := 21) hx hb dX12_does_181 (by decide) ?_
    obtain ⟨v9, e_v9, hf⟩ := Option.bind_eq_some_iff.mp hf
    refine k_X12_f (a0 := (29 : Int32)) (a1 := (21 : Int32)) (res := v9) (hres := e_v9) S hK hP tl_X12_121 ⟨Nat.le_of_ble_eq_true rfl, Nat.le_of_ble_eq_true rfl⟩ hl.1 (Nat.le_of_ble_eq_true rfl) dX12_does_183 ?_
    refine lv_sipush (v := 212) hx hb dX12_does_186 (by decide) ?_
    refine lv_icmp_ne (tgt := 208) hx hb dX12_does_189 (by decide) (fun c_189 => ?_) (fun c_189 => ?_)
    · rw [if_neg c_189] at hf
      exact J_c208 τ H locs ls hf hP hD hS (lv_sub hl [0] rfl)
    · rw [if_pos c_189] at hf
      refine lv_aload_n hx hb dX12_does_192 rfl (lv_at hl 0 rfl) ?_
      refine lv_bipush (v := 11) hx hb dX12_does_193 (by decide) ?_
      refine k_X12_on (a0 := (11 : Int32)) S hK hP tl_X12_118 ⟨Nat.le_of_ble_eq_true rfl, Nat.le_of_ble_eq_true rfl⟩ hl.1 (Nat.le_of_ble_eq_true rfl) dX12_does_195 ?_
      refine gz_ne (tgt := 208) hx hb dX12_does_198 (by decide) (fun c_198 => ?_) (fun c_198 => ?_)
      · rw [if_pos c_198] at hf
        exact J_c208 τ H locs ls hf hP hD hS (lv_sub hl [0] rfl)
      · rw [if_neg c_198] at hf
        refine lv_aload_n hx hb dX12_does_201 rfl (lv_at hl 0 rfl) ?_
        obtain ⟨v60, e_v60, hf⟩ := Option.bind_eq_some_iff.mp hf
        refine k_X12_choose (res := v60) (hres := e_v60) S hK hA hP hD hS tl_X12_254 ⟨Nat.le_of_ble_eq_true rfl, Nat.le_of_ble_eq_true rfl⟩ hl.1 (Nat.le_of_ble_eq_true rfl) dX12_does_202 (fun H locs hP hD hS => ?_)
        refine lv_goto (tgt := 844) hx hb dX12_does_205 (by decide) ?_
        exact hend v60 H locs 844 ls (Option.some.inj hf) hP hD hS dX12_does_844
  have J_c49 : ∀ (τ : MS) (H : Heap) (locs : List Loc) (ls : Array Slot), F_X12_does_c49 τ = some res → va_P z.1 vwCl (mW z r τ) H → va_D A (mW z r τ) → va_S A s.heap H locs → lv_has ls 1 [(0, .ref (r 0))] → W p l e { frames := 6, cells := 0, slots := 0, locals := 170 } s m ([.ref (r 0)] : List Value).toArray below meth c H locs 0 0 Q (F0 m 49 ls []) := by
    intro τ H locs ls hf hP hD hS hl
    unfold F_X12_does_c49 at hf
    refine lv_aload_n hx hb dX12_does_49 rfl (lv_at hl 0 rfl) ?_
    refine lv_bipush (v := 28) hx hb dX12_does_50 (by decide) ?_
    refine lv_bipush (v := 24) hx hb dX12_does_52 (by decide) ?_
    obtain ⟨v3, e_v3, hf⟩ := Option.bind_eq_some_iff.mp hf
    refine k_X12_f (a0 := (28 : Int32)) (a1 := (24 : Int32)) (res := v3) (hres := e_v3) S hK hP tl_X12_121 ⟨Nat.le_of_ble_eq_true rfl, Nat.le_of_ble_eq_true rfl⟩ hl.1 (Nat.le_of_ble_eq_true rfl) dX12_does_54 ?_
    refine lv_bipush (v := 10) hx hb dX12_does_57 (by decide) ?_
    refine lv_icmp_ne (tgt := 69) hx hb dX12_does_59 (by decide) (fun c_59 => ?_) (fun c_59 => ?_)
    · rw [if_neg c_59] at hf
      refine lv_aload_n hx hb dX12_does_69 rfl (lv_at hl 0 rfl) ?_
      refine lv_bipush (v := 28) hx hb dX12_does_70 (by decide) ?_
      refine lv_bipush (v := 23) hx hb dX12_does_72 (by decide) ?_
      obtain ⟨v4, e_v4, hf⟩ := Option.bind_eq_some_iff.mp hf
      refine k_X12_f (a0 := (28 : Int32)) (a1 := (23 : Int32)) (res := v4) (hres := e_v4) S hK hP tl_X12_121 ⟨Nat.le_of_ble_eq_true rfl, Nat.le_of_ble_eq_true rfl⟩ hl.1 (Nat.le_of_ble_eq_true rfl) dX12_does_74 ?_
      refine lv_bipush (v := 36) hx hb dX12_does_77 (by decide) ?_
      refine lv_icmp_ne (tgt := 89) hx hb dX12_does_79 (by decide) (fun c_79 => ?_) (fun c_79 => ?_)
      · rw [if_neg c_79] at hf
        refine lv_aload_n hx hb dX12_does_89 rfl (lv_at hl 0 rfl) ?_
        refine lv_bipush (v := 28) hx hb dX12_does_90 (by decide) ?_
        refine lv_bipush (v := 23) hx hb dX12_does_92 (by decide) ?_
        obtain ⟨v5, e_v5, hf⟩ := Option.bind_eq_some_iff.mp hf
        refine k_X12_f (a0 := (28 : Int32)) (a1 := (23 : Int32)) (res := v5) (hres := e_v5) S hK hP tl_X12_121 ⟨Nat.le_of_ble_eq_true rfl, Nat.le_of_ble_eq_true rfl⟩ hl.1 (Nat.le_of_ble_eq_true rfl) dX12_does_94 ?_
        refine lv_bipush (v := 37) hx hb dX12_does_97 (by decide) ?_
        refine lv_icmp_ne (tgt := 109) hx hb dX12_does_99 (by decide) (fun c_99 => ?_) (fun c_99 => ?_)
        · rw [if_neg c_99] at hf
          refine lv_aload_n hx hb dX12_does_109 rfl (lv_at hl 0 rfl) ?_
          refine lv_bipush (v := 28) hx hb dX12_does_110 (by decide) ?_
          refine lv_bipush (v := 24) hx hb dX12_does_112 (by decide) ?_
          obtain ⟨v6, e_v6, hf⟩ := Option.bind_eq_some_iff.mp hf
          refine k_X12_f (a0 := (28 : Int32)) (a1 := (24 : Int32)) (res := v6) (hres := e_v6) S hK hP tl_X12_121 ⟨Nat.le_of_ble_eq_true rfl, Nat.le_of_ble_eq_true rfl⟩ hl.1 (Nat.le_of_ble_eq_true rfl) dX12_does_114 ?_
          refine lv_bipush (v := 16) hx hb dX12_does_117 (by decide) ?_
          refine lv_icmp_ne (tgt := 129) hx hb dX12_does_119 (by decide) (fun c_119 => ?_) (fun c_119 => ?_)
          · rw [if_neg c_119] at hf
            refine lv_aload_n hx hb dX12_does_129 rfl (lv_at hl 0 rfl) ?_
            refine lv_bipush (v := 28) hx hb dX12_does_130 (by decide) ?_
            refine lv_bipush (v := 23) hx hb dX12_does_132 (by decide) ?_
            obtain ⟨v7, e_v7, hf⟩ := Option.bind_eq_some_iff.mp hf
            refine k_X12_f (a0 := (28 : Int32)) (a1 := (23 : Int32)) (res := v7) (hres := e_v7) S hK hP tl_X12_121 ⟨Nat.le_of_ble_eq_true rfl, Nat.le_of_ble_eq_true rfl⟩ hl.1 (Nat.le_of_ble_eq_true rfl) dX12_does_134 ?_
            refine lv_bipush (v := 38) hx hb dX12_does_137 (by decide) ?_
            refine lv_icmp_ne (tgt := 149) hx hb dX12_does_139 (by decide) (fun c_139 => ?_) (fun c_139 => ?_)
            · rw [if_neg c_139] at hf
              refine lv_aload_n hx hb dX12_does_149 rfl (lv_at hl 0 rfl) ?_
              refine lv_bipush (v := 30) hx hb dX12_does_150 (by decide) ?_
              refine lv_bipush (v := 23) hx hb dX12_does_152 (by decide) ?_
              obtain ⟨v8, e_v8, hf⟩ := Option.bind_eq_some_iff.mp hf
              refine k_X12_f (a0 := (30 : Int32)) (a1 := (23 : Int32)) (res := v8) (hres := e_v8) S hK hP tl_X12_121 ⟨Nat.le_of_ble_eq_true rfl, Nat.le_of_ble_eq_true rfl⟩ hl.1 (Nat.le_of_ble_eq_true rfl) dX12_does_154 ?_
              refine lv_bipush (v := 39) hx hb dX12_does_157 (by decide) ?_
              refine lv_icmp_ne (tgt := 178) hx hb dX12_does_159 (by decide) (fun c_159 => ?_) (fun c_159 => ?_)
              · rw [if_neg c_159] at hf
                exact J_c178 τ H locs ls hf hP hD hS (lv_sub hl [0] rfl)
              · rw [if_pos c_159] at hf
                refine lv_aload_n hx hb dX12_does_162 rfl (lv_at hl 0 rfl) ?_
                refine lv_bipush (v := 21) hx hb dX12_does_163 (by decide) ?_
                refine k_X12_on (a0 := (21 : Int32)) S hK hP tl_X12_118 ⟨Nat.le_of_ble_eq_true rfl, Nat.le_of_ble_eq_true rfl⟩ hl.1 (Nat.le_of_ble_eq_true rfl) dX12_does_165 ?_
                refine gz_ne (tgt := 178) hx hb dX12_does_168 (by decide) (fun c_168 => ?_) (fun c_168 => ?_)
                · rw [if_pos c_168] at hf
                  exact J_c178 τ H locs ls hf hP hD hS (lv_sub hl [0] rfl)
                · rw [if_neg c_168] at hf
                  refine lv_aload_n hx hb dX12_does_171 rfl (lv_at hl 0 rfl) ?_
                  obtain ⟨v61, e_v61, hf⟩ := Option.bind_eq_some_iff.mp hf
                  refine k_X12_twice (res := v61) (hres := e_v61) S hK hA hP hD hS tl_X12_251 ⟨Nat.le_of_ble_eq_true rfl, Nat.le_of_ble_eq_true rfl⟩ hl.1 (Nat.le_of_ble_eq_true rfl) dX12_does_172 (fun H locs hP hD hS => ?_)
                  refine lv_goto (tgt := 844) hx hb dX12_does_175 (by decide) ?_
                  exact hend v61 H locs 844 ls (Option.some.inj hf) hP hD hS dX12_does_844
            · rw [if_pos c_139] at hf
              refine lv_aload_n hx hb dX12_does_142 rfl (lv_at hl 0 rfl) ?_
              obtain ⟨v62, e_v62, hf⟩ := Option.bind_eq_some_iff.mp hf
              refine k_X12_bitsOf (res := v62) (hres := e_v62) S hK hA hP hD hS tl_X12_248 ⟨Nat.le_of_ble_eq_true rfl, Nat.le_of_ble_eq_true rfl⟩ hl.1 (Nat.le_of_ble_eq_true rfl) dX12_does_143 (fun H locs hP hD hS => ?_)
              refine lv_goto (tgt := 844) hx hb dX12_does_146 (by decide) ?_
              exact hend v62 H locs 844 ls (Option.some.inj hf) hP hD hS dX12_does_844
          · rw [if_pos c_119] at hf
            refine lv_aload_n hx hb dX12_does_122 rfl (lv_at hl 0 rfl) ?_
            obtain ⟨v63, e_v63, hf⟩ := Option.bind_eq_some_iff.mp hf
            refine k_X12_placeOf (res := v63) (hres := e_v63) S hK hA hP hD hS tl_X12_245 ⟨Nat.le_of_ble_eq_true rfl, Nat.le_of_ble_eq_true rfl⟩ hl.1 (Nat.le_of_ble_eq_true rfl) dX12_does_123 (fun H locs hP hD hS => ?_)
            refine lv_goto (tgt := 844) hx hb dX12_does_126 (by decide) ?_
            exact hend v63 H locs 844 ls (Option.some.inj hf) hP hD hS dX12_does_844
        · rw [if_pos c_99] at hf
          refine lv_aload_n hx hb dX12_does_102 rfl (lv_at hl 0 rfl) ?_
          obtain ⟨v64, e_v64, hf⟩ := Option.bind_eq_some_iff.mp hf
          refine k_X12_move (res := v64) (hres := e_v64) S hK hA hP hD hS tl_X12_242 ⟨Nat.le_of_ble_eq_true rfl, Nat.le_of_ble_eq_true rfl⟩ hl.1 (Nat.le_of_ble_eq_true rfl) dX12_does_103 (fun H locs hP hD hS => ?_)
          refine lv_goto (tgt := 844) hx hb dX12_does_106 (by decide) ?_
          exact hend v64 H locs 844 ls (Option.some.inj hf) hP hD hS dX12_does_844
      · rw [if_pos c_79] at hf
        refine lv_aload_n hx hb dX12_does_82 rfl (lv_at hl 0 rfl) ?_
        obtain ⟨v65, e_v65, hf⟩ := Option.bind_eq_some_iff.mp hf
        refine k_X12_masks (res := v65) (hres := e_v65) S hK hA hP hD hS tl_X12_239 ⟨Nat.le_of_ble_eq_true rfl, Nat.le_of_ble_eq_true rfl⟩ hl.1 (Nat.le_of_ble_eq_true rfl) dX12_does_83 (fun H locs hP hD hS => ?_)
        refine lv_goto (tgt := 844) hx hb dX12_does_86 (by decide) ?_
        exact hend v65 H locs 844 ls (Option.some.inj hf) hP hD hS dX12_does_844
    · rw [if_pos c_59] at hf
      refine lv_aload_n hx hb dX12_does_62 rfl (lv_at hl 0 rfl) ?_
      obtain ⟨v66, e_v66, hf⟩ := Option.bind_eq_some_iff.mp hf
      refine k_X12_logic (res := v66) (hres := e_v66) S hK hA hP hD hS tl_X12_236 ⟨Nat.le_of_ble_eq_true rfl, Nat.le_of_ble_eq_true rfl⟩ hl.1 (Nat.le_of_ble_eq_true rfl) dX12_does_63 (fun H locs hP hD hS => ?_)
      refine lv_goto (tgt := 844) hx hb dX12_does_66 (by decide) ?_
      exact hend v66 H locs 844 ls (Option.some.inj hf) hP hD hS dX12_does_844
  unfold F_X12_does at hf
  refine lv_aload_n hx hb dX12_does_0 rfl (lv_at hl 0 rfl) ?_
  refine lv_bipush (v := 28) hx hb dX12_does_1 (by decide) ?_
  refine lv_bipush (v := 23) hx hb dX12_does_3 (by decide) ?_
  obtain ⟨v1, e_v1, hf⟩ := Option.bind_eq_some_iff.mp hf
  refine k_X12_f (a0 := (28 : Int32)) (a1 := (23 : Int32)) (res := v1) (hres := e_v1) S hK hP tl_X12_121 ⟨Nat.le_of_ble_eq_true rfl, Nat.le_of_ble_eq_true rfl⟩ hl.1 (Nat.le_of_ble_eq_true rfl) dX12_does_5 ?_
  refine lv_bipush (v := 34) hx hb dX12_does_8 (by decide) ?_
  refine lv_icmp_ne (tgt := 20) hx hb dX12_does_10 (by decide) (fun c_10 => ?_) (fun c_10 => ?_)
  · rw [if_neg c_10] at hf
    refine lv_aload_n hx hb dX12_does_20 rfl (lv_at hl 0 rfl) ?_
    refine lv_bipush (v := 28) hx hb dX12_does_21 (by decide) ?_
    refine lv_bipush (v := 24) hx hb dX12_does_23 (by decide) ?_
    obtain ⟨v2, e_v2, hf⟩ := Option.bind_eq_some_iff.mp hf
    refine k_X12_f (a0 := (28 : Int32)) (a1 := (24 : Int32)) (res := v2) (hres := e_v2) S hK hP tl_X12_121 ⟨Nat.le_of_ble_eq_true rfl, Nat.le_of_ble_eq_true rfl⟩ hl.1 (Nat.le_of_ble_eq_true rfl) dX12_does_25 ?_
    refine lv_bipush (v := 11) hx hb dX12_does_28 (by decide) ?_
    refine lv_icmp_ne (tgt := 49) hx hb dX12_does_30 (by decide) (fun c_30 => ?_) (fun c_30 => ?_)
    · rw [if_neg c_30] at hf
      exact J_c49 σ H locs ls hf hP hD hS (lv_sub hl [0] rfl)
    · rw [if_pos c_30] at hf
      refine lv_aload_n hx hb dX12_does_33 rfl (lv_at hl 0 rfl) ?_
      refine lv_bipush (v := 21) hx hb dX12_does_34 (by decide) ?_
      refine k_X12_on (a0 := (21 : Int32)) S hK hP tl_X12_118 ⟨Nat.le_of_ble_eq_true rfl, Nat.le_of_ble_eq_true rfl⟩ hl.1 (Nat.le_of_ble_eq_true rfl) dX12_does_36 ?_
      refine gz_ne (tgt := 49) hx hb dX12_does_39 (by decide) (fun c_39 => ?_) (fun c_39 => ?_)
      · rw [if_pos c_39] at hf
        exact J_c49 σ H locs ls hf hP hD hS (lv_sub hl [0] rfl)
      · rw [if_neg c_39] at hf
        refine lv_aload_n hx hb dX12_does_42 rfl (lv_at hl 0 rfl) ?_
        obtain ⟨v67, e_v67, hf⟩ := Option.bind_eq_some_iff.mp hf
        refine k_X12_sums (res := v67) (hres := e_v67) S hK hA hP hD hS tl_X12_233 ⟨Nat.le_of_ble_eq_true rfl, Nat.le_of_ble_eq_true rfl⟩ hl.1 (Nat.le_of_ble_eq_true rfl) dX12_does_43 (fun H locs hP hD hS => ?_)
        refine lv_goto (tgt := 844) hx hb dX12_does_46 (by decide) ?_
        exact hend v67 H locs 844 ls (Option.some.inj hf) hP hD hS dX12_does_844
  · rw [if_pos c_10] at hf
    refine lv_aload_n hx hb dX12_does_13 rfl (lv_at hl 0 rfl) ?_
    obtain ⟨v68, e_v68, hf⟩ := Option.bind_eq_some_iff.mp hf
    refine k_X12_number (res := v68) (hres := e_v68) S hK hA hP hD hS tl_X12_230 ⟨Nat.le_of_ble_eq_true rfl, Nat.le_of_ble_eq_true rfl⟩ hl.1 (Nat.le_of_ble_eq_true rfl) dX12_does_14 (fun H locs hP hD hS => ?_)
    refine lv_goto (tgt := 844) hx hb dX12_does_17 (by decide) ?_
    exact hend v68 H locs 844 ls (Option.some.inj hf) hP hD hS dX12_does_844
theorem k_X12_does {p : Program} {l : Launch} {e : Env} {R : Room} {s : State} {m : MethodId} {args : Array Value} {below : List Frame} {meth : Method} {c : Code} {H : Heap} {locs : List Loc} {Q : State → Prop} {cc : ByteArray} {pc : Nat} {ls : Array Slot} {rest : List Value} {own : String} {index nL : Nat} {A : Nat → Prop} {z : Cx} {r : Nat → Nat} {σ : MS} {res : MS} (hres : F_X12_does σ = some res) (S : CallFix p m c cc nL s args tbG own) (hK : va_K z.1 vwCl (cxT z) s) (hA : ∀ q, s.heap.size ≤ q → A q) (hP : va_P z.1 vwCl (mW z r σ) H) (hD : va_D A (mW z r σ)) (hS : va_S A s.heap H locs) (hl : Cond.methodLink own index yX12_does ∈ tbG) (hR : 6 + 1 ≤ R.frames ∧ 8 + (1 + 11) + 170 ≤ R.locals) (hsz : ls.size = nL) (hcat : (rest.map fun v => v.category).sum ≤ 8) (hdg : decode cc pc = .ok (.invokevirtual index, 3)) (kk : ∀ (H : Heap) (locs : List Loc), va_P z.1 vwCl (mW z r res) H → va_D A (mW z r res) → va_S A s.heap H locs → W p l e R s m args below meth c H locs 0 0 Q (F0 m (pc + 3) ls (rest))) : W p l e R s m args below meth c H locs 0 0 Q (F0 m pc ls (.ref (r 0) :: rest)) :=
  km (As := []) (ov := none) (w' := mW z r res) (q0 := 0) (ci := 11) S hK hA hP hD hS (c_X12_does l z r σ H.size _ hres) ⟨tb_cB 0 S.2.2.2.2 tc_X12_does ti_X12 hl rfl rfl (by decide +kernel) hR, S.2.2.2.2 _ tm_X12_does, S.2.2.2.2 _ te_X12_does⟩ rfl rfl rfl rfl hsz rfl hcat hdg kk

