theorem dX12_leads_0 : decode cX12_leads 0 = .ok (.aload_n 0, 1) := by decide +kernel
theorem dX12_leads_1 : decode cX12_leads 1 = .ok (.lload_n 1, 1) := by decide +kernel
theorem dX12_leads_2 : decode cX12_leads 2 = .ok (.putfield 44, 3) := by decide +kernel
theorem dX12_leads_5 : decode cX12_leads 5 = .ok (.aload_n 0, 1) := by decide +kernel
theorem dX12_leads_6 : decode cX12_leads 6 = .ok (.getfield 22, 3) := by decide +kernel
theorem dX12_leads_9 : decode cX12_leads 9 = .ok (.iconst 3, 1) := by decide +kernel
theorem dX12_leads_10 : decode cX12_leads 10 = .ok (.laload, 1) := by decide +kernel
theorem dX12_leads_11 : decode cX12_leads 11 = .ok (.iconst 0, 1) := by decide +kernel
theorem dX12_leads_12 : decode cX12_leads 12 = .ok (.invokestatic 68, 3) := by decide +kernel
theorem dX12_leads_15 : decode cX12_leads 15 = .ok (.ifCond .ne 5, 3) := by decide +kernel
theorem dX12_leads_18 : decode cX12_leads 18 = .ok (.iconst 1, 1) := by decide +kernel
theorem dX12_leads_19 : decode cX12_leads 19 = .ok (.ireturn, 1) := by decide +kernel
theorem dX12_leads_20 : decode cX12_leads 20 = .ok (.lload_n 1, 1) := by decide +kernel
theorem dX12_leads_21 : decode cX12_leads 21 = .ok (.bipush 63, 2) := by decide +kernel
theorem dX12_leads_23 : decode cX12_leads 23 = .ok (.bipush 30, 2) := by decide +kernel
theorem dX12_leads_25 : decode cX12_leads 25 = .ok (.invokestatic 72, 3) := by decide +kernel
theorem dX12_leads_28 : decode cX12_leads 28 = .ok (.lconst 0, 1) := by decide +kernel
theorem dX12_leads_29 : decode cX12_leads 29 = .ok (.lcmp, 1) := by decide +kernel
theorem dX12_leads_30 : decode cX12_leads 30 = .ok (.ifCond .eq 10, 3) := by decide +kernel
theorem dX12_leads_33 : decode cX12_leads 33 = .ok (.aload_n 0, 1) := by decide +kernel
theorem dX12_leads_34 : decode cX12_leads 34 = .ok (.bipush 6, 2) := by decide +kernel
theorem dX12_leads_36 : decode cX12_leads 36 = .ok (.invokevirtual 76, 3) := by decide +kernel
theorem dX12_leads_39 : decode cX12_leads 39 = .ok (.ireturn, 1) := by decide +kernel
theorem dX12_leads_40 : decode cX12_leads 40 = .ok (.iconst 2, 1) := by decide +kernel
theorem dX12_leads_41 : decode cX12_leads 41 = .ok (.istore 5, 2) := by decide +kernel
theorem dX12_leads_43 : decode cX12_leads 43 = .ok (.aload_n 0, 1) := by decide +kernel
theorem dX12_leads_44 : decode cX12_leads 44 = .ok (.getfield 22, 3) := by decide +kernel
theorem dX12_leads_47 : decode cX12_leads 47 = .ok (.iconst 4, 1) := by decide +kernel
theorem dX12_leads_48 : decode cX12_leads 48 = .ok (.laload, 1) := by decide +kernel
theorem dX12_leads_49 : decode cX12_leads 49 = .ok (.bipush 47, 2) := by decide +kernel
theorem dX12_leads_51 : decode cX12_leads 51 = .ok (.bipush 12, 2) := by decide +kernel
theorem dX12_leads_53 : decode cX12_leads 53 = .ok (.invokestatic 72, 3) := by decide +kernel
theorem dX12_leads_56 : decode cX12_leads 56 = .ok (.bipush 12, 2) := by decide +kernel
theorem dX12_leads_58 : decode cX12_leads 58 = .ok (.lshl, 1) := by decide +kernel
theorem dX12_leads_59 : decode cX12_leads 59 = .ok (.lstore 6, 2) := by decide +kernel
theorem dX12_leads_61 : decode cX12_leads 61 = .ok (.lconst 0, 1) := by decide +kernel
theorem dX12_leads_62 : decode cX12_leads 62 = .ok (.lstore 8, 2) := by decide +kernel
theorem dX12_leads_64 : decode cX12_leads 64 = .ok (.iconst 0, 1) := by decide +kernel
theorem dX12_leads_65 : decode cX12_leads 65 = .ok (.istore 10, 2) := by decide +kernel
theorem dX12_leads_67 : decode cX12_leads 67 = .ok (.iload 5, 2) := by decide +kernel
theorem dX12_leads_69 : decode cX12_leads 69 = .ok (.iconst 4, 1) := by decide +kernel
theorem dX12_leads_70 : decode cX12_leads 70 = .ok (.if_icmp .ge 136, 3) := by decide +kernel
theorem dX12_leads_73 : decode cX12_leads 73 = .ok (.iload 10, 2) := by decide +kernel
theorem dX12_leads_75 : decode cX12_leads 75 = .ok (.ifCond .ne 131, 3) := by decide +kernel
theorem dX12_leads_78 : decode cX12_leads 78 = .ok (.lload 6, 2) := by decide +kernel
theorem dX12_leads_80 : decode cX12_leads 80 = .ok (.ldc2_w 80, 3) := by decide +kernel
theorem dX12_leads_83 : decode cX12_leads 83 = .ok (.iload 5, 2) := by decide +kernel
theorem dX12_leads_85 : decode cX12_leads 85 = .ok (.iconst 2, 1) := by decide +kernel
theorem dX12_leads_86 : decode cX12_leads 86 = .ok (.if_icmp .ne 14, 3) := by decide +kernel
theorem dX12_leads_89 : decode cX12_leads 89 = .ok (.lload_n 1, 1) := by decide +kernel
theorem dX12_leads_90 : decode cX12_leads 90 = .ok (.bipush 29, 2) := by decide +kernel
theorem dX12_leads_92 : decode cX12_leads 92 = .ok (.bipush 21, 2) := by decide +kernel
theorem dX12_leads_94 : decode cX12_leads 94 = .ok (.invokestatic 72, 3) := by decide +kernel
theorem dX12_leads_97 : decode cX12_leads 97 = .ok (.goto 11, 3) := by decide +kernel
theorem dX12_leads_100 : decode cX12_leads 100 = .ok (.lload_n 1, 1) := by decide +kernel
theorem dX12_leads_101 : decode cX12_leads 101 = .ok (.bipush 20, 2) := by decide +kernel
theorem dX12_leads_103 : decode cX12_leads 103 = .ok (.bipush 12, 2) := by decide +kernel
theorem dX12_leads_105 : decode cX12_leads 105 = .ok (.invokestatic 72, 3) := by decide +kernel
theorem dX12_leads_108 : decode cX12_leads 108 = .ok (.lmul, 1) := by decide +kernel
theorem dX12_leads_109 : decode cX12_leads 109 = .ok (.ladd, 1) := by decide +kernel
theorem dX12_leads_110 : decode cX12_leads 110 = .ok (.lstore 11, 2) := by decide +kernel
theorem dX12_leads_112 : decode cX12_leads 112 = .ok (.lload 11, 2) := by decide +kernel
theorem dX12_leads_114 : decode cX12_leads 114 = .ok (.ldc2_w 82, 3) := by decide +kernel
theorem dX12_leads_117 : decode cX12_leads 117 = .ok (.invokestatic 84, 3) := by decide +kernel
theorem dX12_leads_120 : decode cX12_leads 120 = .ok (.ifCond .ne 13, 3) := by decide +kernel
theorem dX12_leads_123 : decode cX12_leads 123 = .ok (.aload_n 0, 1) := by decide +kernel
theorem dX12_leads_124 : decode cX12_leads 124 = .ok (.bipush 20, 2) := by decide +kernel
theorem dX12_leads_126 : decode cX12_leads 126 = .ok (.iload 5, 2) := by decide +kernel
theorem dX12_leads_128 : decode cX12_leads 128 = .ok (.iadd, 1) := by decide +kernel
theorem dX12_leads_129 : decode cX12_leads 129 = .ok (.invokevirtual 76, 3) := by decide +kernel
theorem dX12_leads_132 : decode cX12_leads 132 = .ok (.ireturn, 1) := by decide +kernel
theorem dX12_leads_133 : decode cX12_leads 133 = .ok (.aload_n 0, 1) := by decide +kernel
theorem dX12_leads_134 : decode cX12_leads 134 = .ok (.lload 11, 2) := by decide +kernel
theorem dX12_leads_136 : decode cX12_leads 136 = .ok (.l2i, 1) := by decide +kernel
theorem dX12_leads_137 : decode cX12_leads 137 = .ok (.bipush 8, 2) := by decide +kernel
theorem dX12_leads_139 : decode cX12_leads 139 = .ok (.invokevirtual 64, 3) := by decide +kernel
theorem dX12_leads_142 : decode cX12_leads 142 = .ok (.lstore 8, 2) := by decide +kernel
theorem dX12_leads_144 : decode cX12_leads 144 = .ok (.lload 8, 2) := by decide +kernel
theorem dX12_leads_146 : decode cX12_leads 146 = .ok (.ldc2_w 88, 3) := by decide +kernel
theorem dX12_leads_149 : decode cX12_leads 149 = .ok (.land, 1) := by decide +kernel
theorem dX12_leads_150 : decode cX12_leads 150 = .ok (.l2i, 1) := by decide +kernel
theorem dX12_leads_151 : decode cX12_leads 151 = .ok (.istore 13, 2) := by decide +kernel
theorem dX12_leads_153 : decode cX12_leads 153 = .ok (.iload 13, 2) := by decide +kernel
theorem dX12_leads_155 : decode cX12_leads 155 = .ok (.iconst 1, 1) := by decide +kernel
theorem dX12_leads_156 : decode cX12_leads 156 = .ok (.if_icmp .ne 15, 3) := by decide +kernel
theorem dX12_leads_159 : decode cX12_leads 159 = .ok (.iload 5, 2) := by decide +kernel
theorem dX12_leads_161 : decode cX12_leads 161 = .ok (.iconst 2, 1) := by decide +kernel
theorem dX12_leads_162 : decode cX12_leads 162 = .ok (.if_icmp .ne 9, 3) := by decide +kernel
theorem dX12_leads_165 : decode cX12_leads 165 = .ok (.iconst 1, 1) := by decide +kernel
theorem dX12_leads_166 : decode cX12_leads 166 = .ok (.istore 10, 2) := by decide +kernel
theorem dX12_leads_168 : decode cX12_leads 168 = .ok (.goto 35, 3) := by decide +kernel
theorem dX12_leads_171 : decode cX12_leads 171 = .ok (.iload 13, 2) := by decide +kernel
theorem dX12_leads_173 : decode cX12_leads 173 = .ok (.iconst 3, 1) := by decide +kernel
theorem dX12_leads_174 : decode cX12_leads 174 = .ok (.if_icmp .eq 12, 3) := by decide +kernel
theorem dX12_leads_177 : decode cX12_leads 177 = .ok (.aload_n 0, 1) := by decide +kernel
theorem dX12_leads_178 : decode cX12_leads 178 = .ok (.iconst 4, 1) := by decide +kernel
theorem dX12_leads_179 : decode cX12_leads 179 = .ok (.iload 5, 2) := by decide +kernel
theorem dX12_leads_181 : decode cX12_leads 181 = .ok (.iadd, 1) := by decide +kernel
theorem dX12_leads_182 : decode cX12_leads 182 = .ok (.invokevirtual 76, 3) := by decide +kernel
theorem dX12_leads_185 : decode cX12_leads 185 = .ok (.ireturn, 1) := by decide +kernel
theorem dX12_leads_186 : decode cX12_leads 186 = .ok (.lload 8, 2) := by decide +kernel
theorem dX12_leads_188 : decode cX12_leads 188 = .ok (.bipush 47, 2) := by decide +kernel
theorem dX12_leads_190 : decode cX12_leads 190 = .ok (.bipush 12, 2) := by decide +kernel
theorem dX12_leads_192 : decode cX12_leads 192 = .ok (.invokestatic 72, 3) := by decide +kernel
theorem dX12_leads_195 : decode cX12_leads 195 = .ok (.bipush 12, 2) := by decide +kernel
theorem dX12_leads_197 : decode cX12_leads 197 = .ok (.lshl, 1) := by decide +kernel
theorem dX12_leads_198 : decode cX12_leads 198 = .ok (.lstore 6, 2) := by decide +kernel
theorem dX12_leads_200 : decode cX12_leads 200 = .ok (.iinc 5 1, 3) := by decide +kernel
theorem dX12_leads_203 : decode cX12_leads 203 = .ok (.goto (-136), 3) := by decide +kernel
theorem dX12_leads_206 : decode cX12_leads 206 = .ok (.iload 10, 2) := by decide +kernel
theorem dX12_leads_208 : decode cX12_leads 208 = .ok (.ifCond .ne 6, 3) := by decide +kernel
theorem dX12_leads_211 : decode cX12_leads 211 = .ok (.iconst 3, 1) := by decide +kernel
theorem dX12_leads_212 : decode cX12_leads 212 = .ok (.istore 5, 2) := by decide +kernel
theorem dX12_leads_214 : decode cX12_leads 214 = .ok (.lload 8, 2) := by decide +kernel
theorem dX12_leads_216 : decode cX12_leads 216 = .ok (.bipush 10, 2) := by decide +kernel
theorem dX12_leads_218 : decode cX12_leads 218 = .ok (.invokestatic 68, 3) := by decide +kernel
theorem dX12_leads_221 : decode cX12_leads 221 = .ok (.ifCond .ne 13, 3) := by decide +kernel
theorem dX12_leads_224 : decode cX12_leads 224 = .ok (.aload_n 0, 1) := by decide +kernel
theorem dX12_leads_225 : decode cX12_leads 225 = .ok (.bipush 8, 2) := by decide +kernel
theorem dX12_leads_227 : decode cX12_leads 227 = .ok (.iload 5, 2) := by decide +kernel
theorem dX12_leads_229 : decode cX12_leads 229 = .ok (.iadd, 1) := by decide +kernel
theorem dX12_leads_230 : decode cX12_leads 230 = .ok (.invokevirtual 76, 3) := by decide +kernel
theorem dX12_leads_233 : decode cX12_leads 233 = .ok (.ireturn, 1) := by decide +kernel
theorem dX12_leads_234 : decode cX12_leads 234 = .ok (.lload 8, 2) := by decide +kernel
theorem dX12_leads_236 : decode cX12_leads 236 = .ok (.bipush 6, 2) := by decide +kernel
theorem dX12_leads_238 : decode cX12_leads 238 = .ok (.invokestatic 68, 3) := by decide +kernel
theorem dX12_leads_241 : decode cX12_leads 241 = .ok (.istore 11, 2) := by decide +kernel
theorem dX12_leads_243 : decode cX12_leads 243 = .ok (.lload 8, 2) := by decide +kernel
theorem dX12_leads_245 : decode cX12_leads 245 = .ok (.bipush 7, 2) := by decide +kernel
theorem dX12_leads_247 : decode cX12_leads 247 = .ok (.invokestatic 68, 3) := by decide +kernel
theorem dX12_leads_250 : decode cX12_leads 250 = .ok (.istore 12, 2) := by decide +kernel
theorem dX12_leads_252 : decode cX12_leads 252 = .ok (.iconst 1, 1) := by decide +kernel
theorem dX12_leads_253 : decode cX12_leads 253 = .ok (.istore 13, 2) := by decide +kernel
theorem dX12_leads_255 : decode cX12_leads 255 = .ok (.iload 4, 2) := by decide +kernel
theorem dX12_leads_257 : decode cX12_leads 257 = .ok (.ifCond .ne 58, 3) := by decide +kernel
theorem dX12_leads_260 : decode cX12_leads 260 = .ok (.iload_n 3, 1) := by decide +kernel
theorem dX12_leads_261 : decode cX12_leads 261 = .ok (.ifCond .ne 7, 3) := by decide +kernel
theorem dX12_leads_264 : decode cX12_leads 264 = .ok (.iload 11, 2) := by decide +kernel
theorem dX12_leads_266 : decode cX12_leads 266 = .ok (.istore 13, 2) := by decide +kernel
theorem dX12_leads_268 : decode cX12_leads 268 = .ok (.iload_n 3, 1) := by decide +kernel
theorem dX12_leads_269 : decode cX12_leads 269 = .ok (.iconst 1, 1) := by decide +kernel
theorem dX12_leads_270 : decode cX12_leads 270 = .ok (.if_icmp .ne 20, 3) := by decide +kernel
theorem dX12_leads_273 : decode cX12_leads 273 = .ok (.iload 11, 2) := by decide +kernel
theorem dX12_leads_275 : decode cX12_leads 275 = .ok (.ifCond .eq 12, 3) := by decide +kernel
theorem dX12_leads_278 : decode cX12_leads 278 = .ok (.iload 12, 2) := by decide +kernel
theorem dX12_leads_280 : decode cX12_leads 280 = .ok (.ifCond .ne 7, 3) := by decide +kernel
theorem dX12_leads_283 : decode cX12_leads 283 = .ok (.iconst 1, 1) := by decide +kernel
theorem dX12_leads_284 : decode cX12_leads 284 = .ok (.goto 4, 3) := by decide +kernel
theorem dX12_leads_287 : decode cX12_leads 287 = .ok (.iconst 0, 1) := by decide +kernel
theorem dX12_leads_288 : decode cX12_leads 288 = .ok (.istore 13, 2) := by decide +kernel
theorem dX12_leads_290 : decode cX12_leads 290 = .ok (.iload_n 3, 1) := by decide +kernel
theorem dX12_leads_291 : decode cX12_leads 291 = .ok (.iconst 2, 1) := by decide +kernel
theorem dX12_leads_292 : decode cX12_leads 292 = .ok (.if_icmp .ne 72, 3) := by decide +kernel
theorem dX12_leads_295 : decode cX12_leads 295 = .ok (.lload 8, 2) := by decide +kernel
theorem dX12_leads_297 : decode cX12_leads 297 = .ok (.bipush 54, 2) := by decide +kernel
theorem dX12_leads_299 : decode cX12_leads 299 = .ok (.invokestatic 68, 3) := by decide +kernel
theorem dX12_leads_302 : decode cX12_leads 302 = .ok (.ifCond .ne 7, 3) := by decide +kernel
theorem dX12_leads_305 : decode cX12_leads 305 = .ok (.iconst 1, 1) := by decide +kernel
theorem dX12_leads_306 : decode cX12_leads 306 = .ok (.goto 4, 3) := by decide +kernel
theorem dX12_leads_309 : decode cX12_leads 309 = .ok (.iconst 0, 1) := by decide +kernel
theorem dX12_leads_310 : decode cX12_leads 310 = .ok (.istore 13, 2) := by decide +kernel
theorem dX12_leads_312 : decode cX12_leads 312 = .ok (.goto 52, 3) := by decide +kernel
theorem dX12_leads_315 : decode cX12_leads 315 = .ok (.iload_n 3, 1) := by decide +kernel
theorem dX12_leads_316 : decode cX12_leads 316 = .ok (.iconst 1, 1) := by decide +kernel
theorem dX12_leads_317 : decode cX12_leads 317 = .ok (.if_icmp .ne 15, 3) := by decide +kernel
theorem dX12_leads_320 : decode cX12_leads 320 = .ok (.iload 12, 2) := by decide +kernel
theorem dX12_leads_322 : decode cX12_leads 322 = .ok (.ifCond .ne 7, 3) := by decide +kernel
theorem dX12_leads_325 : decode cX12_leads 325 = .ok (.iconst 1, 1) := by decide +kernel
theorem dX12_leads_326 : decode cX12_leads 326 = .ok (.goto 4, 3) := by decide +kernel
theorem dX12_leads_329 : decode cX12_leads 329 = .ok (.iconst 0, 1) := by decide +kernel
theorem dX12_leads_330 : decode cX12_leads 330 = .ok (.istore 13, 2) := by decide +kernel
theorem dX12_leads_332 : decode cX12_leads 332 = .ok (.iload_n 3, 1) := by decide +kernel
theorem dX12_leads_333 : decode cX12_leads 333 = .ok (.iconst 2, 1) := by decide +kernel
theorem dX12_leads_334 : decode cX12_leads 334 = .ok (.if_icmp .ne 30, 3) := by decide +kernel
theorem dX12_leads_337 : decode cX12_leads 337 = .ok (.lload 8, 2) := by decide +kernel
theorem dX12_leads_339 : decode cX12_leads 339 = .ok (.bipush 53, 2) := by decide +kernel
theorem dX12_leads_341 : decode cX12_leads 341 = .ok (.invokestatic 68, 3) := by decide +kernel
theorem dX12_leads_344 : decode cX12_leads 344 = .ok (.ifCond .ne 17, 3) := by decide +kernel
theorem dX12_leads_347 : decode cX12_leads 347 = .ok (.iload 11, 2) := by decide +kernel
theorem dX12_leads_349 : decode cX12_leads 349 = .ok (.ifCond .eq 8, 3) := by decide +kernel
theorem dX12_leads_352 : decode cX12_leads 352 = .ok (.iload 12, 2) := by decide +kernel
theorem dX12_leads_354 : decode cX12_leads 354 = .ok (.ifCond .eq 7, 3) := by decide +kernel
theorem dX12_leads_357 : decode cX12_leads 357 = .ok (.iconst 1, 1) := by decide +kernel
theorem dX12_leads_358 : decode cX12_leads 358 = .ok (.goto 4, 3) := by decide +kernel
theorem dX12_leads_361 : decode cX12_leads 361 = .ok (.iconst 0, 1) := by decide +kernel
theorem dX12_leads_362 : decode cX12_leads 362 = .ok (.istore 13, 2) := by decide +kernel
theorem dX12_leads_364 : decode cX12_leads 364 = .ok (.iload 13, 2) := by decide +kernel
theorem dX12_leads_366 : decode cX12_leads 366 = .ok (.ifCond .ne 13, 3) := by decide +kernel
theorem dX12_leads_369 : decode cX12_leads 369 = .ok (.aload_n 0, 1) := by decide +kernel
theorem dX12_leads_370 : decode cX12_leads 370 = .ok (.bipush 12, 2) := by decide +kernel
theorem dX12_leads_372 : decode cX12_leads 372 = .ok (.iload 5, 2) := by decide +kernel
theorem dX12_leads_374 : decode cX12_leads 374 = .ok (.iadd, 1) := by decide +kernel
theorem dX12_leads_375 : decode cX12_leads 375 = .ok (.invokevirtual 76, 3) := by decide +kernel
theorem dX12_leads_378 : decode cX12_leads 378 = .ok (.ireturn, 1) := by decide +kernel
theorem dX12_leads_379 : decode cX12_leads 379 = .ok (.iload 10, 2) := by decide +kernel
theorem dX12_leads_381 : decode cX12_leads 381 = .ok (.ifCond .eq 30, 3) := by decide +kernel
theorem dX12_leads_384 : decode cX12_leads 384 = .ok (.aload_n 0, 1) := by decide +kernel
theorem dX12_leads_385 : decode cX12_leads 385 = .ok (.lload 8, 2) := by decide +kernel
theorem dX12_leads_387 : decode cX12_leads 387 = .ok (.bipush 47, 2) := by decide +kernel
theorem dX12_leads_389 : decode cX12_leads 389 = .ok (.bipush 21, 2) := by decide +kernel
theorem dX12_leads_391 : decode cX12_leads 391 = .ok (.invokestatic 72, 3) := by decide +kernel
theorem dX12_leads_394 : decode cX12_leads 394 = .ok (.bipush 21, 2) := by decide +kernel
theorem dX12_leads_396 : decode cX12_leads 396 = .ok (.lshl, 1) := by decide +kernel
theorem dX12_leads_397 : decode cX12_leads 397 = .ok (.lload_n 1, 1) := by decide +kernel
theorem dX12_leads_398 : decode cX12_leads 398 = .ok (.bipush 20, 2) := by decide +kernel
theorem dX12_leads_400 : decode cX12_leads 400 = .ok (.iconst 0, 1) := by decide +kernel
theorem dX12_leads_401 : decode cX12_leads 401 = .ok (.invokestatic 72, 3) := by decide +kernel
theorem dX12_leads_404 : decode cX12_leads 404 = .ok (.lor, 1) := by decide +kernel
theorem dX12_leads_405 : decode cX12_leads 405 = .ok (.putfield 44, 3) := by decide +kernel
theorem dX12_leads_408 : decode cX12_leads 408 = .ok (.goto 27, 3) := by decide +kernel
theorem dX12_leads_411 : decode cX12_leads 411 = .ok (.aload_n 0, 1) := by decide +kernel
theorem dX12_leads_412 : decode cX12_leads 412 = .ok (.lload 8, 2) := by decide +kernel
theorem dX12_leads_414 : decode cX12_leads 414 = .ok (.bipush 47, 2) := by decide +kernel
theorem dX12_leads_416 : decode cX12_leads 416 = .ok (.bipush 12, 2) := by decide +kernel
theorem dX12_leads_418 : decode cX12_leads 418 = .ok (.invokestatic 72, 3) := by decide +kernel
theorem dX12_leads_421 : decode cX12_leads 421 = .ok (.bipush 12, 2) := by decide +kernel
theorem dX12_leads_423 : decode cX12_leads 423 = .ok (.lshl, 1) := by decide +kernel
theorem dX12_leads_424 : decode cX12_leads 424 = .ok (.lload_n 1, 1) := by decide +kernel
theorem dX12_leads_425 : decode cX12_leads 425 = .ok (.bipush 11, 2) := by decide +kernel
theorem dX12_leads_427 : decode cX12_leads 427 = .ok (.iconst 0, 1) := by decide +kernel
theorem dX12_leads_428 : decode cX12_leads 428 = .ok (.invokestatic 72, 3) := by decide +kernel
theorem dX12_leads_431 : decode cX12_leads 431 = .ok (.lor, 1) := by decide +kernel
theorem dX12_leads_432 : decode cX12_leads 432 = .ok (.putfield 44, 3) := by decide +kernel
theorem dX12_leads_435 : decode cX12_leads 435 = .ok (.iconst 1, 1) := by decide +kernel
theorem dX12_leads_436 : decode cX12_leads 436 = .ok (.ireturn, 1) := by decide +kernel
def F_X12_leads_c364 (τ : MS) (a0 : Int64) (a1 : Int32) (a2 : Int32) (w5 : Int32) (w8 : Int64) (w10 : Bool) (w13 : Bool) : Option (Bool × MS) := (if w13 = true then (if w10 = true then ((F_X12_bits w8 (47 : Int32) (21 : Int32)).bind fun v5 => ((F_X12_bits a0 (20 : Int32) (0 : Int32)).bind fun v6 => some ((true, (mu_place τ ((j_lshl v5 (21 : Int32)) ||| v6)))))) else ((F_X12_bits w8 (47 : Int32) (12 : Int32)).bind fun v3 => ((F_X12_bits a0 (11 : Int32) (0 : Int32)).bind fun v4 => some ((true, (mu_place τ ((j_lshl v3 (12 : Int32)) ||| v4))))))) else some (((F_X12_wrong τ ((12 : Int32) + w5)).1, (F_X12_wrong τ ((12 : Int32) + w5)).2)))
def F_X12_leads_c362 (τ : MS) (a0 : Int64) (a1 : Int32) (a2 : Int32) (w5 : Int32) (w8 : Int64) (w10 : Bool) (s0 : Bool) : Option (Bool × MS) := (F_X12_leads_c364 τ a0 a1 a2 w5 w8 w10 s0)
def F_X12_leads_c361 (τ : MS) (a0 : Int64) (a1 : Int32) (a2 : Int32) (w5 : Int32) (w8 : Int64) (w10 : Bool) : Option (Bool × MS) := (F_X12_leads_c362 τ a0 a1 a2 w5 w8 w10 false)
def F_X12_leads_c357 (τ : MS) (a0 : Int64) (a1 : Int32) (a2 : Int32) (w5 : Int32) (w8 : Int64) (w10 : Bool) : Option (Bool × MS) := (F_X12_leads_c362 τ a0 a1 a2 w5 w8 w10 true)
def F_X12_leads_c332 (τ : MS) (a0 : Int64) (a1 : Int32) (a2 : Int32) (w5 : Int32) (w8 : Int64) (w10 : Bool) (w11 : Bool) (w12 : Bool) (w13 : Bool) : Option (Bool × MS) := (if a1 = (2 : Int32) then (if (F_X12_bit w8 (53 : Int32)) = true then (F_X12_leads_c361 τ a0 a1 a2 w5 w8 w10) else (if w11 = true then (if w12 = true then (F_X12_leads_c357 τ a0 a1 a2 w5 w8 w10) else (F_X12_leads_c361 τ a0 a1 a2 w5 w8 w10)) else (F_X12_leads_c357 τ a0 a1 a2 w5 w8 w10))) else (F_X12_leads_c364 τ a0 a1 a2 w5 w8 w10 w13))
def F_X12_leads_c330 (τ : MS) (a0 : Int64) (a1 : Int32) (a2 : Int32) (w5 : Int32) (w8 : Int64) (w10 : Bool) (w11 : Bool) (w12 : Bool) (s0 : Bool) : Option (Bool × MS) := (F_X12_leads_c332 τ a0 a1 a2 w5 w8 w10 w11 w12 s0)
def F_X12_leads_c310 (τ : MS) (a0 : Int64) (a1 : Int32) (a2 : Int32) (w5 : Int32) (w8 : Int64) (w10 : Bool) (s0 : Bool) : Option (Bool × MS) := (F_X12_leads_c364 τ a0 a1 a2 w5 w8 w10 s0)
def F_X12_leads_c290 (τ : MS) (a0 : Int64) (a1 : Int32) (a2 : Int32) (w5 : Int32) (w8 : Int64) (w10 : Bool) (w13 : Bool) : Option (Bool × MS) := (if a1 = (2 : Int32) then (if (F_X12_bit w8 (54 : Int32)) = true then (F_X12_leads_c310 τ a0 a1 a2 w5 w8 w10 false) else (F_X12_leads_c310 τ a0 a1 a2 w5 w8 w10 true)) else (F_X12_leads_c364 τ a0 a1 a2 w5 w8 w10 w13))
def F_X12_leads_c288 (τ : MS) (a0 : Int64) (a1 : Int32) (a2 : Int32) (w5 : Int32) (w8 : Int64) (w10 : Bool) (s0 : Bool) : Option (Bool × MS) := (F_X12_leads_c290 τ a0 a1 a2 w5 w8 w10 s0)
def F_X12_leads_c287 (τ : MS) (a0 : Int64) (a1 : Int32) (a2 : Int32) (w5 : Int32) (w8 : Int64) (w10 : Bool) : Option (Bool × MS) := (F_X12_leads_c288 τ a0 a1 a2 w5 w8 w10 false)
def F_X12_leads_c268 (τ : MS) (a0 : Int64) (a1 : Int32) (a2 : Int32) (w5 : Int32) (w8 : Int64) (w10 : Bool) (w11 : Bool) (w12 : Bool) (w13 : Bool) : Option (Bool × MS) := (if a1 = (1 : Int32) then (if w11 = true then (if w12 = true then (F_X12_leads_c287 τ a0 a1 a2 w5 w8 w10) else (F_X12_leads_c288 τ a0 a1 a2 w5 w8 w10 true)) else (F_X12_leads_c287 τ a0 a1 a2 w5 w8 w10)) else (F_X12_leads_c290 τ a0 a1 a2 w5 w8 w10 w13))
def F_X12_leads_c252 (τ : MS) (a0 : Int64) (a1 : Int32) (a2 : Int32) (w5 : Int32) (w8 : Int64) (w10 : Bool) (w11 : Bool) (w12 : Bool) : Option (Bool × MS) := (if a2 = 0 then (if a1 = 0 then (F_X12_leads_c268 τ a0 a1 a2 w5 w8 w10 w11 w12 w11) else (F_X12_leads_c268 τ a0 a1 a2 w5 w8 w10 w11 w12 true)) else (if a1 = (1 : Int32) then (if w12 = true then (F_X12_leads_c330 τ a0 a1 a2 w5 w8 w10 w11 w12 false) else (F_X12_leads_c330 τ a0 a1 a2 w5 w8 w10 w11 w12 true)) else (F_X12_leads_c332 τ a0 a1 a2 w5 w8 w10 w11 w12 true)))
def F_X12_leads_c243 (τ : MS) (a0 : Int64) (a1 : Int32) (a2 : Int32) (w5 : Int32) (w8 : Int64) (w10 : Bool) (w11 : Bool) : Option (Bool × MS) := (F_X12_leads_c252 τ a0 a1 a2 w5 w8 w10 w11 (F_X12_bit w8 (7 : Int32)))
def F_X12_leads_c214 (τ : MS) (a0 : Int64) (a1 : Int32) (a2 : Int32) (w5 : Int32) (w8 : Int64) (w10 : Bool) : Option (Bool × MS) := (if (F_X12_bit w8 (10 : Int32)) = true then (F_X12_leads_c243 τ a0 a1 a2 w5 w8 w10 (F_X12_bit w8 (6 : Int32))) else some (((F_X12_wrong τ ((8 : Int32) + w5)).1, (F_X12_wrong τ ((8 : Int32) + w5)).2)))
def F_X12_leads_c206 (τ : MS) (a0 : Int64) (a1 : Int32) (a2 : Int32) (w5 : Int32) (w8 : Int64) (w10 : Bool) : Option (Bool × MS) := (if w10 = true then (F_X12_leads_c214 τ a0 a1 a2 w5 w8 w10) else (F_X12_leads_c214 τ a0 a1 a2 (3 : Int32) w8 w10))
def F_X12_leads_c203 (k : MS → Int64 → Int32 → Int32 → Int32 → Int64 → Int64 → Bool → Option (Bool × MS)) (τ : MS) (a0 : Int64) (a1 : Int32) (a2 : Int32) (w5 : Int32) (w6 : Int64) (w8 : Int64) (w10 : Bool) : Option (Bool × MS) := (k τ a0 a1 a2 w5 w6 w8 w10)
def F_X12_leads_c171 (k : MS → Int64 → Int32 → Int32 → Int32 → Int64 → Int64 → Bool → Option (Bool × MS)) (τ : MS) (a0 : Int64) (a1 : Int32) (a2 : Int32) (w5 : Int32) (w8 : Int64) (w10 : Bool) (w13 : Int32) : Option (Bool × MS) := (if w13 = (3 : Int32) then ((F_X12_bits w8 (47 : Int32) (12 : Int32)).bind fun v9 => (F_X12_leads_c203 k τ a0 a1 a2 (w5 + (1)) (j_lshl v9 (12 : Int32)) w8 w10)) else some (((F_X12_wrong τ ((4 : Int32) + w5)).1, (F_X12_wrong τ ((4 : Int32) + w5)).2)))
def F_X12_leads_c153 (k : MS → Int64 → Int32 → Int32 → Int32 → Int64 → Int64 → Bool → Option (Bool × MS)) (τ : MS) (a0 : Int64) (a1 : Int32) (a2 : Int32) (w5 : Int32) (w6 : Int64) (w8 : Int64) (w10 : Bool) (w13 : Int32) : Option (Bool × MS) := (if w13 = (1 : Int32) then (if w5 = (2 : Int32) then (F_X12_leads_c203 k τ a0 a1 a2 w5 w6 w8 true) else (F_X12_leads_c171 k τ a0 a1 a2 w5 w8 w10 w13)) else (F_X12_leads_c171 k τ a0 a1 a2 w5 w8 w10 w13))
def F_X12_leads_c112 (k : MS → Int64 → Int32 → Int32 → Int32 → Int64 → Int64 → Bool → Option (Bool × MS)) (τ : MS) (a0 : Int64) (a1 : Int32) (a2 : Int32) (w5 : Int32) (w6 : Int64) (w10 : Bool) (w11 : Int64) : Option (Bool × MS) := (if (F_X12_isBelow w11 (65529 : Int64)) = true then ((F_X12_bytes τ w11.toInt32 (8 : Int32)).bind fun v8 => (F_X12_leads_c153 k τ a0 a1 a2 w5 w6 v8 w10 (v8 &&& (3 : Int64)).toInt32)) else some (((F_X12_wrong τ ((20 : Int32) + w5)).1, (F_X12_wrong τ ((20 : Int32) + w5)).2)))
def F_X12_leads_c108 (k : MS → Int64 → Int32 → Int32 → Int32 → Int64 → Int64 → Bool → Option (Bool × MS)) (τ : MS) (a0 : Int64) (a1 : Int32) (a2 : Int32) (w5 : Int32) (w6 : Int64) (w10 : Bool) (s0 : Int64) (s1 : Int64) (s2 : Int64) : Option (Bool × MS) := (F_X12_leads_c112 k τ a0 a1 a2 w5 w6 w10 (s0 + (s1 * s2)))
def F_X12_leads_c67 : Nat → MS → Int64 → Int32 → Int32 → Int32 → Int64 → Int64 → Bool → Option (Bool × MS)
  | 0, _, _, _, _, _, _, _, _ => none
  | n + 1, τ, a0, a1, a2, w5, w6, w8, w10 => (if (4 : Int32) ≤ w5 then (F_X12_leads_c206 τ a0 a1 a2 w5 w8 w10) else (if w10 = true then (F_X12_leads_c206 τ a0 a1 a2 w5 w8 w10) else (if w5 = (2 : Int32) then ((F_X12_bits a0 (29 : Int32) (21 : Int32)).bind fun v10 => (F_X12_leads_c108 (F_X12_leads_c67 n) τ a0 a1 a2 w5 w6 w10 w6 (8 : Int64) v10)) else ((F_X12_bits a0 (20 : Int32) (12 : Int32)).bind fun v7 => (F_X12_leads_c108 (F_X12_leads_c67 n) τ a0 a1 a2 w5 w6 w10 w6 (8 : Int64) v7)))))
def F_X12_leads (σ : MS) (a0 : Int64) (a1 : Int32) (a2 : Int32) : Option (Bool × MS) := (if (F_X12_bit (m_state (mu_place σ a0) (3 : Int32).toNatClampNeg) (0 : Int32)) = true then ((F_X12_bits a0 (63 : Int32) (30 : Int32)).bind fun v1 => (if v1 = (0 : Int64) then ((F_X12_bits (m_state (mu_place σ a0) (4 : Int32).toNatClampNeg) (47 : Int32) (12 : Int32)).bind fun v2 => (F_X12_leads_c67 70 (mu_place σ a0) a0 a1 a2 (2 : Int32) (j_lshl v2 (12 : Int32)) (0 : Int64) false)) else some (((F_X12_wrong (mu_place σ a0) (6 : Int32)).1, (F_X12_wrong (mu_place σ a0) (6 : Int32)).2)))) else some ((true, (mu_place σ a0))))
set_option maxHeartbeats 4000000 in
set_option maxRecDepth 100000 in
theorem c_X12_leads (l : Launch) (z : Cx) (r : Nat → Nat) (σ : MS) (a0 : Int64) (a1 : Int32) (a2 : Int32) (sz : Nat) (res : Bool × MS) (hf : F_X12_leads σ a0 a1 a2 = some res) : Met l yX12_leads (wsC yX12_leads cX12_leads 14 (some .boolean)) { frames := 1, cells := 0, slots := 0, locals := 26 } (mPc z (mW z r σ) sz [.ref (r 0), .long a0, .int a1, .int a2]) (gM z (va_A (mW z r σ) sz) (some (.int (zB res.1))) (mW z r res.2)) 0 0 (va_A (mW z r σ) sz) := by
  refine mk_m_z (own := RX12) (wf := mW z r) (by decide) rfl sz _ (Nat.le_of_ble_eq_true rfl) (fun p e s m below meth c A H locs Q ls S hK hA hP hD hS hl hend => ?_)
  have hx := S.1
  have hb := S.2.1
  have hown := S.2.2.2.1
  have hts := S.2.2.2.2
  have hl : lv_has ls 14 [(0, .ref (r 0)), (1, .long a0), (3, .int a1), (4, .int a2)] := hl
  have J_c364 : ∀ (τ : MS) (w5 : Int32) (w8 : Int64) (w10 : Bool) (w13 : Bool) (H : Heap) (locs : List Loc) (ls : Array Slot), F_X12_leads_c364 τ a0 a1 a2 w5 w8 w10 w13 = some res → va_P z.1 vwCl (mW z r τ) H → va_D A (mW z r τ) → va_S A s.heap H locs → lv_has ls 14 [(0, .ref (r 0)), (1, .long a0), (5, .int w5), (8, .long w8), (10, .int (zB w10)), (13, .int (zB w13))] → W p l e { frames := 1, cells := 0, slots := 0, locals := 26 } s m ([.ref (r 0), .long a0, .int a1, .int a2] : List Value).toArray below meth c H locs 0 0 Q (F0 m 364 ls []) := by
    intro τ w5 w8 w10 w13 H locs ls hf hP hD hS hl
    unfold F_X12_leads_c364 at hf
    refine lv_iload hx hb dX12_leads_364 (lv_at hl 5 rfl) ?_
    refine gz_ne (tgt := 379) hx hb dX12_leads_366 (by decide) (fun c_366 => ?_) (fun c_366 => ?_)
    · rw [if_pos c_366] at hf
      refine lv_iload hx hb dX12_leads_379 (lv_at hl 4 rfl) ?_
      refine gz_eq (tgt := 411) hx hb dX12_leads_381 (by decide) (fun c_381 => ?_) (fun c_381 => ?_)
      · rw [if_neg c_381] at hf
        refine lv_aload_n hx hb dX12_leads_411 rfl (lv_at hl 0 rfl) ?_
        refine lv_lload hx hb dX12_leads_412 (lv_at hl 3 rfl) ?_
        refine lv_bipush (v := 47) hx hb dX12_leads_414 (by decide) ?_
        refine lv_bipush (v := 12) hx hb dX12_leads_416 (by decide) ?_
        obtain ⟨v3, e_v3, hf⟩ := Option.bind_eq_some_iff.mp hf
        refine k_X12_bits (a0 := w8) (a1 := (47 : Int32)) (a2 := (12 : Int32)) (res := v3) (hres := e_v3) S tl_X12_72 ⟨Nat.le_of_ble_eq_true rfl, Nat.le_of_ble_eq_true rfl⟩ hl.1 (Nat.le_of_ble_eq_true rfl) dX12_leads_418 ?_
        refine lv_bipush (v := 12) hx hb dX12_leads_421 (by decide) ?_
        refine lv_lshl (v := (j_lshl v3 (12 : Int32))) hx hb dX12_leads_423 rfl ?_
        refine lv_lload_n hx hb dX12_leads_424 rfl (lv_at hl 1 rfl) ?_
        refine lv_bipush (v := 11) hx hb dX12_leads_425 (by decide) ?_
        refine lv_iconst (v := 0) hx hb dX12_leads_427 (by decide) ?_
        obtain ⟨v4, e_v4, hf⟩ := Option.bind_eq_some_iff.mp hf
        refine k_X12_bits (a0 := a0) (a1 := (11 : Int32)) (a2 := (0 : Int32)) (res := v4) (hres := e_v4) S tl_X12_72 ⟨Nat.le_of_ble_eq_true rfl, Nat.le_of_ble_eq_true rfl⟩ hl.1 (Nat.le_of_ble_eq_true rfl) dX12_leads_428 ?_
        refine lv_lor hx hb dX12_leads_431 ?_
        refine fp_X12_place (v := ((j_lshl v3 (12 : Int32)) ||| v4)) S hK hP hD hS tf_X12_44 dX12_leads_432 (fun H locs hP hD hS => ?_)
        refine lv_iconst (v := 1) hx hb dX12_leads_435 (by decide) ?_
        exact hend true (mu_place τ ((j_lshl v3 (12 : Int32)) ||| v4)) H locs 436 ls (Option.some.inj hf) hP hD hS dX12_leads_436
      · rw [if_pos c_381] at hf
        refine lv_aload_n hx hb dX12_leads_384 rfl (lv_at hl 0 rfl) ?_
        refine lv_lload hx hb dX12_leads_385 (lv_at hl 3 rfl) ?_
        refine lv_bipush (v := 47) hx hb dX12_leads_387 (by decide) ?_
        refine lv_bipush (v := 21) hx hb dX12_leads_389 (by decide) ?_
        obtain ⟨v5, e_v5, hf⟩ := Option.bind_eq_some_iff.mp hf
        refine k_X12_bits (a0 := w8) (a1 := (47 : Int32)) (a2 := (21 : Int32)) (res := v5) (hres := e_v5) S tl_X12_72 ⟨Nat.le_of_ble_eq_true rfl, Nat.le_of_ble_eq_true rfl⟩ hl.1 (Nat.le_of_ble_eq_true rfl) dX12_leads_391 ?_
        refine lv_bipush (v := 21) hx hb dX12_leads_394 (by decide) ?_
        refine lv_lshl (v := (j_lshl v5 (21 : Int32))) hx hb dX12_leads_396 rfl ?_
        refine lv_lload_n hx hb dX12_leads_397 rfl (lv_at hl 1 rfl) ?_
        refine lv_bipush (v := 20) hx hb dX12_leads_398 (by decide) ?_
        refine lv_iconst (v := 0) hx hb dX12_leads_400 (by decide) ?_
        obtain ⟨v6, e_v6, hf⟩ := Option.bind_eq_some_iff.mp hf
        refine k_X12_bits (a0 := a0) (a1 := (20 : Int32)) (a2 := (0 : Int32)) (res := v6) (hres := e_v6) S tl_X12_72 ⟨Nat.le_of_ble_eq_true rfl, Nat.le_of_ble_eq_true rfl⟩ hl.1 (Nat.le_of_ble_eq_true rfl) dX12_leads_401 ?_
        refine lv_lor hx hb dX12_leads_404 ?_
        refine fp_X12_place (v := ((j_lshl v5 (21 : Int32)) ||| v6)) S hK hP hD hS tf_X12_44 dX12_leads_405 (fun H locs hP hD hS => ?_)
        refine lv_goto (tgt := 435) hx hb dX12_leads_408 (by decide) ?_
        refine lv_iconst (v := 1) hx hb dX12_leads_435 (by decide) ?_
        exact hend true (mu_place τ ((j_lshl v5 (21 : Int32)) ||| v6)) H locs 436 ls (Option.some.inj hf) hP hD hS dX12_leads_436
    · rw [if_neg c_366] at hf
      refine lv_aload_n hx hb dX12_leads_369 rfl (lv_at hl 0 rfl) ?_
      refine lv_bipush (v := 12) hx hb dX12_leads_370 (by decide) ?_
      refine lv_iload hx hb dX12_leads_372 (lv_at hl 2 rfl) ?_
      refine lv_iadd hx hb dX12_leads_374 ?_
      refine k_X12_wrong (a0 := ((12 : Int32) + w5)) S hK hA hP hD hS tl_X12_76 ⟨Nat.le_of_ble_eq_true rfl, Nat.le_of_ble_eq_true rfl⟩ hl.1 (Nat.le_of_ble_eq_true rfl) dX12_leads_375 (fun H locs hP hD hS => ?_)
      exact hend (F_X12_wrong τ ((12 : Int32) + w5)).1 (F_X12_wrong τ ((12 : Int32) + w5)).2 H locs 378 ls (Option.some.inj hf) hP hD hS dX12_leads_378
  have J_c362 : ∀ (τ : MS) (w5 : Int32) (w8 : Int64) (w10 : Bool) (s0 : Bool) (H : Heap) (locs : List Loc) (ls : Array Slot), F_X12_leads_c362 τ a0 a1 a2 w5 w8 w10 s0 = some res → va_P z.1 vwCl (mW z r τ) H → va_D A (mW z r τ) → va_S A s.heap H locs → lv_has ls 14 [(0, .ref (r 0)), (1, .long a0), (5, .int w5), (8, .long w8), (10, .int (zB w10))] → W p l e { frames := 1, cells := 0, slots := 0, locals := 26 } s m ([.ref (r 0), .long a0, .int a1, .int a2] : List Value).toArray below meth c H locs 0 0 Q (F0 m 362 ls [.int (zB s0)]) := by
    intro τ w5 w8 w10 s0 H locs ls hf hP hD hS hl
    unfold F_X12_leads_c362 at hf
    refine lv_istore (lv' := [(13, .int (zB s0)), (0, .ref (r 0)), (1, .long a0), (5, .int w5), (8, .long w8), (10, .int (zB w10))]) hx hb dX12_leads_362 hl (by decide) rfl (fun ls hl => ?_)
    exact J_c364 τ w5 w8 w10 s0 H locs ls hf hP hD hS (lv_sub hl [1, 2, 3, 4, 5, 0] rfl)
  have J_c361 : ∀ (τ : MS) (w5 : Int32) (w8 : Int64) (w10 : Bool) (H : Heap) (locs : List Loc) (ls : Array Slot), F_X12_leads_c361 τ a0 a1 a2 w5 w8 w10 = some res → va_P z.1 vwCl (mW z r τ) H → va_D A (mW z r τ) → va_S A s.heap H locs → lv_has ls 14 [(0, .ref (r 0)), (1, .long a0), (5, .int w5), (8, .long w8), (10, .int (zB w10))] → W p l e { frames := 1, cells := 0, slots := 0, locals := 26 } s m ([.ref (r 0), .long a0, .int a1, .int a2] : List Value).toArray below meth c H locs 0 0 Q (F0 m 361 ls []) := by
    intro τ w5 w8 w10 H locs ls hf hP hD hS hl
    unfold F_X12_leads_c361 at hf
    refine lv_iconst (v := 0) hx hb dX12_leads_361 (by decide) ?_
    exact J_c362 τ w5 w8 w10 false H locs ls hf hP hD hS (lv_sub hl [0, 1, 2, 3, 4] rfl)
  have J_c357 : ∀ (τ : MS) (w5 : Int32) (w8 : Int64) (w10 : Bool) (H : Heap) (locs : List Loc) (ls : Array Slot), F_X12_leads_c357 τ a0 a1 a2 w5 w8 w10 = some res → va_P z.1 vwCl (mW z r τ) H → va_D A (mW z r τ) → va_S A s.heap H locs → lv_has ls 14 [(0, .ref (r 0)), (1, .long a0), (5, .int w5), (8, .long w8), (10, .int (zB w10))] → W p l e { frames := 1, cells := 0, slots := 0, locals := 26 } s m ([.ref (r 0), .long a0, .int a1, .int a2] : List Value).toArray below meth c H locs 0 0 Q (F0 m 357 ls []) := by
    intro τ w5 w8 w10 H locs ls hf hP hD hS hl
    unfold F_X12_leads_c357 at hf
    refine lv_iconst (v := 1) hx hb dX12_leads_357 (by decide) ?_
    refine lv_goto (tgt := 362) hx hb dX12_leads_358 (by decide) ?_
    exact J_c362 τ w5 w8 w10 true H locs ls hf hP hD hS (lv_sub hl [0, 1, 2, 3, 4] rfl)
  have J_c332 : ∀ (τ : MS) (w5 : Int32) (w8 : Int64) (w10 : Bool) (w11 : Bool) (w12 : Bool) (w13 : Bool) (H : Heap) (locs : List Loc) (ls : Array Slot), F_X12_leads_c332 τ a0 a1 a2 w5 w8 w10 w11 w12 w13 = some res → va_P z.1 vwCl (mW z r τ) H → va_D A (mW z r τ) → va_S A s.heap H locs → lv_has ls 14 [(0, .ref (r 0)), (1, .long a0), (3, .int a1), (5, .int w5), (8, .long w8), (10, .int (zB w10)), (11, .int (zB w11)), (12, .int (zB w12)), (13, .int (zB w13))] → W p l e { frames := 1, cells := 0, slots := 0, locals := 26 } s m ([.ref (r 0), .long a0, .int a1, .int a2] : List Value).toArray below meth c H locs 0 0 Q (F0 m 332 ls []) := by
    intro τ w5 w8 w10 w11 w12 w13 H locs ls hf hP hD hS hl
    unfold F_X12_leads_c332 at hf
    refine lv_iload_n hx hb dX12_leads_332 rfl (lv_at hl 2 rfl) ?_
    refine lv_iconst (v := 2) hx hb dX12_leads_333 (by decide) ?_
    refine lv_icmp_ne (tgt := 364) hx hb dX12_leads_334 (by decide) (fun c_334 => ?_) (fun c_334 => ?_)
    · rw [if_neg c_334] at hf
      exact J_c364 τ w5 w8 w10 w13 H locs ls hf hP hD hS (lv_sub hl [0, 1, 3, 4, 5, 8] rfl)
    · rw [if_pos c_334] at hf
      refine lv_lload hx hb dX12_leads_337 (lv_at hl 4 rfl) ?_
      refine lv_bipush (v := 53) hx hb dX12_leads_339 (by decide) ?_
      refine k_X12_bit (a0 := w8) (a1 := (53 : Int32)) S tl_X12_68 ⟨Nat.le_of_ble_eq_true rfl, Nat.le_of_ble_eq_true rfl⟩ hl.1 (Nat.le_of_ble_eq_true rfl) dX12_leads_341 ?_
      refine gz_ne (tgt := 361) hx hb dX12_leads_344 (by decide) (fun c_344 => ?_) (fun c_344 => ?_)
      · rw [if_pos c_344] at hf
        exact J_c361 τ w5 w8 w10 H locs ls hf hP hD hS (lv_sub hl [0, 1, 3, 4, 5] rfl)
      · rw [if_neg c_344] at hf
        refine lv_iload hx hb dX12_leads_347 (lv_at hl 6 rfl) ?_
        refine gz_eq (tgt := 357) hx hb dX12_leads_349 (by decide) (fun c_349 => ?_) (fun c_349 => ?_)
        · rw [if_neg c_349] at hf
          exact J_c357 τ w5 w8 w10 H locs ls hf hP hD hS (lv_sub hl [0, 1, 3, 4, 5] rfl)
        · rw [if_pos c_349] at hf
          refine lv_iload hx hb dX12_leads_352 (lv_at hl 7 rfl) ?_
          refine gz_eq (tgt := 361) hx hb dX12_leads_354 (by decide) (fun c_354 => ?_) (fun c_354 => ?_)
          · rw [if_neg c_354] at hf
            exact J_c361 τ w5 w8 w10 H locs ls hf hP hD hS (lv_sub hl [0, 1, 3, 4, 5] rfl)
          · rw [if_pos c_354] at hf
            exact J_c357 τ w5 w8 w10 H locs ls hf hP hD hS (lv_sub hl [0, 1, 3, 4, 5] rfl)
  have J_c330 : ∀ (τ : MS) (w5 : Int32) (w8 : Int64) (w10 : Bool) (w11 : Bool) (w12 : Bool) (s0 : Bool) (H : Heap) (locs : List Loc) (ls : Array Slot), F_X12_leads_c330 τ a0 a1 a2 w5 w8 w10 w11 w12 s0 = some res → va_P z.1 vwCl (mW z r τ) H → va_D A (mW z r τ) → va_S A s.heap H locs → lv_has ls 14 [(0, .ref (r 0)), (1, .long a0), (3, .int a1), (5, .int w5), (8, .long w8), (10, .int (zB w10)), (11, .int (zB w11)), (12, .int (zB w12))] → W p l e { frames := 1, cells := 0, slots := 0, locals := 26 } s m ([.ref (r 0), .long a0, .int a1, .int a2] : List Value).toArray below meth c H locs 0 0 Q (F0 m 330 ls [.int (zB s0)]) := by
    intro τ w5 w8 w10 w11 w12 s0 H locs ls hf hP hD hS hl
    unfold F_X12_leads_c330 at hf
    refine lv_istore (lv' := [(13, .int (zB s0)), (0, .ref (r 0)), (1, .long a0), (3, .int a1), (5, .int w5), (8, .long w8), (10, .int (zB w10)), (11, .int (zB w11)), (12, .int (zB w12))]) hx hb dX12_leads_330 hl (by decide) rfl (fun ls hl => ?_)
    exact J_c332 τ w5 w8 w10 w11 w12 s0 H locs ls hf hP hD hS (lv_sub hl [1, 2, 3, 4, 5, 6, 7, 8, 0] rfl)
  have J_c310 : ∀ (τ : MS) (w5 : Int32) (w8 : Int64) (w10 : Bool) (s0 : Bool) (H : Heap) (locs : List Loc) (ls : Array Slot), F_X12_leads_c310 τ a0 a1 a2 w5 w8 w10 s0 = some res → va_P z.1 vwCl (mW z r τ) H → va_D A (mW z r τ) → va_S A s.heap H locs → lv_has ls 14 [(0, .ref (r 0)), (1, .long a0), (5, .int w5), (8, .long w8), (10, .int (zB w10))] → W p l e { frames := 1, cells := 0, slots := 0, locals := 26 } s m ([.ref (r 0), .long a0, .int a1, .int a2] : List Value).toArray below meth c H locs 0 0 Q (F0 m 310 ls [.int (zB s0)]) := by
    intro τ w5 w8 w10 s0 H locs ls hf hP hD hS hl
    unfold F_X12_leads_c310 at hf
    refine lv_istore (lv' := [(13, .int (zB s0)), (0, .ref (r 0)), (1, .long a0), (5, .int w5), (8, .long w8), (10, .int (zB w10))]) hx hb dX12_leads_310 hl (by decide) rfl (fun ls hl => ?_)
    refine lv_goto (tgt := 364) hx hb dX12_leads_312 (by decide) ?_
    exact J_c364 τ w5 w8 w10 s0 H locs ls hf hP hD hS (lv_sub hl [1, 2, 3, 4, 5, 0] rfl)
  have J_c290 : ∀ (τ : MS) (w5 : Int32) (w8 : Int64) (w10 : Bool) (w13 : Bool) (H : Heap) (locs : List Loc) (ls : Array Slot), F_X12_leads_c290 τ a0 a1 a2 w5 w8 w10 w13 = some res → va_P z.1 vwCl (mW z r τ) H → va_D A (mW z r τ) → va_S A s.heap H locs → lv_has ls 14 [(0, .ref (r 0)), (1, .long a0), (3, .int a1), (5, .int w5), (8, .long w8), (10, .int (zB w10)), (13, .int (zB w13))] → W p l e { frames := 1, cells := 0, slots := 0, locals := 26 } s m ([.ref (r 0), .long a0, .int a1, .int a2] : List Value).toArray below meth c H locs 0 0 Q (F0 m 290 ls []) := by
    intro τ w5 w8 w10 w13 H locs ls hf hP hD hS hl
    unfold F_X12_leads_c290 at hf
    refine lv_iload_n hx hb dX12_leads_290 rfl (lv_at hl 2 rfl) ?_
    refine lv_iconst (v := 2) hx hb dX12_leads_291 (by decide) ?_
    refine lv_icmp_ne (tgt := 364) hx hb dX12_leads_292 (by decide) (fun c_292 => ?_) (fun c_292 => ?_)
    · rw [if_neg c_292] at hf
      exact J_c364 τ w5 w8 w10 w13 H locs ls hf hP hD hS (lv_sub hl [0, 1, 3, 4, 5, 6] rfl)
    · rw [if_pos c_292] at hf
      refine lv_lload hx hb dX12_leads_295 (lv_at hl 4 rfl) ?_
      refine lv_bipush (v := 54) hx hb dX12_leads_297 (by decide) ?_
      refine k_X12_bit (a0 := w8) (a1 := (54 : Int32)) S tl_X12_68 ⟨Nat.le_of_ble_eq_true rfl, Nat.le_of_ble_eq_true rfl⟩ hl.1 (Nat.le_of_ble_eq_true rfl) dX12_leads_299 ?_
      refine gz_ne (tgt := 309) hx hb dX12_leads_302 (by decide) (fun c_302 => ?_) (fun c_302 => ?_)
      · rw [if_pos c_302] at hf
        refine lv_iconst (v := 0) hx hb dX12_leads_309 (by decide) ?_
        exact J_c310 τ w5 w8 w10 false H locs ls hf hP hD hS (lv_sub hl [0, 1, 3, 4, 5] rfl)
      · rw [if_neg c_302] at hf
        refine lv_iconst (v := 1) hx hb dX12_leads_305 (by decide) ?_
        refine lv_goto (tgt := 310) hx hb dX12_leads_306 (by decide) ?_
        exact J_c310 τ w5 w8 w10 true H locs ls hf hP hD hS (lv_sub hl [0, 1, 3, 4, 5] rfl)
  have J_c288 : ∀ (τ : MS) (w5 : Int32) (w8 : Int64) (w10 : Bool) (s0 : Bool) (H : Heap) (locs : List Loc) (ls : Array Slot), F_X12_leads_c288 τ a0 a1 a2 w5 w8 w10 s0 = some res → va_P z.1 vwCl (mW z r τ) H → va_D A (mW z r τ) → va_S A s.heap H locs → lv_has ls 14 [(0, .ref (r 0)), (1, .long a0), (3, .int a1), (5, .int w5), (8, .long w8), (10, .int (zB w10))] → W p l e { frames := 1, cells := 0, slots := 0, locals := 26 } s m ([.ref (r 0), .long a0, .int a1, .int a2] : List Value).toArray below meth c H locs 0 0 Q (F0 m 288 ls [.int (zB s0)]) := by
    intro τ w5 w8 w10 s0 H locs ls hf hP hD hS hl
    unfold F_X12_leads_c288 at hf
    refine lv_istore (lv' := [(13, .int (zB s0)), (0, .ref (r 0)), (1, .long a0), (3, .int a1), (5, .int w5), (8, .long w8), (10, .int (zB w10))]) hx hb dX12_leads_288 hl (by decide) rfl (fun ls hl => ?_)
    exact J_c290 τ w5 w8 w10 s0 H locs ls hf hP hD hS (lv_sub hl [1, 2, 3, 4, 5, 6, 0] rfl)
  have J_c287 : ∀ (τ : MS) (w5 : Int32) (w8 : Int64) (w10 : Bool) (H : Heap) (locs : List Loc) (ls : Array Slot), F_X12_leads_c287 τ a0 a1 a2 w5 w8 w10 = some res → va_P z.1 vwCl (mW z r τ) H → va_D A (mW z r τ) → va_S A s.heap H locs → lv_has ls 14 [(0, .ref (r 0)), (1, .long a0), (3, .int a1), (5, .int w5), (8, .long w8), (10, .int (zB w10))] → W p l e { frames := 1, cells := 0, slots := 0, locals := 26 } s m ([.ref (r 0), .long a0, .int a1, .int a2] : List Value).toArray below meth c H locs 0 0 Q (F0 m 287 ls []) := by
    intro τ w5 w8 w10 H locs ls hf hP hD hS hl
    unfold F_X12_leads_c287 at hf
    refine lv_iconst (v := 0) hx hb dX12_leads_287 (by decide) ?_
    exact J_c288 τ w5 w8 w10 false H locs ls hf hP hD hS (lv_sub hl [0, 1, 2, 3, 4, 5] rfl)
  have J_c268 : ∀ (τ : MS) (w5 : Int32) (w8 : Int64) (w10 : Bool) (w11 : Bool) (w12 : Bool) (w13 : Bool) (H : Heap) (locs : List Loc) (ls : Array Slot), F_X12_leads_c268 τ a0 a1 a2 w5 w8 w10 w11 w12 w13 = some res → va_P z.1 vwCl (mW z r τ) H → va_D A (mW z r τ) → va_S A s.heap H locs → lv_has ls 14 [(0, .ref (r 0)), (1, .long a0), (3, .int a1), (5, .int w5), (8, .long w8), (10, .int (zB w10)), (11, .int (zB w11)), (12, .int (zB w12)), (13, .int (zB w13))] → W p l e { frames := 1, cells := 0, slots := 0, locals := 26 } s m ([.ref (r 0), .long a0, .int a1, .int a2] : List Value).toArray below meth c H locs 0 0 Q (F0 m 268 ls []) := by
    intro τ w5 w8 w10 w11 w12 w13 H locs ls hf hP hD hS hl
    unfold F_X12_leads_c268 at hf
    refine lv_iload_n hx hb dX12_leads_268 rfl (lv_at hl 2 rfl) ?_
    refine lv_iconst (v := 1) hx hb dX12_leads_269 (by decide) ?_
    refine lv_icmp_ne (tgt := 290) hx hb dX12_leads_270 (by decide) (fun c_270 => ?_) (fun c_270 => ?_)
    · rw [if_neg c_270] at hf
      exact J_c290 τ w5 w8 w10 w13 H locs ls hf hP hD hS (lv_sub hl [0, 1, 2, 3, 4, 5, 8] rfl)
    · rw [if_pos c_270] at hf
      refine lv_iload hx hb dX12_leads_273 (lv_at hl 6 rfl) ?_
      refine gz_eq (tgt := 287) hx hb dX12_leads_275 (by decide) (fun c_275 => ?_) (fun c_275 => ?_)
      · rw [if_neg c_275] at hf
        exact J_c287 τ w5 w8 w10 H locs ls hf hP hD hS (lv_sub hl [0, 1, 2, 3, 4, 5] rfl)
      · rw [if_pos c_275] at hf
        refine lv_iload hx hb dX12_leads_278 (lv_at hl 7 rfl) ?_
        refine gz_ne (tgt := 287) hx hb dX12_leads_280 (by decide) (fun c_280 => ?_) (fun c_280 => ?_)
        · rw [if_pos c_280] at hf
          exact J_c287 τ w5 w8 w10 H locs ls hf hP hD hS (lv_sub hl [0, 1, 2, 3, 4, 5] rfl)
        · rw [if_neg c_280] at hf
          refine lv_iconst (v := 1) hx hb dX12_leads_283 (by decide) ?_
          refine lv_goto (tgt := 288) hx hb dX12_leads_284 (by decide) ?_
          exact J_c288 τ w5 w8 w10 true H locs ls hf hP hD hS (lv_sub hl [0, 1, 2, 3, 4, 5] rfl)
  have J_c252 : ∀ (τ : MS) (w5 : Int32) (w8 : Int64) (w10 : Bool) (w11 : Bool) (w12 : Bool) (H : Heap) (locs : List Loc) (ls : Array Slot), F_X12_leads_c252 τ a0 a1 a2 w5 w8 w10 w11 w12 = some res → va_P z.1 vwCl (mW z r τ) H → va_D A (mW z r τ) → va_S A s.heap H locs → lv_has ls 14 [(0, .ref (r 0)), (1, .long a0), (3, .int a1), (4, .int a2), (5, .int w5), (8, .long w8), (10, .int (zB w10)), (11, .int (zB w11)), (12, .int (zB w12))] → W p l e { frames := 1, cells := 0, slots := 0, locals := 26 } s m ([.ref (r 0), .long a0, .int a1, .int a2] : List Value).toArray below meth c H locs 0 0 Q (F0 m 252 ls []) := by
    intro τ w5 w8 w10 w11 w12 H locs ls hf hP hD hS hl
    unfold F_X12_leads_c252 at hf
    refine lv_iconst (v := 1) hx hb dX12_leads_252 (by decide) ?_
    refine lv_istore (lv' := [(13, .int (1 : Int32)), (0, .ref (r 0)), (1, .long a0), (3, .int a1), (4, .int a2), (5, .int w5), (8, .long w8), (10, .int (zB w10)), (11, .int (zB w11)), (12, .int (zB w12))]) hx hb dX12_leads_253 hl (by decide) rfl (fun ls hl => ?_)
    refine lv_iload hx hb dX12_leads_255 (lv_at hl 4 rfl) ?_
    refine lv_if_ne (tgt := 315) hx hb dX12_leads_257 (by decide) (fun c_257 => ?_) (fun c_257 => ?_)
    · rw [if_neg c_257] at hf
      refine lv_iload_n hx hb dX12_leads_315 rfl (lv_at hl 3 rfl) ?_
      refine lv_iconst (v := 1) hx hb dX12_leads_316 (by decide) ?_
      refine lv_icmp_ne (tgt := 332) hx hb dX12_leads_317 (by decide) (fun c_317 => ?_) (fun c_317 => ?_)
      · rw [if_neg c_317] at hf
        exact J_c332 τ w5 w8 w10 w11 w12 true H locs ls hf hP hD hS (lv_sub hl [1, 2, 3, 5, 6, 7, 8, 9, 0] rfl)
      · rw [if_pos c_317] at hf
        refine lv_iload hx hb dX12_leads_320 (lv_at hl 9 rfl) ?_
        refine gz_ne (tgt := 329) hx hb dX12_leads_322 (by decide) (fun c_322 => ?_) (fun c_322 => ?_)
        · rw [if_pos c_322] at hf
          refine lv_iconst (v := 0) hx hb dX12_leads_329 (by decide) ?_
          exact J_c330 τ w5 w8 w10 w11 w12 false H locs ls hf hP hD hS (lv_sub hl [1, 2, 3, 5, 6, 7, 8, 9] rfl)
        · rw [if_neg c_322] at hf
          refine lv_iconst (v := 1) hx hb dX12_leads_325 (by decide) ?_
          refine lv_goto (tgt := 330) hx hb dX12_leads_326 (by decide) ?_
          exact J_c330 τ w5 w8 w10 w11 w12 true H locs ls hf hP hD hS (lv_sub hl [1, 2, 3, 5, 6, 7, 8, 9] rfl)
    · rw [if_pos c_257] at hf
      refine lv_iload_n hx hb dX12_leads_260 rfl (lv_at hl 3 rfl) ?_
      refine lv_if_ne (tgt := 268) hx hb dX12_leads_261 (by decide) (fun c_261 => ?_) (fun c_261 => ?_)
      · rw [if_neg c_261] at hf
        exact J_c268 τ w5 w8 w10 w11 w12 true H locs ls hf hP hD hS (lv_sub hl [1, 2, 3, 5, 6, 7, 8, 9, 0] rfl)
      · rw [if_pos c_261] at hf
        refine lv_iload hx hb dX12_leads_264 (lv_at hl 8 rfl) ?_
        refine lv_istore (lv' := [(13, .int (zB w11)), (0, .ref (r 0)), (1, .long a0), (3, .int a1), (4, .int a2), (5, .int w5), (8, .long w8), (10, .int (zB w10)), (11, .int (zB w11)), (12, .int (zB w12))]) hx hb dX12_leads_266 hl (by decide) rfl (fun ls hl => ?_)
        exact J_c268 τ w5 w8 w10 w11 w12 w11 H locs ls hf hP hD hS (lv_sub hl [1, 2, 3, 5, 6, 7, 8, 9, 0] rfl)
  have J_c243 : ∀ (τ : MS) (w5 : Int32) (w8 : Int64) (w10 : Bool) (w11 : Bool) (H : Heap) (locs : List Loc) (ls : Array Slot), F_X12_leads_c243 τ a0 a1 a2 w5 w8 w10 w11 = some res → va_P z.1 vwCl (mW z r τ) H → va_D A (mW z r τ) → va_S A s.heap H locs → lv_has ls 14 [(0, .ref (r 0)), (1, .long a0), (3, .int a1), (4, .int a2), (5, .int w5), (8, .long w8), (10, .int (zB w10)), (11, .int (zB w11))] → W p l e { frames := 1, cells := 0, slots := 0, locals := 26 } s m ([.ref (r 0), .long a0, .int a1, .int a2] : List Value).toArray below meth c H locs 0 0 Q (F0 m 243 ls []) := by
    intro τ w5 w8 w10 w11 H locs ls hf hP hD hS hl
    unfold F_X12_leads_c243 at hf
    refine lv_lload hx hb dX12_leads_243 (lv_at hl 5 rfl) ?_
    refine lv_bipush (v := 7) hx hb dX12_leads_245 (by decide) ?_
    refine k_X12_bit (a0 := w8) (a1 := (7 : Int32)) S tl_X12_68 ⟨Nat.le_of_ble_eq_true rfl, Nat.le_of_ble_eq_true rfl⟩ hl.1 (Nat.le_of_ble_eq_true rfl) dX12_leads_247 ?_
    refine lv_istore (lv' := [(12, .int (zB (F_X12_bit w8 (7 : Int32)))), (0, .ref (r 0)), (1, .long a0), (3, .int a1), (4, .int a2), (5, .int w5), (8, .long w8), (10, .int (zB w10)), (11, .int (zB w11))]) hx hb dX12_leads_250 hl (by decide) rfl (fun ls hl => ?_)
    exact J_c252 τ w5 w8 w10 w11 (F_X12_bit w8 (7 : Int32)) H locs ls hf hP hD hS (lv_sub hl [1, 2, 3, 4, 5, 6, 7, 8, 0] rfl)
  have J_c214 : ∀ (τ : MS) (w5 : Int32) (w8 : Int64) (w10 : Bool) (H : Heap) (locs : List Loc) (ls : Array Slot), F_X12_leads_c214 τ a0 a1 a2 w5 w8 w10 = some res → va_P z.1 vwCl (mW z r τ) H → va_D A (mW z r τ) → va_S A s.heap H locs → lv_has ls 14 [(0, .ref (r 0)), (1, .long a0), (3, .int a1), (4, .int a2), (5, .int w5), (8, .long w8), (10, .int (zB w10))] → W p l e { frames := 1, cells := 0, slots := 0, locals := 26 } s m ([.ref (r 0), .long a0, .int a1, .int a2] : List Value).toArray below meth c H locs 0 0 Q (F0 m 214 ls []) := by
    intro τ w5 w8 w10 H locs ls hf hP hD hS hl
    unfold F_X12_leads_c214 at hf
    refine lv_lload hx hb dX12_leads_214 (lv_at hl 5 rfl) ?_
    refine lv_bipush (v := 10) hx hb dX12_leads_216 (by decide) ?_
    refine k_X12_bit (a0 := w8) (a1 := (10 : Int32)) S tl_X12_68 ⟨Nat.le_of_ble_eq_true rfl, Nat.le_of_ble_eq_true rfl⟩ hl.1 (Nat.le_of_ble_eq_true rfl) dX12_leads_218 ?_
    refine gz_ne (tgt := 234) hx hb dX12_leads_221 (by decide) (fun c_221 => ?_) (fun c_221 => ?_)
    · rw [if_pos c_221] at hf
      refine lv_lload hx hb dX12_leads_234 (lv_at hl 5 rfl) ?_
      refine lv_bipush (v := 6) hx hb dX12_leads_236 (by decide) ?_
      refine k_X12_bit (a0 := w8) (a1 := (6 : Int32)) S tl_X12_68 ⟨Nat.le_of_ble_eq_true rfl, Nat.le_of_ble_eq_true rfl⟩ hl.1 (Nat.le_of_ble_eq_true rfl) dX12_leads_238 ?_
      refine lv_istore (lv' := [(11, .int (zB (F_X12_bit w8 (6 : Int32)))), (0, .ref (r 0)), (1, .long a0), (3, .int a1), (4, .int a2), (5, .int w5), (8, .long w8), (10, .int (zB w10))]) hx hb dX12_leads_241 hl (by decide) rfl (fun ls hl => ?_)
      exact J_c243 τ w5 w8 w10 (F_X12_bit w8 (6 : Int32)) H locs ls hf hP hD hS (lv_sub hl [1, 2, 3, 4, 5, 6, 7, 0] rfl)
    · rw [if_neg c_221] at hf
      refine lv_aload_n hx hb dX12_leads_224 rfl (lv_at hl 0 rfl) ?_
      refine lv_bipush (v := 8) hx hb dX12_leads_225 (by decide) ?_
      refine lv_iload hx hb dX12_leads_227 (lv_at hl 4 rfl) ?_
      refine lv_iadd hx hb dX12_leads_229 ?_
      refine k_X12_wrong (a0 := ((8 : Int32) + w5)) S hK hA hP hD hS tl_X12_76 ⟨Nat.le_of_ble_eq_true rfl, Nat.le_of_ble_eq_true rfl⟩ hl.1 (Nat.le_of_ble_eq_true rfl) dX12_leads_230 (fun H locs hP hD hS => ?_)
      exact hend (F_X12_wrong τ ((8 : Int32) + w5)).1 (F_X12_wrong τ ((8 : Int32) + w5)).2 H locs 233 ls (Option.some.inj hf) hP hD hS dX12_leads_233
  have J_c206 : ∀ (τ : MS) (w5 : Int32) (w8 : Int64) (w10 : Bool) (H : Heap) (locs : List Loc) (ls : Array Slot), F_X12_leads_c206 τ a0 a1 a2 w5 w8 w10 = some res → va_P z.1 vwCl (mW z r τ) H → va_D A (mW z r τ) → va_S A s.heap H locs → lv_has ls 14 [(0, .ref (r 0)), (1, .long a0), (3, .int a1), (4, .int a2), (5, .int w5), (8, .long w8), (10, .int (zB w10))] → W p l e { frames := 1, cells := 0, slots := 0, locals := 26 } s m ([.ref (r 0), .long a0, .int a1, .int a2] : List Value).toArray below meth c H locs 0 0 Q (F0 m 206 ls []) := by
    intro τ w5 w8 w10 H locs ls hf hP hD hS hl
    unfold F_X12_leads_c206 at hf
    refine lv_iload hx hb dX12_leads_206 (lv_at hl 6 rfl) ?_
    refine gz_ne (tgt := 214) hx hb dX12_leads_208 (by decide) (fun c_208 => ?_) (fun c_208 => ?_)
    · rw [if_pos c_208] at hf
      exact J_c214 τ w5 w8 w10 H locs ls hf hP hD hS (lv_sub hl [0, 1, 2, 3, 4, 5, 6] rfl)
    · rw [if_neg c_208] at hf
      refine lv_iconst (v := 3) hx hb dX12_leads_211 (by decide) ?_
      refine lv_istore (lv' := [(5, .int (3 : Int32)), (0, .ref (r 0)), (1, .long a0), (3, .int a1), (4, .int a2), (8, .long w8), (10, .int (zB w10))]) hx hb dX12_leads_212 hl (by decide) rfl (fun ls hl => ?_)
      exact J_c214 τ (3 : Int32) w8 w10 H locs ls hf hP hD hS (lv_sub hl [1, 2, 3, 4, 0, 5, 6] rfl)
  have J_c67 : ∀ (n : Nat) (τ : MS) (w5 : Int32) (w6 : Int64) (w8 : Int64) (w10 : Bool) (H : Heap) (locs : List Loc) (ls : Array Slot), F_X12_leads_c67 n τ a0 a1 a2 w5 w6 w8 w10 = some res → va_P z.1 vwCl (mW z r τ) H → va_D A (mW z r τ) → va_S A s.heap H locs → lv_has ls 14 [(0, .ref (r 0)), (1, .long a0), (3, .int a1), (4, .int a2), (5, .int w5), (6, .long w6), (8, .long w8), (10, .int (zB w10))] → W p l e { frames := 1, cells := 0, slots := 0, locals := 26 } s m ([.ref (r 0), .long a0, .int a1, .int a2] : List Value).toArray below meth c H locs 0 0 Q (F0 m 67 ls []) := by
    intro n
    induction n with
    | zero => intro τ w5 w6 w8 w10 H locs ls hf; rw [F_X12_leads_c67] at hf; cases hf
    | succ n ih =>
      have J_c203 : ∀ (τ : MS) (w5 : Int32) (w6 : Int64) (w8 : Int64) (w10 : Bool) (H : Heap) (locs : List Loc) (ls : Array Slot), F_X12_leads_c203 (F_X12_leads_c67 n) τ a0 a1 a2 w5 w6 w8 w10 = some res → va_P z.1 vwCl (mW z r τ) H → va_D A (mW z r τ) → va_S A s.heap H locs → lv_has ls 14 [(0, .ref (r 0)), (1, .long a0), (3, .int a1), (4, .int a2), (5, .int w5), (6, .long w6), (8, .long w8), (10, .int (zB w10))] → W p l e { frames := 1, cells := 0, slots := 0, locals := 26 } s m ([.ref (r 0), .long a0, .int a1, .int a2] : List Value).toArray below meth c H locs 0 0 Q (F0 m 203 ls []) := by
        intro τ w5 w6 w8 w10 H locs ls hf hP hD hS hl
        unfold F_X12_leads_c203 at hf
        refine lv_goto (tgt := 67) hx hb dX12_leads_203 (by decide) ?_
        exact ih τ w5 w6 w8 w10 H locs ls hf hP hD hS (lv_sub hl [0, 1, 2, 3, 4, 5, 6, 7] rfl)
      have J_c171 : ∀ (τ : MS) (w5 : Int32) (w8 : Int64) (w10 : Bool) (w13 : Int32) (H : Heap) (locs : List Loc) (ls : Array Slot), F_X12_leads_c171 (F_X12_leads_c67 n) τ a0 a1 a2 w5 w8 w10 w13 = some res → va_P z.1 vwCl (mW z r τ) H → va_D A (mW z r τ) → va_S A s.heap H locs → lv_has ls 14 [(0, .ref (r 0)), (1, .long a0), (3, .int a1), (4, .int a2), (5, .int w5), (8, .long w8), (10, .int (zB w10)), (13, .int w13)] → W p l e { frames := 1, cells := 0, slots := 0, locals := 26 } s m ([.ref (r 0), .long a0, .int a1, .int a2] : List Value).toArray below meth c H locs 0 0 Q (F0 m 171 ls []) := by
        intro τ w5 w8 w10 w13 H locs ls hf hP hD hS hl
        unfold F_X12_leads_c171 at hf
        refine lv_iload hx hb dX12_leads_171 (lv_at hl 7 rfl) ?_
        refine lv_iconst (v := 3) hx hb dX12_leads_173 (by decide) ?_
        refine lv_icmp_eq (tgt := 186) hx hb dX12_leads_174 (by decide) (fun c_174 => ?_) (fun c_174 => ?_)
        · rw [if_pos c_174] at hf
          refine lv_lload hx hb dX12_leads_186 (lv_at hl 5 rfl) ?_
          refine lv_bipush (v := 47) hx hb dX12_leads_188 (by decide) ?_
          refine lv_bipush (v := 12) hx hb dX12_leads_190 (by decide) ?_
          obtain ⟨v9, e_v9, hf⟩ := Option.bind_eq_some_iff.mp hf
          refine k_X12_bits (a0 := w8) (a1 := (47 : Int32)) (a2 := (12 : Int32)) (res := v9) (hres := e_v9) S tl_X12_72 ⟨Nat.le_of_ble_eq_true rfl, Nat.le_of_ble_eq_true rfl⟩ hl.1 (Nat.le_of_ble_eq_true rfl) dX12_leads_192 ?_
          refine lv_bipush (v := 12) hx hb dX12_leads_195 (by decide) ?_
          refine lv_lshl (v := (j_lshl v9 (12 : Int32))) hx hb dX12_leads_197 rfl ?_
          refine lv_lstore (lv' := [(6, .long (j_lshl v9 (12 : Int32))), (0, .ref (r 0)), (1, .long a0), (3, .int a1), (4, .int a2), (5, .int w5), (8, .long w8), (10, .int (zB w10)), (13, .int w13)]) hx hb dX12_leads_198 hl (by decide) rfl (fun ls hl => ?_)
          refine lv_iinc (v := w5 + (1)) (lv' := [(5, .int (w5 + (1))), (6, .long (j_lshl v9 (12 : Int32))), (0, .ref (r 0)), (1, .long a0), (3, .int a1), (4, .int a2), (8, .long w8), (10, .int (zB w10)), (13, .int w13)]) hx hb dX12_leads_200 hl (k := 5) rfl rfl (by decide) rfl (fun ls hl => ?_)
          exact J_c203 τ (w5 + (1)) (j_lshl v9 (12 : Int32)) w8 w10 H locs ls hf hP hD hS (lv_sub hl [2, 3, 4, 5, 0, 1, 6, 7] rfl)
        · rw [if_neg c_174] at hf
          refine lv_aload_n hx hb dX12_leads_177 rfl (lv_at hl 0 rfl) ?_
          refine lv_iconst (v := 4) hx hb dX12_leads_178 (by decide) ?_
          refine lv_iload hx hb dX12_leads_179 (lv_at hl 4 rfl) ?_
          refine lv_iadd hx hb dX12_leads_181 ?_
          refine k_X12_wrong (a0 := ((4 : Int32) + w5)) S hK hA hP hD hS tl_X12_76 ⟨Nat.le_of_ble_eq_true rfl, Nat.le_of_ble_eq_true rfl⟩ hl.1 (Nat.le_of_ble_eq_true rfl) dX12_leads_182 (fun H locs hP hD hS => ?_)
          exact hend (F_X12_wrong τ ((4 : Int32) + w5)).1 (F_X12_wrong τ ((4 : Int32) + w5)).2 H locs 185 ls (Option.some.inj hf) hP hD hS dX12_leads_185
      have J_c153 : ∀ (τ : MS) (w5 : Int32) (w6 : Int64) (w8 : Int64) (w10 : Bool) (w13 : Int32) (H : Heap) (locs : List Loc) (ls : Array Slot), F_X12_leads_c153 (F_X12_leads_c67 n) τ a0 a1 a2 w5 w6 w8 w10 w13 = some res → va_P z.1 vwCl (mW z r τ) H → va_D A (mW z r τ) → va_S A s.heap H locs → lv_has ls 14 [(0, .ref (r 0)), (1, .long a0), (3, .int a1), (4, .int a2), (5, .int w5), (6, .long w6), (8, .long w8), (10, .int (zB w10)), (13, .int w13)] → W p l e { frames := 1, cells := 0, slots := 0, locals := 26 } s m ([.ref (r 0), .long a0, .int a1, .int a2] : List Value).toArray below meth c H locs 0 0 Q (F0 m 153 ls []) := by
        intro τ w5 w6 w8 w10 w13 H locs ls hf hP hD hS hl
        unfold F_X12_leads_c153 at hf
        refine lv_iload hx hb dX12_leads_153 (lv_at hl 8 rfl) ?_
        refine lv_iconst (v := 1) hx hb dX12_leads_155 (by decide) ?_
        refine lv_icmp_ne (tgt := 171) hx hb dX12_leads_156 (by decide) (fun c_156 => ?_) (fun c_156 => ?_)
        · rw [if_neg c_156] at hf
          exact J_c171 τ w5 w8 w10 w13 H locs ls hf hP hD hS (lv_sub hl [0, 1, 2, 3, 4, 6, 7, 8] rfl)
        · rw [if_pos c_156] at hf
          refine lv_iload hx hb dX12_leads_159 (lv_at hl 4 rfl) ?_
          refine lv_iconst (v := 2) hx hb dX12_leads_161 (by decide) ?_
          refine lv_icmp_ne (tgt := 171) hx hb dX12_leads_162 (by decide) (fun c_162 => ?_) (fun c_162 => ?_)
          · rw [if_neg c_162] at hf
            exact J_c171 τ w5 w8 w10 w13 H locs ls hf hP hD hS (lv_sub hl [0, 1, 2, 3, 4, 6, 7, 8] rfl)
          · rw [if_pos c_162] at hf
            refine lv_iconst (v := 1) hx hb dX12_leads_165 (by decide) ?_
            refine lv_istore (lv' := [(10, .int (1 : Int32)), (0, .ref (r 0)), (1, .long a0), (3, .int a1), (4, .int a2), (5, .int w5), (6, .long w6), (8, .long w8), (13, .int w13)]) hx hb dX12_leads_166 hl (by decide) rfl (fun ls hl => ?_)
            refine lv_goto (tgt := 203) hx hb dX12_leads_168 (by decide) ?_
            exact J_c203 τ w5 w6 w8 true H locs ls hf hP hD hS (lv_sub hl [1, 2, 3, 4, 5, 6, 7, 0] rfl)
      have J_c112 : ∀ (τ : MS) (w5 : Int32) (w6 : Int64) (w10 : Bool) (w11 : Int64) (H : Heap) (locs : List Loc) (ls : Array Slot), F_X12_leads_c112 (F_X12_leads_c67 n) τ a0 a1 a2 w5 w6 w10 w11 = some res → va_P z.1 vwCl (mW z r τ) H → va_D A (mW z r τ) → va_S A s.heap H locs → lv_has ls 14 [(0, .ref (r 0)), (1, .long a0), (3, .int a1), (4, .int a2), (5, .int w5), (6, .long w6), (10, .int (zB w10)), (11, .long w11)] → W p l e { frames := 1, cells := 0, slots := 0, locals := 26 } s m ([.ref (r 0), .long a0, .int a1, .int a2] : List Value).toArray below meth c H locs 0 0 Q (F0 m 112 ls []) := by
        intro τ w5 w6 w10 w11 H locs ls hf hP hD hS hl
        unfold F_X12_leads_c112 at hf
        refine lv_lload hx hb dX12_leads_112 (lv_at hl 7 rfl) ?_
        refine lv_ldc2 (v := 65529) hx hb hown (hts _ tk_X12_82) dX12_leads_114 ?_
        refine k_X12_isBelow (a0 := w11) (a1 := (65529 : Int64)) S tl_X12_84 ⟨Nat.le_of_ble_eq_true rfl, Nat.le_of_ble_eq_true rfl⟩ hl.1 (Nat.le_of_ble_eq_true rfl) dX12_leads_117 ?_
        refine gz_ne (tgt := 133) hx hb dX12_leads_120 (by decide) (fun c_120 => ?_) (fun c_120 => ?_)
        · rw [if_pos c_120] at hf
          refine lv_aload_n hx hb dX12_leads_133 rfl (lv_at hl 0 rfl) ?_
          refine lv_lload hx hb dX12_leads_134 (lv_at hl 7 rfl) ?_
          refine lv_l2i hx hb dX12_leads_136 rfl ?_
          refine lv_bipush (v := 8) hx hb dX12_leads_137 (by decide) ?_
          obtain ⟨v8, e_v8, hf⟩ := Option.bind_eq_some_iff.mp hf
          refine k_X12_bytes (a0 := w11.toInt32) (a1 := (8 : Int32)) (res := v8) (hres := e_v8) S hK hP tl_X12_64 ⟨Nat.le_of_ble_eq_true rfl, Nat.le_of_ble_eq_true rfl⟩ hl.1 (Nat.le_of_ble_eq_true rfl) dX12_leads_139 ?_
          refine lv_lstore (lv' := [(8, .long v8), (0, .ref (r 0)), (1, .long a0), (3, .int a1), (4, .int a2), (5, .int w5), (6, .long w6), (10, .int (zB w10)), (11, .long w11)]) hx hb dX12_leads_142 hl (by decide) rfl (fun ls hl => ?_)
          refine lv_lload hx hb dX12_leads_144 (lv_at hl 0 rfl) ?_
          refine lv_ldc2 (v := 3) hx hb hown (hts _ tk_X12_88) dX12_leads_146 ?_
          refine lv_land hx hb dX12_leads_149 ?_
          refine lv_l2i hx hb dX12_leads_150 rfl ?_
          refine lv_istore (lv' := [(13, .int (v8 &&& (3 : Int64)).toInt32), (8, .long v8), (0, .ref (r 0)), (1, .long a0), (3, .int a1), (4, .int a2), (5, .int w5), (6, .long w6), (10, .int (zB w10)), (11, .long w11)]) hx hb dX12_leads_151 hl (by decide) rfl (fun ls hl => ?_)
          exact J_c153 τ w5 w6 v8 w10 (v8 &&& (3 : Int64)).toInt32 H locs ls hf hP hD hS (lv_sub hl [2, 3, 4, 5, 6, 7, 1, 8, 0] rfl)
        · rw [if_neg c_120] at hf
          refine lv_aload_n hx hb dX12_leads_123 rfl (lv_at hl 0 rfl) ?_
          refine lv_bipush (v := 20) hx hb dX12_leads_124 (by decide) ?_
          refine lv_iload hx hb dX12_leads_126 (lv_at hl 4 rfl) ?_
          refine lv_iadd hx hb dX12_leads_128 ?_
          refine k_X12_wrong (a0 := ((20 : Int32) + w5)) S hK hA hP hD hS tl_X12_76 ⟨Nat.le_of_ble_eq_true rfl, Nat.le_of_ble_eq_true rfl⟩ hl.1 (Nat.le_of_ble_eq_true rfl) dX12_leads_129 (fun H locs hP hD hS => ?_)
          exact hend (F_X12_wrong τ ((20 : Int32) + w5)).1 (F_X12_wrong τ ((20 : Int32) + w5)).2 H locs 132 ls (Option.some.inj hf) hP hD hS dX12_leads_132
      have J_c108 : ∀ (τ : MS) (w5 : Int32) (w6 : Int64) (w10 : Bool) (s0 : Int64) (s1 : Int64) (s2 : Int64) (H : Heap) (locs : List Loc) (ls : Array Slot), F_X12_leads_c108 (F_X12_leads_c67 n) τ a0 a1 a2 w5 w6 w10 s0 s1 s2 = some res → va_P z.1 vwCl (mW z r τ) H → va_D A (mW z r τ) → va_S A s.heap H locs → lv_has ls 14 [(0, .ref (r 0)), (1, .long a0), (3, .int a1), (4, .int a2), (5, .int w5), (6, .long w6), (10, .int (zB w10))] → W p l e { frames := 1, cells := 0, slots := 0, locals := 26 } s m ([.ref (r 0), .long a0, .int a1, .int a2] : List Value).toArray below meth c H locs 0 0 Q (F0 m 108 ls [.long s2, .long s1, .long s0]) := by
        intro τ w5 w6 w10 s0 s1 s2 H locs ls hf hP hD hS hl
        unfold F_X12_leads_c108 at hf
        refine lv_lmul hx hb dX12_leads_108 ?_
        refine lv_ladd hx hb dX12_leads_109 ?_
        refine lv_lstore (lv' := [(11, .long (s0 + (s1 * s2))), (0, .ref (r 0)), (1, .long a0), (3, .int a1), (4, .int a2), (5, .int w5), (6, .long w6), (10, .int (zB w10))]) hx hb dX12_leads_110 hl (by decide) rfl (fun ls hl => ?_)
        exact J_c112 τ w5 w6 w10 (s0 + (s1 * s2)) H locs ls hf hP hD hS (lv_sub hl [1, 2, 3, 4, 5, 6, 7, 0] rfl)
      intro τ w5 w6 w8 w10 H locs ls hf hP hD hS hl
      rw [F_X12_leads_c67] at hf
      refine lv_iload hx hb dX12_leads_67 (lv_at hl 4 rfl) ?_
      refine lv_iconst (v := 4) hx hb dX12_leads_69 (by decide) ?_
      refine lv_icmp_ge (tgt := 206) hx hb dX12_leads_70 (by decide) (fun c_70 => ?_) (fun c_70 => ?_)
      · rw [if_pos c_70] at hf
        exact J_c206 τ w5 w8 w10 H locs ls hf hP hD hS (lv_sub hl [0, 1, 2, 3, 4, 6, 7] rfl)
      · rw [if_neg c_70] at hf
        refine lv_iload hx hb dX12_leads_73 (lv_at hl 7 rfl) ?_
        refine gz_ne (tgt := 206) hx hb dX12_leads_75 (by decide) (fun c_75 => ?_) (fun c_75 => ?_)
        · rw [if_pos c_75] at hf
          exact J_c206 τ w5 w8 w10 H locs ls hf hP hD hS (lv_sub hl [0, 1, 2, 3, 4, 6, 7] rfl)
        · rw [if_neg c_75] at hf
          refine lv_lload hx hb dX12_leads_78 (lv_at hl 5 rfl) ?_
          refine lv_ldc2 (v := 8) hx hb hown (hts _ tk_X12_80) dX12_leads_80 ?_
          refine lv_iload hx hb dX12_leads_83 (lv_at hl 4 rfl) ?_
          refine lv_iconst (v := 2) hx hb dX12_leads_85 (by decide) ?_
          refine lv_icmp_ne (tgt := 100) hx hb dX12_leads_86 (by decide) (fun c_86 => ?_) (fun c_86 => ?_)
          · rw [if_neg c_86] at hf
            refine lv_lload_n hx hb dX12_leads_100 rfl (lv_at hl 1 rfl) ?_
            refine lv_bipush (v := 20) hx hb dX12_leads_101 (by decide) ?_
            refine lv_bipush (v := 12) hx hb dX12_leads_103 (by decide) ?_
            obtain ⟨v7, e_v7, hf⟩ := Option.bind_eq_some_iff.mp hf
            refine k_X12_bits (a0 := a0) (a1 := (20 : Int32)) (a2 := (12 : Int32)) (res := v7) (hres := e_v7) S tl_X12_72 ⟨Nat.le_of_ble_eq_true rfl, Nat.le_of_ble_eq_true rfl⟩ hl.1 (Nat.le_of_ble_eq_true rfl) dX12_leads_105 ?_
            exact J_c108 τ w5 w6 w10 w6 (8 : Int64) v7 H locs ls hf hP hD hS (lv_sub hl [0, 1, 2, 3, 4, 5, 7] rfl)
          · rw [if_pos c_86] at hf
            refine lv_lload_n hx hb dX12_leads_89 rfl (lv_at hl 1 rfl) ?_
            refine lv_bipush (v := 29) hx hb dX12_leads_90 (by decide) ?_
            refine lv_bipush (v := 21) hx hb dX12_leads_92 (by decide) ?_
            obtain ⟨v10, e_v10, hf⟩ := Option.bind_eq_some_iff.mp hf
            refine k_X12_bits (a0 := a0) (a1 := (29 : Int32)) (a2 := (21 : Int32)) (res := v10) (hres := e_v10) S tl_X12_72 ⟨Nat.le_of_ble_eq_true rfl, Nat.le_of_ble_eq_true rfl⟩ hl.1 (Nat.le_of_ble_eq_true rfl) dX12_leads_94 ?_
            refine lv_goto (tgt := 108) hx hb dX12_leads_97 (by decide) ?_
            exact J_c108 τ w5 w6 w10 w6 (8 : Int64) v10 H locs ls hf hP hD hS (lv_sub hl [0, 1, 2, 3, 4, 5, 7] rfl)
  unfold F_X12_leads at hf
  refine lv_aload_n hx hb dX12_leads_0 rfl (lv_at hl 0 rfl) ?_
  refine lv_lload_n hx hb dX12_leads_1 rfl (lv_at hl 1 rfl) ?_
  refine fp_X12_place (v := a0) S hK hP hD hS tf_X12_44 dX12_leads_2 (fun H locs hP hD hS => ?_)
  refine lv_aload_n hx hb dX12_leads_5 rfl (lv_at hl 0 rfl) ?_
  refine fg_X12_state S hK hP tf_X12_22 dX12_leads_6 ?_
  refine lv_iconst (v := 3) hx hb dX12_leads_9 (by decide) ?_
  refine al_m_state S hK hP (show vp_in (3 : Int32) 11 by unfold vp_in; decide) dX12_leads_10 ?_
  refine lv_iconst (v := 0) hx hb dX12_leads_11 (by decide) ?_
  refine k_X12_bit (a0 := (m_state (mu_place σ a0) (3 : Int32).toNatClampNeg)) (a1 := (0 : Int32)) S tl_X12_68 ⟨Nat.le_of_ble_eq_true rfl, Nat.le_of_ble_eq_true rfl⟩ hl.1 (Nat.le_of_ble_eq_true rfl) dX12_leads_12 ?_
  refine gz_ne (tgt := 20) hx hb dX12_leads_15 (by decide) (fun c_15 => ?_) (fun c_15 => ?_)
  · rw [if_pos c_15] at hf
    refine lv_lload_n hx hb dX12_leads_20 rfl (lv_at hl 1 rfl) ?_
    refine lv_bipush (v := 63) hx hb dX12_leads_21 (by decide) ?_
    refine lv_bipush (v := 30) hx hb dX12_leads_23 (by decide) ?_
    obtain ⟨v1, e_v1, hf⟩ := Option.bind_eq_some_iff.mp hf
    refine k_X12_bits (a0 := a0) (a1 := (63 : Int32)) (a2 := (30 : Int32)) (res := v1) (hres := e_v1) S tl_X12_72 ⟨Nat.le_of_ble_eq_true rfl, Nat.le_of_ble_eq_true rfl⟩ hl.1 (Nat.le_of_ble_eq_true rfl) dX12_leads_25 ?_
    refine lv_lconst (v := 0) hx hb dX12_leads_28 (by decide) ?_
    refine gl_eq (tgt := 40) hx hb dX12_leads_29 dX12_leads_30 (by decide) (fun c_29 => ?_) (fun c_29 => ?_)
    · rw [if_pos c_29] at hf
      refine lv_iconst (v := 2) hx hb dX12_leads_40 (by decide) ?_
      refine lv_istore (lv' := [(5, .int (2 : Int32)), (0, .ref (r 0)), (1, .long a0), (3, .int a1), (4, .int a2)]) hx hb dX12_leads_41 hl (by decide) rfl (fun ls hl => ?_)
      refine lv_aload_n hx hb dX12_leads_43 rfl (lv_at hl 1 rfl) ?_
      refine fg_X12_state S hK hP tf_X12_22 dX12_leads_44 ?_
      refine lv_iconst (v := 4) hx hb dX12_leads_47 (by decide) ?_
      refine al_m_state S hK hP (show vp_in (4 : Int32) 11 by unfold vp_in; decide) dX12_leads_48 ?_
      refine lv_bipush (v := 47) hx hb dX12_leads_49 (by decide) ?_
      refine lv_bipush (v := 12) hx hb dX12_leads_51 (by decide) ?_
      obtain ⟨v2, e_v2, hf⟩ := Option.bind_eq_some_iff.mp hf
      refine k_X12_bits (a0 := (m_state (mu_place σ a0) (4 : Int32).toNatClampNeg)) (a1 := (47 : Int32)) (a2 := (12 : Int32)) (res := v2) (hres := e_v2) S tl_X12_72 ⟨Nat.le_of_ble_eq_true rfl, Nat.le_of_ble_eq_true rfl⟩ hl.1 (Nat.le_of_ble_eq_true rfl) dX12_leads_53 ?_
      refine lv_bipush (v := 12) hx hb dX12_leads_56 (by decide) ?_
      refine lv_lshl (v := (j_lshl v2 (12 : Int32))) hx hb dX12_leads_58 rfl ?_
      refine lv_lstore (lv' := [(6, .long (j_lshl v2 (12 : Int32))), (5, .int (2 : Int32)), (0, .ref (r 0)), (1, .long a0), (3, .int a1), (4, .int a2)]) hx hb dX12_leads_59 hl (by decide) rfl (fun ls hl => ?_)
      refine lv_lconst (v := 0) hx hb dX12_leads_61 (by decide) ?_
      refine lv_lstore (lv' := [(8, .long (0 : Int64)), (6, .long (j_lshl v2 (12 : Int32))), (5, .int (2 : Int32)), (0, .ref (r 0)), (1, .long a0), (3, .int a1), (4, .int a2)]) hx hb dX12_leads_62 hl (by decide) rfl (fun ls hl => ?_)
      refine lv_iconst (v := 0) hx hb dX12_leads_64 (by decide) ?_
      refine lv_istore (lv' := [(10, .int (0 : Int32)), (8, .long (0 : Int64)), (6, .long (j_lshl v2 (12 : Int32))), (5, .int (2 : Int32)), (0, .ref (r 0)), (1, .long a0), (3, .int a1), (4, .int a2)]) hx hb dX12_leads_65 hl (by decide) rfl (fun ls hl => ?_)
      exact J_c67 70 (mu_place σ a0) (2 : Int32) (j_lshl v2 (12 : Int32)) (0 : Int64) false H locs ls hf hP hD hS (lv_sub hl [4, 5, 6, 7, 3, 2, 1, 0] rfl)
    · rw [if_neg c_29] at hf
      refine lv_aload_n hx hb dX12_leads_33 rfl (lv_at hl 0 rfl) ?_
      refine lv_bipush (v := 6) hx hb dX12_leads_34 (by decide) ?_
      refine k_X12_wrong (a0 := (6 : Int32)) S hK hA hP hD hS tl_X12_76 ⟨Nat.le_of_ble_eq_true rfl, Nat.le_of_ble_eq_true rfl⟩ hl.1 (Nat.le_of_ble_eq_true rfl) dX12_leads_36 (fun H locs hP hD hS => ?_)
      exact hend (F_X12_wrong (mu_place σ a0) (6 : Int32)).1 (F_X12_wrong (mu_place σ a0) (6 : Int32)).2 H locs 39 ls (Option.some.inj hf) hP hD hS dX12_leads_39
  · rw [if_neg c_15] at hf
    refine lv_iconst (v := 1) hx hb dX12_leads_18 (by decide) ?_
    exact hend true (mu_place σ a0) H locs 19 ls (Option.some.inj hf) hP hD hS dX12_leads_19
theorem k_X12_leads {p : Program} {l : Launch} {e : Env} {R : Room} {s : State} {m : MethodId} {args : Array Value} {below : List Frame} {meth : Method} {c : Code} {H : Heap} {locs : List Loc} {Q : State → Prop} {cc : ByteArray} {pc : Nat} {ls : Array Slot} {rest : List Value} {own : String} {index nL : Nat} {A : Nat → Prop} {z : Cx} {r : Nat → Nat} {σ : MS} {a0 : Int64} {a1 : Int32} {a2 : Int32} {res : Bool × MS} (hres : F_X12_leads σ a0 a1 a2 = some res) (S : CallFix p m c cc nL s args tbG own) (hK : va_K z.1 vwCl (cxT z) s) (hA : ∀ q, s.heap.size ≤ q → A q) (hP : va_P z.1 vwCl (mW z r σ) H) (hD : va_D A (mW z r σ)) (hS : va_S A s.heap H locs) (hl : Cond.methodLink own index yX12_leads ∈ tbG) (hR : 1 + 1 ≤ R.frames ∧ 8 + (14 + 11) + 26 ≤ R.locals) (hsz : ls.size = nL) (hcat : (rest.map fun v => v.category).sum ≤ 8) (hdg : decode cc pc = .ok (.invokevirtual index, 3)) (kk : ∀ (H : Heap) (locs : List Loc), va_P z.1 vwCl (mW z r res.2) H → va_D A (mW z r res.2) → va_S A s.heap H locs → W p l e R s m args below meth c H locs 0 0 Q (F0 m (pc + 3) ls (.int (zB res.1) :: rest))) : W p l e R s m args below meth c H locs 0 0 Q (F0 m pc ls (.int a2 :: .int a1 :: .long a0 :: .ref (r 0) :: rest)) :=
  km (As := [.long a0, .int a1, .int a2]) (ov := some (.int (zB res.1))) (w' := mW z r res.2) (q0 := 0) (ci := 11) S hK hA hP hD hS (c_X12_leads l z r σ a0 a1 a2 H.size _ hres) ⟨tb_cB 3 S.2.2.2.2 tc_X12_leads ti_X12 hl rfl rfl (by decide +kernel) hR, S.2.2.2.2 _ tm_X12_leads, S.2.2.2.2 _ te_X12_leads⟩ rfl rfl rfl rfl hsz rfl hcat hdg kk

theorem dX12_inside_0 : decode cX12_inside 0 = .ok (.aload_n 0, 1) := by decide +kernel
theorem dX12_inside_1 : decode cX12_inside 1 = .ok (.getfield 44, 3) := by decide +kernel
theorem dX12_inside_4 : decode cX12_inside 4 = .ok (.ldc 13, 2) := by decide +kernel
theorem dX12_inside_6 : decode cX12_inside 6 = .ok (.iload_n 1, 1) := by decide +kernel
theorem dX12_inside_7 : decode cX12_inside 7 = .ok (.isub, 1) := by decide +kernel
theorem dX12_inside_8 : decode cX12_inside 8 = .ok (.i2l, 1) := by decide +kernel
theorem dX12_inside_9 : decode cX12_inside 9 = .ok (.lconst 1, 1) := by decide +kernel
theorem dX12_inside_10 : decode cX12_inside 10 = .ok (.ladd, 1) := by decide +kernel
theorem dX12_inside_11 : decode cX12_inside 11 = .ok (.invokestatic 84, 3) := by decide +kernel
theorem dX12_inside_14 : decode cX12_inside 14 = .ok (.ifCond .ne 10, 3) := by decide +kernel
theorem dX12_inside_17 : decode cX12_inside 17 = .ok (.aload_n 0, 1) := by decide +kernel
theorem dX12_inside_18 : decode cX12_inside 18 = .ok (.bipush 16, 2) := by decide +kernel
theorem dX12_inside_20 : decode cX12_inside 20 = .ok (.invokevirtual 76, 3) := by decide +kernel
theorem dX12_inside_23 : decode cX12_inside 23 = .ok (.ireturn, 1) := by decide +kernel
theorem dX12_inside_24 : decode cX12_inside 24 = .ok (.iconst 1, 1) := by decide +kernel
theorem dX12_inside_25 : decode cX12_inside 25 = .ok (.ireturn, 1) := by decide +kernel
def F_X12_inside (σ : MS) (a0 : Int32) : Bool × MS := (if (F_X12_isBelow (m_place σ) (((65536 : Int32) - a0).toInt64 + (1 : Int64))) = true then (true, σ) else ((F_X12_wrong σ (16 : Int32)).1, (F_X12_wrong σ (16 : Int32)).2))
set_option maxHeartbeats 4000000 in
set_option maxRecDepth 100000 in
theorem c_X12_inside (l : Launch) (z : Cx) (r : Nat → Nat) (σ : MS) (a0 : Int32) (sz : Nat) (res : Bool × MS) (hf : F_X12_inside σ a0 = res) : Met l yX12_inside (wsC yX12_inside cX12_inside 2 (some .boolean)) { frames := 1, cells := 0, slots := 0, locals := 23 } (mPc z (mW z r σ) sz [.ref (r 0), .int a0]) (gM z (va_A (mW z r σ) sz) (some (.int (zB res.1))) (mW z r res.2)) 0 0 (va_A (mW z r σ) sz) := by
  refine mk_m_z (own := RX12) (wf := mW z r) (by decide) rfl sz _ (Nat.le_of_ble_eq_true rfl) (fun p e s m below meth c A H locs Q ls S hK hA hP hD hS hl hend => ?_)
  have hx := S.1
  have hb := S.2.1
  have hown := S.2.2.2.1
  have hts := S.2.2.2.2
  have hl : lv_has ls 2 [(0, .ref (r 0)), (1, .int a0)] := hl
  unfold F_X12_inside at hf
  refine lv_aload_n hx hb dX12_inside_0 rfl (lv_at hl 0 rfl) ?_
  refine fg_X12_place S hK hP tf_X12_44 dX12_inside_1 ?_
  refine lv_ldc (v := 65536) hx hb hown (hts _ tk_X12_13) dX12_inside_4 ?_
  refine lv_iload_n hx hb dX12_inside_6 rfl (lv_at hl 1 rfl) ?_
  refine lv_isub hx hb dX12_inside_7 ?_
  refine lv_i2l hx hb dX12_inside_8 rfl ?_
  refine lv_lconst (v := 1) hx hb dX12_inside_9 (by decide) ?_
  refine lv_ladd hx hb dX12_inside_10 ?_
  refine k_X12_isBelow (a0 := (m_place σ)) (a1 := (((65536 : Int32) - a0).toInt64 + (1 : Int64))) S tl_X12_84 ⟨Nat.le_of_ble_eq_true rfl, Nat.le_of_ble_eq_true rfl⟩ hl.1 (Nat.le_of_ble_eq_true rfl) dX12_inside_11 ?_
  refine gz_ne (tgt := 24) hx hb dX12_inside_14 (by decide) (fun c_14 => ?_) (fun c_14 => ?_)
  · rw [if_pos c_14] at hf
    refine lv_iconst (v := 1) hx hb dX12_inside_24 (by decide) ?_
    exact hend true σ H locs 25 ls hf hP hD hS dX12_inside_25
  · rw [if_neg c_14] at hf
    refine lv_aload_n hx hb dX12_inside_17 rfl (lv_at hl 0 rfl) ?_
    refine lv_bipush (v := 16) hx hb dX12_inside_18 (by decide) ?_
    refine k_X12_wrong (a0 := (16 : Int32)) S hK hA hP hD hS tl_X12_76 ⟨Nat.le_of_ble_eq_true rfl, Nat.le_of_ble_eq_true rfl⟩ hl.1 (Nat.le_of_ble_eq_true rfl) dX12_inside_20 (fun H locs hP hD hS => ?_)
    exact hend (F_X12_wrong σ (16 : Int32)).1 (F_X12_wrong σ (16 : Int32)).2 H locs 23 ls hf hP hD hS dX12_inside_23
theorem k_X12_inside {p : Program} {l : Launch} {e : Env} {R : Room} {s : State} {m : MethodId} {args : Array Value} {below : List Frame} {meth : Method} {c : Code} {H : Heap} {locs : List Loc} {Q : State → Prop} {cc : ByteArray} {pc : Nat} {ls : Array Slot} {rest : List Value} {own : String} {index nL : Nat} {A : Nat → Prop} {z : Cx} {r : Nat → Nat} {σ : MS} {a0 : Int32} (S : CallFix p m c cc nL s args tbG own) (hK : va_K z.1 vwCl (cxT z) s) (hA : ∀ q, s.heap.size ≤ q → A q) (hP : va_P z.1 vwCl (mW z r σ) H) (hD : va_D A (mW z r σ)) (hS : va_S A s.heap H locs) (hl : Cond.methodLink own index yX12_inside ∈ tbG) (hR : 1 + 1 ≤ R.frames ∧ 8 + (2 + 11) + 23 ≤ R.locals) (hsz : ls.size = nL) (hcat : (rest.map fun v => v.category).sum ≤ 8) (hdg : decode cc pc = .ok (.invokevirtual index, 3)) (kk : ∀ (H : Heap) (locs : List Loc), va_P z.1 vwCl (mW z r (F_X12_inside σ a0).2) H → va_D A (mW z r (F_X12_inside σ a0).2) → va_S A s.heap H locs → W p l e R s m args below meth c H locs 0 0 Q (F0 m (pc + 3) ls (.int (zB (F_X12_inside σ a0).1) :: rest))) : W p l e R s m args below meth c H locs 0 0 Q (F0 m pc ls (.int a0 :: .ref (r 0) :: rest)) :=
  km (As := [.int a0]) (ov := some (.int (zB (F_X12_inside σ a0).1))) (w' := mW z r (F_X12_inside σ a0).2) (q0 := 0) (ci := 11) S hK hA hP hD hS (c_X12_inside l z r σ a0 H.size _ rfl) ⟨tb_cB 1 S.2.2.2.2 tc_X12_inside ti_X12 hl rfl rfl (by decide +kernel) hR, S.2.2.2.2 _ tm_X12_inside, S.2.2.2.2 _ te_X12_inside⟩ rfl rfl rfl rfl hsz rfl hcat hdg kk

theorem dX12_enters_0 : decode cX12_enters 0 = .ok (.aload_n 0, 1) := by decide +kernel
theorem dX12_enters_1 : decode cX12_enters 1 = .ok (.dup, 1) := by decide +kernel
theorem dX12_enters_2 : decode cX12_enters 2 = .ok (.getfield 48, 3) := by decide +kernel
theorem dX12_enters_5 : decode cX12_enters 5 = .ok (.iconst 1, 1) := by decide +kernel
theorem dX12_enters_6 : decode cX12_enters 6 = .ok (.iadd, 1) := by decide +kernel
theorem dX12_enters_7 : decode cX12_enters 7 = .ok (.putfield 48, 3) := by decide +kernel
theorem dX12_enters_10 : decode cX12_enters 10 = .ok (.aload_n 0, 1) := by decide +kernel
theorem dX12_enters_11 : decode cX12_enters 11 = .ok (.getfield 25, 3) := by decide +kernel
theorem dX12_enters_14 : decode cX12_enters 14 = .ok (.i2l, 1) := by decide +kernel
theorem dX12_enters_15 : decode cX12_enters 15 = .ok (.bipush 28, 2) := by decide +kernel
theorem dX12_enters_17 : decode cX12_enters 17 = .ok (.lshl, 1) := by decide +kernel
theorem dX12_enters_18 : decode cX12_enters 18 = .ok (.aload_n 0, 1) := by decide +kernel
theorem dX12_enters_19 : decode cX12_enters 19 = .ok (.getfield 34, 3) := by decide +kernel
theorem dX12_enters_22 : decode cX12_enters 22 = .ok (.i2l, 1) := by decide +kernel
theorem dX12_enters_23 : decode cX12_enters 23 = .ok (.bipush 7, 2) := by decide +kernel
theorem dX12_enters_25 : decode cX12_enters 25 = .ok (.lshl, 1) := by decide +kernel
theorem dX12_enters_26 : decode cX12_enters 26 = .ok (.lor, 1) := by decide +kernel
theorem dX12_enters_27 : decode cX12_enters 27 = .ok (.lstore 4, 2) := by decide +kernel
theorem dX12_enters_29 : decode cX12_enters 29 = .ok (.aload_n 0, 1) := by decide +kernel
theorem dX12_enters_30 : decode cX12_enters 30 = .ok (.getfield 28, 3) := by decide +kernel
theorem dX12_enters_33 : decode cX12_enters 33 = .ok (.iconst 1, 1) := by decide +kernel
theorem dX12_enters_34 : decode cX12_enters 34 = .ok (.if_icmp .ne 17, 3) := by decide +kernel
theorem dX12_enters_37 : decode cX12_enters 37 = .ok (.lload 4, 2) := by decide +kernel
theorem dX12_enters_39 : decode cX12_enters 39 = .ok (.ldc2_w 90, 3) := by decide +kernel
theorem dX12_enters_42 : decode cX12_enters 42 = .ok (.aload_n 0, 1) := by decide +kernel
theorem dX12_enters_43 : decode cX12_enters 43 = .ok (.getfield 31, 3) := by decide +kernel
theorem dX12_enters_46 : decode cX12_enters 46 = .ok (.i2l, 1) := by decide +kernel
theorem dX12_enters_47 : decode cX12_enters 47 = .ok (.ladd, 1) := by decide +kernel
theorem dX12_enters_48 : decode cX12_enters 48 = .ok (.ladd, 1) := by decide +kernel
theorem dX12_enters_49 : decode cX12_enters 49 = .ok (.lstore 4, 2) := by decide +kernel
theorem dX12_enters_51 : decode cX12_enters 51 = .ok (.aload_n 0, 1) := by decide +kernel
theorem dX12_enters_52 : decode cX12_enters 52 = .ok (.getfield 22, 3) := by decide +kernel
theorem dX12_enters_55 : decode cX12_enters 55 = .ok (.bipush 7, 2) := by decide +kernel
theorem dX12_enters_57 : decode cX12_enters 57 = .ok (.lload 4, 2) := by decide +kernel
theorem dX12_enters_59 : decode cX12_enters 59 = .ok (.lastore, 1) := by decide +kernel
theorem dX12_enters_60 : decode cX12_enters 60 = .ok (.aload_n 0, 1) := by decide +kernel
theorem dX12_enters_61 : decode cX12_enters 61 = .ok (.getfield 22, 3) := by decide +kernel
theorem dX12_enters_64 : decode cX12_enters 64 = .ok (.bipush 6, 2) := by decide +kernel
theorem dX12_enters_66 : decode cX12_enters 66 = .ok (.lload_n 1, 1) := by decide +kernel
theorem dX12_enters_67 : decode cX12_enters 67 = .ok (.lastore, 1) := by decide +kernel
theorem dX12_enters_68 : decode cX12_enters 68 = .ok (.aload_n 0, 1) := by decide +kernel
theorem dX12_enters_69 : decode cX12_enters 69 = .ok (.getfield 22, 3) := by decide +kernel
theorem dX12_enters_72 : decode cX12_enters 72 = .ok (.iconst 5, 1) := by decide +kernel
theorem dX12_enters_73 : decode cX12_enters 73 = .ok (.laload, 1) := by decide +kernel
theorem dX12_enters_74 : decode cX12_enters 74 = .ok (.ldc2_w 92, 3) := by decide +kernel
theorem dX12_enters_77 : decode cX12_enters 77 = .ok (.land, 1) := by decide +kernel
theorem dX12_enters_78 : decode cX12_enters 78 = .ok (.lstore 6, 2) := by decide +kernel
theorem dX12_enters_80 : decode cX12_enters 80 = .ok (.aload_n 0, 1) := by decide +kernel
theorem dX12_enters_81 : decode cX12_enters 81 = .ok (.getfield 28, 3) := by decide +kernel
theorem dX12_enters_84 : decode cX12_enters 84 = .ok (.ifCond .ne 14, 3) := by decide +kernel
theorem dX12_enters_87 : decode cX12_enters 87 = .ok (.lload 6, 2) := by decide +kernel
theorem dX12_enters_89 : decode cX12_enters 89 = .ok (.ldc2_w 94, 3) := by decide +kernel
theorem dX12_enters_92 : decode cX12_enters 92 = .ok (.ladd, 1) := by decide +kernel
theorem dX12_enters_93 : decode cX12_enters 93 = .ok (.lstore 6, 2) := by decide +kernel
theorem dX12_enters_95 : decode cX12_enters 95 = .ok (.goto 19, 3) := by decide +kernel
theorem dX12_enters_98 : decode cX12_enters 98 = .ok (.aload_n 0, 1) := by decide +kernel
theorem dX12_enters_99 : decode cX12_enters 99 = .ok (.getfield 31, 3) := by decide +kernel
theorem dX12_enters_102 : decode cX12_enters 102 = .ok (.iconst 1, 1) := by decide +kernel
theorem dX12_enters_103 : decode cX12_enters 103 = .ok (.if_icmp .ne 11, 3) := by decide +kernel
theorem dX12_enters_106 : decode cX12_enters 106 = .ok (.lload 6, 2) := by decide +kernel
theorem dX12_enters_108 : decode cX12_enters 108 = .ok (.ldc2_w 96, 3) := by decide +kernel
theorem dX12_enters_111 : decode cX12_enters 111 = .ok (.ladd, 1) := by decide +kernel
theorem dX12_enters_112 : decode cX12_enters 112 = .ok (.lstore 6, 2) := by decide +kernel
theorem dX12_enters_114 : decode cX12_enters 114 = .ok (.iload_n 3, 1) := by decide +kernel
theorem dX12_enters_115 : decode cX12_enters 115 = .ok (.ifCond .eq 11, 3) := by decide +kernel
theorem dX12_enters_118 : decode cX12_enters 118 = .ok (.lload 6, 2) := by decide +kernel
theorem dX12_enters_120 : decode cX12_enters 120 = .ok (.ldc2_w 98, 3) := by decide +kernel
theorem dX12_enters_123 : decode cX12_enters 123 = .ok (.ladd, 1) := by decide +kernel
theorem dX12_enters_124 : decode cX12_enters 124 = .ok (.lstore 6, 2) := by decide +kernel
theorem dX12_enters_126 : decode cX12_enters 126 = .ok (.aload_n 0, 1) := by decide +kernel
theorem dX12_enters_127 : decode cX12_enters 127 = .ok (.getfield 22, 3) := by decide +kernel
theorem dX12_enters_130 : decode cX12_enters 130 = .ok (.iconst 2, 1) := by decide +kernel
theorem dX12_enters_131 : decode cX12_enters 131 = .ok (.lload 6, 2) := by decide +kernel
theorem dX12_enters_133 : decode cX12_enters 133 = .ok (.lastore, 1) := by decide +kernel
theorem dX12_enters_134 : decode cX12_enters 134 = .ok (.aload_n 0, 1) := by decide +kernel
theorem dX12_enters_135 : decode cX12_enters 135 = .ok (.iconst 1, 1) := by decide +kernel
theorem dX12_enters_136 : decode cX12_enters 136 = .ok (.putfield 28, 3) := by decide +kernel
theorem dX12_enters_139 : decode cX12_enters 139 = .ok (.aload_n 0, 1) := by decide +kernel
theorem dX12_enters_140 : decode cX12_enters 140 = .ok (.iconst 1, 1) := by decide +kernel
theorem dX12_enters_141 : decode cX12_enters 141 = .ok (.putfield 31, 3) := by decide +kernel
theorem dX12_enters_144 : decode cX12_enters 144 = .ok (.aload_n 0, 1) := by decide +kernel
theorem dX12_enters_145 : decode cX12_enters 145 = .ok (.iconst 1, 1) := by decide +kernel
theorem dX12_enters_146 : decode cX12_enters 146 = .ok (.putfield 34, 3) := by decide +kernel
theorem dX12_enters_149 : decode cX12_enters 149 = .ok (.aload_n 0, 1) := by decide +kernel
theorem dX12_enters_150 : decode cX12_enters 150 = .ok (.iconst 1, 1) := by decide +kernel
theorem dX12_enters_151 : decode cX12_enters 151 = .ok (.putfield 37, 3) := by decide +kernel
theorem dX12_enters_154 : decode cX12_enters 154 = .ok (.return_, 1) := by decide +kernel
def F_X12_enters_c126 (τ : MS) (a0 : Int64) (a1 : Bool) (w6 : Int64) : MS := (mu_calls (mu_masked (mu_select (mu_level (mu_state τ (vp_updL (m_state τ) (2 : Int32).toNatClampNeg w6)) (1 : Int32)) (1 : Int32)) (1 : Int32)) true)
def F_X12_enters_c114 (τ : MS) (a0 : Int64) (a1 : Bool) (w6 : Int64) : MS := (if a1 = true then (F_X12_enters_c126 τ a0 a1 (w6 + (128 : Int64))) else (F_X12_enters_c126 τ a0 a1 w6))
def F_X12_enters_c95 (τ : MS) (a0 : Int64) (a1 : Bool) (w6 : Int64) : MS := (F_X12_enters_c114 τ a0 a1 w6)
def F_X12_enters_c80 (τ : MS) (a0 : Int64) (a1 : Bool) (w6 : Int64) : MS := (if (m_level τ) = 0 then (F_X12_enters_c95 τ a0 a1 (w6 + (1024 : Int64))) else (if (m_select τ) = (1 : Int32) then (F_X12_enters_c114 τ a0 a1 (w6 + (512 : Int64))) else (F_X12_enters_c114 τ a0 a1 w6)))
def F_X12_enters_c51 (τ : MS) (a0 : Int64) (a1 : Bool) (w4 : Int64) : MS := (F_X12_enters_c80 (mu_state (mu_state τ (vp_updL (m_state τ) (7 : Int32).toNatClampNeg w4)) (vp_updL (m_state (mu_state τ (vp_updL (m_state τ) (7 : Int32).toNatClampNeg w4))) (6 : Int32).toNatClampNeg a0)) a0 a1 ((m_state (mu_state (mu_state τ (vp_updL (m_state τ) (7 : Int32).toNatClampNeg w4)) (vp_updL (m_state (mu_state τ (vp_updL (m_state τ) (7 : Int32).toNatClampNeg w4))) (6 : Int32).toNatClampNeg a0)) (5 : Int32).toNatClampNeg) &&& (-2048 : Int64)))
def F_X12_enters_c29 (τ : MS) (a0 : Int64) (a1 : Bool) (w4 : Int64) : MS := (if (m_level τ) = (1 : Int32) then (F_X12_enters_c51 τ a0 a1 (w4 + ((4 : Int64) + (m_select τ).toInt64))) else (F_X12_enters_c51 τ a0 a1 w4))
def F_X12_enters (σ : MS) (a0 : Int64) (a1 : Bool) : MS := (F_X12_enters_c29 (mu_taken σ ((m_taken σ) + (1 : Int32))) a0 a1 ((j_lshl (m_flags (mu_taken σ ((m_taken σ) + (1 : Int32)))).toInt64 (28 : Int32)) ||| (j_lshl (m_masked (mu_taken σ ((m_taken σ) + (1 : Int32)))).toInt64 (7 : Int32))))
set_option maxHeartbeats 4000000 in
set_option maxRecDepth 100000 in
theorem c_X12_enters (l : Launch) (z : Cx) (r : Nat → Nat) (σ : MS) (a0 : Int64) (a1 : Bool) (sz : Nat) (res : MS) (hf : F_X12_enters σ a0 a1 = res) : Met l yX12_enters (wsC yX12_enters cX12_enters 8 none) { frames := 0, cells := 0, slots := 0, locals := 0 } (mPc z (mW z r σ) sz [.ref (r 0), .long a0, .int (zB a1)]) (gM z (va_A (mW z r σ) sz) none (mW z r res)) 0 0 (va_A (mW z r σ) sz) := by
  refine mk_m_v (own := RX12) (wf := mW z r) (by decide) rfl sz _ (Nat.le_of_ble_eq_true rfl) (fun p e s m below meth c A H locs Q ls S hK hA hP hD hS hl hend => ?_)
  have hx := S.1
  have hb := S.2.1
  have hown := S.2.2.2.1
  have hts := S.2.2.2.2
  have hl : lv_has ls 8 [(0, .ref (r 0)), (1, .long a0), (3, .int (zB a1))] := hl
  have J_c126 : ∀ (τ : MS) (w6 : Int64) (H : Heap) (locs : List Loc) (ls : Array Slot), F_X12_enters_c126 τ a0 a1 w6 = res → va_P z.1 vwCl (mW z r τ) H → va_D A (mW z r τ) → va_S A s.heap H locs → lv_has ls 8 [(0, .ref (r 0)), (6, .long w6)] → W p l e { frames := 0, cells := 0, slots := 0, locals := 0 } s m ([.ref (r 0), .long a0, .int (zB a1)] : List Value).toArray below meth c H locs 0 0 Q (F0 m 126 ls []) := by
    intro τ w6 H locs ls hf hP hD hS hl
    unfold F_X12_enters_c126 at hf
    refine lv_aload_n hx hb dX12_enters_126 rfl (lv_at hl 0 rfl) ?_
    refine fg_X12_state S hK hP tf_X12_22 dX12_enters_127 ?_
    refine lv_iconst (v := 2) hx hb dX12_enters_130 (by decide) ?_
    refine lv_lload hx hb dX12_enters_131 (lv_at hl 1 rfl) ?_
    refine ar_m_state (x := w6) S hK hP hD hS (show vp_in (2 : Int32) 11 by unfold vp_in; decide) dX12_enters_133 (fun H locs hP hD hS => ?_)
    refine lv_aload_n hx hb dX12_enters_134 rfl (lv_at hl 0 rfl) ?_
    refine lv_iconst (v := 1) hx hb dX12_enters_135 (by decide) ?_
    refine fp_X12_level (v := (1 : Int32)) S hK hP hD hS tf_X12_28 dX12_enters_136 (fun H locs hP hD hS => ?_)
    refine lv_aload_n hx hb dX12_enters_139 rfl (lv_at hl 0 rfl) ?_
    refine lv_iconst (v := 1) hx hb dX12_enters_140 (by decide) ?_
    refine fp_X12_select (v := (1 : Int32)) S hK hP hD hS tf_X12_31 dX12_enters_141 (fun H locs hP hD hS => ?_)
    refine lv_aload_n hx hb dX12_enters_144 rfl (lv_at hl 0 rfl) ?_
    refine lv_iconst (v := 1) hx hb dX12_enters_145 (by decide) ?_
    refine fp_X12_masked (v := (1 : Int32)) S hK hP hD hS tf_X12_34 dX12_enters_146 (fun H locs hP hD hS => ?_)
    refine lv_aload_n hx hb dX12_enters_149 rfl (lv_at hl 0 rfl) ?_
    refine lv_iconst (v := 1) hx hb dX12_enters_150 (by decide) ?_
    refine fp_X12_calls (v := true) S hK hP hD hS tf_X12_37 dX12_enters_151 (fun H locs hP hD hS => ?_)
    exact hend (mu_calls (mu_masked (mu_select (mu_level (mu_state τ (vp_updL (m_state τ) (2 : Int32).toNatClampNeg w6)) (1 : Int32)) (1 : Int32)) (1 : Int32)) true) H locs 154 ls hf hP hD hS dX12_enters_154
  have J_c114 : ∀ (τ : MS) (w6 : Int64) (H : Heap) (locs : List Loc) (ls : Array Slot), F_X12_enters_c114 τ a0 a1 w6 = res → va_P z.1 vwCl (mW z r τ) H → va_D A (mW z r τ) → va_S A s.heap H locs → lv_has ls 8 [(0, .ref (r 0)), (3, .int (zB a1)), (6, .long w6)] → W p l e { frames := 0, cells := 0, slots := 0, locals := 0 } s m ([.ref (r 0), .long a0, .int (zB a1)] : List Value).toArray below meth c H locs 0 0 Q (F0 m 114 ls []) := by
    intro τ w6 H locs ls hf hP hD hS hl
    unfold F_X12_enters_c114 at hf
    refine lv_iload_n hx hb dX12_enters_114 rfl (lv_at hl 1 rfl) ?_
    refine gz_eq (tgt := 126) hx hb dX12_enters_115 (by decide) (fun c_115 => ?_) (fun c_115 => ?_)
    · rw [if_neg c_115] at hf
      exact J_c126 τ w6 H locs ls hf hP hD hS (lv_sub hl [0, 2] rfl)
    · rw [if_pos c_115] at hf
      refine lv_lload hx hb dX12_enters_118 (lv_at hl 2 rfl) ?_
      refine lv_ldc2 (v := 128) hx hb hown (hts _ tk_X12_98) dX12_enters_120 ?_
      refine lv_ladd hx hb dX12_enters_123 ?_
      refine lv_lstore (lv' := [(6, .long (w6 + (128 : Int64))), (0, .ref (r 0)), (3, .int (zB a1))]) hx hb dX12_enters_124 hl (by decide) rfl (fun ls hl => ?_)
      exact J_c126 τ (w6 + (128 : Int64)) H locs ls hf hP hD hS (lv_sub hl [1, 0] rfl)
  have J_c95 : ∀ (τ : MS) (w6 : Int64) (H : Heap) (locs : List Loc) (ls : Array Slot), F_X12_enters_c95 τ a0 a1 w6 = res → va_P z.1 vwCl (mW z r τ) H → va_D A (mW z r τ) → va_S A s.heap H locs → lv_has ls 8 [(0, .ref (r 0)), (3, .int (zB a1)), (6, .long w6)] → W p l e { frames := 0, cells := 0, slots := 0, locals := 0 } s m ([.ref (r 0), .long a0, .int (zB a1)] : List Value).toArray below meth c H locs 0 0 Q (F0 m 95 ls []) := by
    intro τ w6 H locs ls hf hP hD hS hl
    unfold F_X12_enters_c95 at hf
    refine lv_goto (tgt := 114) hx hb dX12_enters_95 (by decide) ?_
    exact J_c114 τ w6 H locs ls hf hP hD hS (lv_sub hl [0, 1, 2] rfl)
  have J_c80 : ∀ (τ : MS) (w6 : Int64) (H : Heap) (locs : List Loc) (ls : Array Slot), F_X12_enters_c80 τ a0 a1 w6 = res → va_P z.1 vwCl (mW z r τ) H → va_D A (mW z r τ) → va_S A s.heap H locs → lv_has ls 8 [(0, .ref (r 0)), (3, .int (zB a1)), (6, .long w6)] → W p l e { frames := 0, cells := 0, slots := 0, locals := 0 } s m ([.ref (r 0), .long a0, .int (zB a1)] : List Value).toArray below meth c H locs 0 0 Q (F0 m 80 ls []) := by
    intro τ w6 H locs ls hf hP hD hS hl
    unfold F_X12_enters_c80 at hf
    refine lv_aload_n hx hb dX12_enters_80 rfl (lv_at hl 0 rfl) ?_
    refine fg_X12_level S hK hP tf_X12_28 dX12_enters_81 ?_
    refine lv_if_ne (tgt := 98) hx hb dX12_enters_84 (by decide) (fun c_84 => ?_) (fun c_84 => ?_)
    · rw [if_neg c_84] at hf
      refine lv_aload_n hx hb dX12_enters_98 rfl (lv_at hl 0 rfl) ?_
      refine fg_X12_select S hK hP tf_X12_31 dX12_enters_99 ?_
      refine lv_iconst (v := 1) hx hb dX12_enters_102 (by decide) ?_
      refine lv_icmp_ne (tgt := 114) hx hb dX12_enters_103 (by decide) (fun c_103 => ?_) (fun c_103 => ?_)
      · rw [if_neg c_103] at hf
        exact J_c114 τ w6 H locs ls hf hP hD hS (lv_sub hl [0, 1, 2] rfl)
      · rw [if_pos c_103] at hf
        refine lv_lload hx hb dX12_enters_106 (lv_at hl 2 rfl) ?_
        refine lv_ldc2 (v := 512) hx hb hown (hts _ tk_X12_96) dX12_enters_108 ?_
        refine lv_ladd hx hb dX12_enters_111 ?_
        refine lv_lstore (lv' := [(6, .long (w6 + (512 : Int64))), (0, .ref (r 0)), (3, .int (zB a1))]) hx hb dX12_enters_112 hl (by decide) rfl (fun ls hl => ?_)
        exact J_c114 τ (w6 + (512 : Int64)) H locs ls hf hP hD hS (lv_sub hl [1, 2, 0] rfl)
    · rw [if_pos c_84] at hf
      refine lv_lload hx hb dX12_enters_87 (lv_at hl 2 rfl) ?_
      refine lv_ldc2 (v := 1024) hx hb hown (hts _ tk_X12_94) dX12_enters_89 ?_
      refine lv_ladd hx hb dX12_enters_92 ?_
      refine lv_lstore (lv' := [(6, .long (w6 + (1024 : Int64))), (0, .ref (r 0)), (3, .int (zB a1))]) hx hb dX12_enters_93 hl (by decide) rfl (fun ls hl => ?_)
      exact J_c95 τ (w6 + (1024 : Int64)) H locs ls hf hP hD hS (lv_sub hl [1, 2, 0] rfl)
  have J_c51 : ∀ (τ : MS) (w4 : Int64) (H : Heap) (locs : List Loc) (ls : Array Slot), F_X12_enters_c51 τ a0 a1 w4 = res → va_P z.1 vwCl (mW z r τ) H → va_D A (mW z r τ) → va_S A s.heap H locs → lv_has ls 8 [(0, .ref (r 0)), (1, .long a0), (3, .int (zB a1)), (4, .long w4)] → W p l e { frames := 0, cells := 0, slots := 0, locals := 0 } s m ([.ref (r 0), .long a0, .int (zB a1)] : List Value).toArray below meth c H locs 0 0 Q (F0 m 51 ls []) := by
    intro τ w4 H locs ls hf hP hD hS hl
    unfold F_X12_enters_c51 at hf
    refine lv_aload_n hx hb dX12_enters_51 rfl (lv_at hl 0 rfl) ?_
    refine fg_X12_state S hK hP tf_X12_22 dX12_enters_52 ?_
    refine lv_bipush (v := 7) hx hb dX12_enters_55 (by decide) ?_
    refine lv_lload hx hb dX12_enters_57 (lv_at hl 3 rfl) ?_
    refine ar_m_state (x := w4) S hK hP hD hS (show vp_in (7 : Int32) 11 by unfold vp_in; decide) dX12_enters_59 (fun H locs hP hD hS => ?_)
    refine lv_aload_n hx hb dX12_enters_60 rfl (lv_at hl 0 rfl) ?_
    refine fg_X12_state S hK hP tf_X12_22 dX12_enters_61 ?_
    refine lv_bipush (v := 6) hx hb dX12_enters_64 (by decide) ?_
    refine lv_lload_n hx hb dX12_enters_66 rfl (lv_at hl 1 rfl) ?_
    refine ar_m_state (x := a0) S hK hP hD hS (show vp_in (6 : Int32) 11 by unfold vp_in; decide) dX12_enters_67 (fun H locs hP hD hS => ?_)
    refine lv_aload_n hx hb dX12_enters_68 rfl (lv_at hl 0 rfl) ?_
    refine fg_X12_state S hK hP tf_X12_22 dX12_enters_69 ?_
    refine lv_iconst (v := 5) hx hb dX12_enters_72 (by decide) ?_
    refine al_m_state S hK hP (show vp_in (5 : Int32) 11 by unfold vp_in; decide) dX12_enters_73 ?_
    refine lv_ldc2 (v := -2048) hx hb hown (hts _ tk_X12_92) dX12_enters_74 ?_
    refine lv_land hx hb dX12_enters_77 ?_
    refine lv_lstore (lv' := [(6, .long ((m_state (mu_state (mu_state τ (vp_updL (m_state τ) (7 : Int32).toNatClampNeg w4)) (vp_updL (m_state (mu_state τ (vp_updL (m_state τ) (7 : Int32).toNatClampNeg w4))) (6 : Int32).toNatClampNeg a0)) (5 : Int32).toNatClampNeg) &&& (-2048 : Int64))), (0, .ref (r 0)), (1, .long a0), (3, .int (zB a1)), (4, .long w4)]) hx hb dX12_enters_78 hl (by decide) rfl (fun ls hl => ?_)
    exact J_c80 (mu_state (mu_state τ (vp_updL (m_state τ) (7 : Int32).toNatClampNeg w4)) (vp_updL (m_state (mu_state τ (vp_updL (m_state τ) (7 : Int32).toNatClampNeg w4))) (6 : Int32).toNatClampNeg a0)) ((m_state (mu_state (mu_state τ (vp_updL (m_state τ) (7 : Int32).toNatClampNeg w4)) (vp_updL (m_state (mu_state τ (vp_updL (m_state τ) (7 : Int32).toNatClampNeg w4))) (6 : Int32).toNatClampNeg a0)) (5 : Int32).toNatClampNeg) &&& (-2048 : Int64)) H locs ls hf hP hD hS (lv_sub hl [1, 3, 0] rfl)
  have J_c29 : ∀ (τ : MS) (w4 : Int64) (H : Heap) (locs : List Loc) (ls : Array Slot), F_X12_enters_c29 τ a0 a1 w4 = res → va_P z.1 vwCl (mW z r τ) H → va_D A (mW z r τ) → va_S A s.heap H locs → lv_has ls 8 [(0, .ref (r 0)), (1, .long a0), (3, .int (zB a1)), (4, .long w4)] → W p l e { frames := 0, cells := 0, slots := 0, locals := 0 } s m ([.ref (r 0), .long a0, .int (zB a1)] : List Value).toArray below meth c H locs 0 0 Q (F0 m 29 ls []) := by
    intro τ w4 H locs ls hf hP hD hS hl
    unfold F_X12_enters_c29 at hf
    refine lv_aload_n hx hb dX12_enters_29 rfl (lv_at hl 0 rfl) ?_
    refine fg_X12_level S hK hP tf_X12_28 dX12_enters_30 ?_
    refine lv_iconst (v := 1) hx hb dX12_enters_33 (by decide) ?_
    refine lv_icmp_ne (tgt := 51) hx hb dX12_enters_34 (by decide) (fun c_34 => ?_) (fun c_34 => ?_)
    · rw [if_neg c_34] at hf
      exact J_c51 τ w4 H locs ls hf hP hD hS (lv_sub hl [0, 1, 2, 3] rfl)
    · rw [if_pos c_34] at hf
      refine lv_lload hx hb dX12_enters_37 (lv_at hl 3 rfl) ?_
      refine lv_ldc2 (v := 4) hx hb hown (hts _ tk_X12_90) dX12_enters_39 ?_
      refine lv_aload_n hx hb dX12_enters_42 rfl (lv_at hl 0 rfl) ?_
      refine fg_X12_select S hK hP tf_X12_31 dX12_enters_43 ?_
      refine lv_i2l hx hb dX12_enters_46 rfl ?_
      refine lv_ladd hx hb dX12_enters_47 ?_
      refine lv_ladd hx hb dX12_enters_48 ?_
      refine lv_lstore (lv' := [(4, .long (w4 + ((4 : Int64) + (m_select τ).toInt64))), (0, .ref (r 0)), (1, .long a0), (3, .int (zB a1))]) hx hb dX12_enters_49 hl (by decide) rfl (fun ls hl => ?_)
      exact J_c51 τ (w4 + ((4 : Int64) + (m_select τ).toInt64)) H locs ls hf hP hD hS (lv_sub hl [1, 2, 3, 0] rfl)
  unfold F_X12_enters at hf
  refine lv_aload_n hx hb dX12_enters_0 rfl (lv_at hl 0 rfl) ?_
  refine lv_dup hx hb dX12_enters_1 rfl ?_
  refine fg_X12_taken S hK hP tf_X12_48 dX12_enters_2 ?_
  refine lv_iconst (v := 1) hx hb dX12_enters_5 (by decide) ?_
  refine lv_iadd hx hb dX12_enters_6 ?_
  refine fp_X12_taken (v := ((m_taken σ) + (1 : Int32))) S hK hP hD hS tf_X12_48 dX12_enters_7 (fun H locs hP hD hS => ?_)
  refine lv_aload_n hx hb dX12_enters_10 rfl (lv_at hl 0 rfl) ?_
  refine fg_X12_flags S hK hP tf_X12_25 dX12_enters_11 ?_
  refine lv_i2l hx hb dX12_enters_14 rfl ?_
  refine lv_bipush (v := 28) hx hb dX12_enters_15 (by decide) ?_
  refine lv_lshl (v := (j_lshl (m_flags (mu_taken σ ((m_taken σ) + (1 : Int32)))).toInt64 (28 : Int32))) hx hb dX12_enters_17 rfl ?_
  refine lv_aload_n hx hb dX12_enters_18 rfl (lv_at hl 0 rfl) ?_
  refine fg_X12_masked S hK hP tf_X12_34 dX12_enters_19 ?_
  refine lv_i2l hx hb dX12_enters_22 rfl ?_
  refine lv_bipush (v := 7) hx hb dX12_enters_23 (by decide) ?_
  refine lv_lshl (v := (j_lshl (m_masked (mu_taken σ ((m_taken σ) + (1 : Int32)))).toInt64 (7 : Int32))) hx hb dX12_enters_25 rfl ?_
  refine lv_lor hx hb dX12_enters_26 ?_
  refine lv_lstore (lv' := [(4, .long ((j_lshl (m_flags (mu_taken σ ((m_taken σ) + (1 : Int32)))).toInt64 (28 : Int32)) ||| (j_lshl (m_masked (mu_taken σ ((m_taken σ) + (1 : Int32)))).toInt64 (7 : Int32)))), (0, .ref (r 0)), (1, .long a0), (3, .int (zB a1))]) hx hb dX12_enters_27 hl (by decide) rfl (fun ls hl => ?_)
  exact J_c29 (mu_taken σ ((m_taken σ) + (1 : Int32))) ((j_lshl (m_flags (mu_taken σ ((m_taken σ) + (1 : Int32)))).toInt64 (28 : Int32)) ||| (j_lshl (m_masked (mu_taken σ ((m_taken σ) + (1 : Int32)))).toInt64 (7 : Int32))) H locs ls hf hP hD hS (lv_sub hl [1, 2, 3, 0] rfl)
theorem k_X12_enters {p : Program} {l : Launch} {e : Env} {R : Room} {s : State} {m : MethodId} {args : Array Value} {below : List Frame} {meth : Method} {c : Code} {H : Heap} {locs : List Loc} {Q : State → Prop} {cc : ByteArray} {pc : Nat} {ls : Array Slot} {rest : List Value} {own : String} {index nL : Nat} {A : Nat → Prop} {z : Cx} {r : Nat → Nat} {σ : MS} {a0 : Int64} {a1 : Bool} (S : CallFix p m c cc nL s args tbG own) (hK : va_K z.1 vwCl (cxT z) s) (hA : ∀ q, s.heap.size ≤ q → A q) (hP : va_P z.1 vwCl (mW z r σ) H) (hD : va_D A (mW z r σ)) (hS : va_S A s.heap H locs) (hl : Cond.methodLink own index yX12_enters ∈ tbG) (hR : 0 + 1 ≤ R.frames ∧ 8 + (8 + 11) + 0 ≤ R.locals) (hsz : ls.size = nL) (hcat : (rest.map fun v => v.category).sum ≤ 8) (hdg : decode cc pc = .ok (.invokevirtual index, 3)) (kk : ∀ (H : Heap) (locs : List Loc), va_P z.1 vwCl (mW z r (F_X12_enters σ a0 a1)) H → va_D A (mW z r (F_X12_enters σ a0 a1)) → va_S A s.heap H locs → W p l e R s m args below meth c H locs 0 0 Q (F0 m (pc + 3) ls (rest))) : W p l e R s m args below meth c H locs 0 0 Q (F0 m pc ls (.int (zB a1) :: .long a0 :: .ref (r 0) :: rest)) :=
  km (As := [.long a0, .int (zB a1)]) (ov := none) (w' := mW z r (F_X12_enters σ a0 a1)) (q0 := 0) (ci := 11) S hK hA hP hD hS (c_X12_enters l z r σ a0 a1 H.size _ rfl) ⟨tb_cB 2 S.2.2.2.2 tc_X12_enters ti_X12 hl rfl rfl (by decide +kernel) hR, S.2.2.2.2 _ tm_X12_enters, S.2.2.2.2 _ te_X12_enters⟩ rfl rfl rfl rfl hsz rfl hcat hdg kk

theorem dX12_exception_0 : decode cX12_exception 0 = .ok (.aload_n 0, 1) := by decide +kernel
theorem dX12_exception_1 : decode cX12_exception 1 = .ok (.getfield 22, 3) := by decide +kernel
theorem dX12_exception_4 : decode cX12_exception 4 = .ok (.bipush 8, 2) := by decide +kernel
theorem dX12_exception_6 : decode cX12_exception 6 = .ok (.iload_n 1, 1) := by decide +kernel
theorem dX12_exception_7 : decode cX12_exception 7 = .ok (.i2l, 1) := by decide +kernel
theorem dX12_exception_8 : decode cX12_exception 8 = .ok (.bipush 26, 2) := by decide +kernel
theorem dX12_exception_10 : decode cX12_exception 10 = .ok (.lshl, 1) := by decide +kernel
theorem dX12_exception_11 : decode cX12_exception 11 = .ok (.ldc2_w 100, 3) := by decide +kernel
theorem dX12_exception_14 : decode cX12_exception 14 = .ok (.lor, 1) := by decide +kernel
theorem dX12_exception_15 : decode cX12_exception 15 = .ok (.lload_n 2, 1) := by decide +kernel
theorem dX12_exception_16 : decode cX12_exception 16 = .ok (.lor, 1) := by decide +kernel
theorem dX12_exception_17 : decode cX12_exception 17 = .ok (.lastore, 1) := by decide +kernel
theorem dX12_exception_18 : decode cX12_exception 18 = .ok (.aload_n 0, 1) := by decide +kernel
theorem dX12_exception_19 : decode cX12_exception 19 = .ok (.lload 4, 2) := by decide +kernel
theorem dX12_exception_21 : decode cX12_exception 21 = .ok (.iconst 0, 1) := by decide +kernel
theorem dX12_exception_22 : decode cX12_exception 22 = .ok (.invokevirtual 102, 3) := by decide +kernel
theorem dX12_exception_25 : decode cX12_exception 25 = .ok (.return_, 1) := by decide +kernel
def F_X12_exception_c25 (τ : MS) (a0 : Int32) (a1 : Int64) (a2 : Int64) : MS := τ
def F_X12_exception (σ : MS) (a0 : Int32) (a1 : Int64) (a2 : Int64) : MS := (F_X12_exception_c25 (F_X12_enters (mu_state σ (vp_updL (m_state σ) (8 : Int32).toNatClampNeg (((j_lshl a0.toInt64 (26 : Int32)) ||| (33554432 : Int64)) ||| a1))) a2 false) a0 a1 a2)
set_option maxHeartbeats 4000000 in
set_option maxRecDepth 100000 in
theorem c_X12_exception (l : Launch) (z : Cx) (r : Nat → Nat) (σ : MS) (a0 : Int32) (a1 : Int64) (a2 : Int64) (sz : Nat) (res : MS) (hf : F_X12_exception σ a0 a1 a2 = res) : Met l yX12_exception (wsC yX12_exception cX12_exception 6 none) { frames := 1, cells := 0, slots := 0, locals := 27 } (mPc z (mW z r σ) sz [.ref (r 0), .int a0, .long a1, .long a2]) (gM z (va_A (mW z r σ) sz) none (mW z r res)) 0 0 (va_A (mW z r σ) sz) := by
  refine mk_m_v (own := RX12) (wf := mW z r) (by decide) rfl sz _ (Nat.le_of_ble_eq_true rfl) (fun p e s m below meth c A H locs Q ls S hK hA hP hD hS hl hend => ?_)
  have hx := S.1
  have hb := S.2.1
  have hown := S.2.2.2.1
  have hts := S.2.2.2.2
  have hl : lv_has ls 6 [(0, .ref (r 0)), (1, .int a0), (2, .long a1), (4, .long a2)] := hl
  have J_c25 : ∀ (τ : MS) (H : Heap) (locs : List Loc) (ls : Array Slot), F_X12_exception_c25 τ a0 a1 a2 = res → va_P z.1 vwCl (mW z r τ) H → va_D A (mW z r τ) → va_S A s.heap H locs → lv_has ls 6 [] → W p l e { frames := 1, cells := 0, slots := 0, locals := 27 } s m ([.ref (r 0), .int a0, .long a1, .long a2] : List Value).toArray below meth c H locs 0 0 Q (F0 m 25 ls []) := by
    intro τ H locs ls hf hP hD hS hl
    unfold F_X12_exception_c25 at hf
    exact hend τ H locs 25 ls hf hP hD hS dX12_exception_25
  unfold F_X12_exception at hf
  refine lv_aload_n hx hb dX12_exception_0 rfl (lv_at hl 0 rfl) ?_
  refine fg_X12_state S hK hP tf_X12_22 dX12_exception_1 ?_
  refine lv_bipush (v := 8) hx hb dX12_exception_4 (by decide) ?_
  refine lv_iload_n hx hb dX12_exception_6 rfl (lv_at hl 1 rfl) ?_
  refine lv_i2l hx hb dX12_exception_7 rfl ?_
  refine lv_bipush (v := 26) hx hb dX12_exception_8 (by decide) ?_
  refine lv_lshl (v := (j_lshl a0.toInt64 (26 : Int32))) hx hb dX12_exception_10 rfl ?_
  refine lv_ldc2 (v := 33554432) hx hb hown (hts _ tk_X12_100) dX12_exception_11 ?_
  refine lv_lor hx hb dX12_exception_14 ?_
  refine lv_lload_n hx hb dX12_exception_15 rfl (lv_at hl 2 rfl) ?_
  refine lv_lor hx hb dX12_exception_16 ?_
  refine ar_m_state (x := (((j_lshl a0.toInt64 (26 : Int32)) ||| (33554432 : Int64)) ||| a1)) S hK hP hD hS (show vp_in (8 : Int32) 11 by unfold vp_in; decide) dX12_exception_17 (fun H locs hP hD hS => ?_)
  refine lv_aload_n hx hb dX12_exception_18 rfl (lv_at hl 0 rfl) ?_
  refine lv_lload hx hb dX12_exception_19 (lv_at hl 3 rfl) ?_
  refine lv_iconst (v := 0) hx hb dX12_exception_21 (by decide) ?_
  refine k_X12_enters (a0 := a2) (a1 := false) S hK hA hP hD hS tl_X12_102 ⟨Nat.le_of_ble_eq_true rfl, Nat.le_of_ble_eq_true rfl⟩ hl.1 (Nat.le_of_ble_eq_true rfl) dX12_exception_22 (fun H locs hP hD hS => ?_)
  exact J_c25 (F_X12_enters (mu_state σ (vp_updL (m_state σ) (8 : Int32).toNatClampNeg (((j_lshl a0.toInt64 (26 : Int32)) ||| (33554432 : Int64)) ||| a1))) a2 false) H locs ls hf hP hD hS (lv_sub hl [] rfl)
theorem k_X12_exception {p : Program} {l : Launch} {e : Env} {R : Room} {s : State} {m : MethodId} {args : Array Value} {below : List Frame} {meth : Method} {c : Code} {H : Heap} {locs : List Loc} {Q : State → Prop} {cc : ByteArray} {pc : Nat} {ls : Array Slot} {rest : List Value} {own : String} {index nL : Nat} {A : Nat → Prop} {z : Cx} {r : Nat → Nat} {σ : MS} {a0 : Int32} {a1 : Int64} {a2 : Int64} (S : CallFix p m c cc nL s args tbG own) (hK : va_K z.1 vwCl (cxT z) s) (hA : ∀ q, s.heap.size ≤ q → A q) (hP : va_P z.1 vwCl (mW z r σ) H) (hD : va_D A (mW z r σ)) (hS : va_S A s.heap H locs) (hl : Cond.methodLink own index yX12_exception ∈ tbG) (hR : 1 + 1 ≤ R.frames ∧ 8 + (6 + 11) + 27 ≤ R.locals) (hsz : ls.size = nL) (hcat : (rest.map fun v => v.category).sum ≤ 8) (hdg : decode cc pc = .ok (.invokevirtual index, 3)) (kk : ∀ (H : Heap) (locs : List Loc), va_P z.1 vwCl (mW z r (F_X12_exception σ a0 a1 a2)) H → va_D A (mW z r (F_X12_exception σ a0 a1 a2)) → va_S A s.heap H locs → W p l e R s m args below meth c H locs 0 0 Q (F0 m (pc + 3) ls (rest))) : W p l e R s m args below meth c H locs 0 0 Q (F0 m pc ls (.long a2 :: .long a1 :: .int a0 :: .ref (r 0) :: rest)) :=
  km (As := [.int a0, .long a1, .long a2]) (ov := none) (w' := mW z r (F_X12_exception σ a0 a1 a2)) (q0 := 0) (ci := 11) S hK hA hP hD hS (c_X12_exception l z r σ a0 a1 a2 H.size _ rfl) ⟨tb_cB 3 S.2.2.2.2 tc_X12_exception ti_X12 hl rfl rfl (by decide +kernel) hR, S.2.2.2.2 _ tm_X12_exception, S.2.2.2.2 _ te_X12_exception⟩ rfl rfl rfl rfl hsz rfl hcat hdg kk

theorem dX12_none_0 : decode cX12_none 0 = .ok (.aload_n 0, 1) := by decide +kernel
theorem dX12_none_1 : decode cX12_none 1 = .ok (.iconst 0, 1) := by decide +kernel
theorem dX12_none_2 : decode cX12_none 2 = .ok (.lconst 0, 1) := by decide +kernel
theorem dX12_none_3 : decode cX12_none 3 = .ok (.aload_n 0, 1) := by decide +kernel
theorem dX12_none_4 : decode cX12_none 4 = .ok (.getfield 22, 3) := by decide +kernel
theorem dX12_none_7 : decode cX12_none 7 = .ok (.iconst 2, 1) := by decide +kernel
theorem dX12_none_8 : decode cX12_none 8 = .ok (.laload, 1) := by decide +kernel
theorem dX12_none_9 : decode cX12_none 9 = .ok (.invokevirtual 106, 3) := by decide +kernel
theorem dX12_none_12 : decode cX12_none 12 = .ok (.return_, 1) := by decide +kernel
def F_X12_none_c12 (τ : MS) : MS := τ
def F_X12_none (σ : MS)  : MS := (F_X12_none_c12 (F_X12_exception σ (0 : Int32) (0 : Int64) (m_state σ (2 : Int32).toNatClampNeg)))
set_option maxHeartbeats 4000000 in
set_option maxRecDepth 100000 in
theorem c_X12_none (l : Launch) (z : Cx) (r : Nat → Nat) (σ : MS) (sz : Nat) (res : MS) (hf : F_X12_none σ = res) : Met l yX12_none (wsC yX12_none cX12_none 1 none) { frames := 2, cells := 0, slots := 0, locals := 52 } (mPc z (mW z r σ) sz [.ref (r 0)]) (gM z (va_A (mW z r σ) sz) none (mW z r res)) 0 0 (va_A (mW z r σ) sz) := by
  refine mk_m_v (own := RX12) (wf := mW z r) (by decide) rfl sz _ (Nat.le_of_ble_eq_true rfl) (fun p e s m below meth c A H locs Q ls S hK hA hP hD hS hl hend => ?_)
  have hx := S.1
  have hb := S.2.1
  have hown := S.2.2.2.1
  have hts := S.2.2.2.2
  have hl : lv_has ls 1 [(0, .ref (r 0))] := hl
  have J_c12 : ∀ (τ : MS) (H : Heap) (locs : List Loc) (ls : Array Slot), F_X12_none_c12 τ = res → va_P z.1 vwCl (mW z r τ) H → va_D A (mW z r τ) → va_S A s.heap H locs → lv_has ls 1 [] → W p l e { frames := 2, cells := 0, slots := 0, locals := 52 } s m ([.ref (r 0)] : List Value).toArray below meth c H locs 0 0 Q (F0 m 12 ls []) := by
    intro τ H locs ls hf hP hD hS hl
    unfold F_X12_none_c12 at hf
    exact hend τ H locs 12 ls hf hP hD hS dX12_none_12
  unfold F_X12_none at hf
  refine lv_aload_n hx hb dX12_none_0 rfl (lv_at hl 0 rfl) ?_
  refine lv_iconst (v := 0) hx hb dX12_none_1 (by decide) ?_
  refine lv_lconst (v := 0) hx hb dX12_none_2 (by decide) ?_
  refine lv_aload_n hx hb dX12_none_3 rfl (lv_at hl 0 rfl) ?_
  refine fg_X12_state S hK hP tf_X12_22 dX12_none_4 ?_
  refine lv_iconst (v := 2) hx hb dX12_none_7 (by decide) ?_
  refine al_m_state S hK hP (show vp_in (2 : Int32) 11 by unfold vp_in; decide) dX12_none_8 ?_
  refine k_X12_exception (a0 := (0 : Int32)) (a1 := (0 : Int64)) (a2 := (m_state σ (2 : Int32).toNatClampNeg)) S hK hA hP hD hS tl_X12_106 ⟨Nat.le_of_ble_eq_true rfl, Nat.le_of_ble_eq_true rfl⟩ hl.1 (Nat.le_of_ble_eq_true rfl) dX12_none_9 (fun H locs hP hD hS => ?_)
  exact J_c12 (F_X12_exception σ (0 : Int32) (0 : Int64) (m_state σ (2 : Int32).toNatClampNeg)) H locs ls hf hP hD hS (lv_sub hl [] rfl)
theorem k_X12_none {p : Program} {l : Launch} {e : Env} {R : Room} {s : State} {m : MethodId} {args : Array Value} {below : List Frame} {meth : Method} {c : Code} {H : Heap} {locs : List Loc} {Q : State → Prop} {cc : ByteArray} {pc : Nat} {ls : Array Slot} {rest : List Value} {own : String} {index nL : Nat} {A : Nat → Prop} {z : Cx} {r : Nat → Nat} {σ : MS} (S : CallFix p m c cc nL s args tbG own) (hK : va_K z.1 vwCl (cxT z) s) (hA : ∀ q, s.heap.size ≤ q → A q) (hP : va_P z.1 vwCl (mW z r σ) H) (hD : va_D A (mW z r σ)) (hS : va_S A s.heap H locs) (hl : Cond.methodLink own index yX12_none ∈ tbG) (hR : 2 + 1 ≤ R.frames ∧ 8 + (1 + 11) + 52 ≤ R.locals) (hsz : ls.size = nL) (hcat : (rest.map fun v => v.category).sum ≤ 8) (hdg : decode cc pc = .ok (.invokevirtual index, 3)) (kk : ∀ (H : Heap) (locs : List Loc), va_P z.1 vwCl (mW z r (F_X12_none σ)) H → va_D A (mW z r (F_X12_none σ)) → va_S A s.heap H locs → W p l e R s m args below meth c H locs 0 0 Q (F0 m (pc + 3) ls (rest))) : W p l e R s m args below meth c H locs 0 0 Q (F0 m pc ls (.ref (r 0) :: rest)) :=
  km (As := []) (ov := none) (w' := mW z r (F_X12_none σ)) (q0 := 0) (ci := 11) S hK hA hP hD hS (c_X12_none l z r σ H.size _ rfl) ⟨tb_cB 0 S.2.2.2.2 tc_X12_none ti_X12 hl rfl rfl (by decide +kernel) hR, S.2.2.2.2 _ tm_X12_none, S.2.2.2.2 _ te_X12_none⟩ rfl rfl rfl rfl hsz rfl hcat hdg kk

theorem dX12_dataFault_0 : decode cX12_dataFault 0 = .ok (.aload_n 0, 1) := by decide +kernel
theorem dX12_dataFault_1 : decode cX12_dataFault 1 = .ok (.getfield 22, 3) := by decide +kernel
theorem dX12_dataFault_4 : decode cX12_dataFault 4 = .ok (.bipush 9, 2) := by decide +kernel
theorem dX12_dataFault_6 : decode cX12_dataFault 6 = .ok (.lload_n 1, 1) := by decide +kernel
theorem dX12_dataFault_7 : decode cX12_dataFault 7 = .ok (.lastore, 1) := by decide +kernel
theorem dX12_dataFault_8 : decode cX12_dataFault 8 = .ok (.aload_n 0, 1) := by decide +kernel
theorem dX12_dataFault_9 : decode cX12_dataFault 9 = .ok (.getfield 41, 3) := by decide +kernel
theorem dX12_dataFault_12 : decode cX12_dataFault 12 = .ok (.i2l, 1) := by decide +kernel
theorem dX12_dataFault_13 : decode cX12_dataFault 13 = .ok (.lstore 4, 2) := by decide +kernel
theorem dX12_dataFault_15 : decode cX12_dataFault 15 = .ok (.iload_n 3, 1) := by decide +kernel
theorem dX12_dataFault_16 : decode cX12_dataFault 16 = .ok (.ifCond .eq 11, 3) := by decide +kernel
theorem dX12_dataFault_19 : decode cX12_dataFault 19 = .ok (.lload 4, 2) := by decide +kernel
theorem dX12_dataFault_21 : decode cX12_dataFault 21 = .ok (.ldc2_w 110, 3) := by decide +kernel
theorem dX12_dataFault_24 : decode cX12_dataFault 24 = .ok (.ladd, 1) := by decide +kernel
theorem dX12_dataFault_25 : decode cX12_dataFault 25 = .ok (.lstore 4, 2) := by decide +kernel
theorem dX12_dataFault_27 : decode cX12_dataFault 27 = .ok (.aload_n 0, 1) := by decide +kernel
theorem dX12_dataFault_28 : decode cX12_dataFault 28 = .ok (.bipush 36, 2) := by decide +kernel
theorem dX12_dataFault_30 : decode cX12_dataFault 30 = .ok (.aload_n 0, 1) := by decide +kernel
theorem dX12_dataFault_31 : decode cX12_dataFault 31 = .ok (.getfield 28, 3) := by decide +kernel
theorem dX12_dataFault_34 : decode cX12_dataFault 34 = .ok (.iadd, 1) := by decide +kernel
theorem dX12_dataFault_35 : decode cX12_dataFault 35 = .ok (.lload 4, 2) := by decide +kernel
theorem dX12_dataFault_37 : decode cX12_dataFault 37 = .ok (.aload_n 0, 1) := by decide +kernel
theorem dX12_dataFault_38 : decode cX12_dataFault 38 = .ok (.getfield 22, 3) := by decide +kernel
theorem dX12_dataFault_41 : decode cX12_dataFault 41 = .ok (.iconst 2, 1) := by decide +kernel
theorem dX12_dataFault_42 : decode cX12_dataFault 42 = .ok (.laload, 1) := by decide +kernel
theorem dX12_dataFault_43 : decode cX12_dataFault 43 = .ok (.invokevirtual 106, 3) := by decide +kernel
theorem dX12_dataFault_46 : decode cX12_dataFault 46 = .ok (.return_, 1) := by decide +kernel
def F_X12_dataFault_c46 (τ : MS) (a0 : Int64) (a1 : Bool) : MS := τ
def F_X12_dataFault_c27 (τ : MS) (a0 : Int64) (a1 : Bool) (w4 : Int64) : MS := (F_X12_dataFault_c46 (F_X12_exception τ ((36 : Int32) + (m_level τ)) w4 (m_state τ (2 : Int32).toNatClampNeg)) a0 a1)
def F_X12_dataFault_c15 (τ : MS) (a0 : Int64) (a1 : Bool) (w4 : Int64) : MS := (if a1 = true then (F_X12_dataFault_c27 τ a0 a1 (w4 + (64 : Int64))) else (F_X12_dataFault_c27 τ a0 a1 w4))
def F_X12_dataFault (σ : MS) (a0 : Int64) (a1 : Bool) : MS := (F_X12_dataFault_c15 (mu_state σ (vp_updL (m_state σ) (9 : Int32).toNatClampNeg a0)) a0 a1 (m_faultWhat (mu_state σ (vp_updL (m_state σ) (9 : Int32).toNatClampNeg a0))).toInt64)
set_option maxHeartbeats 4000000 in
set_option maxRecDepth 100000 in
theorem c_X12_dataFault (l : Launch) (z : Cx) (r : Nat → Nat) (σ : MS) (a0 : Int64) (a1 : Bool) (sz : Nat) (res : MS) (hf : F_X12_dataFault σ a0 a1 = res) : Met l yX12_dataFault (wsC yX12_dataFault cX12_dataFault 6 none) { frames := 2, cells := 0, slots := 0, locals := 52 } (mPc z (mW z r σ) sz [.ref (r 0), .long a0, .int (zB a1)]) (gM z (va_A (mW z r σ) sz) none (mW z r res)) 0 0 (va_A (mW z r σ) sz) := by
  refine mk_m_v (own := RX12) (wf := mW z r) (by decide) rfl sz _ (Nat.le_of_ble_eq_true rfl) (fun p e s m below meth c A H locs Q ls S hK hA hP hD hS hl hend => ?_)
  have hx := S.1
  have hb := S.2.1
  have hown := S.2.2.2.1
  have hts := S.2.2.2.2
  have hl : lv_has ls 6 [(0, .ref (r 0)), (1, .long a0), (3, .int (zB a1))] := hl
  have J_c46 : ∀ (τ : MS) (H : Heap) (locs : List Loc) (ls : Array Slot), F_X12_dataFault_c46 τ a0 a1 = res → va_P z.1 vwCl (mW z r τ) H → va_D A (mW z r τ) → va_S A s.heap H locs → lv_has ls 6 [] → W p l e { frames := 2, cells := 0, slots := 0, locals := 52 } s m ([.ref (r 0), .long a0, .int (zB a1)] : List Value).toArray below meth c H locs 0 0 Q (F0 m 46 ls []) := by
    intro τ H locs ls hf hP hD hS hl
    unfold F_X12_dataFault_c46 at hf
    exact hend τ H locs 46 ls hf hP hD hS dX12_dataFault_46
  have J_c27 : ∀ (τ : MS) (w4 : Int64) (H : Heap) (locs : List Loc) (ls : Array Slot), F_X12_dataFault_c27 τ a0 a1 w4 = res → va_P z.1 vwCl (mW z r τ) H → va_D A (mW z r τ) → va_S A s.heap H locs → lv_has ls 6 [(0, .ref (r 0)), (4, .long w4)] → W p l e { frames := 2, cells := 0, slots := 0, locals := 52 } s m ([.ref (r 0), .long a0, .int (zB a1)] : List Value).toArray below meth c H locs 0 0 Q (F0 m 27 ls []) := by
    intro τ w4 H locs ls hf hP hD hS hl
    unfold F_X12_dataFault_c27 at hf
    refine lv_aload_n hx hb dX12_dataFault_27 rfl (lv_at hl 0 rfl) ?_
    refine lv_bipush (v := 36) hx hb dX12_dataFault_28 (by decide) ?_
    refine lv_aload_n hx hb dX12_dataFault_30 rfl (lv_at hl 0 rfl) ?_
    refine fg_X12_level S hK hP tf_X12_28 dX12_dataFault_31 ?_
    refine lv_iadd hx hb dX12_dataFault_34 ?_
    refine lv_lload hx hb dX12_dataFault_35 (lv_at hl 1 rfl) ?_
    refine lv_aload_n hx hb dX12_dataFault_37 rfl (lv_at hl 0 rfl) ?_
    refine fg_X12_state S hK hP tf_X12_22 dX12_dataFault_38 ?_
    refine lv_iconst (v := 2) hx hb dX12_dataFault_41 (by decide) ?_
    refine al_m_state S hK hP (show vp_in (2 : Int32) 11 by unfold vp_in; decide) dX12_dataFault_42 ?_
    refine k_X12_exception (a0 := ((36 : Int32) + (m_level τ))) (a1 := w4) (a2 := (m_state τ (2 : Int32).toNatClampNeg)) S hK hA hP hD hS tl_X12_106 ⟨Nat.le_of_ble_eq_true rfl, Nat.le_of_ble_eq_true rfl⟩ hl.1 (Nat.le_of_ble_eq_true rfl) dX12_dataFault_43 (fun H locs hP hD hS => ?_)
    exact J_c46 (F_X12_exception τ ((36 : Int32) + (m_level τ)) w4 (m_state τ (2 : Int32).toNatClampNeg)) H locs ls hf hP hD hS (lv_sub hl [] rfl)
  have J_c15 : ∀ (τ : MS) (w4 : Int64) (H : Heap) (locs : List Loc) (ls : Array Slot), F_X12_dataFault_c15 τ a0 a1 w4 = res → va_P z.1 vwCl (mW z r τ) H → va_D A (mW z r τ) → va_S A s.heap H locs → lv_has ls 6 [(0, .ref (r 0)), (3, .int (zB a1)), (4, .long w4)] → W p l e { frames := 2, cells := 0, slots := 0, locals := 52 } s m ([.ref (r 0), .long a0, .int (zB a1)] : List Value).toArray below meth c H locs 0 0 Q (F0 m 15 ls []) := by
    intro τ w4 H locs ls hf hP hD hS hl
    unfold F_X12_dataFault_c15 at hf
    refine lv_iload_n hx hb dX12_dataFault_15 rfl (lv_at hl 1 rfl) ?_
    refine gz_eq (tgt := 27) hx hb dX12_dataFault_16 (by decide) (fun c_16 => ?_) (fun c_16 => ?_)
    · rw [if_neg c_16] at hf
      exact J_c27 τ w4 H locs ls hf hP hD hS (lv_sub hl [0, 2] rfl)
    · rw [if_pos c_16] at hf
      refine lv_lload hx hb dX12_dataFault_19 (lv_at hl 2 rfl) ?_
      refine lv_ldc2 (v := 64) hx hb hown (hts _ tk_X12_110) dX12_dataFault_21 ?_
      refine lv_ladd hx hb dX12_dataFault_24 ?_
      refine lv_lstore (lv' := [(4, .long (w4 + (64 : Int64))), (0, .ref (r 0)), (3, .int (zB a1))]) hx hb dX12_dataFault_25 hl (by decide) rfl (fun ls hl => ?_)
      exact J_c27 τ (w4 + (64 : Int64)) H locs ls hf hP hD hS (lv_sub hl [1, 0] rfl)
  unfold F_X12_dataFault at hf
  refine lv_aload_n hx hb dX12_dataFault_0 rfl (lv_at hl 0 rfl) ?_
  refine fg_X12_state S hK hP tf_X12_22 dX12_dataFault_1 ?_
  refine lv_bipush (v := 9) hx hb dX12_dataFault_4 (by decide) ?_
  refine lv_lload_n hx hb dX12_dataFault_6 rfl (lv_at hl 1 rfl) ?_
  refine ar_m_state (x := a0) S hK hP hD hS (show vp_in (9 : Int32) 11 by unfold vp_in; decide) dX12_dataFault_7 (fun H locs hP hD hS => ?_)
  refine lv_aload_n hx hb dX12_dataFault_8 rfl (lv_at hl 0 rfl) ?_
  refine fg_X12_faultWhat S hK hP tf_X12_41 dX12_dataFault_9 ?_
  refine lv_i2l hx hb dX12_dataFault_12 rfl ?_
  refine lv_lstore (lv' := [(4, .long (m_faultWhat (mu_state σ (vp_updL (m_state σ) (9 : Int32).toNatClampNeg a0))).toInt64), (0, .ref (r 0)), (1, .long a0), (3, .int (zB a1))]) hx hb dX12_dataFault_13 hl (by decide) rfl (fun ls hl => ?_)
  exact J_c15 (mu_state σ (vp_updL (m_state σ) (9 : Int32).toNatClampNeg a0)) (m_faultWhat (mu_state σ (vp_updL (m_state σ) (9 : Int32).toNatClampNeg a0))).toInt64 H locs ls hf hP hD hS (lv_sub hl [1, 3, 0] rfl)
theorem k_X12_dataFault {p : Program} {l : Launch} {e : Env} {R : Room} {s : State} {m : MethodId} {args : Array Value} {below : List Frame} {meth : Method} {c : Code} {H : Heap} {locs : List Loc} {Q : State → Prop} {cc : ByteArray} {pc : Nat} {ls : Array Slot} {rest : List Value} {own : String} {index nL : Nat} {A : Nat → Prop} {z : Cx} {r : Nat → Nat} {σ : MS} {a0 : Int64} {a1 : Bool} (S : CallFix p m c cc nL s args tbG own) (hK : va_K z.1 vwCl (cxT z) s) (hA : ∀ q, s.heap.size ≤ q → A q) (hP : va_P z.1 vwCl (mW z r σ) H) (hD : va_D A (mW z r σ)) (hS : va_S A s.heap H locs) (hl : Cond.methodLink own index yX12_dataFault ∈ tbG) (hR : 2 + 1 ≤ R.frames ∧ 8 + (6 + 11) + 52 ≤ R.locals) (hsz : ls.size = nL) (hcat : (rest.map fun v => v.category).sum ≤ 8) (hdg : decode cc pc = .ok (.invokevirtual index, 3)) (kk : ∀ (H : Heap) (locs : List Loc), va_P z.1 vwCl (mW z r (F_X12_dataFault σ a0 a1)) H → va_D A (mW z r (F_X12_dataFault σ a0 a1)) → va_S A s.heap H locs → W p l e R s m args below meth c H locs 0 0 Q (F0 m (pc + 3) ls (rest))) : W p l e R s m args below meth c H locs 0 0 Q (F0 m pc ls (.int (zB a1) :: .long a0 :: .ref (r 0) :: rest)) :=
  km (As := [.long a0, .int (zB a1)]) (ov := none) (w' := mW z r (F_X12_dataFault σ a0 a1)) (q0 := 0) (ci := 11) S hK hA hP hD hS (c_X12_dataFault l z r σ a0 a1 H.size _ rfl) ⟨tb_cB 2 S.2.2.2.2 tc_X12_dataFault ti_X12 hl rfl rfl (by decide +kernel) hR, S.2.2.2.2 _ tm_X12_dataFault, S.2.2.2.2 _ te_X12_dataFault⟩ rfl rfl rfl rfl hsz rfl hcat hdg kk

theorem dX12_pointer_0 : decode cX12_pointer 0 = .ok (.aload_n 0, 1) := by decide +kernel
theorem dX12_pointer_1 : decode cX12_pointer 1 = .ok (.getfield 28, 3) := by decide +kernel
theorem dX12_pointer_4 : decode cX12_pointer 4 = .ok (.ifCond .eq 10, 3) := by decide +kernel
theorem dX12_pointer_7 : decode cX12_pointer 7 = .ok (.aload_n 0, 1) := by decide +kernel
theorem dX12_pointer_8 : decode cX12_pointer 8 = .ok (.getfield 31, 3) := by decide +kernel
theorem dX12_pointer_11 : decode cX12_pointer 11 = .ok (.ifCond .ne 5, 3) := by decide +kernel
theorem dX12_pointer_14 : decode cX12_pointer 14 = .ok (.iconst 0, 1) := by decide +kernel
theorem dX12_pointer_15 : decode cX12_pointer 15 = .ok (.ireturn, 1) := by decide +kernel
theorem dX12_pointer_16 : decode cX12_pointer 16 = .ok (.iconst 1, 1) := by decide +kernel
theorem dX12_pointer_17 : decode cX12_pointer 17 = .ok (.ireturn, 1) := by decide +kernel
def F_X12_pointer (σ : MS)  : Int32 := (if (m_level σ) = 0 then (0 : Int32) else (if (m_select σ) = 0 then (0 : Int32) else (1 : Int32)))
set_option maxHeartbeats 4000000 in
set_option maxRecDepth 100000 in
theorem c_X12_pointer (l : Launch) (z : Cx) (r : Nat → Nat) (σ : MS) (res : Int32) (hf : F_X12_pointer σ = res) : Met l yX12_pointer (wsC yX12_pointer cX12_pointer 1 (some .int)) { frames := 0, cells := 0, slots := 0, locals := 0 } (rPc z (mW z r σ) [.ref (r 0)]) (gS (some (.int res))) 0 0 (fun _ => False) := by
  refine mk_r_i (own := RX12) (by decide) rfl _ (Nat.le_of_ble_eq_true rfl) (fun p e s m below meth c H locs Q ls S hK hP hl hend => ?_)
  have hx := S.1
  have hb := S.2.1
  have hown := S.2.2.2.1
  have hts := S.2.2.2.2
  have hl : lv_has ls 1 [(0, .ref (r 0))] := hl
  unfold F_X12_pointer at hf
  refine lv_aload_n hx hb dX12_pointer_0 rfl (lv_at hl 0 rfl) ?_
  refine fg_X12_level S hK hP tf_X12_28 dX12_pointer_1 ?_
  refine lv_if_eq (tgt := 14) hx hb dX12_pointer_4 (by decide) (fun c_4 => ?_) (fun c_4 => ?_)
  · rw [if_pos c_4] at hf
    refine lv_iconst (v := 0) hx hb dX12_pointer_14 (by decide) ?_
    exact hend (0 : Int32) 15 ls hf dX12_pointer_15
  · rw [if_neg c_4] at hf
    refine lv_aload_n hx hb dX12_pointer_7 rfl (lv_at hl 0 rfl) ?_
    refine fg_X12_select S hK hP tf_X12_31 dX12_pointer_8 ?_
    refine lv_if_ne (tgt := 16) hx hb dX12_pointer_11 (by decide) (fun c_11 => ?_) (fun c_11 => ?_)
    · rw [if_neg c_11] at hf
      refine lv_iconst (v := 1) hx hb dX12_pointer_16 (by decide) ?_
      exact hend (1 : Int32) 17 ls hf dX12_pointer_17
    · rw [if_pos c_11] at hf
      refine lv_iconst (v := 0) hx hb dX12_pointer_14 (by decide) ?_
      exact hend (0 : Int32) 15 ls hf dX12_pointer_15
theorem k_X12_pointer {p : Program} {l : Launch} {e : Env} {R : Room} {s : State} {m : MethodId} {args : Array Value} {below : List Frame} {meth : Method} {c : Code} {H : Heap} {locs : List Loc} {Q : State → Prop} {cc : ByteArray} {pc : Nat} {ls : Array Slot} {rest : List Value} {own : String} {index nL : Nat} {z : Cx} {r : Nat → Nat} {σ : MS} (S : CallFix p m c cc nL s args tbG own) (hK : va_K z.1 vwCl (cxT z) s) (hP : va_P z.1 vwCl (mW z r σ) H) (hl : Cond.methodLink own index yX12_pointer ∈ tbG) (hR : 0 + 1 ≤ R.frames ∧ 8 + (1 + 11) + 0 ≤ R.locals) (hsz : ls.size = nL) (hcat : (rest.map fun v => v.category).sum ≤ 8) (hdg : decode cc pc = .ok (.invokevirtual index, 3)) (kk : W p l e R s m args below meth c H locs 0 0 Q (F0 m (pc + 3) ls (.int (F_X12_pointer σ) :: rest))) : W p l e R s m args below meth c H locs 0 0 Q (F0 m pc ls (.ref (r 0) :: rest)) :=
  kr (As := []) (ov := some (.int (F_X12_pointer σ))) (q0 := 0) (ci := 11) S hK hP (c_X12_pointer l z r σ _ rfl) ⟨tb_cB 0 S.2.2.2.2 tc_X12_pointer ti_X12 hl rfl rfl (by decide +kernel) hR, S.2.2.2.2 _ tm_X12_pointer, S.2.2.2.2 _ te_X12_pointer⟩ rfl rfl rfl rfl hsz rfl hcat hdg kk

theorem dX12_reg_0 : decode cX12_reg 0 = .ok (.iload_n 1, 1) := by decide +kernel
theorem dX12_reg_1 : decode cX12_reg 1 = .ok (.bipush 31, 2) := by decide +kernel
theorem dX12_reg_3 : decode cX12_reg 3 = .ok (.if_icmp .ne 5, 3) := by decide +kernel
theorem dX12_reg_6 : decode cX12_reg 6 = .ok (.lconst 0, 1) := by decide +kernel
theorem dX12_reg_7 : decode cX12_reg 7 = .ok (.lreturn, 1) := by decide +kernel
theorem dX12_reg_8 : decode cX12_reg 8 = .ok (.aload_n 0, 1) := by decide +kernel
theorem dX12_reg_9 : decode cX12_reg 9 = .ok (.getfield 18, 3) := by decide +kernel
theorem dX12_reg_12 : decode cX12_reg 12 = .ok (.iload_n 1, 1) := by decide +kernel
theorem dX12_reg_13 : decode cX12_reg 13 = .ok (.laload, 1) := by decide +kernel
theorem dX12_reg_14 : decode cX12_reg 14 = .ok (.lreturn, 1) := by decide +kernel
def F_X12_reg (σ : MS) (a0 : Int32) : Option (Int64) := (if a0 = (31 : Int32) then some ((0 : Int64)) else (if (a0 < 0 ∨ 32 ≤ a0.toNatClampNeg) then none else some ((m_x σ a0.toNatClampNeg))))
set_option maxHeartbeats 4000000 in
set_option maxRecDepth 100000 in
theorem c_X12_reg (l : Launch) (z : Cx) (r : Nat → Nat) (σ : MS) (a0 : Int32) (res : Int64) (hf : F_X12_reg σ a0 = some res) : Met l yX12_reg (wsC yX12_reg cX12_reg 2 (some .long)) { frames := 0, cells := 0, slots := 0, locals := 0 } (rPc z (mW z r σ) [.ref (r 0), .int a0]) (gS (some (.long res))) 0 0 (fun _ => False) := by
  refine mk_r_l (own := RX12) (by decide) rfl _ (Nat.le_of_ble_eq_true rfl) (fun p e s m below meth c H locs Q ls S hK hP hl hend => ?_)
  have hx := S.1
  have hb := S.2.1
  have hown := S.2.2.2.1
  have hts := S.2.2.2.2
  have hl : lv_has ls 2 [(0, .ref (r 0)), (1, .int a0)] := hl
  unfold F_X12_reg at hf
  refine lv_iload_n hx hb dX12_reg_0 rfl (lv_at hl 1 rfl) ?_
  refine lv_bipush (v := 31) hx hb dX12_reg_1 (by decide) ?_
  refine lv_icmp_ne (tgt := 8) hx hb dX12_reg_3 (by decide) (fun c_3 => ?_) (fun c_3 => ?_)
  · rw [if_neg c_3] at hf
    refine lv_aload_n hx hb dX12_reg_8 rfl (lv_at hl 0 rfl) ?_
    refine fg_X12_x S hK hP tf_X12_18 dX12_reg_9 ?_
    refine lv_iload_n hx hb dX12_reg_12 rfl (lv_at hl 1 rfl) ?_
    by_cases c_13 : (a0 < 0 ∨ 32 ≤ a0.toNatClampNeg)
    · rw [if_pos c_13] at hf
      cases hf
    rw [if_neg c_13] at hf
    refine al_m_x S hK hP c_13 dX12_reg_13 ?_
    exact hend (m_x σ a0.toNatClampNeg) 14 ls (Option.some.inj hf) dX12_reg_14
  · rw [if_pos c_3] at hf
    refine lv_lconst (v := 0) hx hb dX12_reg_6 (by decide) ?_
    exact hend (0 : Int64) 7 ls (Option.some.inj hf) dX12_reg_7
theorem k_X12_reg {p : Program} {l : Launch} {e : Env} {R : Room} {s : State} {m : MethodId} {args : Array Value} {below : List Frame} {meth : Method} {c : Code} {H : Heap} {locs : List Loc} {Q : State → Prop} {cc : ByteArray} {pc : Nat} {ls : Array Slot} {rest : List Value} {own : String} {index nL : Nat} {z : Cx} {r : Nat → Nat} {σ : MS} {a0 : Int32} {res : Int64} (hres : F_X12_reg σ a0 = some res) (S : CallFix p m c cc nL s args tbG own) (hK : va_K z.1 vwCl (cxT z) s) (hP : va_P z.1 vwCl (mW z r σ) H) (hl : Cond.methodLink own index yX12_reg ∈ tbG) (hR : 0 + 1 ≤ R.frames ∧ 8 + (2 + 11) + 0 ≤ R.locals) (hsz : ls.size = nL) (hcat : (rest.map fun v => v.category).sum ≤ 8) (hdg : decode cc pc = .ok (.invokevirtual index, 3)) (kk : W p l e R s m args below meth c H locs 0 0 Q (F0 m (pc + 3) ls (.long res :: rest))) : W p l e R s m args below meth c H locs 0 0 Q (F0 m pc ls (.int a0 :: .ref (r 0) :: rest)) :=
  kr (As := [.int a0]) (ov := some (.long res)) (q0 := 0) (ci := 11) S hK hP (c_X12_reg l z r σ a0 _ hres) ⟨tb_cB 1 S.2.2.2.2 tc_X12_reg ti_X12 hl rfl rfl (by decide +kernel) hR, S.2.2.2.2 _ tm_X12_reg, S.2.2.2.2 _ te_X12_reg⟩ rfl rfl rfl rfl hsz rfl hcat hdg kk

theorem dX12_regOrPointer_0 : decode cX12_regOrPointer 0 = .ok (.iload_n 1, 1) := by decide +kernel
theorem dX12_regOrPointer_1 : decode cX12_regOrPointer 1 = .ok (.bipush 31, 2) := by decide +kernel
theorem dX12_regOrPointer_3 : decode cX12_regOrPointer 3 = .ok (.if_icmp .ne 13, 3) := by decide +kernel
theorem dX12_regOrPointer_6 : decode cX12_regOrPointer 6 = .ok (.aload_n 0, 1) := by decide +kernel
theorem dX12_regOrPointer_7 : decode cX12_regOrPointer 7 = .ok (.getfield 22, 3) := by decide +kernel
theorem dX12_regOrPointer_10 : decode cX12_regOrPointer 10 = .ok (.aload_n 0, 1) := by decide +kernel
theorem dX12_regOrPointer_11 : decode cX12_regOrPointer 11 = .ok (.invokevirtual 112, 3) := by decide +kernel
theorem dX12_regOrPointer_14 : decode cX12_regOrPointer 14 = .ok (.laload, 1) := by decide +kernel
theorem dX12_regOrPointer_15 : decode cX12_regOrPointer 15 = .ok (.lreturn, 1) := by decide +kernel
theorem dX12_regOrPointer_16 : decode cX12_regOrPointer 16 = .ok (.aload_n 0, 1) := by decide +kernel
theorem dX12_regOrPointer_17 : decode cX12_regOrPointer 17 = .ok (.getfield 18, 3) := by decide +kernel
theorem dX12_regOrPointer_20 : decode cX12_regOrPointer 20 = .ok (.iload_n 1, 1) := by decide +kernel
theorem dX12_regOrPointer_21 : decode cX12_regOrPointer 21 = .ok (.laload, 1) := by decide +kernel
theorem dX12_regOrPointer_22 : decode cX12_regOrPointer 22 = .ok (.lreturn, 1) := by decide +kernel
def F_X12_regOrPointer (σ : MS) (a0 : Int32) : Option (Int64) := (if a0 = (31 : Int32) then (if ((F_X12_pointer σ) < 0 ∨ 11 ≤ (F_X12_pointer σ).toNatClampNeg) then none else some ((m_state σ (F_X12_pointer σ).toNatClampNeg))) else (if (a0 < 0 ∨ 32 ≤ a0.toNatClampNeg) then none else some ((m_x σ a0.toNatClampNeg))))
set_option maxHeartbeats 4000000 in
set_option maxRecDepth 100000 in
theorem c_X12_regOrPointer (l : Launch) (z : Cx) (r : Nat → Nat) (σ : MS) (a0 : Int32) (res : Int64) (hf : F_X12_regOrPointer σ a0 = some res) : Met l yX12_regOrPointer (wsC yX12_regOrPointer cX12_regOrPointer 2 (some .long)) { frames := 1, cells := 0, slots := 0, locals := 20 } (rPc z (mW z r σ) [.ref (r 0), .int a0]) (gS (some (.long res))) 0 0 (fun _ => False) := by
  refine mk_r_l (own := RX12) (by decide) rfl _ (Nat.le_of_ble_eq_true rfl) (fun p e s m below meth c H locs Q ls S hK hP hl hend => ?_)
  have hx := S.1
  have hb := S.2.1
  have hown := S.2.2.2.1
  have hts := S.2.2.2.2
  have hl : lv_has ls 2 [(0, .ref (r 0)), (1, .int a0)] := hl
  unfold F_X12_regOrPointer at hf
  refine lv_iload_n hx hb dX12_regOrPointer_0 rfl (lv_at hl 1 rfl) ?_
  refine lv_bipush (v := 31) hx hb dX12_regOrPointer_1 (by decide) ?_
  refine lv_icmp_ne (tgt := 16) hx hb dX12_regOrPointer_3 (by decide) (fun c_3 => ?_) (fun c_3 => ?_)
  · rw [if_neg c_3] at hf
    refine lv_aload_n hx hb dX12_regOrPointer_16 rfl (lv_at hl 0 rfl) ?_
    refine fg_X12_x S hK hP tf_X12_18 dX12_regOrPointer_17 ?_
    refine lv_iload_n hx hb dX12_regOrPointer_20 rfl (lv_at hl 1 rfl) ?_
    by_cases c_21 : (a0 < 0 ∨ 32 ≤ a0.toNatClampNeg)
    · rw [if_pos c_21] at hf
      cases hf
    rw [if_neg c_21] at hf
    refine al_m_x S hK hP c_21 dX12_regOrPointer_21 ?_
    exact hend (m_x σ a0.toNatClampNeg) 22 ls (Option.some.inj hf) dX12_regOrPointer_22
  · rw [if_pos c_3] at hf
    refine lv_aload_n hx hb dX12_regOrPointer_6 rfl (lv_at hl 0 rfl) ?_
    refine fg_X12_state S hK hP tf_X12_22 dX12_regOrPointer_7 ?_
    refine lv_aload_n hx hb dX12_regOrPointer_10 rfl (lv_at hl 0 rfl) ?_
    refine k_X12_pointer S hK hP tl_X12_112 ⟨Nat.le_of_ble_eq_true rfl, Nat.le_of_ble_eq_true rfl⟩ hl.1 (Nat.le_of_ble_eq_true rfl) dX12_regOrPointer_11 ?_
    by_cases c_14 : ((F_X12_pointer σ) < 0 ∨ 11 ≤ (F_X12_pointer σ).toNatClampNeg)
    · rw [if_pos c_14] at hf
      cases hf
    rw [if_neg c_14] at hf
    refine al_m_state S hK hP c_14 dX12_regOrPointer_14 ?_
    exact hend (m_state σ (F_X12_pointer σ).toNatClampNeg) 15 ls (Option.some.inj hf) dX12_regOrPointer_15
theorem k_X12_regOrPointer {p : Program} {l : Launch} {e : Env} {R : Room} {s : State} {m : MethodId} {args : Array Value} {below : List Frame} {meth : Method} {c : Code} {H : Heap} {locs : List Loc} {Q : State → Prop} {cc : ByteArray} {pc : Nat} {ls : Array Slot} {rest : List Value} {own : String} {index nL : Nat} {z : Cx} {r : Nat → Nat} {σ : MS} {a0 : Int32} {res : Int64} (hres : F_X12_regOrPointer σ a0 = some res) (S : CallFix p m c cc nL s args tbG own) (hK : va_K z.1 vwCl (cxT z) s) (hP : va_P z.1 vwCl (mW z r σ) H) (hl : Cond.methodLink own index yX12_regOrPointer ∈ tbG) (hR : 1 + 1 ≤ R.frames ∧ 8 + (2 + 11) + 20 ≤ R.locals) (hsz : ls.size = nL) (hcat : (rest.map fun v => v.category).sum ≤ 8) (hdg : decode cc pc = .ok (.invokevirtual index, 3)) (kk : W p l e R s m args below meth c H locs 0 0 Q (F0 m (pc + 3) ls (.long res :: rest))) : W p l e R s m args below meth c H locs 0 0 Q (F0 m pc ls (.int a0 :: .ref (r 0) :: rest)) :=
  kr (As := [.int a0]) (ov := some (.long res)) (q0 := 0) (ci := 11) S hK hP (c_X12_regOrPointer l z r σ a0 _ hres) ⟨tb_cB 1 S.2.2.2.2 tc_X12_regOrPointer ti_X12 hl rfl rfl (by decide +kernel) hR, S.2.2.2.2 _ tm_X12_regOrPointer, S.2.2.2.2 _ te_X12_regOrPointer⟩ rfl rfl rfl rfl hsz rfl hcat hdg kk

theorem dX12_put_0 : decode cX12_put 0 = .ok (.iload_n 1, 1) := by decide +kernel
theorem dX12_put_1 : decode cX12_put 1 = .ok (.bipush 31, 2) := by decide +kernel
theorem dX12_put_3 : decode cX12_put 3 = .ok (.if_icmp .eq 10, 3) := by decide +kernel
theorem dX12_put_6 : decode cX12_put 6 = .ok (.aload_n 0, 1) := by decide +kernel
theorem dX12_put_7 : decode cX12_put 7 = .ok (.getfield 18, 3) := by decide +kernel
theorem dX12_put_10 : decode cX12_put 10 = .ok (.iload_n 1, 1) := by decide +kernel
theorem dX12_put_11 : decode cX12_put 11 = .ok (.lload_n 2, 1) := by decide +kernel
theorem dX12_put_12 : decode cX12_put 12 = .ok (.lastore, 1) := by decide +kernel
theorem dX12_put_13 : decode cX12_put 13 = .ok (.return_, 1) := by decide +kernel
def F_X12_put (σ : MS) (a0 : Int32) (a1 : Int64) : Option (MS) := (if a0 = (31 : Int32) then some (σ) else (if (a0 < 0 ∨ 32 ≤ a0.toNatClampNeg) then none else some ((mu_x σ (vp_updL (m_x σ) a0.toNatClampNeg a1)))))
set_option maxHeartbeats 4000000 in
set_option maxRecDepth 100000 in
theorem c_X12_put (l : Launch) (z : Cx) (r : Nat → Nat) (σ : MS) (a0 : Int32) (a1 : Int64) (sz : Nat) (res : MS) (hf : F_X12_put σ a0 a1 = some res) : Met l yX12_put (wsC yX12_put cX12_put 4 none) { frames := 0, cells := 0, slots := 0, locals := 0 } (mPc z (mW z r σ) sz [.ref (r 0), .int a0, .long a1]) (gM z (va_A (mW z r σ) sz) none (mW z r res)) 0 0 (va_A (mW z r σ) sz) := by
  refine mk_m_v (own := RX12) (wf := mW z r) (by decide) rfl sz _ (Nat.le_of_ble_eq_true rfl) (fun p e s m below meth c A H locs Q ls S hK hA hP hD hS hl hend => ?_)
  have hx := S.1
  have hb := S.2.1
  have hown := S.2.2.2.1
  have hts := S.2.2.2.2
  have hl : lv_has ls 4 [(0, .ref (r 0)), (1, .int a0), (2, .long a1)] := hl
  unfold F_X12_put at hf
  refine lv_iload_n hx hb dX12_put_0 rfl (lv_at hl 1 rfl) ?_
  refine lv_bipush (v := 31) hx hb dX12_put_1 (by decide) ?_
  refine lv_icmp_eq (tgt := 13) hx hb dX12_put_3 (by decide) (fun c_3 => ?_) (fun c_3 => ?_)
  · rw [if_pos c_3] at hf
    exact hend σ H locs 13 ls (Option.some.inj hf) hP hD hS dX12_put_13
  · rw [if_neg c_3] at hf
    refine lv_aload_n hx hb dX12_put_6 rfl (lv_at hl 0 rfl) ?_
    refine fg_X12_x S hK hP tf_X12_18 dX12_put_7 ?_
    refine lv_iload_n hx hb dX12_put_10 rfl (lv_at hl 1 rfl) ?_
    refine lv_lload_n hx hb dX12_put_11 rfl (lv_at hl 2 rfl) ?_
    by_cases c_12 : (a0 < 0 ∨ 32 ≤ a0.toNatClampNeg)
    · rw [if_pos c_12] at hf
      cases hf
    rw [if_neg c_12] at hf
    refine ar_m_x (x := a1) S hK hP hD hS c_12 dX12_put_12 (fun H locs hP hD hS => ?_)
    exact hend (mu_x σ (vp_updL (m_x σ) a0.toNatClampNeg a1)) H locs 13 ls (Option.some.inj hf) hP hD hS dX12_put_13
theorem k_X12_put {p : Program} {l : Launch} {e : Env} {R : Room} {s : State} {m : MethodId} {args : Array Value} {below : List Frame} {meth : Method} {c : Code} {H : Heap} {locs : List Loc} {Q : State → Prop} {cc : ByteArray} {pc : Nat} {ls : Array Slot} {rest : List Value} {own : String} {index nL : Nat} {A : Nat → Prop} {z : Cx} {r : Nat → Nat} {σ : MS} {a0 : Int32} {a1 : Int64} {res : MS} (hres : F_X12_put σ a0 a1 = some res) (S : CallFix p m c cc nL s args tbG own) (hK : va_K z.1 vwCl (cxT z) s) (hA : ∀ q, s.heap.size ≤ q → A q) (hP : va_P z.1 vwCl (mW z r σ) H) (hD : va_D A (mW z r σ)) (hS : va_S A s.heap H locs) (hl : Cond.methodLink own index yX12_put ∈ tbG) (hR : 0 + 1 ≤ R.frames ∧ 8 + (4 + 11) + 0 ≤ R.locals) (hsz : ls.size = nL) (hcat : (rest.map fun v => v.category).sum ≤ 8) (hdg : decode cc pc = .ok (.invokevirtual index, 3)) (kk : ∀ (H : Heap) (locs : List Loc), va_P z.1 vwCl (mW z r res) H → va_D A (mW z r res) → va_S A s.heap H locs → W p l e R s m args below meth c H locs 0 0 Q (F0 m (pc + 3) ls (rest))) : W p l e R s m args below meth c H locs 0 0 Q (F0 m pc ls (.long a1 :: .int a0 :: .ref (r 0) :: rest)) :=
  km (As := [.int a0, .long a1]) (ov := none) (w' := mW z r res) (q0 := 0) (ci := 11) S hK hA hP hD hS (c_X12_put l z r σ a0 a1 H.size _ hres) ⟨tb_cB 2 S.2.2.2.2 tc_X12_put ti_X12 hl rfl rfl (by decide +kernel) hR, S.2.2.2.2 _ tm_X12_put, S.2.2.2.2 _ te_X12_put⟩ rfl rfl rfl rfl hsz rfl hcat hdg kk

theorem dX12_putOrPointer_0 : decode cX12_putOrPointer 0 = .ok (.iload_n 1, 1) := by decide +kernel
theorem dX12_putOrPointer_1 : decode cX12_putOrPointer 1 = .ok (.bipush 31, 2) := by decide +kernel
theorem dX12_putOrPointer_3 : decode cX12_putOrPointer 3 = .ok (.if_icmp .ne 16, 3) := by decide +kernel
theorem dX12_putOrPointer_6 : decode cX12_putOrPointer 6 = .ok (.aload_n 0, 1) := by decide +kernel
theorem dX12_putOrPointer_7 : decode cX12_putOrPointer 7 = .ok (.getfield 22, 3) := by decide +kernel
theorem dX12_putOrPointer_10 : decode cX12_putOrPointer 10 = .ok (.aload_n 0, 1) := by decide +kernel
theorem dX12_putOrPointer_11 : decode cX12_putOrPointer 11 = .ok (.invokevirtual 112, 3) := by decide +kernel
theorem dX12_putOrPointer_14 : decode cX12_putOrPointer 14 = .ok (.lload_n 2, 1) := by decide +kernel
theorem dX12_putOrPointer_15 : decode cX12_putOrPointer 15 = .ok (.lastore, 1) := by decide +kernel
theorem dX12_putOrPointer_16 : decode cX12_putOrPointer 16 = .ok (.goto 10, 3) := by decide +kernel
theorem dX12_putOrPointer_19 : decode cX12_putOrPointer 19 = .ok (.aload_n 0, 1) := by decide +kernel
theorem dX12_putOrPointer_20 : decode cX12_putOrPointer 20 = .ok (.getfield 18, 3) := by decide +kernel
theorem dX12_putOrPointer_23 : decode cX12_putOrPointer 23 = .ok (.iload_n 1, 1) := by decide +kernel
theorem dX12_putOrPointer_24 : decode cX12_putOrPointer 24 = .ok (.lload_n 2, 1) := by decide +kernel
theorem dX12_putOrPointer_25 : decode cX12_putOrPointer 25 = .ok (.lastore, 1) := by decide +kernel
theorem dX12_putOrPointer_26 : decode cX12_putOrPointer 26 = .ok (.return_, 1) := by decide +kernel
def F_X12_putOrPointer (σ : MS) (a0 : Int32) (a1 : Int64) : Option (MS) := (if a0 = (31 : Int32) then (if ((F_X12_pointer σ) < 0 ∨ 11 ≤ (F_X12_pointer σ).toNatClampNeg) then none else some ((mu_state σ (vp_updL (m_state σ) (F_X12_pointer σ).toNatClampNeg a1)))) else (if (a0 < 0 ∨ 32 ≤ a0.toNatClampNeg) then none else some ((mu_x σ (vp_updL (m_x σ) a0.toNatClampNeg a1)))))
set_option maxHeartbeats 4000000 in
set_option maxRecDepth 100000 in
theorem c_X12_putOrPointer (l : Launch) (z : Cx) (r : Nat → Nat) (σ : MS) (a0 : Int32) (a1 : Int64) (sz : Nat) (res : MS) (hf : F_X12_putOrPointer σ a0 a1 = some res) : Met l yX12_putOrPointer (wsC yX12_putOrPointer cX12_putOrPointer 4 none) { frames := 1, cells := 0, slots := 0, locals := 20 } (mPc z (mW z r σ) sz [.ref (r 0), .int a0, .long a1]) (gM z (va_A (mW z r σ) sz) none (mW z r res)) 0 0 (va_A (mW z r σ) sz) := by
  refine mk_m_v (own := RX12) (wf := mW z r) (by decide) rfl sz _ (Nat.le_of_ble_eq_true rfl) (fun p e s m below meth c A H locs Q ls S hK hA hP hD hS hl hend => ?_)
  have hx := S.1
  have hb := S.2.1
  have hown := S.2.2.2.1
  have hts := S.2.2.2.2
  have hl : lv_has ls 4 [(0, .ref (r 0)), (1, .int a0), (2, .long a1)] := hl
  unfold F_X12_putOrPointer at hf
  refine lv_iload_n hx hb dX12_putOrPointer_0 rfl (lv_at hl 1 rfl) ?_
  refine lv_bipush (v := 31) hx hb dX12_putOrPointer_1 (by decide) ?_
  refine lv_icmp_ne (tgt := 19) hx hb dX12_putOrPointer_3 (by decide) (fun c_3 => ?_) (fun c_3 => ?_)
  · rw [if_neg c_3] at hf
    refine lv_aload_n hx hb dX12_putOrPointer_19 rfl (lv_at hl 0 rfl) ?_
    refine fg_X12_x S hK hP tf_X12_18 dX12_putOrPointer_20 ?_
    refine lv_iload_n hx hb dX12_putOrPointer_23 rfl (lv_at hl 1 rfl) ?_
    refine lv_lload_n hx hb dX12_putOrPointer_24 rfl (lv_at hl 2 rfl) ?_
    by_cases c_25 : (a0 < 0 ∨ 32 ≤ a0.toNatClampNeg)
    · rw [if_pos c_25] at hf
      cases hf
    rw [if_neg c_25] at hf
    refine ar_m_x (x := a1) S hK hP hD hS c_25 dX12_putOrPointer_25 (fun H locs hP hD hS => ?_)
    exact hend (mu_x σ (vp_updL (m_x σ) a0.toNatClampNeg a1)) H locs 26 ls (Option.some.inj hf) hP hD hS dX12_putOrPointer_26
  · rw [if_pos c_3] at hf
    refine lv_aload_n hx hb dX12_putOrPointer_6 rfl (lv_at hl 0 rfl) ?_
    refine fg_X12_state S hK hP tf_X12_22 dX12_putOrPointer_7 ?_
    refine lv_aload_n hx hb dX12_putOrPointer_10 rfl (lv_at hl 0 rfl) ?_
    refine k_X12_pointer S hK hP tl_X12_112 ⟨Nat.le_of_ble_eq_true rfl, Nat.le_of_ble_eq_true rfl⟩ hl.1 (Nat.le_of_ble_eq_true rfl) dX12_putOrPointer_11 ?_
    refine lv_lload_n hx hb dX12_putOrPointer_14 rfl (lv_at hl 2 rfl) ?_
    by_cases c_15 : ((F_X12_pointer σ) < 0 ∨ 11 ≤ (F_X12_pointer σ).toNatClampNeg)
    · rw [if_pos c_15] at hf
      cases hf
    rw [if_neg c_15] at hf
    refine ar_m_state (x := a1) S hK hP hD hS c_15 dX12_putOrPointer_15 (fun H locs hP hD hS => ?_)
    refine lv_goto (tgt := 26) hx hb dX12_putOrPointer_16 (by decide) ?_
    exact hend (mu_state σ (vp_updL (m_state σ) (F_X12_pointer σ).toNatClampNeg a1)) H locs 26 ls (Option.some.inj hf) hP hD hS dX12_putOrPointer_26
theorem k_X12_putOrPointer {p : Program} {l : Launch} {e : Env} {R : Room} {s : State} {m : MethodId} {args : Array Value} {below : List Frame} {meth : Method} {c : Code} {H : Heap} {locs : List Loc} {Q : State → Prop} {cc : ByteArray} {pc : Nat} {ls : Array Slot} {rest : List Value} {own : String} {index nL : Nat} {A : Nat → Prop} {z : Cx} {r : Nat → Nat} {σ : MS} {a0 : Int32} {a1 : Int64} {res : MS} (hres : F_X12_putOrPointer σ a0 a1 = some res) (S : CallFix p m c cc nL s args tbG own) (hK : va_K z.1 vwCl (cxT z) s) (hA : ∀ q, s.heap.size ≤ q → A q) (hP : va_P z.1 vwCl (mW z r σ) H) (hD : va_D A (mW z r σ)) (hS : va_S A s.heap H locs) (hl : Cond.methodLink own index yX12_putOrPointer ∈ tbG) (hR : 1 + 1 ≤ R.frames ∧ 8 + (4 + 11) + 20 ≤ R.locals) (hsz : ls.size = nL) (hcat : (rest.map fun v => v.category).sum ≤ 8) (hdg : decode cc pc = .ok (.invokevirtual index, 3)) (kk : ∀ (H : Heap) (locs : List Loc), va_P z.1 vwCl (mW z r res) H → va_D A (mW z r res) → va_S A s.heap H locs → W p l e R s m args below meth c H locs 0 0 Q (F0 m (pc + 3) ls (rest))) : W p l e R s m args below meth c H locs 0 0 Q (F0 m pc ls (.long a1 :: .int a0 :: .ref (r 0) :: rest)) :=
  km (As := [.int a0, .long a1]) (ov := none) (w' := mW z r res) (q0 := 0) (ci := 11) S hK hA hP hD hS (c_X12_putOrPointer l z r σ a0 a1 H.size _ hres) ⟨tb_cB 2 S.2.2.2.2 tc_X12_putOrPointer ti_X12 hl rfl rfl (by decide +kernel) hR, S.2.2.2.2 _ tm_X12_putOrPointer, S.2.2.2.2 _ te_X12_putOrPointer⟩ rfl rfl rfl rfl hsz rfl hcat hdg kk

theorem dX12_cut_0 : decode cX12_cut 0 = .ok (.iload_n 2, 1) := by decide +kernel
theorem dX12_cut_1 : decode cX12_cut 1 = .ok (.bipush 32, 2) := by decide +kernel
theorem dX12_cut_3 : decode cX12_cut 3 = .ok (.if_icmp .ne 9, 3) := by decide +kernel
theorem dX12_cut_6 : decode cX12_cut 6 = .ok (.lload_n 0, 1) := by decide +kernel
theorem dX12_cut_7 : decode cX12_cut 7 = .ok (.ldc2_w 116, 3) := by decide +kernel
theorem dX12_cut_10 : decode cX12_cut 10 = .ok (.land, 1) := by decide +kernel
theorem dX12_cut_11 : decode cX12_cut 11 = .ok (.lreturn, 1) := by decide +kernel
theorem dX12_cut_12 : decode cX12_cut 12 = .ok (.lload_n 0, 1) := by decide +kernel
theorem dX12_cut_13 : decode cX12_cut 13 = .ok (.lreturn, 1) := by decide +kernel
def F_X12_cut (a0 : Int64) (a1 : Int32) : Int64 := (if a1 = (32 : Int32) then (a0 &&& (4294967295 : Int64)) else a0)
set_option maxHeartbeats 4000000 in
set_option maxRecDepth 100000 in
theorem c_X12_cut (l : Launch) (a0 : Int64) (a1 : Int32) (res : Int64) (hf : F_X12_cut a0 a1 = res) : Met l yX12_cut (wsC yX12_cut cX12_cut 3 (some .long)) { frames := 0, cells := 0, slots := 0, locals := 0 } (fun v _ => v = ([.long a0, .int a1] : List Value).toArray) (gS (some (.long res))) 0 0 (fun _ => False) := by
  refine mk_s_l (own := RX12) (by decide) rfl _ (Nat.le_of_ble_eq_true rfl) (fun p e s m below meth c H locs Q ls S hl hend => ?_)
  have hx := S.1
  have hb := S.2.1
  have hown := S.2.2.2.1
  have hts := S.2.2.2.2
  have hl : lv_has ls 3 [(0, .long a0), (2, .int a1)] := hl
  unfold F_X12_cut at hf
  refine lv_iload_n hx hb dX12_cut_0 rfl (lv_at hl 1 rfl) ?_
  refine lv_bipush (v := 32) hx hb dX12_cut_1 (by decide) ?_
  refine lv_icmp_ne (tgt := 12) hx hb dX12_cut_3 (by decide) (fun c_3 => ?_) (fun c_3 => ?_)
  · rw [if_neg c_3] at hf
    refine lv_lload_n hx hb dX12_cut_12 rfl (lv_at hl 0 rfl) ?_
    exact hend a0 13 ls hf dX12_cut_13
  · rw [if_pos c_3] at hf
    refine lv_lload_n hx hb dX12_cut_6 rfl (lv_at hl 0 rfl) ?_
    refine lv_ldc2 (v := 4294967295) hx hb hown (hts _ tk_X12_116) dX12_cut_7 ?_
    refine lv_land hx hb dX12_cut_10 ?_
    exact hend (a0 &&& (4294967295 : Int64)) 11 ls hf dX12_cut_11
theorem k_X12_cut {p : Program} {l : Launch} {e : Env} {R : Room} {s : State} {m : MethodId} {args : Array Value} {below : List Frame} {meth : Method} {c : Code} {H : Heap} {locs : List Loc} {Q : State → Prop} {cc : ByteArray} {pc : Nat} {ls : Array Slot} {rest : List Value} {own : String} {index nL : Nat} {a0 : Int64} {a1 : Int32} (S : CallFix p m c cc nL s args tbG own) (hl : Cond.methodLink own index yX12_cut ∈ tbG) (hR : 0 + 1 ≤ R.frames ∧ 8 + (3 + 11) + 0 ≤ R.locals) (hsz : ls.size = nL) (hcat : (rest.map fun v => v.category).sum ≤ 8) (hdg : decode cc pc = .ok (.invokestatic index, 3)) (kk : W p l e R s m args below meth c H locs 0 0 Q (F0 m (pc + 3) ls (.long (F_X12_cut a0 a1) :: rest))) : W p l e R s m args below meth c H locs 0 0 Q (F0 m pc ls (.int a1 :: .long a0 :: rest)) :=
  ks (As := [.long a0, .int a1]) (ov := some (.long (F_X12_cut a0 a1))) S (c_X12_cut l a0 a1 _ rfl) ⟨tb_cB 2 S.2.2.2.2 tc_X12_cut ti_X12 hl rfl rfl (by decide +kernel) hR, S.2.2.2.2 _ ts_X12_cut⟩ rfl hsz rfl hcat hdg kk

