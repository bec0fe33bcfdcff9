theorem dX11_many_52 : decode cX11_many 52 = .ok (.iconst 0, 1) := by decide +kernel
theorem dX11_many_53 : decode cX11_many 53 = .ok (.istore_n 2, 1) := by decide +kernel
theorem dX11_many_54 : decode cX11_many 54 = .ok (.iload_n 2, 1) := by decide +kernel
theorem dX11_many_55 : decode cX11_many 55 = .ok (.aload_n 0, 1) := by decide +kernel
theorem dX11_many_56 : decode cX11_many 56 = .ok (.getfield 95, 3) := by decide +kernel
theorem dX11_many_59 : decode cX11_many 59 = .ok (.if_icmp .ge 63, 3) := by decide +kernel
theorem dX11_many_62 : decode cX11_many 62 = .ok (.iconst 0, 1) := by decide +kernel
theorem dX11_many_63 : decode cX11_many 63 = .ok (.istore_n 3, 1) := by decide +kernel
theorem dX11_many_64 : decode cX11_many 64 = .ok (.iload_n 3, 1) := by decide +kernel
theorem dX11_many_65 : decode cX11_many 65 = .ok (.aload_n 0, 1) := by decide +kernel
theorem dX11_many_66 : decode cX11_many 66 = .ok (.getfield 95, 3) := by decide +kernel
theorem dX11_many_69 : decode cX11_many 69 = .ok (.if_icmp .ge 47, 3) := by decide +kernel
theorem dX11_many_72 : decode cX11_many 72 = .ok (.aload_n 0, 1) := by decide +kernel
theorem dX11_many_73 : decode cX11_many 73 = .ok (.getfield 82, 3) := by decide +kernel
theorem dX11_many_76 : decode cX11_many 76 = .ok (.bipush 12, 2) := by decide +kernel
theorem dX11_many_78 : decode cX11_many 78 = .ok (.iload_n 2, 1) := by decide +kernel
theorem dX11_many_79 : decode cX11_many 79 = .ok (.imul, 1) := by decide +kernel
theorem dX11_many_80 : decode cX11_many 80 = .ok (.iload_n 3, 1) := by decide +kernel
theorem dX11_many_81 : decode cX11_many 81 = .ok (.iadd, 1) := by decide +kernel
theorem dX11_many_82 : decode cX11_many 82 = .ok (.iload_n 2, 1) := by decide +kernel
theorem dX11_many_83 : decode cX11_many 83 = .ok (.iload_n 3, 1) := by decide +kernel
theorem dX11_many_84 : decode cX11_many 84 = .ok (.if_icmp .ne 11, 3) := by decide +kernel
theorem dX11_many_87 : decode cX11_many 87 = .ok (.aload_n 0, 1) := by decide +kernel
theorem dX11_many_88 : decode cX11_many 88 = .ok (.iload_n 2, 1) := by decide +kernel
theorem dX11_many_89 : decode cX11_many 89 = .ok (.invokevirtual 106, 3) := by decide +kernel
theorem dX11_many_92 : decode cX11_many 92 = .ok (.goto 10, 3) := by decide +kernel
theorem dX11_many_95 : decode cX11_many 95 = .ok (.aload_n 0, 1) := by decide +kernel
theorem dX11_many_96 : decode cX11_many 96 = .ok (.iload_n 2, 1) := by decide +kernel
theorem dX11_many_97 : decode cX11_many 97 = .ok (.iload_n 3, 1) := by decide +kernel
theorem dX11_many_98 : decode cX11_many 98 = .ok (.invokevirtual 102, 3) := by decide +kernel
theorem dX11_many_101 : decode cX11_many 101 = .ok (.ineg, 1) := by decide +kernel
theorem dX11_many_102 : decode cX11_many 102 = .ok (.iload_n 1, 1) := by decide +kernel
theorem dX11_many_103 : decode cX11_many 103 = .ok (.irem, 1) := by decide +kernel
theorem dX11_many_104 : decode cX11_many 104 = .ok (.iload_n 1, 1) := by decide +kernel
theorem dX11_many_105 : decode cX11_many 105 = .ok (.iadd, 1) := by decide +kernel
theorem dX11_many_106 : decode cX11_many 106 = .ok (.iload_n 1, 1) := by decide +kernel
theorem dX11_many_107 : decode cX11_many 107 = .ok (.irem, 1) := by decide +kernel
theorem dX11_many_108 : decode cX11_many 108 = .ok (.i2l, 1) := by decide +kernel
theorem dX11_many_109 : decode cX11_many 109 = .ok (.lastore, 1) := by decide +kernel
theorem dX11_many_110 : decode cX11_many 110 = .ok (.iinc 3 1, 3) := by decide +kernel
theorem dX11_many_113 : decode cX11_many 113 = .ok (.goto (-49), 3) := by decide +kernel
theorem dX11_many_116 : decode cX11_many 116 = .ok (.iinc 2 1, 3) := by decide +kernel
theorem dX11_many_119 : decode cX11_many 119 = .ok (.goto (-65), 3) := by decide +kernel
theorem dX11_many_122 : decode cX11_many 122 = .ok (.lconst 1, 1) := by decide +kernel
theorem dX11_many_123 : decode cX11_many 123 = .ok (.lstore_n 2, 1) := by decide +kernel
theorem dX11_many_124 : decode cX11_many 124 = .ok (.iconst 0, 1) := by decide +kernel
theorem dX11_many_125 : decode cX11_many 125 = .ok (.istore 4, 2) := by decide +kernel
theorem dX11_many_127 : decode cX11_many 127 = .ok (.iload 4, 2) := by decide +kernel
theorem dX11_many_129 : decode cX11_many 129 = .ok (.aload_n 0, 1) := by decide +kernel
theorem dX11_many_130 : decode cX11_many 130 = .ok (.getfield 95, 3) := by decide +kernel
theorem dX11_many_133 : decode cX11_many 133 = .ok (.if_icmp .ge 311, 3) := by decide +kernel
theorem dX11_many_136 : decode cX11_many 136 = .ok (.iload 4, 2) := by decide +kernel
theorem dX11_many_138 : decode cX11_many 138 = .ok (.istore 5, 2) := by decide +kernel
theorem dX11_many_140 : decode cX11_many 140 = .ok (.iload 5, 2) := by decide +kernel
theorem dX11_many_142 : decode cX11_many 142 = .ok (.aload_n 0, 1) := by decide +kernel
theorem dX11_many_143 : decode cX11_many 143 = .ok (.getfield 95, 3) := by decide +kernel
theorem dX11_many_146 : decode cX11_many 146 = .ok (.if_icmp .ge 27, 3) := by decide +kernel
theorem dX11_many_149 : decode cX11_many 149 = .ok (.aload_n 0, 1) := by decide +kernel
theorem dX11_many_150 : decode cX11_many 150 = .ok (.getfield 82, 3) := by decide +kernel
theorem dX11_many_153 : decode cX11_many 153 = .ok (.bipush 12, 2) := by decide +kernel
theorem dX11_many_155 : decode cX11_many 155 = .ok (.iload 5, 2) := by decide +kernel
theorem dX11_many_157 : decode cX11_many 157 = .ok (.imul, 1) := by decide +kernel
theorem dX11_many_158 : decode cX11_many 158 = .ok (.iload 4, 2) := by decide +kernel
theorem dX11_many_160 : decode cX11_many 160 = .ok (.iadd, 1) := by decide +kernel
theorem dX11_many_161 : decode cX11_many 161 = .ok (.laload, 1) := by decide +kernel
theorem dX11_many_162 : decode cX11_many 162 = .ok (.lconst 0, 1) := by decide +kernel
theorem dX11_many_163 : decode cX11_many 163 = .ok (.lcmp, 1) := by decide +kernel
theorem dX11_many_164 : decode cX11_many 164 = .ok (.ifCond .ne 9, 3) := by decide +kernel
theorem dX11_many_167 : decode cX11_many 167 = .ok (.iinc 5 1, 3) := by decide +kernel
theorem dX11_many_170 : decode cX11_many 170 = .ok (.goto (-30), 3) := by decide +kernel
theorem dX11_many_173 : decode cX11_many 173 = .ok (.iload 5, 2) := by decide +kernel
theorem dX11_many_175 : decode cX11_many 175 = .ok (.aload_n 0, 1) := by decide +kernel
theorem dX11_many_176 : decode cX11_many 176 = .ok (.getfield 95, 3) := by decide +kernel
theorem dX11_many_179 : decode cX11_many 179 = .ok (.if_icmp .ne 5, 3) := by decide +kernel
theorem dX11_many_182 : decode cX11_many 182 = .ok (.iconst 0, 1) := by decide +kernel
theorem dX11_many_183 : decode cX11_many 183 = .ok (.ireturn, 1) := by decide +kernel
theorem dX11_many_184 : decode cX11_many 184 = .ok (.iload 5, 2) := by decide +kernel
theorem dX11_many_186 : decode cX11_many 186 = .ok (.iload 4, 2) := by decide +kernel
theorem dX11_many_188 : decode cX11_many 188 = .ok (.if_icmp .eq 11, 3) := by decide +kernel
theorem dX11_many_191 : decode cX11_many 191 = .ok (.iload_n 1, 1) := by decide +kernel
theorem dX11_many_192 : decode cX11_many 192 = .ok (.i2l, 1) := by decide +kernel
theorem dX11_many_193 : decode cX11_many 193 = .ok (.lload_n 2, 1) := by decide +kernel
theorem dX11_many_194 : decode cX11_many 194 = .ok (.lsub, 1) := by decide +kernel
theorem dX11_many_195 : decode cX11_many 195 = .ok (.iload_n 1, 1) := by decide +kernel
theorem dX11_many_196 : decode cX11_many 196 = .ok (.i2l, 1) := by decide +kernel
theorem dX11_many_197 : decode cX11_many 197 = .ok (.lrem, 1) := by decide +kernel
theorem dX11_many_198 : decode cX11_many 198 = .ok (.lstore_n 2, 1) := by decide +kernel
theorem dX11_many_199 : decode cX11_many 199 = .ok (.iconst 0, 1) := by decide +kernel
theorem dX11_many_200 : decode cX11_many 200 = .ok (.istore 6, 2) := by decide +kernel
theorem dX11_many_202 : decode cX11_many 202 = .ok (.iload 6, 2) := by decide +kernel
theorem dX11_many_204 : decode cX11_many 204 = .ok (.aload_n 0, 1) := by decide +kernel
theorem dX11_many_205 : decode cX11_many 205 = .ok (.getfield 95, 3) := by decide +kernel
theorem dX11_many_208 : decode cX11_many 208 = .ok (.if_icmp .ge 65, 3) := by decide +kernel
theorem dX11_many_211 : decode cX11_many 211 = .ok (.aload_n 0, 1) := by decide +kernel
theorem dX11_many_212 : decode cX11_many 212 = .ok (.getfield 82, 3) := by decide +kernel
theorem dX11_many_215 : decode cX11_many 215 = .ok (.bipush 12, 2) := by decide +kernel
theorem dX11_many_217 : decode cX11_many 217 = .ok (.iload 5, 2) := by decide +kernel
theorem dX11_many_219 : decode cX11_many 219 = .ok (.imul, 1) := by decide +kernel
theorem dX11_many_220 : decode cX11_many 220 = .ok (.iload 6, 2) := by decide +kernel
theorem dX11_many_222 : decode cX11_many 222 = .ok (.iadd, 1) := by decide +kernel
theorem dX11_many_223 : decode cX11_many 223 = .ok (.laload, 1) := by decide +kernel
theorem dX11_many_224 : decode cX11_many 224 = .ok (.lstore 7, 2) := by decide +kernel
theorem dX11_many_226 : decode cX11_many 226 = .ok (.aload_n 0, 1) := by decide +kernel
theorem dX11_many_227 : decode cX11_many 227 = .ok (.getfield 82, 3) := by decide +kernel
theorem dX11_many_230 : decode cX11_many 230 = .ok (.bipush 12, 2) := by decide +kernel
theorem dX11_many_232 : decode cX11_many 232 = .ok (.iload 5, 2) := by decide +kernel
theorem dX11_many_234 : decode cX11_many 234 = .ok (.imul, 1) := by decide +kernel
theorem dX11_many_235 : decode cX11_many 235 = .ok (.iload 6, 2) := by decide +kernel
theorem dX11_many_237 : decode cX11_many 237 = .ok (.iadd, 1) := by decide +kernel
theorem dX11_many_238 : decode cX11_many 238 = .ok (.aload_n 0, 1) := by decide +kernel
theorem dX11_many_239 : decode cX11_many 239 = .ok (.getfield 82, 3) := by decide +kernel
theorem dX11_many_242 : decode cX11_many 242 = .ok (.bipush 12, 2) := by decide +kernel
theorem dX11_many_244 : decode cX11_many 244 = .ok (.iload 4, 2) := by decide +kernel
theorem dX11_many_246 : decode cX11_many 246 = .ok (.imul, 1) := by decide +kernel
theorem dX11_many_247 : decode cX11_many 247 = .ok (.iload 6, 2) := by decide +kernel
theorem dX11_many_249 : decode cX11_many 249 = .ok (.iadd, 1) := by decide +kernel
theorem dX11_many_250 : decode cX11_many 250 = .ok (.laload, 1) := by decide +kernel
theorem dX11_many_251 : decode cX11_many 251 = .ok (.lastore, 1) := by decide +kernel
theorem dX11_many_252 : decode cX11_many 252 = .ok (.aload_n 0, 1) := by decide +kernel
theorem dX11_many_253 : decode cX11_many 253 = .ok (.getfield 82, 3) := by decide +kernel
theorem dX11_many_256 : decode cX11_many 256 = .ok (.bipush 12, 2) := by decide +kernel
theorem dX11_many_258 : decode cX11_many 258 = .ok (.iload 4, 2) := by decide +kernel
theorem dX11_many_260 : decode cX11_many 260 = .ok (.imul, 1) := by decide +kernel
theorem dX11_many_261 : decode cX11_many 261 = .ok (.iload 6, 2) := by decide +kernel
theorem dX11_many_263 : decode cX11_many 263 = .ok (.iadd, 1) := by decide +kernel
theorem dX11_many_264 : decode cX11_many 264 = .ok (.lload 7, 2) := by decide +kernel
theorem dX11_many_266 : decode cX11_many 266 = .ok (.lastore, 1) := by decide +kernel
theorem dX11_many_267 : decode cX11_many 267 = .ok (.iinc 6 1, 3) := by decide +kernel
theorem dX11_many_270 : decode cX11_many 270 = .ok (.goto (-68), 3) := by decide +kernel
theorem dX11_many_273 : decode cX11_many 273 = .ok (.lload_n 2, 1) := by decide +kernel
theorem dX11_many_274 : decode cX11_many 274 = .ok (.aload_n 0, 1) := by decide +kernel
theorem dX11_many_275 : decode cX11_many 275 = .ok (.getfield 82, 3) := by decide +kernel
theorem dX11_many_278 : decode cX11_many 278 = .ok (.bipush 12, 2) := by decide +kernel
theorem dX11_many_280 : decode cX11_many 280 = .ok (.iload 4, 2) := by decide +kernel
theorem dX11_many_282 : decode cX11_many 282 = .ok (.imul, 1) := by decide +kernel
theorem dX11_many_283 : decode cX11_many 283 = .ok (.iload 4, 2) := by decide +kernel
theorem dX11_many_285 : decode cX11_many 285 = .ok (.iadd, 1) := by decide +kernel
theorem dX11_many_286 : decode cX11_many 286 = .ok (.laload, 1) := by decide +kernel
theorem dX11_many_287 : decode cX11_many 287 = .ok (.lmul, 1) := by decide +kernel
theorem dX11_many_288 : decode cX11_many 288 = .ok (.iload_n 1, 1) := by decide +kernel
theorem dX11_many_289 : decode cX11_many 289 = .ok (.i2l, 1) := by decide +kernel
theorem dX11_many_290 : decode cX11_many 290 = .ok (.lrem, 1) := by decide +kernel
theorem dX11_many_291 : decode cX11_many 291 = .ok (.lstore_n 2, 1) := by decide +kernel
theorem dX11_many_292 : decode cX11_many 292 = .ok (.lconst 1, 1) := by decide +kernel
theorem dX11_many_293 : decode cX11_many 293 = .ok (.lstore 6, 2) := by decide +kernel
theorem dX11_many_295 : decode cX11_many 295 = .ok (.lload 6, 2) := by decide +kernel
theorem dX11_many_297 : decode cX11_many 297 = .ok (.aload_n 0, 1) := by decide +kernel
theorem dX11_many_298 : decode cX11_many 298 = .ok (.getfield 82, 3) := by decide +kernel
theorem dX11_many_301 : decode cX11_many 301 = .ok (.bipush 12, 2) := by decide +kernel
theorem dX11_many_303 : decode cX11_many 303 = .ok (.iload 4, 2) := by decide +kernel
theorem dX11_many_305 : decode cX11_many 305 = .ok (.imul, 1) := by decide +kernel
theorem dX11_many_306 : decode cX11_many 306 = .ok (.iload 4, 2) := by decide +kernel
theorem dX11_many_308 : decode cX11_many 308 = .ok (.iadd, 1) := by decide +kernel
theorem dX11_many_309 : decode cX11_many 309 = .ok (.laload, 1) := by decide +kernel
theorem dX11_many_310 : decode cX11_many 310 = .ok (.lmul, 1) := by decide +kernel
theorem dX11_many_311 : decode cX11_many 311 = .ok (.iload_n 1, 1) := by decide +kernel
theorem dX11_many_312 : decode cX11_many 312 = .ok (.i2l, 1) := by decide +kernel
theorem dX11_many_313 : decode cX11_many 313 = .ok (.lrem, 1) := by decide +kernel
theorem dX11_many_314 : decode cX11_many 314 = .ok (.lconst 1, 1) := by decide +kernel
theorem dX11_many_315 : decode cX11_many 315 = .ok (.lcmp, 1) := by decide +kernel
theorem dX11_many_316 : decode cX11_many 316 = .ok (.ifCond .eq 12, 3) := by decide +kernel
theorem dX11_many_319 : decode cX11_many 319 = .ok (.lload 6, 2) := by decide +kernel
theorem dX11_many_321 : decode cX11_many 321 = .ok (.lconst 1, 1) := by decide +kernel
theorem dX11_many_322 : decode cX11_many 322 = .ok (.ladd, 1) := by decide +kernel
theorem dX11_many_323 : decode cX11_many 323 = .ok (.lstore 6, 2) := by decide +kernel
theorem dX11_many_325 : decode cX11_many 325 = .ok (.goto (-30), 3) := by decide +kernel
theorem dX11_many_328 : decode cX11_many 328 = .ok (.iload 4, 2) := by decide +kernel
theorem dX11_many_330 : decode cX11_many 330 = .ok (.iconst 1, 1) := by decide +kernel
theorem dX11_many_331 : decode cX11_many 331 = .ok (.iadd, 1) := by decide +kernel
theorem dX11_many_332 : decode cX11_many 332 = .ok (.istore 8, 2) := by decide +kernel
theorem dX11_many_334 : decode cX11_many 334 = .ok (.iload 8, 2) := by decide +kernel
theorem dX11_many_336 : decode cX11_many 336 = .ok (.aload_n 0, 1) := by decide +kernel
theorem dX11_many_337 : decode cX11_many 337 = .ok (.getfield 95, 3) := by decide +kernel
theorem dX11_many_340 : decode cX11_many 340 = .ok (.if_icmp .ge 98, 3) := by decide +kernel
theorem dX11_many_343 : decode cX11_many 343 = .ok (.aload_n 0, 1) := by decide +kernel
theorem dX11_many_344 : decode cX11_many 344 = .ok (.getfield 82, 3) := by decide +kernel
theorem dX11_many_347 : decode cX11_many 347 = .ok (.bipush 12, 2) := by decide +kernel
theorem dX11_many_349 : decode cX11_many 349 = .ok (.iload 8, 2) := by decide +kernel
theorem dX11_many_351 : decode cX11_many 351 = .ok (.imul, 1) := by decide +kernel
theorem dX11_many_352 : decode cX11_many 352 = .ok (.iload 4, 2) := by decide +kernel
theorem dX11_many_354 : decode cX11_many 354 = .ok (.iadd, 1) := by decide +kernel
theorem dX11_many_355 : decode cX11_many 355 = .ok (.laload, 1) := by decide +kernel
theorem dX11_many_356 : decode cX11_many 356 = .ok (.lload 6, 2) := by decide +kernel
theorem dX11_many_358 : decode cX11_many 358 = .ok (.lmul, 1) := by decide +kernel
theorem dX11_many_359 : decode cX11_many 359 = .ok (.iload_n 1, 1) := by decide +kernel
theorem dX11_many_360 : decode cX11_many 360 = .ok (.i2l, 1) := by decide +kernel
theorem dX11_many_361 : decode cX11_many 361 = .ok (.lrem, 1) := by decide +kernel
theorem dX11_many_362 : decode cX11_many 362 = .ok (.lstore 9, 2) := by decide +kernel
theorem dX11_many_364 : decode cX11_many 364 = .ok (.iload 4, 2) := by decide +kernel
theorem dX11_many_366 : decode cX11_many 366 = .ok (.istore 11, 2) := by decide +kernel
theorem dX11_many_368 : decode cX11_many 368 = .ok (.iload 11, 2) := by decide +kernel
theorem dX11_many_370 : decode cX11_many 370 = .ok (.aload_n 0, 1) := by decide +kernel
theorem dX11_many_371 : decode cX11_many 371 = .ok (.getfield 95, 3) := by decide +kernel
theorem dX11_many_374 : decode cX11_many 374 = .ok (.if_icmp .ge 58, 3) := by decide +kernel
theorem dX11_many_377 : decode cX11_many 377 = .ok (.aload_n 0, 1) := by decide +kernel
theorem dX11_many_378 : decode cX11_many 378 = .ok (.getfield 82, 3) := by decide +kernel
theorem dX11_many_381 : decode cX11_many 381 = .ok (.bipush 12, 2) := by decide +kernel
theorem dX11_many_383 : decode cX11_many 383 = .ok (.iload 8, 2) := by decide +kernel
theorem dX11_many_385 : decode cX11_many 385 = .ok (.imul, 1) := by decide +kernel
theorem dX11_many_386 : decode cX11_many 386 = .ok (.iload 11, 2) := by decide +kernel
theorem dX11_many_388 : decode cX11_many 388 = .ok (.iadd, 1) := by decide +kernel
theorem dX11_many_389 : decode cX11_many 389 = .ok (.aload_n 0, 1) := by decide +kernel
theorem dX11_many_390 : decode cX11_many 390 = .ok (.getfield 82, 3) := by decide +kernel
theorem dX11_many_393 : decode cX11_many 393 = .ok (.bipush 12, 2) := by decide +kernel
theorem dX11_many_395 : decode cX11_many 395 = .ok (.iload 8, 2) := by decide +kernel
theorem dX11_many_397 : decode cX11_many 397 = .ok (.imul, 1) := by decide +kernel
theorem dX11_many_398 : decode cX11_many 398 = .ok (.iload 11, 2) := by decide +kernel
theorem dX11_many_400 : decode cX11_many 400 = .ok (.iadd, 1) := by decide +kernel
theorem dX11_many_401 : decode cX11_many 401 = .ok (.laload, 1) := by decide +kernel
theorem dX11_many_402 : decode cX11_many 402 = .ok (.iload_n 1, 1) := by decide +kernel
theorem dX11_many_403 : decode cX11_many 403 = .ok (.i2l, 1) := by decide +kernel
theorem dX11_many_404 : decode cX11_many 404 = .ok (.lload 9, 2) := by decide +kernel
theorem dX11_many_406 : decode cX11_many 406 = .ok (.lsub, 1) := by decide +kernel
theorem dX11_many_407 : decode cX11_many 407 = .ok (.aload_n 0, 1) := by decide +kernel
theorem dX11_many_408 : decode cX11_many 408 = .ok (.getfield 82, 3) := by decide +kernel
theorem dX11_many_411 : decode cX11_many 411 = .ok (.bipush 12, 2) := by decide +kernel
theorem dX11_many_413 : decode cX11_many 413 = .ok (.iload 4, 2) := by decide +kernel
theorem dX11_many_415 : decode cX11_many 415 = .ok (.imul, 1) := by decide +kernel
theorem dX11_many_416 : decode cX11_many 416 = .ok (.iload 11, 2) := by decide +kernel
theorem dX11_many_418 : decode cX11_many 418 = .ok (.iadd, 1) := by decide +kernel
theorem dX11_many_419 : decode cX11_many 419 = .ok (.laload, 1) := by decide +kernel
theorem dX11_many_420 : decode cX11_many 420 = .ok (.lmul, 1) := by decide +kernel
theorem dX11_many_421 : decode cX11_many 421 = .ok (.ladd, 1) := by decide +kernel
theorem dX11_many_422 : decode cX11_many 422 = .ok (.iload_n 1, 1) := by decide +kernel
theorem dX11_many_423 : decode cX11_many 423 = .ok (.i2l, 1) := by decide +kernel
theorem dX11_many_424 : decode cX11_many 424 = .ok (.lrem, 1) := by decide +kernel
theorem dX11_many_425 : decode cX11_many 425 = .ok (.lastore, 1) := by decide +kernel
theorem dX11_many_426 : decode cX11_many 426 = .ok (.iinc 11 1, 3) := by decide +kernel
theorem dX11_many_429 : decode cX11_many 429 = .ok (.goto (-61), 3) := by decide +kernel
theorem dX11_many_432 : decode cX11_many 432 = .ok (.iinc 8 1, 3) := by decide +kernel
theorem dX11_many_435 : decode cX11_many 435 = .ok (.goto (-101), 3) := by decide +kernel
theorem dX11_many_438 : decode cX11_many 438 = .ok (.iinc 4 1, 3) := by decide +kernel
theorem dX11_many_441 : decode cX11_many 441 = .ok (.goto (-314), 3) := by decide +kernel
theorem dX11_many_444 : decode cX11_many 444 = .ok (.lload_n 2, 1) := by decide +kernel
theorem dX11_many_445 : decode cX11_many 445 = .ok (.l2i, 1) := by decide +kernel
theorem dX11_many_446 : decode cX11_many 446 = .ok (.ireturn, 1) := by decide +kernel
theorem dX11_list_0 : decode cX11_list 0 = .ok (.aload_n 0, 1) := by decide +kernel
theorem dX11_list_1 : decode cX11_list 1 = .ok (.getfield 114, 3) := by decide +kernel
theorem dX11_list_4 : decode cX11_list 4 = .ok (.ifCond .ne 10, 3) := by decide +kernel
theorem dX11_list_7 : decode cX11_list 7 = .ok (.aload_n 0, 1) := by decide +kernel
theorem dX11_list_8 : decode cX11_list 8 = .ok (.bipush (-8), 2) := by decide +kernel
theorem dX11_list_10 : decode cX11_list 10 = .ok (.invokevirtual 118, 3) := by decide +kernel
theorem dX11_list_13 : decode cX11_list 13 = .ok (.ireturn, 1) := by decide +kernel
theorem dX11_list_14 : decode cX11_list 14 = .ok (.aload_n 0, 1) := by decide +kernel
theorem dX11_list_15 : decode cX11_list 15 = .ok (.invokevirtual 190, 3) := by decide +kernel
theorem dX11_list_18 : decode cX11_list 18 = .ok (.ifCond .ne 10, 3) := by decide +kernel
theorem dX11_list_21 : decode cX11_list 21 = .ok (.aload_n 0, 1) := by decide +kernel
theorem dX11_list_22 : decode cX11_list 22 = .ok (.bipush (-12), 2) := by decide +kernel
theorem dX11_list_24 : decode cX11_list 24 = .ok (.invokevirtual 118, 3) := by decide +kernel
theorem dX11_list_27 : decode cX11_list 27 = .ok (.ireturn, 1) := by decide +kernel
theorem dX11_list_28 : decode cX11_list 28 = .ok (.iconst 0, 1) := by decide +kernel
theorem dX11_list_29 : decode cX11_list 29 = .ok (.istore_n 1, 1) := by decide +kernel
theorem dX11_list_30 : decode cX11_list 30 = .ok (.iconst 0, 1) := by decide +kernel
theorem dX11_list_31 : decode cX11_list 31 = .ok (.istore_n 2, 1) := by decide +kernel
theorem dX11_list_32 : decode cX11_list 32 = .ok (.iconst 0, 1) := by decide +kernel
theorem dX11_list_33 : decode cX11_list 33 = .ok (.istore_n 3, 1) := by decide +kernel
theorem dX11_list_34 : decode cX11_list 34 = .ok (.iload_n 3, 1) := by decide +kernel
theorem dX11_list_35 : decode cX11_list 35 = .ok (.aload_n 0, 1) := by decide +kernel
theorem dX11_list_36 : decode cX11_list 36 = .ok (.getfield 95, 3) := by decide +kernel
theorem dX11_list_39 : decode cX11_list 39 = .ok (.if_icmp .ge 16, 3) := by decide +kernel
theorem dX11_list_42 : decode cX11_list 42 = .ok (.aload_n 0, 1) := by decide +kernel
theorem dX11_list_43 : decode cX11_list 43 = .ok (.getfield 76, 3) := by decide +kernel
theorem dX11_list_46 : decode cX11_list 46 = .ok (.iload_n 3, 1) := by decide +kernel
theorem dX11_list_47 : decode cX11_list 47 = .ok (.lconst 0, 1) := by decide +kernel
theorem dX11_list_48 : decode cX11_list 48 = .ok (.lastore, 1) := by decide +kernel
theorem dX11_list_49 : decode cX11_list 49 = .ok (.iinc 3 1, 3) := by decide +kernel
theorem dX11_list_52 : decode cX11_list 52 = .ok (.goto (-18), 3) := by decide +kernel
theorem dX11_list_55 : decode cX11_list 55 = .ok (.iload_n 2, 1) := by decide +kernel
theorem dX11_list_56 : decode cX11_list 56 = .ok (.ifCond .lt 220, 3) := by decide +kernel
theorem dX11_list_59 : decode cX11_list 59 = .ok (.iload_n 2, 1) := by decide +kernel
theorem dX11_list_60 : decode cX11_list 60 = .ok (.aload_n 0, 1) := by decide +kernel
theorem dX11_list_61 : decode cX11_list 61 = .ok (.getfield 95, 3) := by decide +kernel
theorem dX11_list_64 : decode cX11_list 64 = .ok (.if_icmp .ne 70, 3) := by decide +kernel
theorem dX11_list_67 : decode cX11_list 67 = .ok (.iload_n 1, 1) := by decide +kernel
theorem dX11_list_68 : decode cX11_list 68 = .ok (.sipush 200, 3) := by decide +kernel
theorem dX11_list_71 : decode cX11_list 71 = .ok (.if_icmp .ne 10, 3) := by decide +kernel
theorem dX11_list_74 : decode cX11_list 74 = .ok (.aload_n 0, 1) := by decide +kernel
theorem dX11_list_75 : decode cX11_list 75 = .ok (.bipush (-10), 2) := by decide +kernel
theorem dX11_list_77 : decode cX11_list 77 = .ok (.invokevirtual 118, 3) := by decide +kernel
theorem dX11_list_80 : decode cX11_list 80 = .ok (.ireturn, 1) := by decide +kernel
theorem dX11_list_81 : decode cX11_list 81 = .ok (.iconst 0, 1) := by decide +kernel
theorem dX11_list_82 : decode cX11_list 82 = .ok (.istore_n 3, 1) := by decide +kernel
theorem dX11_list_83 : decode cX11_list 83 = .ok (.iload_n 3, 1) := by decide +kernel
theorem dX11_list_84 : decode cX11_list 84 = .ok (.aload_n 0, 1) := by decide +kernel
theorem dX11_list_85 : decode cX11_list 85 = .ok (.getfield 95, 3) := by decide +kernel
theorem dX11_list_88 : decode cX11_list 88 = .ok (.if_icmp .ge 27, 3) := by decide +kernel
theorem dX11_list_91 : decode cX11_list 91 = .ok (.aload_n 0, 1) := by decide +kernel
theorem dX11_list_92 : decode cX11_list 92 = .ok (.getfield 85, 3) := by decide +kernel
theorem dX11_list_95 : decode cX11_list 95 = .ok (.bipush 12, 2) := by decide +kernel
theorem dX11_list_97 : decode cX11_list 97 = .ok (.iload_n 1, 1) := by decide +kernel
theorem dX11_list_98 : decode cX11_list 98 = .ok (.imul, 1) := by decide +kernel
theorem dX11_list_99 : decode cX11_list 99 = .ok (.iload_n 3, 1) := by decide +kernel
theorem dX11_list_100 : decode cX11_list 100 = .ok (.iadd, 1) := by decide +kernel
theorem dX11_list_101 : decode cX11_list 101 = .ok (.aload_n 0, 1) := by decide +kernel
theorem dX11_list_102 : decode cX11_list 102 = .ok (.getfield 76, 3) := by decide +kernel
theorem dX11_list_105 : decode cX11_list 105 = .ok (.iload_n 3, 1) := by decide +kernel
theorem dX11_list_106 : decode cX11_list 106 = .ok (.laload, 1) := by decide +kernel
theorem dX11_list_107 : decode cX11_list 107 = .ok (.l2i, 1) := by decide +kernel
theorem dX11_list_108 : decode cX11_list 108 = .ok (.iastore, 1) := by decide +kernel
theorem dX11_list_109 : decode cX11_list 109 = .ok (.iinc 3 1, 3) := by decide +kernel
theorem dX11_list_112 : decode cX11_list 112 = .ok (.goto (-29), 3) := by decide +kernel
theorem dX11_list_115 : decode cX11_list 115 = .ok (.iinc 1 1, 3) := by decide +kernel
theorem dX11_list_118 : decode cX11_list 118 = .ok (.iinc 2 (-1), 3) := by decide +kernel
theorem dX11_list_121 : decode cX11_list 121 = .ok (.aload_n 0, 1) := by decide +kernel
theorem dX11_list_122 : decode cX11_list 122 = .ok (.getfield 76, 3) := by decide +kernel
theorem dX11_list_125 : decode cX11_list 125 = .ok (.iload_n 2, 1) := by decide +kernel
theorem dX11_list_126 : decode cX11_list 126 = .ok (.dup2, 1) := by decide +kernel
theorem dX11_list_127 : decode cX11_list 127 = .ok (.laload, 1) := by decide +kernel
theorem dX11_list_128 : decode cX11_list 128 = .ok (.lconst 1, 1) := by decide +kernel
theorem dX11_list_129 : decode cX11_list 129 = .ok (.ladd, 1) := by decide +kernel
theorem dX11_list_130 : decode cX11_list 130 = .ok (.lastore, 1) := by decide +kernel
theorem dX11_list_131 : decode cX11_list 131 = .ok (.goto (-76), 3) := by decide +kernel
theorem dX11_list_134 : decode cX11_list 134 = .ok (.aload_n 0, 1) := by decide +kernel
theorem dX11_list_135 : decode cX11_list 135 = .ok (.getfield 76, 3) := by decide +kernel
theorem dX11_list_138 : decode cX11_list 138 = .ok (.iload_n 2, 1) := by decide +kernel
theorem dX11_list_139 : decode cX11_list 139 = .ok (.laload, 1) := by decide +kernel
theorem dX11_list_140 : decode cX11_list 140 = .ok (.aload_n 0, 1) := by decide +kernel
theorem dX11_list_141 : decode cX11_list 141 = .ok (.iload_n 2, 1) := by decide +kernel
theorem dX11_list_142 : decode cX11_list 142 = .ok (.invokevirtual 106, 3) := by decide +kernel
theorem dX11_list_145 : decode cX11_list 145 = .ok (.iconst 1, 1) := by decide +kernel
theorem dX11_list_146 : decode cX11_list 146 = .ok (.isub, 1) := by decide +kernel
theorem dX11_list_147 : decode cX11_list 147 = .ok (.i2l, 1) := by decide +kernel
theorem dX11_list_148 : decode cX11_list 148 = .ok (.lcmp, 1) := by decide +kernel
theorem dX11_list_149 : decode cX11_list 149 = .ok (.ifCond .le 30, 3) := by decide +kernel
theorem dX11_list_152 : decode cX11_list 152 = .ok (.aload_n 0, 1) := by decide +kernel
theorem dX11_list_153 : decode cX11_list 153 = .ok (.getfield 76, 3) := by decide +kernel
theorem dX11_list_156 : decode cX11_list 156 = .ok (.iload_n 2, 1) := by decide +kernel
theorem dX11_list_157 : decode cX11_list 157 = .ok (.lconst 0, 1) := by decide +kernel
theorem dX11_list_158 : decode cX11_list 158 = .ok (.lastore, 1) := by decide +kernel
theorem dX11_list_159 : decode cX11_list 159 = .ok (.iinc 2 (-1), 3) := by decide +kernel
theorem dX11_list_162 : decode cX11_list 162 = .ok (.iload_n 2, 1) := by decide +kernel
theorem dX11_list_163 : decode cX11_list 163 = .ok (.ifCond .lt (-108), 3) := by decide +kernel
theorem dX11_list_166 : decode cX11_list 166 = .ok (.aload_n 0, 1) := by decide +kernel
theorem dX11_list_167 : decode cX11_list 167 = .ok (.getfield 76, 3) := by decide +kernel
theorem dX11_list_170 : decode cX11_list 170 = .ok (.iload_n 2, 1) := by decide +kernel
theorem dX11_list_171 : decode cX11_list 171 = .ok (.dup2, 1) := by decide +kernel
theorem dX11_list_172 : decode cX11_list 172 = .ok (.laload, 1) := by decide +kernel
theorem dX11_list_173 : decode cX11_list 173 = .ok (.lconst 1, 1) := by decide +kernel
theorem dX11_list_174 : decode cX11_list 174 = .ok (.ladd, 1) := by decide +kernel
theorem dX11_list_175 : decode cX11_list 175 = .ok (.lastore, 1) := by decide +kernel
theorem dX11_list_176 : decode cX11_list 176 = .ok (.goto (-121), 3) := by decide +kernel
theorem dX11_list_179 : decode cX11_list 179 = .ok (.iconst 0, 1) := by decide +kernel
theorem dX11_list_180 : decode cX11_list 180 = .ok (.istore_n 3, 1) := by decide +kernel
theorem dX11_list_181 : decode cX11_list 181 = .ok (.iload_n 3, 1) := by decide +kernel
theorem dX11_list_182 : decode cX11_list 182 = .ok (.aload_n 0, 1) := by decide +kernel
theorem dX11_list_183 : decode cX11_list 183 = .ok (.getfield 95, 3) := by decide +kernel
theorem dX11_list_186 : decode cX11_list 186 = .ok (.if_icmp .ge 37, 3) := by decide +kernel
theorem dX11_list_189 : decode cX11_list 189 = .ok (.aload_n 0, 1) := by decide +kernel
theorem dX11_list_190 : decode cX11_list 190 = .ok (.getfield 79, 3) := by decide +kernel
theorem dX11_list_193 : decode cX11_list 193 = .ok (.iload_n 3, 1) := by decide +kernel
theorem dX11_list_194 : decode cX11_list 194 = .ok (.iload_n 3, 1) := by decide +kernel
theorem dX11_list_195 : decode cX11_list 195 = .ok (.iload_n 2, 1) := by decide +kernel
theorem dX11_list_196 : decode cX11_list 196 = .ok (.if_icmp .le 14, 3) := by decide +kernel
theorem dX11_list_199 : decode cX11_list 199 = .ok (.aload_n 0, 1) := by decide +kernel
theorem dX11_list_200 : decode cX11_list 200 = .ok (.iload_n 3, 1) := by decide +kernel
theorem dX11_list_201 : decode cX11_list 201 = .ok (.invokevirtual 106, 3) := by decide +kernel
theorem dX11_list_204 : decode cX11_list 204 = .ok (.iconst 1, 1) := by decide +kernel
theorem dX11_list_205 : decode cX11_list 205 = .ok (.isub, 1) := by decide +kernel
theorem dX11_list_206 : decode cX11_list 206 = .ok (.i2l, 1) := by decide +kernel
theorem dX11_list_207 : decode cX11_list 207 = .ok (.goto 9, 3) := by decide +kernel
theorem dX11_list_210 : decode cX11_list 210 = .ok (.aload_n 0, 1) := by decide +kernel
theorem dX11_list_211 : decode cX11_list 211 = .ok (.getfield 76, 3) := by decide +kernel
theorem dX11_list_214 : decode cX11_list 214 = .ok (.iload_n 3, 1) := by decide +kernel
theorem dX11_list_215 : decode cX11_list 215 = .ok (.laload, 1) := by decide +kernel
theorem dX11_list_216 : decode cX11_list 216 = .ok (.lastore, 1) := by decide +kernel
theorem dX11_list_217 : decode cX11_list 217 = .ok (.iinc 3 1, 3) := by decide +kernel
theorem dX11_list_220 : decode cX11_list 220 = .ok (.goto (-39), 3) := by decide +kernel
theorem dX11_list_223 : decode cX11_list 223 = .ok (.aload_n 0, 1) := by decide +kernel
theorem dX11_list_224 : decode cX11_list 224 = .ok (.aload_n 0, 1) := by decide +kernel
theorem dX11_list_225 : decode cX11_list 225 = .ok (.getfield 79, 3) := by decide +kernel
theorem dX11_list_228 : decode cX11_list 228 = .ok (.invokevirtual 194, 3) := by decide +kernel
theorem dX11_list_231 : decode cX11_list 231 = .ok (.iconst 1, 1) := by decide +kernel
theorem dX11_list_232 : decode cX11_list 232 = .ok (.aload_n 0, 1) := by decide +kernel
theorem dX11_list_233 : decode cX11_list 233 = .ok (.getfield 95, 3) := by decide +kernel
theorem dX11_list_236 : decode cX11_list 236 = .ok (.ishl, 1) := by decide +kernel
theorem dX11_list_237 : decode cX11_list 237 = .ok (.iconst 1, 1) := by decide +kernel
theorem dX11_list_238 : decode cX11_list 238 = .ok (.isub, 1) := by decide +kernel
theorem dX11_list_239 : decode cX11_list 239 = .ok (.if_icmp .eq 16, 3) := by decide +kernel
theorem dX11_list_242 : decode cX11_list 242 = .ok (.aload_n 0, 1) := by decide +kernel
theorem dX11_list_243 : decode cX11_list 243 = .ok (.getfield 76, 3) := by decide +kernel
theorem dX11_list_246 : decode cX11_list 246 = .ok (.iload_n 2, 1) := by decide +kernel
theorem dX11_list_247 : decode cX11_list 247 = .ok (.dup2, 1) := by decide +kernel
theorem dX11_list_248 : decode cX11_list 248 = .ok (.laload, 1) := by decide +kernel
theorem dX11_list_249 : decode cX11_list 249 = .ok (.lconst 1, 1) := by decide +kernel
theorem dX11_list_250 : decode cX11_list 250 = .ok (.ladd, 1) := by decide +kernel
theorem dX11_list_251 : decode cX11_list 251 = .ok (.lastore, 1) := by decide +kernel
theorem dX11_list_252 : decode cX11_list 252 = .ok (.goto (-197), 3) := by decide +kernel
theorem dX11_list_255 : decode cX11_list 255 = .ok (.iinc 2 1, 3) := by decide +kernel
theorem dX11_list_258 : decode cX11_list 258 = .ok (.iload_n 2, 1) := by decide +kernel
theorem dX11_list_259 : decode cX11_list 259 = .ok (.aload_n 0, 1) := by decide +kernel
theorem dX11_list_260 : decode cX11_list 260 = .ok (.getfield 95, 3) := by decide +kernel
theorem dX11_list_263 : decode cX11_list 263 = .ok (.if_icmp .ge (-208), 3) := by decide +kernel
theorem dX11_list_266 : decode cX11_list 266 = .ok (.aload_n 0, 1) := by decide +kernel
theorem dX11_list_267 : decode cX11_list 267 = .ok (.getfield 76, 3) := by decide +kernel
theorem dX11_list_270 : decode cX11_list 270 = .ok (.iload_n 2, 1) := by decide +kernel
theorem dX11_list_271 : decode cX11_list 271 = .ok (.lconst 0, 1) := by decide +kernel
theorem dX11_list_272 : decode cX11_list 272 = .ok (.lastore, 1) := by decide +kernel
theorem dX11_list_273 : decode cX11_list 273 = .ok (.goto (-218), 3) := by decide +kernel
theorem dX11_list_276 : decode cX11_list 276 = .ok (.iconst 0, 1) := by decide +kernel
theorem dX11_list_277 : decode cX11_list 277 = .ok (.istore_n 3, 1) := by decide +kernel
theorem dX11_list_278 : decode cX11_list 278 = .ok (.iload_n 3, 1) := by decide +kernel
theorem dX11_list_279 : decode cX11_list 279 = .ok (.bipush 12, 2) := by decide +kernel
theorem dX11_list_281 : decode cX11_list 281 = .ok (.iload_n 1, 1) := by decide +kernel
theorem dX11_list_282 : decode cX11_list 282 = .ok (.imul, 1) := by decide +kernel
theorem dX11_list_283 : decode cX11_list 283 = .ok (.if_icmp .ge 21, 3) := by decide +kernel
theorem dX11_list_286 : decode cX11_list 286 = .ok (.aload_n 0, 1) := by decide +kernel
theorem dX11_list_287 : decode cX11_list 287 = .ok (.getfield 43, 3) := by decide +kernel
theorem dX11_list_290 : decode cX11_list 290 = .ok (.iload_n 3, 1) := by decide +kernel
theorem dX11_list_291 : decode cX11_list 291 = .ok (.aload_n 0, 1) := by decide +kernel
theorem dX11_list_292 : decode cX11_list 292 = .ok (.getfield 85, 3) := by decide +kernel
theorem dX11_list_295 : decode cX11_list 295 = .ok (.iload_n 3, 1) := by decide +kernel
theorem dX11_list_296 : decode cX11_list 296 = .ok (.iaload, 1) := by decide +kernel
theorem dX11_list_297 : decode cX11_list 297 = .ok (.iastore, 1) := by decide +kernel
theorem dX11_list_298 : decode cX11_list 298 = .ok (.iinc 3 1, 3) := by decide +kernel
theorem dX11_list_301 : decode cX11_list 301 = .ok (.goto (-23), 3) := by decide +kernel
theorem dX11_list_304 : decode cX11_list 304 = .ok (.aload_n 0, 1) := by decide +kernel
theorem dX11_list_305 : decode cX11_list 305 = .ok (.iload_n 1, 1) := by decide +kernel
theorem dX11_list_306 : decode cX11_list 306 = .ok (.putfield 140, 3) := by decide +kernel
theorem dX11_list_309 : decode cX11_list 309 = .ok (.iload_n 1, 1) := by decide +kernel
theorem dX11_list_310 : decode cX11_list 310 = .ok (.ireturn, 1) := by decide +kernel
theorem dX11_listed_0 : decode cX11_listed 0 = .ok (.iload_n 1, 1) := by decide +kernel
theorem dX11_listed_1 : decode cX11_listed 1 = .ok (.iconst 0, 1) := by decide +kernel
theorem dX11_listed_2 : decode cX11_listed 2 = .ok (.aload_n 0, 1) := by decide +kernel
theorem dX11_listed_3 : decode cX11_listed 3 = .ok (.getfield 140, 3) := by decide +kernel
theorem dX11_listed_6 : decode cX11_listed 6 = .ok (.iconst 1, 1) := by decide +kernel
theorem dX11_listed_7 : decode cX11_listed 7 = .ok (.isub, 1) := by decide +kernel
theorem dX11_listed_8 : decode cX11_listed 8 = .ok (.invokestatic 98, 3) := by decide +kernel
theorem dX11_listed_11 : decode cX11_listed 11 = .ok (.ifCond .ne 10, 3) := by decide +kernel
theorem dX11_listed_14 : decode cX11_listed 14 = .ok (.aload_n 0, 1) := by decide +kernel
theorem dX11_listed_15 : decode cX11_listed 15 = .ok (.bipush (-11), 2) := by decide +kernel
theorem dX11_listed_17 : decode cX11_listed 17 = .ok (.invokevirtual 118, 3) := by decide +kernel
theorem dX11_listed_20 : decode cX11_listed 20 = .ok (.ireturn, 1) := by decide +kernel
theorem dX11_listed_21 : decode cX11_listed 21 = .ok (.aload_n 0, 1) := by decide +kernel
theorem dX11_listed_22 : decode cX11_listed 22 = .ok (.iload_n 2, 1) := by decide +kernel
theorem dX11_listed_23 : decode cX11_listed 23 = .ok (.invokevirtual 121, 3) := by decide +kernel
theorem dX11_listed_26 : decode cX11_listed 26 = .ok (.ifCond .eq 17, 3) := by decide +kernel
theorem dX11_listed_29 : decode cX11_listed 29 = .ok (.aload_n 0, 1) := by decide +kernel
theorem dX11_listed_30 : decode cX11_listed 30 = .ok (.getfield 43, 3) := by decide +kernel
theorem dX11_listed_33 : decode cX11_listed 33 = .ok (.bipush 12, 2) := by decide +kernel
theorem dX11_listed_35 : decode cX11_listed 35 = .ok (.iload_n 1, 1) := by decide +kernel
theorem dX11_listed_36 : decode cX11_listed 36 = .ok (.imul, 1) := by decide +kernel
theorem dX11_listed_37 : decode cX11_listed 37 = .ok (.iload_n 2, 1) := by decide +kernel
theorem dX11_listed_38 : decode cX11_listed 38 = .ok (.iadd, 1) := by decide +kernel
theorem dX11_listed_39 : decode cX11_listed 39 = .ok (.iaload, 1) := by decide +kernel
theorem dX11_listed_40 : decode cX11_listed 40 = .ok (.goto 8, 3) := by decide +kernel
theorem dX11_listed_43 : decode cX11_listed 43 = .ok (.aload_n 0, 1) := by decide +kernel
theorem dX11_listed_44 : decode cX11_listed 44 = .ok (.iconst (-1), 1) := by decide +kernel
theorem dX11_listed_45 : decode cX11_listed 45 = .ok (.invokevirtual 118, 3) := by decide +kernel
theorem dX11_listed_48 : decode cX11_listed 48 = .ok (.ireturn, 1) := by decide +kernel
theorem dX11_isTerrace_0 : decode cX11_isTerrace 0 = .ok (.iload_n 0, 1) := by decide +kernel
theorem dX11_isTerrace_1 : decode cX11_isTerrace 1 = .ok (.iconst 0, 1) := by decide +kernel
theorem dX11_isTerrace_2 : decode cX11_isTerrace 2 = .ok (.iconst 3, 1) := by decide +kernel
theorem dX11_isTerrace_3 : decode cX11_isTerrace 3 = .ok (.invokestatic 98, 3) := by decide +kernel
theorem dX11_isTerrace_6 : decode cX11_isTerrace 6 = .ok (.ireturn, 1) := by decide +kernel
theorem dX11_terrace_0 : decode cX11_terrace 0 = .ok (.iload_n 1, 1) := by decide +kernel
theorem dX11_terrace_1 : decode cX11_terrace 1 = .ok (.invokestatic 216, 3) := by decide +kernel
theorem dX11_terrace_4 : decode cX11_terrace 4 = .ok (.ifCond .eq 31, 3) := by decide +kernel
theorem dX11_terrace_7 : decode cX11_terrace 7 = .ok (.iload_n 2, 1) := by decide +kernel
theorem dX11_terrace_8 : decode cX11_terrace 8 = .ok (.ifCond .eq 33, 3) := by decide +kernel
theorem dX11_terrace_11 : decode cX11_terrace 11 = .ok (.iload_n 2, 1) := by decide +kernel
theorem dX11_terrace_12 : decode cX11_terrace 12 = .ok (.bipush 8, 2) := by decide +kernel
theorem dX11_terrace_14 : decode cX11_terrace 14 = .ok (.if_icmp .eq 27, 3) := by decide +kernel
theorem dX11_terrace_17 : decode cX11_terrace 17 = .ok (.iload_n 2, 1) := by decide +kernel
theorem dX11_terrace_18 : decode cX11_terrace 18 = .ok (.bipush 16, 2) := by decide +kernel
theorem dX11_terrace_20 : decode cX11_terrace 20 = .ok (.if_icmp .eq 21, 3) := by decide +kernel
theorem dX11_terrace_23 : decode cX11_terrace 23 = .ok (.iload_n 2, 1) := by decide +kernel
theorem dX11_terrace_24 : decode cX11_terrace 24 = .ok (.bipush 32, 2) := by decide +kernel
theorem dX11_terrace_26 : decode cX11_terrace 26 = .ok (.if_icmp .eq 15, 3) := by decide +kernel
theorem dX11_terrace_29 : decode cX11_terrace 29 = .ok (.iload_n 2, 1) := by decide +kernel
theorem dX11_terrace_30 : decode cX11_terrace 30 = .ok (.bipush 64, 2) := by decide +kernel
theorem dX11_terrace_32 : decode cX11_terrace 32 = .ok (.if_icmp .eq 9, 3) := by decide +kernel
theorem dX11_terrace_35 : decode cX11_terrace 35 = .ok (.aload_n 0, 1) := by decide +kernel
theorem dX11_terrace_36 : decode cX11_terrace 36 = .ok (.iconst (-1), 1) := by decide +kernel
theorem dX11_terrace_37 : decode cX11_terrace 37 = .ok (.invokevirtual 118, 3) := by decide +kernel
theorem dX11_terrace_40 : decode cX11_terrace 40 = .ok (.ireturn, 1) := by decide +kernel
theorem dX11_terrace_41 : decode cX11_terrace 41 = .ok (.iload_n 3, 1) := by decide +kernel
theorem dX11_terrace_42 : decode cX11_terrace 42 = .ok (.ifCond .ge 10, 3) := by decide +kernel
theorem dX11_terrace_45 : decode cX11_terrace 45 = .ok (.aload_n 0, 1) := by decide +kernel
theorem dX11_terrace_46 : decode cX11_terrace 46 = .ok (.bipush (-3), 2) := by decide +kernel
theorem dX11_terrace_48 : decode cX11_terrace 48 = .ok (.invokevirtual 118, 3) := by decide +kernel
theorem dX11_terrace_51 : decode cX11_terrace 51 = .ok (.ireturn, 1) := by decide +kernel
theorem dX11_terrace_52 : decode cX11_terrace 52 = .ok (.iload_n 3, 1) := by decide +kernel
theorem dX11_terrace_53 : decode cX11_terrace 53 = .ok (.bipush 16, 2) := by decide +kernel
theorem dX11_terrace_55 : decode cX11_terrace 55 = .ok (.if_icmp .le 9, 3) := by decide +kernel
theorem dX11_terrace_58 : decode cX11_terrace 58 = .ok (.aload_n 0, 1) := by decide +kernel
theorem dX11_terrace_59 : decode cX11_terrace 59 = .ok (.iconst (-1), 1) := by decide +kernel
theorem dX11_terrace_60 : decode cX11_terrace 60 = .ok (.invokevirtual 118, 3) := by decide +kernel
theorem dX11_terrace_63 : decode cX11_terrace 63 = .ok (.ireturn, 1) := by decide +kernel
theorem dX11_terrace_64 : decode cX11_terrace 64 = .ok (.aload_n 0, 1) := by decide +kernel
theorem dX11_terrace_65 : decode cX11_terrace 65 = .ok (.getfield 46, 3) := by decide +kernel
theorem dX11_terrace_68 : decode cX11_terrace 68 = .ok (.iload_n 1, 1) := by decide +kernel
theorem dX11_terrace_69 : decode cX11_terrace 69 = .ok (.iload_n 2, 1) := by decide +kernel
theorem dX11_terrace_70 : decode cX11_terrace 70 = .ok (.iastore, 1) := by decide +kernel
theorem dX11_terrace_71 : decode cX11_terrace 71 = .ok (.aload_n 0, 1) := by decide +kernel
theorem dX11_terrace_72 : decode cX11_terrace 72 = .ok (.getfield 49, 3) := by decide +kernel
theorem dX11_terrace_75 : decode cX11_terrace 75 = .ok (.iload_n 1, 1) := by decide +kernel
theorem dX11_terrace_76 : decode cX11_terrace 76 = .ok (.iload_n 2, 1) := by decide +kernel
theorem dX11_terrace_77 : decode cX11_terrace 77 = .ok (.ifCond .ne 7, 3) := by decide +kernel
theorem dX11_terrace_80 : decode cX11_terrace 80 = .ok (.iconst 0, 1) := by decide +kernel
theorem dX11_terrace_81 : decode cX11_terrace 81 = .ok (.goto 4, 3) := by decide +kernel
theorem dX11_terrace_84 : decode cX11_terrace 84 = .ok (.iload_n 3, 1) := by decide +kernel
theorem dX11_terrace_85 : decode cX11_terrace 85 = .ok (.iastore, 1) := by decide +kernel
theorem dX11_terrace_86 : decode cX11_terrace 86 = .ok (.iconst 0, 1) := by decide +kernel
theorem dX11_terrace_87 : decode cX11_terrace 87 = .ok (.istore 4, 2) := by decide +kernel
theorem dX11_terrace_89 : decode cX11_terrace 89 = .ok (.iload 4, 2) := by decide +kernel
theorem dX11_terrace_91 : decode cX11_terrace 91 = .ok (.bipush 16, 2) := by decide +kernel
theorem dX11_terrace_93 : decode cX11_terrace 93 = .ok (.if_icmp .ge 22, 3) := by decide +kernel
theorem dX11_terrace_96 : decode cX11_terrace 96 = .ok (.aload_n 0, 1) := by decide +kernel
theorem dX11_terrace_97 : decode cX11_terrace 97 = .ok (.getfield 52, 3) := by decide +kernel
theorem dX11_terrace_100 : decode cX11_terrace 100 = .ok (.bipush 16, 2) := by decide +kernel
theorem dX11_terrace_102 : decode cX11_terrace 102 = .ok (.iload_n 1, 1) := by decide +kernel
theorem dX11_terrace_103 : decode cX11_terrace 103 = .ok (.imul, 1) := by decide +kernel
theorem dX11_terrace_104 : decode cX11_terrace 104 = .ok (.iload 4, 2) := by decide +kernel
theorem dX11_terrace_106 : decode cX11_terrace 106 = .ok (.iadd, 1) := by decide +kernel
theorem dX11_terrace_107 : decode cX11_terrace 107 = .ok (.lconst 0, 1) := by decide +kernel
theorem dX11_terrace_108 : decode cX11_terrace 108 = .ok (.lastore, 1) := by decide +kernel
theorem dX11_terrace_109 : decode cX11_terrace 109 = .ok (.iinc 4 1, 3) := by decide +kernel
theorem dX11_terrace_112 : decode cX11_terrace 112 = .ok (.goto (-23), 3) := by decide +kernel
theorem dX11_terrace_115 : decode cX11_terrace 115 = .ok (.aload_n 0, 1) := by decide +kernel
theorem dX11_terrace_116 : decode cX11_terrace 116 = .ok (.getfield 49, 3) := by decide +kernel
theorem dX11_terrace_119 : decode cX11_terrace 119 = .ok (.iload_n 1, 1) := by decide +kernel
theorem dX11_terrace_120 : decode cX11_terrace 120 = .ok (.iaload, 1) := by decide +kernel
theorem dX11_terrace_121 : decode cX11_terrace 121 = .ok (.ireturn, 1) := by decide +kernel
theorem dX11_put_0 : decode cX11_put 0 = .ok (.iload_n 1, 1) := by decide +kernel
theorem dX11_put_1 : decode cX11_put 1 = .ok (.invokestatic 216, 3) := by decide +kernel
theorem dX11_put_4 : decode cX11_put 4 = .ok (.ifCond .eq 28, 3) := by decide +kernel
theorem dX11_put_7 : decode cX11_put 7 = .ok (.aload_n 0, 1) := by decide +kernel
theorem dX11_put_8 : decode cX11_put 8 = .ok (.getfield 46, 3) := by decide +kernel
theorem dX11_put_11 : decode cX11_put 11 = .ok (.iload_n 1, 1) := by decide +kernel
theorem dX11_put_12 : decode cX11_put 12 = .ok (.iaload, 1) := by decide +kernel
theorem dX11_put_13 : decode cX11_put 13 = .ok (.ifCond .eq 19, 3) := by decide +kernel
theorem dX11_put_16 : decode cX11_put 16 = .ok (.iload_n 2, 1) := by decide +kernel
theorem dX11_put_17 : decode cX11_put 17 = .ok (.iconst 0, 1) := by decide +kernel
theorem dX11_put_18 : decode cX11_put 18 = .ok (.aload_n 0, 1) := by decide +kernel
theorem dX11_put_19 : decode cX11_put 19 = .ok (.getfield 49, 3) := by decide +kernel
theorem dX11_put_22 : decode cX11_put 22 = .ok (.iload_n 1, 1) := by decide +kernel
theorem dX11_put_23 : decode cX11_put 23 = .ok (.iaload, 1) := by decide +kernel
theorem dX11_put_24 : decode cX11_put 24 = .ok (.iconst 1, 1) := by decide +kernel
theorem dX11_put_25 : decode cX11_put 25 = .ok (.isub, 1) := by decide +kernel
theorem dX11_put_26 : decode cX11_put 26 = .ok (.invokestatic 98, 3) := by decide +kernel
theorem dX11_put_29 : decode cX11_put 29 = .ok (.ifCond .ne 17, 3) := by decide +kernel
theorem dX11_put_32 : decode cX11_put 32 = .ok (.aload_n 0, 1) := by decide +kernel
theorem dX11_put_33 : decode cX11_put 33 = .ok (.dup, 1) := by decide +kernel
theorem dX11_put_34 : decode cX11_put 34 = .ok (.getfield 91, 3) := by decide +kernel
theorem dX11_put_37 : decode cX11_put 37 = .ok (.iconst 1, 1) := by decide +kernel
theorem dX11_put_38 : decode cX11_put 38 = .ok (.iadd, 1) := by decide +kernel
theorem dX11_put_39 : decode cX11_put 39 = .ok (.putfield 91, 3) := by decide +kernel
theorem dX11_put_42 : decode cX11_put 42 = .ok (.ldc2_w 219, 3) := by decide +kernel
theorem dX11_put_45 : decode cX11_put 45 = .ok (.lreturn, 1) := by decide +kernel
theorem dX11_put_46 : decode cX11_put 46 = .ok (.aload_n 0, 1) := by decide +kernel
theorem dX11_put_47 : decode cX11_put 47 = .ok (.getfield 46, 3) := by decide +kernel
theorem dX11_put_50 : decode cX11_put 50 = .ok (.iload_n 1, 1) := by decide +kernel
theorem dX11_put_51 : decode cX11_put 51 = .ok (.iaload, 1) := by decide +kernel
theorem dX11_put_52 : decode cX11_put 52 = .ok (.bipush 8, 2) := by decide +kernel
theorem dX11_put_54 : decode cX11_put 54 = .ok (.if_icmp .ne 10, 3) := by decide +kernel
theorem dX11_put_57 : decode cX11_put 57 = .ok (.lload_n 3, 1) := by decide +kernel
theorem dX11_put_58 : decode cX11_put 58 = .ok (.l2i, 1) := by decide +kernel
theorem dX11_put_59 : decode cX11_put 59 = .ok (.i2b, 1) := by decide +kernel
theorem dX11_put_60 : decode cX11_put 60 = .ok (.i2l, 1) := by decide +kernel
theorem dX11_put_61 : decode cX11_put 61 = .ok (.goto 39, 3) := by decide +kernel
theorem dX11_put_64 : decode cX11_put 64 = .ok (.aload_n 0, 1) := by decide +kernel
theorem dX11_put_65 : decode cX11_put 65 = .ok (.getfield 46, 3) := by decide +kernel
theorem dX11_put_68 : decode cX11_put 68 = .ok (.iload_n 1, 1) := by decide +kernel
theorem dX11_put_69 : decode cX11_put 69 = .ok (.iaload, 1) := by decide +kernel
theorem dX11_put_70 : decode cX11_put 70 = .ok (.bipush 16, 2) := by decide +kernel
theorem dX11_put_72 : decode cX11_put 72 = .ok (.if_icmp .ne 10, 3) := by decide +kernel
theorem dX11_put_75 : decode cX11_put 75 = .ok (.lload_n 3, 1) := by decide +kernel
theorem dX11_put_76 : decode cX11_put 76 = .ok (.l2i, 1) := by decide +kernel
theorem dX11_put_77 : decode cX11_put 77 = .ok (.i2s, 1) := by decide +kernel
theorem dX11_put_78 : decode cX11_put 78 = .ok (.i2l, 1) := by decide +kernel
theorem dX11_put_79 : decode cX11_put 79 = .ok (.goto 21, 3) := by decide +kernel
theorem dX11_put_82 : decode cX11_put 82 = .ok (.aload_n 0, 1) := by decide +kernel
theorem dX11_put_83 : decode cX11_put 83 = .ok (.getfield 46, 3) := by decide +kernel
theorem dX11_put_86 : decode cX11_put 86 = .ok (.iload_n 1, 1) := by decide +kernel
theorem dX11_put_87 : decode cX11_put 87 = .ok (.iaload, 1) := by decide +kernel
theorem dX11_put_88 : decode cX11_put 88 = .ok (.bipush 32, 2) := by decide +kernel
theorem dX11_put_90 : decode cX11_put 90 = .ok (.if_icmp .ne 9, 3) := by decide +kernel
theorem dX11_put_93 : decode cX11_put 93 = .ok (.lload_n 3, 1) := by decide +kernel
theorem dX11_put_94 : decode cX11_put 94 = .ok (.l2i, 1) := by decide +kernel
theorem dX11_put_95 : decode cX11_put 95 = .ok (.i2l, 1) := by decide +kernel
theorem dX11_put_96 : decode cX11_put 96 = .ok (.goto 4, 3) := by decide +kernel
theorem dX11_put_99 : decode cX11_put 99 = .ok (.lload_n 3, 1) := by decide +kernel
theorem dX11_put_100 : decode cX11_put 100 = .ok (.lstore 5, 2) := by decide +kernel
theorem dX11_put_102 : decode cX11_put 102 = .ok (.aload_n 0, 1) := by decide +kernel
theorem dX11_put_103 : decode cX11_put 103 = .ok (.getfield 52, 3) := by decide +kernel
theorem dX11_put_106 : decode cX11_put 106 = .ok (.bipush 16, 2) := by decide +kernel
theorem dX11_put_108 : decode cX11_put 108 = .ok (.iload_n 1, 1) := by decide +kernel
theorem dX11_put_109 : decode cX11_put 109 = .ok (.imul, 1) := by decide +kernel
theorem dX11_put_110 : decode cX11_put 110 = .ok (.iload_n 2, 1) := by decide +kernel
theorem dX11_put_111 : decode cX11_put 111 = .ok (.iadd, 1) := by decide +kernel
theorem dX11_put_112 : decode cX11_put 112 = .ok (.lload 5, 2) := by decide +kernel
theorem dX11_put_114 : decode cX11_put 114 = .ok (.lastore, 1) := by decide +kernel
theorem dX11_put_115 : decode cX11_put 115 = .ok (.lload 5, 2) := by decide +kernel
theorem dX11_put_117 : decode cX11_put 117 = .ok (.lreturn, 1) := by decide +kernel
theorem dX11_copy_0 : decode cX11_copy 0 = .ok (.iload_n 1, 1) := by decide +kernel
theorem dX11_copy_1 : decode cX11_copy 1 = .ok (.invokestatic 216, 3) := by decide +kernel
theorem dX11_copy_4 : decode cX11_copy 4 = .ok (.ifCond .eq 10, 3) := by decide +kernel
theorem dX11_copy_7 : decode cX11_copy 7 = .ok (.iload_n 3, 1) := by decide +kernel
theorem dX11_copy_8 : decode cX11_copy 8 = .ok (.invokestatic 216, 3) := by decide +kernel
theorem dX11_copy_11 : decode cX11_copy 11 = .ok (.ifCond .ne 9, 3) := by decide +kernel
theorem dX11_copy_14 : decode cX11_copy 14 = .ok (.aload_n 0, 1) := by decide +kernel
theorem dX11_copy_15 : decode cX11_copy 15 = .ok (.iconst (-1), 1) := by decide +kernel
theorem dX11_copy_16 : decode cX11_copy 16 = .ok (.invokevirtual 118, 3) := by decide +kernel
theorem dX11_copy_19 : decode cX11_copy 19 = .ok (.ireturn, 1) := by decide +kernel
theorem dX11_copy_20 : decode cX11_copy 20 = .ok (.aload_n 0, 1) := by decide +kernel
theorem dX11_copy_21 : decode cX11_copy 21 = .ok (.getfield 46, 3) := by decide +kernel
theorem dX11_copy_24 : decode cX11_copy 24 = .ok (.iload_n 1, 1) := by decide +kernel
theorem dX11_copy_25 : decode cX11_copy 25 = .ok (.iaload, 1) := by decide +kernel
theorem dX11_copy_26 : decode cX11_copy 26 = .ok (.ifCond .eq 12, 3) := by decide +kernel
theorem dX11_copy_29 : decode cX11_copy 29 = .ok (.aload_n 0, 1) := by decide +kernel
theorem dX11_copy_30 : decode cX11_copy 30 = .ok (.getfield 46, 3) := by decide +kernel
theorem dX11_copy_33 : decode cX11_copy 33 = .ok (.iload_n 3, 1) := by decide +kernel
theorem dX11_copy_34 : decode cX11_copy 34 = .ok (.iaload, 1) := by decide +kernel
theorem dX11_copy_35 : decode cX11_copy 35 = .ok (.ifCond .ne 10, 3) := by decide +kernel
theorem dX11_copy_38 : decode cX11_copy 38 = .ok (.aload_n 0, 1) := by decide +kernel
theorem dX11_copy_39 : decode cX11_copy 39 = .ok (.bipush (-2), 2) := by decide +kernel
theorem dX11_copy_41 : decode cX11_copy 41 = .ok (.invokevirtual 118, 3) := by decide +kernel
theorem dX11_copy_44 : decode cX11_copy 44 = .ok (.ireturn, 1) := by decide +kernel
theorem dX11_copy_45 : decode cX11_copy 45 = .ok (.aload_n 0, 1) := by decide +kernel
theorem dX11_copy_46 : decode cX11_copy 46 = .ok (.getfield 46, 3) := by decide +kernel
theorem dX11_copy_49 : decode cX11_copy 49 = .ok (.iload_n 1, 1) := by decide +kernel
theorem dX11_copy_50 : decode cX11_copy 50 = .ok (.iaload, 1) := by decide +kernel
theorem dX11_copy_51 : decode cX11_copy 51 = .ok (.aload_n 0, 1) := by decide +kernel
theorem dX11_copy_52 : decode cX11_copy 52 = .ok (.getfield 46, 3) := by decide +kernel
theorem dX11_copy_55 : decode cX11_copy 55 = .ok (.iload_n 3, 1) := by decide +kernel
theorem dX11_copy_56 : decode cX11_copy 56 = .ok (.iaload, 1) := by decide +kernel
theorem dX11_copy_57 : decode cX11_copy 57 = .ok (.if_icmp .eq 10, 3) := by decide +kernel
theorem dX11_copy_60 : decode cX11_copy 60 = .ok (.aload_n 0, 1) := by decide +kernel
theorem dX11_copy_61 : decode cX11_copy 61 = .ok (.bipush (-4), 2) := by decide +kernel
theorem dX11_copy_63 : decode cX11_copy 63 = .ok (.invokevirtual 118, 3) := by decide +kernel
theorem dX11_copy_66 : decode cX11_copy 66 = .ok (.ireturn, 1) := by decide +kernel
theorem dX11_copy_67 : decode cX11_copy 67 = .ok (.iload_n 2, 1) := by decide +kernel
theorem dX11_copy_68 : decode cX11_copy 68 = .ok (.ifCond .lt 48, 3) := by decide +kernel
theorem dX11_copy_71 : decode cX11_copy 71 = .ok (.iload 4, 2) := by decide +kernel
theorem dX11_copy_73 : decode cX11_copy 73 = .ok (.ifCond .lt 43, 3) := by decide +kernel
theorem dX11_copy_76 : decode cX11_copy 76 = .ok (.iload 5, 2) := by decide +kernel
theorem dX11_copy_78 : decode cX11_copy 78 = .ok (.ifCond .lt 38, 3) := by decide +kernel
theorem dX11_copy_81 : decode cX11_copy 81 = .ok (.iload_n 2, 1) := by decide +kernel
theorem dX11_copy_82 : decode cX11_copy 82 = .ok (.i2l, 1) := by decide +kernel
theorem dX11_copy_83 : decode cX11_copy 83 = .ok (.iload 5, 2) := by decide +kernel
theorem dX11_copy_85 : decode cX11_copy 85 = .ok (.i2l, 1) := by decide +kernel
theorem dX11_copy_86 : decode cX11_copy 86 = .ok (.ladd, 1) := by decide +kernel
theorem dX11_copy_87 : decode cX11_copy 87 = .ok (.aload_n 0, 1) := by decide +kernel
theorem dX11_copy_88 : decode cX11_copy 88 = .ok (.getfield 49, 3) := by decide +kernel
theorem dX11_copy_91 : decode cX11_copy 91 = .ok (.iload_n 1, 1) := by decide +kernel
theorem dX11_copy_92 : decode cX11_copy 92 = .ok (.iaload, 1) := by decide +kernel
theorem dX11_copy_93 : decode cX11_copy 93 = .ok (.i2l, 1) := by decide +kernel
theorem dX11_copy_94 : decode cX11_copy 94 = .ok (.lcmp, 1) := by decide +kernel
theorem dX11_copy_95 : decode cX11_copy 95 = .ok (.ifCond .gt 21, 3) := by decide +kernel
theorem dX11_copy_98 : decode cX11_copy 98 = .ok (.iload 4, 2) := by decide +kernel
theorem dX11_copy_100 : decode cX11_copy 100 = .ok (.i2l, 1) := by decide +kernel
theorem dX11_copy_101 : decode cX11_copy 101 = .ok (.iload 5, 2) := by decide +kernel
theorem dX11_copy_103 : decode cX11_copy 103 = .ok (.i2l, 1) := by decide +kernel
theorem dX11_copy_104 : decode cX11_copy 104 = .ok (.ladd, 1) := by decide +kernel
theorem dX11_copy_105 : decode cX11_copy 105 = .ok (.aload_n 0, 1) := by decide +kernel
theorem dX11_copy_106 : decode cX11_copy 106 = .ok (.getfield 49, 3) := by decide +kernel
theorem dX11_copy_109 : decode cX11_copy 109 = .ok (.iload_n 3, 1) := by decide +kernel
theorem dX11_copy_110 : decode cX11_copy 110 = .ok (.iaload, 1) := by decide +kernel
theorem dX11_copy_111 : decode cX11_copy 111 = .ok (.i2l, 1) := by decide +kernel
theorem dX11_copy_112 : decode cX11_copy 112 = .ok (.lcmp, 1) := by decide +kernel
theorem dX11_copy_113 : decode cX11_copy 113 = .ok (.ifCond .le 9, 3) := by decide +kernel
theorem dX11_copy_116 : decode cX11_copy 116 = .ok (.aload_n 0, 1) := by decide +kernel
theorem dX11_copy_117 : decode cX11_copy 117 = .ok (.iconst (-1), 1) := by decide +kernel
theorem dX11_copy_118 : decode cX11_copy 118 = .ok (.invokevirtual 118, 3) := by decide +kernel
theorem dX11_copy_121 : decode cX11_copy 121 = .ok (.ireturn, 1) := by decide +kernel
theorem dX11_copy_122 : decode cX11_copy 122 = .ok (.iconst 0, 1) := by decide +kernel
theorem dX11_copy_123 : decode cX11_copy 123 = .ok (.istore 6, 2) := by decide +kernel
theorem dX11_copy_125 : decode cX11_copy 125 = .ok (.iload 6, 2) := by decide +kernel
theorem dX11_copy_127 : decode cX11_copy 127 = .ok (.iload 5, 2) := by decide +kernel
theorem dX11_copy_129 : decode cX11_copy 129 = .ok (.if_icmp .ge 30, 3) := by decide +kernel
theorem dX11_copy_132 : decode cX11_copy 132 = .ok (.aload_n 0, 1) := by decide +kernel
theorem dX11_copy_133 : decode cX11_copy 133 = .ok (.getfield 88, 3) := by decide +kernel
theorem dX11_copy_136 : decode cX11_copy 136 = .ok (.iload 6, 2) := by decide +kernel
theorem dX11_copy_138 : decode cX11_copy 138 = .ok (.aload_n 0, 1) := by decide +kernel
theorem dX11_copy_139 : decode cX11_copy 139 = .ok (.getfield 52, 3) := by decide +kernel
theorem dX11_copy_142 : decode cX11_copy 142 = .ok (.bipush 16, 2) := by decide +kernel
theorem dX11_copy_144 : decode cX11_copy 144 = .ok (.iload_n 1, 1) := by decide +kernel
theorem dX11_copy_145 : decode cX11_copy 145 = .ok (.imul, 1) := by decide +kernel
theorem dX11_copy_146 : decode cX11_copy 146 = .ok (.iload_n 2, 1) := by decide +kernel
theorem dX11_copy_147 : decode cX11_copy 147 = .ok (.iadd, 1) := by decide +kernel
theorem dX11_copy_148 : decode cX11_copy 148 = .ok (.iload 6, 2) := by decide +kernel
theorem dX11_copy_150 : decode cX11_copy 150 = .ok (.iadd, 1) := by decide +kernel
theorem dX11_copy_151 : decode cX11_copy 151 = .ok (.laload, 1) := by decide +kernel
theorem dX11_copy_152 : decode cX11_copy 152 = .ok (.lastore, 1) := by decide +kernel
theorem dX11_copy_153 : decode cX11_copy 153 = .ok (.iinc 6 1, 3) := by decide +kernel
theorem dX11_copy_156 : decode cX11_copy 156 = .ok (.goto (-31), 3) := by decide +kernel
theorem dX11_copy_159 : decode cX11_copy 159 = .ok (.iconst 0, 1) := by decide +kernel
theorem dX11_copy_160 : decode cX11_copy 160 = .ok (.istore 6, 2) := by decide +kernel
theorem dX11_copy_162 : decode cX11_copy 162 = .ok (.iload 6, 2) := by decide +kernel
theorem dX11_copy_164 : decode cX11_copy 164 = .ok (.iload 5, 2) := by decide +kernel
theorem dX11_copy_166 : decode cX11_copy 166 = .ok (.if_icmp .ge 31, 3) := by decide +kernel
theorem dX11_copy_169 : decode cX11_copy 169 = .ok (.aload_n 0, 1) := by decide +kernel
theorem dX11_copy_170 : decode cX11_copy 170 = .ok (.getfield 52, 3) := by decide +kernel
theorem dX11_copy_173 : decode cX11_copy 173 = .ok (.bipush 16, 2) := by decide +kernel
theorem dX11_copy_175 : decode cX11_copy 175 = .ok (.iload_n 3, 1) := by decide +kernel
theorem dX11_copy_176 : decode cX11_copy 176 = .ok (.imul, 1) := by decide +kernel
theorem dX11_copy_177 : decode cX11_copy 177 = .ok (.iload 4, 2) := by decide +kernel
theorem dX11_copy_179 : decode cX11_copy 179 = .ok (.iadd, 1) := by decide +kernel
theorem dX11_copy_180 : decode cX11_copy 180 = .ok (.iload 6, 2) := by decide +kernel
theorem dX11_copy_182 : decode cX11_copy 182 = .ok (.iadd, 1) := by decide +kernel
theorem dX11_copy_183 : decode cX11_copy 183 = .ok (.aload_n 0, 1) := by decide +kernel
theorem dX11_copy_184 : decode cX11_copy 184 = .ok (.getfield 88, 3) := by decide +kernel
theorem dX11_copy_187 : decode cX11_copy 187 = .ok (.iload 6, 2) := by decide +kernel
theorem dX11_copy_189 : decode cX11_copy 189 = .ok (.laload, 1) := by decide +kernel
theorem dX11_copy_190 : decode cX11_copy 190 = .ok (.lastore, 1) := by decide +kernel
theorem dX11_copy_191 : decode cX11_copy 191 = .ok (.iinc 6 1, 3) := by decide +kernel
theorem dX11_copy_194 : decode cX11_copy 194 = .ok (.goto (-32), 3) := by decide +kernel
theorem dX11_copy_197 : decode cX11_copy 197 = .ok (.iload 5, 2) := by decide +kernel
theorem dX11_copy_199 : decode cX11_copy 199 = .ok (.ireturn, 1) := by decide +kernel
theorem dX11_spread_0 : decode cX11_spread 0 = .ok (.iload_n 1, 1) := by decide +kernel
theorem dX11_spread_1 : decode cX11_spread 1 = .ok (.invokestatic 216, 3) := by decide +kernel
theorem dX11_spread_4 : decode cX11_spread 4 = .ok (.ifCond .ne 9, 3) := by decide +kernel
theorem dX11_spread_7 : decode cX11_spread 7 = .ok (.aload_n 0, 1) := by decide +kernel
theorem dX11_spread_8 : decode cX11_spread 8 = .ok (.iconst (-1), 1) := by decide +kernel
theorem dX11_spread_9 : decode cX11_spread 9 = .ok (.invokevirtual 118, 3) := by decide +kernel
theorem dX11_spread_12 : decode cX11_spread 12 = .ok (.ireturn, 1) := by decide +kernel
theorem dX11_spread_13 : decode cX11_spread 13 = .ok (.aload_n 0, 1) := by decide +kernel
theorem dX11_spread_14 : decode cX11_spread 14 = .ok (.getfield 46, 3) := by decide +kernel
theorem dX11_spread_17 : decode cX11_spread 17 = .ok (.iload_n 1, 1) := by decide +kernel
theorem dX11_spread_18 : decode cX11_spread 18 = .ok (.iaload, 1) := by decide +kernel
theorem dX11_spread_19 : decode cX11_spread 19 = .ok (.ifCond .ne 10, 3) := by decide +kernel
theorem dX11_spread_22 : decode cX11_spread 22 = .ok (.aload_n 0, 1) := by decide +kernel
theorem dX11_spread_23 : decode cX11_spread 23 = .ok (.bipush (-2), 2) := by decide +kernel
theorem dX11_spread_25 : decode cX11_spread 25 = .ok (.invokevirtual 118, 3) := by decide +kernel
theorem dX11_spread_28 : decode cX11_spread 28 = .ok (.ireturn, 1) := by decide +kernel
theorem dX11_spread_29 : decode cX11_spread 29 = .ok (.iload_n 2, 1) := by decide +kernel
theorem dX11_spread_30 : decode cX11_spread 30 = .ok (.ifCond .lt 23, 3) := by decide +kernel
theorem dX11_spread_33 : decode cX11_spread 33 = .ok (.iload_n 3, 1) := by decide +kernel
theorem dX11_spread_34 : decode cX11_spread 34 = .ok (.ifCond .lt 19, 3) := by decide +kernel
theorem dX11_spread_37 : decode cX11_spread 37 = .ok (.iload_n 2, 1) := by decide +kernel
theorem dX11_spread_38 : decode cX11_spread 38 = .ok (.i2l, 1) := by decide +kernel
theorem dX11_spread_39 : decode cX11_spread 39 = .ok (.iload_n 3, 1) := by decide +kernel
theorem dX11_spread_40 : decode cX11_spread 40 = .ok (.i2l, 1) := by decide +kernel
theorem dX11_spread_41 : decode cX11_spread 41 = .ok (.ladd, 1) := by decide +kernel
theorem dX11_spread_42 : decode cX11_spread 42 = .ok (.aload_n 0, 1) := by decide +kernel
theorem dX11_spread_43 : decode cX11_spread 43 = .ok (.getfield 49, 3) := by decide +kernel
theorem dX11_spread_46 : decode cX11_spread 46 = .ok (.iload_n 1, 1) := by decide +kernel
theorem dX11_spread_47 : decode cX11_spread 47 = .ok (.iaload, 1) := by decide +kernel
theorem dX11_spread_48 : decode cX11_spread 48 = .ok (.i2l, 1) := by decide +kernel
theorem dX11_spread_49 : decode cX11_spread 49 = .ok (.lcmp, 1) := by decide +kernel
theorem dX11_spread_50 : decode cX11_spread 50 = .ok (.ifCond .le 9, 3) := by decide +kernel
theorem dX11_spread_53 : decode cX11_spread 53 = .ok (.aload_n 0, 1) := by decide +kernel
theorem dX11_spread_54 : decode cX11_spread 54 = .ok (.iconst (-1), 1) := by decide +kernel
theorem dX11_spread_55 : decode cX11_spread 55 = .ok (.invokevirtual 118, 3) := by decide +kernel
theorem dX11_spread_58 : decode cX11_spread 58 = .ok (.ireturn, 1) := by decide +kernel
theorem dX11_spread_59 : decode cX11_spread 59 = .ok (.iload 4, 2) := by decide +kernel
theorem dX11_spread_61 : decode cX11_spread 61 = .ok (.ifCond .lt 18, 3) := by decide +kernel
theorem dX11_spread_64 : decode cX11_spread 64 = .ok (.iload 4, 2) := by decide +kernel
theorem dX11_spread_66 : decode cX11_spread 66 = .ok (.i2l, 1) := by decide +kernel
theorem dX11_spread_67 : decode cX11_spread 67 = .ok (.iload_n 3, 1) := by decide +kernel
theorem dX11_spread_68 : decode cX11_spread 68 = .ok (.i2l, 1) := by decide +kernel
theorem dX11_spread_69 : decode cX11_spread 69 = .ok (.ladd, 1) := by decide +kernel
theorem dX11_spread_70 : decode cX11_spread 70 = .ok (.aload_n 0, 1) := by decide +kernel
theorem dX11_spread_71 : decode cX11_spread 71 = .ok (.getfield 95, 3) := by decide +kernel
theorem dX11_spread_74 : decode cX11_spread 74 = .ok (.i2l, 1) := by decide +kernel
theorem dX11_spread_75 : decode cX11_spread 75 = .ok (.lcmp, 1) := by decide +kernel
theorem dX11_spread_76 : decode cX11_spread 76 = .ok (.ifCond .le 9, 3) := by decide +kernel
theorem dX11_spread_79 : decode cX11_spread 79 = .ok (.aload_n 0, 1) := by decide +kernel
theorem dX11_spread_80 : decode cX11_spread 80 = .ok (.iconst (-1), 1) := by decide +kernel
theorem dX11_spread_81 : decode cX11_spread 81 = .ok (.invokevirtual 118, 3) := by decide +kernel
theorem dX11_spread_84 : decode cX11_spread 84 = .ok (.ireturn, 1) := by decide +kernel
theorem dX11_spread_85 : decode cX11_spread 85 = .ok (.aload_n 0, 1) := by decide +kernel
theorem dX11_spread_86 : decode cX11_spread 86 = .ok (.getfield 114, 3) := by decide +kernel
theorem dX11_spread_89 : decode cX11_spread 89 = .ok (.ifCond .ne 10, 3) := by decide +kernel
theorem dX11_spread_92 : decode cX11_spread 92 = .ok (.aload_n 0, 1) := by decide +kernel
theorem dX11_spread_93 : decode cX11_spread 93 = .ok (.bipush (-8), 2) := by decide +kernel
theorem dX11_spread_95 : decode cX11_spread 95 = .ok (.invokevirtual 118, 3) := by decide +kernel
theorem dX11_spread_98 : decode cX11_spread 98 = .ok (.ireturn, 1) := by decide +kernel
theorem dX11_spread_99 : decode cX11_spread 99 = .ok (.iconst 0, 1) := by decide +kernel
theorem dX11_spread_100 : decode cX11_spread 100 = .ok (.istore 5, 2) := by decide +kernel
theorem dX11_spread_102 : decode cX11_spread 102 = .ok (.iload 5, 2) := by decide +kernel
theorem dX11_spread_104 : decode cX11_spread 104 = .ok (.iload_n 3, 1) := by decide +kernel
theorem dX11_spread_105 : decode cX11_spread 105 = .ok (.if_icmp .ge 35, 3) := by decide +kernel
theorem dX11_spread_108 : decode cX11_spread 108 = .ok (.aload_n 0, 1) := by decide +kernel
theorem dX11_spread_109 : decode cX11_spread 109 = .ok (.getfield 52, 3) := by decide +kernel
theorem dX11_spread_112 : decode cX11_spread 112 = .ok (.bipush 16, 2) := by decide +kernel
theorem dX11_spread_114 : decode cX11_spread 114 = .ok (.iload_n 1, 1) := by decide +kernel
theorem dX11_spread_115 : decode cX11_spread 115 = .ok (.imul, 1) := by decide +kernel
theorem dX11_spread_116 : decode cX11_spread 116 = .ok (.iload_n 2, 1) := by decide +kernel
theorem dX11_spread_117 : decode cX11_spread 117 = .ok (.iadd, 1) := by decide +kernel
theorem dX11_spread_118 : decode cX11_spread 118 = .ok (.iload 5, 2) := by decide +kernel
theorem dX11_spread_120 : decode cX11_spread 120 = .ok (.iadd, 1) := by decide +kernel
theorem dX11_spread_121 : decode cX11_spread 121 = .ok (.laload, 1) := by decide +kernel
theorem dX11_spread_122 : decode cX11_spread 122 = .ok (.lconst 0, 1) := by decide +kernel
theorem dX11_spread_123 : decode cX11_spread 123 = .ok (.lcmp, 1) := by decide +kernel
theorem dX11_spread_124 : decode cX11_spread 124 = .ok (.ifCond .ge 10, 3) := by decide +kernel
theorem dX11_spread_127 : decode cX11_spread 127 = .ok (.aload_n 0, 1) := by decide +kernel
theorem dX11_spread_128 : decode cX11_spread 128 = .ok (.bipush (-13), 2) := by decide +kernel
theorem dX11_spread_130 : decode cX11_spread 130 = .ok (.invokevirtual 118, 3) := by decide +kernel
theorem dX11_spread_133 : decode cX11_spread 133 = .ok (.ireturn, 1) := by decide +kernel
theorem dX11_spread_134 : decode cX11_spread 134 = .ok (.iinc 5 1, 3) := by decide +kernel
theorem dX11_spread_137 : decode cX11_spread 137 = .ok (.goto (-35), 3) := by decide +kernel
theorem dX11_spread_140 : decode cX11_spread 140 = .ok (.iconst 0, 1) := by decide +kernel
theorem dX11_spread_141 : decode cX11_spread 141 = .ok (.istore 5, 2) := by decide +kernel
theorem dX11_spread_143 : decode cX11_spread 143 = .ok (.iload 5, 2) := by decide +kernel
theorem dX11_spread_145 : decode cX11_spread 145 = .ok (.iload_n 3, 1) := by decide +kernel
theorem dX11_spread_146 : decode cX11_spread 146 = .ok (.if_icmp .ge 48, 3) := by decide +kernel
theorem dX11_spread_149 : decode cX11_spread 149 = .ok (.aload_n 0, 1) := by decide +kernel
theorem dX11_spread_150 : decode cX11_spread 150 = .ok (.getfield 52, 3) := by decide +kernel
theorem dX11_spread_153 : decode cX11_spread 153 = .ok (.bipush 16, 2) := by decide +kernel
theorem dX11_spread_155 : decode cX11_spread 155 = .ok (.iload_n 1, 1) := by decide +kernel
theorem dX11_spread_156 : decode cX11_spread 156 = .ok (.imul, 1) := by decide +kernel
theorem dX11_spread_157 : decode cX11_spread 157 = .ok (.iload_n 2, 1) := by decide +kernel
theorem dX11_spread_158 : decode cX11_spread 158 = .ok (.iadd, 1) := by decide +kernel
theorem dX11_spread_159 : decode cX11_spread 159 = .ok (.iload 5, 2) := by decide +kernel
theorem dX11_spread_161 : decode cX11_spread 161 = .ok (.iadd, 1) := by decide +kernel
theorem dX11_spread_162 : decode cX11_spread 162 = .ok (.laload, 1) := by decide +kernel
theorem dX11_spread_163 : decode cX11_spread 163 = .ok (.ldc2_w 146, 3) := by decide +kernel
theorem dX11_spread_166 : decode cX11_spread 166 = .ok (.aload_n 0, 1) := by decide +kernel
theorem dX11_spread_167 : decode cX11_spread 167 = .ok (.getfield 16, 3) := by decide +kernel
theorem dX11_spread_170 : decode cX11_spread 170 = .ok (.iload 4, 2) := by decide +kernel
theorem dX11_spread_172 : decode cX11_spread 172 = .ok (.iload 5, 2) := by decide +kernel
theorem dX11_spread_174 : decode cX11_spread 174 = .ok (.iadd, 1) := by decide +kernel
theorem dX11_spread_175 : decode cX11_spread 175 = .ok (.laload, 1) := by decide +kernel
theorem dX11_spread_176 : decode cX11_spread 176 = .ok (.lsub, 1) := by decide +kernel
theorem dX11_spread_177 : decode cX11_spread 177 = .ok (.lcmp, 1) := by decide +kernel
theorem dX11_spread_178 : decode cX11_spread 178 = .ok (.ifCond .le 10, 3) := by decide +kernel
theorem dX11_spread_181 : decode cX11_spread 181 = .ok (.aload_n 0, 1) := by decide +kernel
theorem dX11_spread_182 : decode cX11_spread 182 = .ok (.bipush (-5), 2) := by decide +kernel
theorem dX11_spread_184 : decode cX11_spread 184 = .ok (.invokevirtual 118, 3) := by decide +kernel
theorem dX11_spread_187 : decode cX11_spread 187 = .ok (.ireturn, 1) := by decide +kernel
theorem dX11_spread_188 : decode cX11_spread 188 = .ok (.iinc 5 1, 3) := by decide +kernel
theorem dX11_spread_191 : decode cX11_spread 191 = .ok (.goto (-48), 3) := by decide +kernel
theorem dX11_spread_194 : decode cX11_spread 194 = .ok (.aload_n 0, 1) := by decide +kernel
theorem dX11_spread_195 : decode cX11_spread 195 = .ok (.invokevirtual 148, 3) := by decide +kernel
theorem dX11_spread_198 : decode cX11_spread 198 = .ok (.lconst 0, 1) := by decide +kernel
theorem dX11_spread_199 : decode cX11_spread 199 = .ok (.lstore 5, 2) := by decide +kernel
theorem dX11_spread_201 : decode cX11_spread 201 = .ok (.iconst 0, 1) := by decide +kernel
theorem dX11_spread_202 : decode cX11_spread 202 = .ok (.istore 7, 2) := by decide +kernel
theorem dX11_spread_204 : decode cX11_spread 204 = .ok (.iload 7, 2) := by decide +kernel
theorem dX11_spread_206 : decode cX11_spread 206 = .ok (.iload_n 3, 1) := by decide +kernel
theorem dX11_spread_207 : decode cX11_spread 207 = .ok (.if_icmp .ge 36, 3) := by decide +kernel
theorem dX11_spread_210 : decode cX11_spread 210 = .ok (.aload_n 0, 1) := by decide +kernel
theorem dX11_spread_211 : decode cX11_spread 211 = .ok (.getfield 16, 3) := by decide +kernel
theorem dX11_spread_214 : decode cX11_spread 214 = .ok (.iload 4, 2) := by decide +kernel
theorem dX11_spread_216 : decode cX11_spread 216 = .ok (.iload 7, 2) := by decide +kernel
theorem dX11_spread_218 : decode cX11_spread 218 = .ok (.iadd, 1) := by decide +kernel
theorem dX11_spread_219 : decode cX11_spread 219 = .ok (.dup2, 1) := by decide +kernel
theorem dX11_spread_220 : decode cX11_spread 220 = .ok (.laload, 1) := by decide +kernel
theorem dX11_spread_221 : decode cX11_spread 221 = .ok (.aload_n 0, 1) := by decide +kernel
theorem dX11_spread_222 : decode cX11_spread 222 = .ok (.getfield 52, 3) := by decide +kernel
theorem dX11_spread_225 : decode cX11_spread 225 = .ok (.bipush 16, 2) := by decide +kernel
theorem dX11_spread_227 : decode cX11_spread 227 = .ok (.iload_n 1, 1) := by decide +kernel
theorem dX11_spread_228 : decode cX11_spread 228 = .ok (.imul, 1) := by decide +kernel
theorem dX11_spread_229 : decode cX11_spread 229 = .ok (.iload_n 2, 1) := by decide +kernel
theorem dX11_spread_230 : decode cX11_spread 230 = .ok (.iadd, 1) := by decide +kernel
theorem dX11_spread_231 : decode cX11_spread 231 = .ok (.iload 7, 2) := by decide +kernel
theorem dX11_spread_233 : decode cX11_spread 233 = .ok (.iadd, 1) := by decide +kernel
theorem dX11_spread_234 : decode cX11_spread 234 = .ok (.laload, 1) := by decide +kernel
theorem dX11_spread_235 : decode cX11_spread 235 = .ok (.ladd, 1) := by decide +kernel
theorem dX11_spread_236 : decode cX11_spread 236 = .ok (.lastore, 1) := by decide +kernel
theorem dX11_spread_237 : decode cX11_spread 237 = .ok (.iinc 7 1, 3) := by decide +kernel
theorem dX11_spread_240 : decode cX11_spread 240 = .ok (.goto (-36), 3) := by decide +kernel
theorem dX11_spread_243 : decode cX11_spread 243 = .ok (.iconst 0, 1) := by decide +kernel
theorem dX11_spread_244 : decode cX11_spread 244 = .ok (.istore 7, 2) := by decide +kernel
theorem dX11_spread_246 : decode cX11_spread 246 = .ok (.iload 7, 2) := by decide +kernel
theorem dX11_spread_248 : decode cX11_spread 248 = .ok (.aload_n 0, 1) := by decide +kernel
theorem dX11_spread_249 : decode cX11_spread 249 = .ok (.getfield 95, 3) := by decide +kernel
theorem dX11_spread_252 : decode cX11_spread 252 = .ok (.if_icmp .ge 21, 3) := by decide +kernel
theorem dX11_spread_255 : decode cX11_spread 255 = .ok (.lload 5, 2) := by decide +kernel
theorem dX11_spread_257 : decode cX11_spread 257 = .ok (.aload_n 0, 1) := by decide +kernel
theorem dX11_spread_258 : decode cX11_spread 258 = .ok (.getfield 16, 3) := by decide +kernel
theorem dX11_spread_261 : decode cX11_spread 261 = .ok (.iload 7, 2) := by decide +kernel
theorem dX11_spread_263 : decode cX11_spread 263 = .ok (.laload, 1) := by decide +kernel
theorem dX11_spread_264 : decode cX11_spread 264 = .ok (.ladd, 1) := by decide +kernel
theorem dX11_spread_265 : decode cX11_spread 265 = .ok (.lstore 5, 2) := by decide +kernel
theorem dX11_spread_267 : decode cX11_spread 267 = .ok (.iinc 7 1, 3) := by decide +kernel
theorem dX11_spread_270 : decode cX11_spread 270 = .ok (.goto (-24), 3) := by decide +kernel
theorem dX11_spread_273 : decode cX11_spread 273 = .ok (.lload 5, 2) := by decide +kernel
theorem dX11_spread_275 : decode cX11_spread 275 = .ok (.l2i, 1) := by decide +kernel
theorem dX11_spread_276 : decode cX11_spread 276 = .ok (.ireturn, 1) := by decide +kernel
theorem dX11_tell_0 : decode cX11_tell 0 = .ok (.aload_n 0, 1) := by decide +kernel
theorem dX11_tell_1 : decode cX11_tell 1 = .ok (.getfield 169, 3) := by decide +kernel
theorem dX11_tell_4 : decode cX11_tell 4 = .ok (.sipush 200, 3) := by decide +kernel
theorem dX11_tell_7 : decode cX11_tell 7 = .ok (.if_icmp .ne 10, 3) := by decide +kernel
theorem dX11_tell_10 : decode cX11_tell 10 = .ok (.aload_n 0, 1) := by decide +kernel
theorem dX11_tell_11 : decode cX11_tell 11 = .ok (.bipush (-5), 2) := by decide +kernel
theorem dX11_tell_13 : decode cX11_tell 13 = .ok (.invokevirtual 118, 3) := by decide +kernel
theorem dX11_tell_16 : decode cX11_tell 16 = .ok (.ireturn, 1) := by decide +kernel
theorem dX11_tell_17 : decode cX11_tell 17 = .ok (.aload_n 0, 1) := by decide +kernel
theorem dX11_tell_18 : decode cX11_tell 18 = .ok (.getfield 55, 3) := by decide +kernel
theorem dX11_tell_21 : decode cX11_tell 21 = .ok (.aload_n 0, 1) := by decide +kernel
theorem dX11_tell_22 : decode cX11_tell 22 = .ok (.getfield 169, 3) := by decide +kernel
theorem dX11_tell_25 : decode cX11_tell 25 = .ok (.iload_n 1, 1) := by decide +kernel
theorem dX11_tell_26 : decode cX11_tell 26 = .ok (.iastore, 1) := by decide +kernel
theorem dX11_tell_27 : decode cX11_tell 27 = .ok (.aload_n 0, 1) := by decide +kernel
theorem dX11_tell_28 : decode cX11_tell 28 = .ok (.dup, 1) := by decide +kernel
theorem dX11_tell_29 : decode cX11_tell 29 = .ok (.getfield 169, 3) := by decide +kernel
theorem dX11_tell_32 : decode cX11_tell 32 = .ok (.iconst 1, 1) := by decide +kernel
theorem dX11_tell_33 : decode cX11_tell 33 = .ok (.iadd, 1) := by decide +kernel
theorem dX11_tell_34 : decode cX11_tell 34 = .ok (.putfield 169, 3) := by decide +kernel
theorem dX11_tell_37 : decode cX11_tell 37 = .ok (.aload_n 0, 1) := by decide +kernel
theorem dX11_tell_38 : decode cX11_tell 38 = .ok (.getfield 169, 3) := by decide +kernel
theorem dX11_tell_41 : decode cX11_tell 41 = .ok (.ireturn, 1) := by decide +kernel
theorem dX11_enough_0 : decode cX11_enough 0 = .ok (.aload_n 0, 1) := by decide +kernel
theorem dX11_enough_1 : decode cX11_enough 1 = .ok (.getfield 169, 3) := by decide +kernel
theorem dX11_enough_4 : decode cX11_enough 4 = .ok (.istore_n 1, 1) := by decide +kernel
theorem dX11_enough_5 : decode cX11_enough 5 = .ok (.aload_n 0, 1) := by decide +kernel
theorem dX11_enough_6 : decode cX11_enough 6 = .ok (.iconst 0, 1) := by decide +kernel
theorem dX11_enough_7 : decode cX11_enough 7 = .ok (.putfield 169, 3) := by decide +kernel
theorem dX11_enough_10 : decode cX11_enough 10 = .ok (.aload_n 0, 1) := by decide +kernel
theorem dX11_enough_11 : decode cX11_enough 11 = .ok (.getfield 114, 3) := by decide +kernel
theorem dX11_enough_14 : decode cX11_enough 14 = .ok (.ifCond .ne 10, 3) := by decide +kernel
theorem dX11_enough_17 : decode cX11_enough 17 = .ok (.aload_n 0, 1) := by decide +kernel
theorem dX11_enough_18 : decode cX11_enough 18 = .ok (.bipush (-8), 2) := by decide +kernel
theorem dX11_enough_20 : decode cX11_enough 20 = .ok (.invokevirtual 118, 3) := by decide +kernel
theorem dX11_enough_23 : decode cX11_enough 23 = .ok (.ireturn, 1) := by decide +kernel
theorem dX11_enough_24 : decode cX11_enough 24 = .ok (.iload_n 1, 1) := by decide +kernel
theorem dX11_enough_25 : decode cX11_enough 25 = .ok (.aload_n 0, 1) := by decide +kernel
theorem dX11_enough_26 : decode cX11_enough 26 = .ok (.getfield 95, 3) := by decide +kernel
theorem dX11_enough_29 : decode cX11_enough 29 = .ok (.if_icmp .eq 10, 3) := by decide +kernel
theorem dX11_enough_32 : decode cX11_enough 32 = .ok (.aload_n 0, 1) := by decide +kernel
theorem dX11_enough_33 : decode cX11_enough 33 = .ok (.bipush (-3), 2) := by decide +kernel
theorem dX11_enough_35 : decode cX11_enough 35 = .ok (.invokevirtual 118, 3) := by decide +kernel
theorem dX11_enough_38 : decode cX11_enough 38 = .ok (.ireturn, 1) := by decide +kernel
theorem dX11_enough_39 : decode cX11_enough 39 = .ok (.iconst 0, 1) := by decide +kernel
theorem dX11_enough_40 : decode cX11_enough 40 = .ok (.istore_n 2, 1) := by decide +kernel
theorem dX11_enough_41 : decode cX11_enough 41 = .ok (.iload_n 2, 1) := by decide +kernel
theorem dX11_enough_42 : decode cX11_enough 42 = .ok (.iload_n 1, 1) := by decide +kernel
theorem dX11_enough_43 : decode cX11_enough 43 = .ok (.if_icmp .ge 31, 3) := by decide +kernel
theorem dX11_enough_46 : decode cX11_enough 46 = .ok (.aload_n 0, 1) := by decide +kernel
theorem dX11_enough_47 : decode cX11_enough 47 = .ok (.getfield 55, 3) := by decide +kernel
theorem dX11_enough_50 : decode cX11_enough 50 = .ok (.iload_n 2, 1) := by decide +kernel
theorem dX11_enough_51 : decode cX11_enough 51 = .ok (.iaload, 1) := by decide +kernel
theorem dX11_enough_52 : decode cX11_enough 52 = .ok (.iconst 0, 1) := by decide +kernel
theorem dX11_enough_53 : decode cX11_enough 53 = .ok (.ldc 221, 2) := by decide +kernel
theorem dX11_enough_55 : decode cX11_enough 55 = .ok (.invokestatic 98, 3) := by decide +kernel
theorem dX11_enough_58 : decode cX11_enough 58 = .ok (.ifCond .ne 10, 3) := by decide +kernel
theorem dX11_enough_61 : decode cX11_enough 61 = .ok (.aload_n 0, 1) := by decide +kernel
theorem dX11_enough_62 : decode cX11_enough 62 = .ok (.bipush (-13), 2) := by decide +kernel
theorem dX11_enough_64 : decode cX11_enough 64 = .ok (.invokevirtual 118, 3) := by decide +kernel
theorem dX11_enough_67 : decode cX11_enough 67 = .ok (.ireturn, 1) := by decide +kernel
theorem dX11_enough_68 : decode cX11_enough 68 = .ok (.iinc 2 1, 3) := by decide +kernel
theorem dX11_enough_71 : decode cX11_enough 71 = .ok (.goto (-30), 3) := by decide +kernel
theorem dX11_enough_74 : decode cX11_enough 74 = .ok (.iconst 0, 1) := by decide +kernel
theorem dX11_enough_75 : decode cX11_enough 75 = .ok (.istore_n 2, 1) := by decide +kernel
theorem dX11_enough_76 : decode cX11_enough 76 = .ok (.iload_n 2, 1) := by decide +kernel
theorem dX11_enough_77 : decode cX11_enough 77 = .ok (.aload_n 0, 1) := by decide +kernel
theorem dX11_enough_78 : decode cX11_enough 78 = .ok (.getfield 95, 3) := by decide +kernel
theorem dX11_enough_81 : decode cX11_enough 81 = .ok (.if_icmp .ge 83, 3) := by decide +kernel
theorem dX11_enough_84 : decode cX11_enough 84 = .ok (.aload_n 0, 1) := by decide +kernel
theorem dX11_enough_85 : decode cX11_enough 85 = .ok (.getfield 16, 3) := by decide +kernel
theorem dX11_enough_88 : decode cX11_enough 88 = .ok (.iload_n 2, 1) := by decide +kernel
theorem dX11_enough_89 : decode cX11_enough 89 = .ok (.laload, 1) := by decide +kernel
theorem dX11_enough_90 : decode cX11_enough 90 = .ok (.aload_n 0, 1) := by decide +kernel
theorem dX11_enough_91 : decode cX11_enough 91 = .ok (.getfield 55, 3) := by decide +kernel
theorem dX11_enough_94 : decode cX11_enough 94 = .ok (.iload_n 2, 1) := by decide +kernel
theorem dX11_enough_95 : decode cX11_enough 95 = .ok (.iaload, 1) := by decide +kernel
theorem dX11_enough_96 : decode cX11_enough 96 = .ok (.i2l, 1) := by decide +kernel
theorem dX11_enough_97 : decode cX11_enough 97 = .ok (.aload_n 0, 1) := by decide +kernel
theorem dX11_enough_98 : decode cX11_enough 98 = .ok (.iload_n 2, 1) := by decide +kernel
theorem dX11_enough_99 : decode cX11_enough 99 = .ok (.invokevirtual 106, 3) := by decide +kernel
theorem dX11_enough_102 : decode cX11_enough 102 = .ok (.i2l, 1) := by decide +kernel
theorem dX11_enough_103 : decode cX11_enough 103 = .ok (.lmul, 1) := by decide +kernel
theorem dX11_enough_104 : decode cX11_enough 104 = .ok (.lsub, 1) := by decide +kernel
theorem dX11_enough_105 : decode cX11_enough 105 = .ok (.lstore_n 3, 1) := by decide +kernel
theorem dX11_enough_106 : decode cX11_enough 106 = .ok (.iconst 0, 1) := by decide +kernel
theorem dX11_enough_107 : decode cX11_enough 107 = .ok (.istore 5, 2) := by decide +kernel
theorem dX11_enough_109 : decode cX11_enough 109 = .ok (.iload 5, 2) := by decide +kernel
theorem dX11_enough_111 : decode cX11_enough 111 = .ok (.aload_n 0, 1) := by decide +kernel
theorem dX11_enough_112 : decode cX11_enough 112 = .ok (.getfield 95, 3) := by decide +kernel
theorem dX11_enough_115 : decode cX11_enough 115 = .ok (.if_icmp .ge 29, 3) := by decide +kernel
theorem dX11_enough_118 : decode cX11_enough 118 = .ok (.lload_n 3, 1) := by decide +kernel
theorem dX11_enough_119 : decode cX11_enough 119 = .ok (.aload_n 0, 1) := by decide +kernel
theorem dX11_enough_120 : decode cX11_enough 120 = .ok (.getfield 55, 3) := by decide +kernel
theorem dX11_enough_123 : decode cX11_enough 123 = .ok (.iload 5, 2) := by decide +kernel
theorem dX11_enough_125 : decode cX11_enough 125 = .ok (.iaload, 1) := by decide +kernel
theorem dX11_enough_126 : decode cX11_enough 126 = .ok (.i2l, 1) := by decide +kernel
theorem dX11_enough_127 : decode cX11_enough 127 = .ok (.aload_n 0, 1) := by decide +kernel
theorem dX11_enough_128 : decode cX11_enough 128 = .ok (.iload 5, 2) := by decide +kernel
theorem dX11_enough_130 : decode cX11_enough 130 = .ok (.iload_n 2, 1) := by decide +kernel
theorem dX11_enough_131 : decode cX11_enough 131 = .ok (.invokevirtual 102, 3) := by decide +kernel
theorem dX11_enough_134 : decode cX11_enough 134 = .ok (.i2l, 1) := by decide +kernel
theorem dX11_enough_135 : decode cX11_enough 135 = .ok (.lmul, 1) := by decide +kernel
theorem dX11_enough_136 : decode cX11_enough 136 = .ok (.ladd, 1) := by decide +kernel
theorem dX11_enough_137 : decode cX11_enough 137 = .ok (.lstore_n 3, 1) := by decide +kernel
theorem dX11_enough_138 : decode cX11_enough 138 = .ok (.iinc 5 1, 3) := by decide +kernel
theorem dX11_enough_141 : decode cX11_enough 141 = .ok (.goto (-32), 3) := by decide +kernel
theorem dX11_enough_144 : decode cX11_enough 144 = .ok (.lload_n 3, 1) := by decide +kernel
theorem dX11_enough_145 : decode cX11_enough 145 = .ok (.aload_n 0, 1) := by decide +kernel
theorem dX11_enough_146 : decode cX11_enough 146 = .ok (.iload_n 2, 1) := by decide +kernel
theorem dX11_enough_147 : decode cX11_enough 147 = .ok (.invokevirtual 106, 3) := by decide +kernel
theorem dX11_enough_150 : decode cX11_enough 150 = .ok (.invokestatic 110, 3) := by decide +kernel
theorem dX11_enough_153 : decode cX11_enough 153 = .ok (.ifCond .eq 5, 3) := by decide +kernel
theorem dX11_enough_156 : decode cX11_enough 156 = .ok (.iconst 0, 1) := by decide +kernel
theorem dX11_enough_157 : decode cX11_enough 157 = .ok (.ireturn, 1) := by decide +kernel
theorem dX11_enough_158 : decode cX11_enough 158 = .ok (.iinc 2 1, 3) := by decide +kernel
theorem dX11_enough_161 : decode cX11_enough 161 = .ok (.goto (-85), 3) := by decide +kernel
theorem dX11_enough_164 : decode cX11_enough 164 = .ok (.iconst 1, 1) := by decide +kernel
theorem dX11_enough_165 : decode cX11_enough 165 = .ok (.ireturn, 1) := by decide +kernel
theorem dX11_check_0 : decode cX11_check 0 = .ok (.aload_n 0, 1) := by decide +kernel
theorem dX11_check_1 : decode cX11_check 1 = .ok (.getfield 169, 3) := by decide +kernel
theorem dX11_check_4 : decode cX11_check 4 = .ok (.istore_n 1, 1) := by decide +kernel
theorem dX11_check_5 : decode cX11_check 5 = .ok (.aload_n 0, 1) := by decide +kernel
theorem dX11_check_6 : decode cX11_check 6 = .ok (.iconst 0, 1) := by decide +kernel
theorem dX11_check_7 : decode cX11_check 7 = .ok (.putfield 169, 3) := by decide +kernel
theorem dX11_check_10 : decode cX11_check 10 = .ok (.aload_n 0, 1) := by decide +kernel
theorem dX11_check_11 : decode cX11_check 11 = .ok (.getfield 114, 3) := by decide +kernel
theorem dX11_check_14 : decode cX11_check 14 = .ok (.ifCond .ne 10, 3) := by decide +kernel
theorem dX11_check_17 : decode cX11_check 17 = .ok (.aload_n 0, 1) := by decide +kernel
theorem dX11_check_18 : decode cX11_check 18 = .ok (.bipush (-8), 2) := by decide +kernel
theorem dX11_check_20 : decode cX11_check 20 = .ok (.invokevirtual 118, 3) := by decide +kernel
theorem dX11_check_23 : decode cX11_check 23 = .ok (.ireturn, 1) := by decide +kernel
theorem dX11_check_24 : decode cX11_check 24 = .ok (.iconst 0, 1) := by decide +kernel
theorem dX11_check_25 : decode cX11_check 25 = .ok (.istore_n 2, 1) := by decide +kernel
theorem dX11_check_26 : decode cX11_check 26 = .ok (.iload_n 2, 1) := by decide +kernel
theorem dX11_check_27 : decode cX11_check 27 = .ok (.bipush 15, 2) := by decide +kernel
theorem dX11_check_29 : decode cX11_check 29 = .ok (.if_icmp .ge 21, 3) := by decide +kernel
theorem dX11_check_32 : decode cX11_check 32 = .ok (.aload_n 0, 1) := by decide +kernel
theorem dX11_check_33 : decode cX11_check 33 = .ok (.getfield 76, 3) := by decide +kernel
theorem dX11_check_36 : decode cX11_check 36 = .ok (.iload_n 2, 1) := by decide +kernel
theorem dX11_check_37 : decode cX11_check 37 = .ok (.aload_n 0, 1) := by decide +kernel
theorem dX11_check_38 : decode cX11_check 38 = .ok (.getfield 16, 3) := by decide +kernel
theorem dX11_check_41 : decode cX11_check 41 = .ok (.iload_n 2, 1) := by decide +kernel
theorem dX11_check_42 : decode cX11_check 42 = .ok (.laload, 1) := by decide +kernel
theorem dX11_check_43 : decode cX11_check 43 = .ok (.lastore, 1) := by decide +kernel
theorem dX11_check_44 : decode cX11_check 44 = .ok (.iinc 2 1, 3) := by decide +kernel
theorem dX11_check_47 : decode cX11_check 47 = .ok (.goto (-21), 3) := by decide +kernel
theorem dX11_check_50 : decode cX11_check 50 = .ok (.iconst 0, 1) := by decide +kernel
theorem dX11_check_51 : decode cX11_check 51 = .ok (.istore_n 2, 1) := by decide +kernel
theorem dX11_check_52 : decode cX11_check 52 = .ok (.iconst 2, 1) := by decide +kernel
theorem dX11_check_53 : decode cX11_check 53 = .ok (.iload_n 2, 1) := by decide +kernel
theorem dX11_check_54 : decode cX11_check 54 = .ok (.imul, 1) := by decide +kernel
theorem dX11_check_55 : decode cX11_check 55 = .ok (.iload_n 1, 1) := by decide +kernel
theorem dX11_check_56 : decode cX11_check 56 = .ok (.if_icmp .ge 111, 3) := by decide +kernel
theorem dX11_check_59 : decode cX11_check 59 = .ok (.iconst 2, 1) := by decide +kernel
theorem dX11_check_60 : decode cX11_check 60 = .ok (.iload_n 2, 1) := by decide +kernel
theorem dX11_check_61 : decode cX11_check 61 = .ok (.imul, 1) := by decide +kernel
theorem dX11_check_62 : decode cX11_check 62 = .ok (.iconst 1, 1) := by decide +kernel
theorem dX11_check_63 : decode cX11_check 63 = .ok (.iadd, 1) := by decide +kernel
theorem dX11_check_64 : decode cX11_check 64 = .ok (.iload_n 1, 1) := by decide +kernel
theorem dX11_check_65 : decode cX11_check 65 = .ok (.if_icmp .ne 7, 3) := by decide +kernel
theorem dX11_check_68 : decode cX11_check 68 = .ok (.iload_n 2, 1) := by decide +kernel
theorem dX11_check_69 : decode cX11_check 69 = .ok (.iconst 1, 1) := by decide +kernel
theorem dX11_check_70 : decode cX11_check 70 = .ok (.iadd, 1) := by decide +kernel
theorem dX11_check_71 : decode cX11_check 71 = .ok (.ireturn, 1) := by decide +kernel
theorem dX11_check_72 : decode cX11_check 72 = .ok (.aload_n 0, 1) := by decide +kernel
theorem dX11_check_73 : decode cX11_check 73 = .ok (.getfield 55, 3) := by decide +kernel
theorem dX11_check_76 : decode cX11_check 76 = .ok (.iconst 2, 1) := by decide +kernel
theorem dX11_check_77 : decode cX11_check 77 = .ok (.iload_n 2, 1) := by decide +kernel
theorem dX11_check_78 : decode cX11_check 78 = .ok (.imul, 1) := by decide +kernel
theorem dX11_check_79 : decode cX11_check 79 = .ok (.iaload, 1) := by decide +kernel
theorem dX11_check_80 : decode cX11_check 80 = .ok (.istore_n 3, 1) := by decide +kernel
theorem dX11_check_81 : decode cX11_check 81 = .ok (.aload_n 0, 1) := by decide +kernel
theorem dX11_check_82 : decode cX11_check 82 = .ok (.iload_n 3, 1) := by decide +kernel
theorem dX11_check_83 : decode cX11_check 83 = .ok (.invokevirtual 121, 3) := by decide +kernel
theorem dX11_check_86 : decode cX11_check 86 = .ok (.ifCond .eq 41, 3) := by decide +kernel
theorem dX11_check_89 : decode cX11_check 89 = .ok (.aload_n 0, 1) := by decide +kernel
theorem dX11_check_90 : decode cX11_check 90 = .ok (.getfield 76, 3) := by decide +kernel
theorem dX11_check_93 : decode cX11_check 93 = .ok (.iload_n 3, 1) := by decide +kernel
theorem dX11_check_94 : decode cX11_check 94 = .ok (.laload, 1) := by decide +kernel
theorem dX11_check_95 : decode cX11_check 95 = .ok (.aload_n 0, 1) := by decide +kernel
theorem dX11_check_96 : decode cX11_check 96 = .ok (.iload_n 3, 1) := by decide +kernel
theorem dX11_check_97 : decode cX11_check 97 = .ok (.invokevirtual 106, 3) := by decide +kernel
theorem dX11_check_100 : decode cX11_check 100 = .ok (.invokestatic 110, 3) := by decide +kernel
theorem dX11_check_103 : decode cX11_check 103 = .ok (.ifCond .eq 24, 3) := by decide +kernel
theorem dX11_check_106 : decode cX11_check 106 = .ok (.aload_n 0, 1) := by decide +kernel
theorem dX11_check_107 : decode cX11_check 107 = .ok (.getfield 76, 3) := by decide +kernel
theorem dX11_check_110 : decode cX11_check 110 = .ok (.iload_n 3, 1) := by decide +kernel
theorem dX11_check_111 : decode cX11_check 111 = .ok (.laload, 1) := by decide +kernel
theorem dX11_check_112 : decode cX11_check 112 = .ok (.aload_n 0, 1) := by decide +kernel
theorem dX11_check_113 : decode cX11_check 113 = .ok (.getfield 55, 3) := by decide +kernel
theorem dX11_check_116 : decode cX11_check 116 = .ok (.iconst 2, 1) := by decide +kernel
theorem dX11_check_117 : decode cX11_check 117 = .ok (.iload_n 2, 1) := by decide +kernel
theorem dX11_check_118 : decode cX11_check 118 = .ok (.imul, 1) := by decide +kernel
theorem dX11_check_119 : decode cX11_check 119 = .ok (.iconst 1, 1) := by decide +kernel
theorem dX11_check_120 : decode cX11_check 120 = .ok (.iadd, 1) := by decide +kernel
theorem dX11_check_121 : decode cX11_check 121 = .ok (.iaload, 1) := by decide +kernel
theorem dX11_check_122 : decode cX11_check 122 = .ok (.i2l, 1) := by decide +kernel
theorem dX11_check_123 : decode cX11_check 123 = .ok (.lcmp, 1) := by decide +kernel
theorem dX11_check_124 : decode cX11_check 124 = .ok (.ifCond .eq 7, 3) := by decide +kernel
theorem dX11_check_127 : decode cX11_check 127 = .ok (.iload_n 2, 1) := by decide +kernel
theorem dX11_check_128 : decode cX11_check 128 = .ok (.iconst 1, 1) := by decide +kernel
theorem dX11_check_129 : decode cX11_check 129 = .ok (.iadd, 1) := by decide +kernel
theorem dX11_check_130 : decode cX11_check 130 = .ok (.ireturn, 1) := by decide +kernel
theorem dX11_check_131 : decode cX11_check 131 = .ok (.aload_n 0, 1) := by decide +kernel
theorem dX11_check_132 : decode cX11_check 132 = .ok (.aload_n 0, 1) := by decide +kernel
theorem dX11_check_133 : decode cX11_check 133 = .ok (.getfield 76, 3) := by decide +kernel
theorem dX11_check_136 : decode cX11_check 136 = .ok (.iload_n 3, 1) := by decide +kernel
theorem dX11_check_137 : decode cX11_check 137 = .ok (.invokevirtual 162, 3) := by decide +kernel
theorem dX11_check_140 : decode cX11_check 140 = .ok (.ifCond .eq 10, 3) := by decide +kernel
theorem dX11_check_143 : decode cX11_check 143 = .ok (.aload_n 0, 1) := by decide +kernel
theorem dX11_check_144 : decode cX11_check 144 = .ok (.bipush (-5), 2) := by decide +kernel
theorem dX11_check_146 : decode cX11_check 146 = .ok (.invokevirtual 118, 3) := by decide +kernel
theorem dX11_check_149 : decode cX11_check 149 = .ok (.ireturn, 1) := by decide +kernel
theorem dX11_check_150 : decode cX11_check 150 = .ok (.aload_n 0, 1) := by decide +kernel
theorem dX11_check_151 : decode cX11_check 151 = .ok (.aload_n 0, 1) := by decide +kernel
theorem dX11_check_152 : decode cX11_check 152 = .ok (.getfield 76, 3) := by decide +kernel
theorem dX11_check_155 : decode cX11_check 155 = .ok (.iload_n 3, 1) := by decide +kernel
theorem dX11_check_156 : decode cX11_check 156 = .ok (.invokevirtual 166, 3) := by decide +kernel
theorem dX11_check_159 : decode cX11_check 159 = .ok (.lstore 4, 2) := by decide +kernel
theorem dX11_check_161 : decode cX11_check 161 = .ok (.iinc 2 1, 3) := by decide +kernel
theorem dX11_check_164 : decode cX11_check 164 = .ok (.goto (-112), 3) := by decide +kernel
theorem dX11_check_167 : decode cX11_check 167 = .ok (.iconst 0, 1) := by decide +kernel
theorem dX11_check_168 : decode cX11_check 168 = .ok (.istore_n 2, 1) := by decide +kernel
theorem dX11_check_169 : decode cX11_check 169 = .ok (.iload_n 2, 1) := by decide +kernel
theorem dX11_check_170 : decode cX11_check 170 = .ok (.aload_n 0, 1) := by decide +kernel
theorem dX11_check_171 : decode cX11_check 171 = .ok (.getfield 95, 3) := by decide +kernel
theorem dX11_check_174 : decode cX11_check 174 = .ok (.if_icmp .ge 30, 3) := by decide +kernel
theorem dX11_check_177 : decode cX11_check 177 = .ok (.aload_n 0, 1) := by decide +kernel
theorem dX11_check_178 : decode cX11_check 178 = .ok (.getfield 76, 3) := by decide +kernel
theorem dX11_check_181 : decode cX11_check 181 = .ok (.iload_n 2, 1) := by decide +kernel
theorem dX11_check_182 : decode cX11_check 182 = .ok (.laload, 1) := by decide +kernel
theorem dX11_check_183 : decode cX11_check 183 = .ok (.aload_n 0, 1) := by decide +kernel
theorem dX11_check_184 : decode cX11_check 184 = .ok (.iload_n 2, 1) := by decide +kernel
theorem dX11_check_185 : decode cX11_check 185 = .ok (.invokevirtual 106, 3) := by decide +kernel
theorem dX11_check_188 : decode cX11_check 188 = .ok (.invokestatic 110, 3) := by decide +kernel
theorem dX11_check_191 : decode cX11_check 191 = .ok (.ifCond .eq 7, 3) := by decide +kernel
theorem dX11_check_194 : decode cX11_check 194 = .ok (.sipush 1000, 3) := by decide +kernel
theorem dX11_check_197 : decode cX11_check 197 = .ok (.ireturn, 1) := by decide +kernel
theorem dX11_check_198 : decode cX11_check 198 = .ok (.iinc 2 1, 3) := by decide +kernel
theorem dX11_check_201 : decode cX11_check 201 = .ok (.goto (-32), 3) := by decide +kernel
theorem dX11_check_204 : decode cX11_check 204 = .ok (.iconst 0, 1) := by decide +kernel
theorem dX11_check_205 : decode cX11_check 205 = .ok (.ireturn, 1) := by decide +kernel
theorem dX11_told_0 : decode cX11_told 0 = .ok (.iload_n 1, 1) := by decide +kernel
theorem dX11_told_1 : decode cX11_told 1 = .ok (.tableswitch 148 0 8 #[51, 56, 61, 74, 94, 127, 132, 138, 143], 51) := by decide +kernel
theorem dX11_told_52 : decode cX11_told 52 = .ok (.aload_n 0, 1) := by decide +kernel
theorem dX11_told_53 : decode cX11_told 53 = .ok (.getfield 125, 3) := by decide +kernel
theorem dX11_told_56 : decode cX11_told 56 = .ok (.ireturn, 1) := by decide +kernel
theorem dX11_told_57 : decode cX11_told 57 = .ok (.aload_n 0, 1) := by decide +kernel
theorem dX11_told_58 : decode cX11_told 58 = .ok (.getfield 95, 3) := by decide +kernel
theorem dX11_told_61 : decode cX11_told 61 = .ok (.ireturn, 1) := by decide +kernel
theorem dX11_told_62 : decode cX11_told 62 = .ok (.aload_n 0, 1) := by decide +kernel
theorem dX11_told_63 : decode cX11_told 63 = .ok (.getfield 114, 3) := by decide +kernel
theorem dX11_told_66 : decode cX11_told 66 = .ok (.ifCond .eq 7, 3) := by decide +kernel
theorem dX11_told_69 : decode cX11_told 69 = .ok (.iconst 1, 1) := by decide +kernel
theorem dX11_told_70 : decode cX11_told 70 = .ok (.goto 4, 3) := by decide +kernel
theorem dX11_told_73 : decode cX11_told 73 = .ok (.iconst 0, 1) := by decide +kernel
theorem dX11_told_74 : decode cX11_told 74 = .ok (.ireturn, 1) := by decide +kernel
theorem dX11_told_75 : decode cX11_told 75 = .ok (.aload_n 0, 1) := by decide +kernel
theorem dX11_told_76 : decode cX11_told 76 = .ok (.getfield 114, 3) := by decide +kernel
theorem dX11_told_79 : decode cX11_told 79 = .ok (.ifCond .eq 14, 3) := by decide +kernel
theorem dX11_told_82 : decode cX11_told 82 = .ok (.aload_n 0, 1) := by decide +kernel
theorem dX11_told_83 : decode cX11_told 83 = .ok (.invokevirtual 151, 3) := by decide +kernel
theorem dX11_told_86 : decode cX11_told 86 = .ok (.ifCond .ne 7, 3) := by decide +kernel
theorem dX11_told_89 : decode cX11_told 89 = .ok (.iconst 1, 1) := by decide +kernel
theorem dX11_told_90 : decode cX11_told 90 = .ok (.goto 4, 3) := by decide +kernel
theorem dX11_told_93 : decode cX11_told 93 = .ok (.iconst 0, 1) := by decide +kernel
theorem dX11_told_94 : decode cX11_told 94 = .ok (.ireturn, 1) := by decide +kernel
theorem dX11_told_95 : decode cX11_told 95 = .ok (.lconst 0, 1) := by decide +kernel
theorem dX11_told_96 : decode cX11_told 96 = .ok (.lstore_n 2, 1) := by decide +kernel
theorem dX11_told_97 : decode cX11_told 97 = .ok (.iconst 0, 1) := by decide +kernel
theorem dX11_told_98 : decode cX11_told 98 = .ok (.istore 4, 2) := by decide +kernel
theorem dX11_told_100 : decode cX11_told 100 = .ok (.iload 4, 2) := by decide +kernel
theorem dX11_told_102 : decode cX11_told 102 = .ok (.aload_n 0, 1) := by decide +kernel
theorem dX11_told_103 : decode cX11_told 103 = .ok (.getfield 95, 3) := by decide +kernel
theorem dX11_told_106 : decode cX11_told 106 = .ok (.if_icmp .ge 19, 3) := by decide +kernel
theorem dX11_told_109 : decode cX11_told 109 = .ok (.lload_n 2, 1) := by decide +kernel
theorem dX11_told_110 : decode cX11_told 110 = .ok (.aload_n 0, 1) := by decide +kernel
theorem dX11_told_111 : decode cX11_told 111 = .ok (.getfield 16, 3) := by decide +kernel
theorem dX11_told_114 : decode cX11_told 114 = .ok (.iload 4, 2) := by decide +kernel
theorem dX11_told_116 : decode cX11_told 116 = .ok (.laload, 1) := by decide +kernel
theorem dX11_told_117 : decode cX11_told 117 = .ok (.ladd, 1) := by decide +kernel
theorem dX11_told_118 : decode cX11_told 118 = .ok (.lstore_n 2, 1) := by decide +kernel
theorem dX11_told_119 : decode cX11_told 119 = .ok (.iinc 4 1, 3) := by decide +kernel
theorem dX11_told_122 : decode cX11_told 122 = .ok (.goto (-22), 3) := by decide +kernel
theorem dX11_told_125 : decode cX11_told 125 = .ok (.lload_n 2, 1) := by decide +kernel
theorem dX11_told_126 : decode cX11_told 126 = .ok (.l2i, 1) := by decide +kernel
theorem dX11_told_127 : decode cX11_told 127 = .ok (.ireturn, 1) := by decide +kernel
theorem dX11_told_128 : decode cX11_told 128 = .ok (.aload_n 0, 1) := by decide +kernel
theorem dX11_told_129 : decode cX11_told 129 = .ok (.getfield 169, 3) := by decide +kernel
theorem dX11_told_132 : decode cX11_told 132 = .ok (.ireturn, 1) := by decide +kernel
theorem dX11_told_133 : decode cX11_told 133 = .ok (.aload_n 0, 1) := by decide +kernel
theorem dX11_told_134 : decode cX11_told 134 = .ok (.getfield 23, 3) := by decide +kernel
theorem dX11_told_137 : decode cX11_told 137 = .ok (.l2i, 1) := by decide +kernel
theorem dX11_told_138 : decode cX11_told 138 = .ok (.ireturn, 1) := by decide +kernel
theorem dX11_told_139 : decode cX11_told 139 = .ok (.aload_n 0, 1) := by decide +kernel
theorem dX11_told_140 : decode cX11_told 140 = .ok (.getfield 140, 3) := by decide +kernel
theorem dX11_told_143 : decode cX11_told 143 = .ok (.ireturn, 1) := by decide +kernel
theorem dX11_told_144 : decode cX11_told 144 = .ok (.aload_n 0, 1) := by decide +kernel
theorem dX11_told_145 : decode cX11_told 145 = .ok (.getfield 91, 3) := by decide +kernel
theorem dX11_told_148 : decode cX11_told 148 = .ok (.ireturn, 1) := by decide +kernel
theorem dX11_told_149 : decode cX11_told 149 = .ok (.aload_n 0, 1) := by decide +kernel
theorem dX11_told_150 : decode cX11_told 150 = .ok (.iconst (-1), 1) := by decide +kernel
theorem dX11_told_151 : decode cX11_told 151 = .ok (.invokevirtual 118, 3) := by decide +kernel
theorem dX11_told_154 : decode cX11_told 154 = .ok (.ireturn, 1) := by decide +kernel
theorem dL_law_0 : decode cL_law 0 = .ok (.new 7, 3) := by decide +kernel
theorem dL_law_3 : decode cL_law 3 = .ok (.dup, 1) := by decide +kernel
theorem dL_law_4 : decode cL_law 4 = .ok (.invokespecial 9, 3) := by decide +kernel
theorem dL_law_7 : decode cL_law 7 = .ok (.astore_n 1, 1) := by decide +kernel
theorem dL_law_8 : decode cL_law 8 = .ok (.new 10, 3) := by decide +kernel
theorem dL_law_11 : decode cL_law 11 = .ok (.dup, 1) := by decide +kernel
theorem dL_law_12 : decode cL_law 12 = .ok (.invokespecial 12, 3) := by decide +kernel
theorem dL_law_15 : decode cL_law 15 = .ok (.astore_n 2, 1) := by decide +kernel
theorem dL_law_16 : decode cL_law 16 = .ok (.iconst 0, 1) := by decide +kernel
theorem dL_law_17 : decode cL_law 17 = .ok (.istore_n 3, 1) := by decide +kernel
theorem dL_law_18 : decode cL_law 18 = .ok (.iload_n 3, 1) := by decide +kernel
theorem dL_law_19 : decode cL_law 19 = .ok (.aload_n 0, 1) := by decide +kernel
theorem dL_law_20 : decode cL_law 20 = .ok (.arraylength, 1) := by decide +kernel
theorem dL_law_21 : decode cL_law 21 = .ok (.bipush 6, 2) := by decide +kernel
theorem dL_law_23 : decode cL_law 23 = .ok (.isub, 1) := by decide +kernel
theorem dL_law_24 : decode cL_law 24 = .ok (.if_icmp .gt 1091, 3) := by decide +kernel
theorem dL_law_27 : decode cL_law 27 = .ok (.aload_n 0, 1) := by decide +kernel
theorem dL_law_28 : decode cL_law 28 = .ok (.iload_n 3, 1) := by decide +kernel
theorem dL_law_29 : decode cL_law 29 = .ok (.iaload, 1) := by decide +kernel
theorem dL_law_30 : decode cL_law 30 = .ok (.bipush 63, 2) := by decide +kernel
theorem dL_law_32 : decode cL_law 32 = .ok (.iand, 1) := by decide +kernel
theorem dL_law_33 : decode cL_law 33 = .ok (.tableswitch 1076 0 33 #[151, 174, 217, 230, 243, 276, 309, 342, 366, 379, 402, 435, 458, 482, 495, 508, 521, 544, 567, 590, 633, 656, 689, 712, 725, 758, 801, 875, 938, 991, 1014, 1027, 1040, 1053], 151) := by decide +kernel
theorem dL_law_184 : decode cL_law 184 = .ok (.aload_n 1, 1) := by decide +kernel
theorem dL_law_185 : decode cL_law 185 = .ok (.aload_n 0, 1) := by decide +kernel
theorem dL_law_186 : decode cL_law 186 = .ok (.iload_n 3, 1) := by decide +kernel
theorem dL_law_187 : decode cL_law 187 = .ok (.iconst 1, 1) := by decide +kernel
theorem dL_law_188 : decode cL_law 188 = .ok (.iadd, 1) := by decide +kernel
theorem dL_law_189 : decode cL_law 189 = .ok (.iaload, 1) := by decide +kernel
theorem dL_law_190 : decode cL_law 190 = .ok (.invokevirtual 13, 3) := by decide +kernel
theorem dL_law_193 : decode cL_law 193 = .ok (.aload_n 2, 1) := by decide +kernel
theorem dL_law_194 : decode cL_law 194 = .ok (.aload_n 0, 1) := by decide +kernel
theorem dL_law_195 : decode cL_law 195 = .ok (.iload_n 3, 1) := by decide +kernel
theorem dL_law_196 : decode cL_law 196 = .ok (.iconst 1, 1) := by decide +kernel
theorem dL_law_197 : decode cL_law 197 = .ok (.iadd, 1) := by decide +kernel
theorem dL_law_198 : decode cL_law 198 = .ok (.iaload, 1) := by decide +kernel
theorem dL_law_199 : decode cL_law 199 = .ok (.invokevirtual 17, 3) := by decide +kernel
theorem dL_law_202 : decode cL_law 202 = .ok (.if_icmp .eq 907, 3) := by decide +kernel
theorem dL_law_205 : decode cL_law 205 = .ok (.iconst 0, 1) := by decide +kernel
theorem dL_law_206 : decode cL_law 206 = .ok (.ireturn, 1) := by decide +kernel
theorem dL_law_207 : decode cL_law 207 = .ok (.aload_n 1, 1) := by decide +kernel
theorem dL_law_208 : decode cL_law 208 = .ok (.aload_n 0, 1) := by decide +kernel
theorem dL_law_209 : decode cL_law 209 = .ok (.iload_n 3, 1) := by decide +kernel
theorem dL_law_210 : decode cL_law 210 = .ok (.iconst 1, 1) := by decide +kernel
theorem dL_law_211 : decode cL_law 211 = .ok (.iadd, 1) := by decide +kernel
theorem dL_law_212 : decode cL_law 212 = .ok (.iaload, 1) := by decide +kernel
theorem dL_law_213 : decode cL_law 213 = .ok (.aload_n 0, 1) := by decide +kernel
theorem dL_law_214 : decode cL_law 214 = .ok (.iload_n 3, 1) := by decide +kernel
theorem dL_law_215 : decode cL_law 215 = .ok (.iconst 2, 1) := by decide +kernel
theorem dL_law_216 : decode cL_law 216 = .ok (.iadd, 1) := by decide +kernel
theorem dL_law_217 : decode cL_law 217 = .ok (.iaload, 1) := by decide +kernel
theorem dL_law_218 : decode cL_law 218 = .ok (.aload_n 0, 1) := by decide +kernel
theorem dL_law_219 : decode cL_law 219 = .ok (.iload_n 3, 1) := by decide +kernel
theorem dL_law_220 : decode cL_law 220 = .ok (.iconst 3, 1) := by decide +kernel
theorem dL_law_221 : decode cL_law 221 = .ok (.iadd, 1) := by decide +kernel
theorem dL_law_222 : decode cL_law 222 = .ok (.iaload, 1) := by decide +kernel
theorem dL_law_223 : decode cL_law 223 = .ok (.invokevirtual 18, 3) := by decide +kernel
theorem dL_law_226 : decode cL_law 226 = .ok (.aload_n 2, 1) := by decide +kernel
theorem dL_law_227 : decode cL_law 227 = .ok (.aload_n 0, 1) := by decide +kernel
theorem dL_law_228 : decode cL_law 228 = .ok (.iload_n 3, 1) := by decide +kernel
theorem dL_law_229 : decode cL_law 229 = .ok (.iconst 1, 1) := by decide +kernel
theorem dL_law_230 : decode cL_law 230 = .ok (.iadd, 1) := by decide +kernel
theorem dL_law_231 : decode cL_law 231 = .ok (.iaload, 1) := by decide +kernel
theorem dL_law_232 : decode cL_law 232 = .ok (.aload_n 0, 1) := by decide +kernel
theorem dL_law_233 : decode cL_law 233 = .ok (.iload_n 3, 1) := by decide +kernel
theorem dL_law_234 : decode cL_law 234 = .ok (.iconst 2, 1) := by decide +kernel
theorem dL_law_235 : decode cL_law 235 = .ok (.iadd, 1) := by decide +kernel
theorem dL_law_236 : decode cL_law 236 = .ok (.iaload, 1) := by decide +kernel
theorem dL_law_237 : decode cL_law 237 = .ok (.aload_n 0, 1) := by decide +kernel
theorem dL_law_238 : decode cL_law 238 = .ok (.iload_n 3, 1) := by decide +kernel
theorem dL_law_239 : decode cL_law 239 = .ok (.iconst 3, 1) := by decide +kernel
theorem dL_law_240 : decode cL_law 240 = .ok (.iadd, 1) := by decide +kernel
theorem dL_law_241 : decode cL_law 241 = .ok (.iaload, 1) := by decide +kernel
theorem dL_law_242 : decode cL_law 242 = .ok (.invokevirtual 22, 3) := by decide +kernel
theorem dL_law_245 : decode cL_law 245 = .ok (.if_icmp .eq 864, 3) := by decide +kernel
theorem dL_law_248 : decode cL_law 248 = .ok (.iconst 0, 1) := by decide +kernel
theorem dL_law_249 : decode cL_law 249 = .ok (.ireturn, 1) := by decide +kernel
theorem dL_law_250 : decode cL_law 250 = .ok (.aload_n 1, 1) := by decide +kernel
theorem dL_law_251 : decode cL_law 251 = .ok (.invokevirtual 23, 3) := by decide +kernel
theorem dL_law_254 : decode cL_law 254 = .ok (.aload_n 2, 1) := by decide +kernel
theorem dL_law_255 : decode cL_law 255 = .ok (.invokevirtual 27, 3) := by decide +kernel
theorem dL_law_258 : decode cL_law 258 = .ok (.if_icmp .eq 851, 3) := by decide +kernel
theorem dL_law_261 : decode cL_law 261 = .ok (.iconst 0, 1) := by decide +kernel
theorem dL_law_262 : decode cL_law 262 = .ok (.ireturn, 1) := by decide +kernel
theorem dL_law_263 : decode cL_law 263 = .ok (.aload_n 1, 1) := by decide +kernel
theorem dL_law_264 : decode cL_law 264 = .ok (.invokevirtual 28, 3) := by decide +kernel
theorem dL_law_267 : decode cL_law 267 = .ok (.aload_n 2, 1) := by decide +kernel
theorem dL_law_268 : decode cL_law 268 = .ok (.invokevirtual 31, 3) := by decide +kernel
theorem dL_law_271 : decode cL_law 271 = .ok (.if_icmp .eq 838, 3) := by decide +kernel
theorem dL_law_274 : decode cL_law 274 = .ok (.iconst 0, 1) := by decide +kernel
theorem dL_law_275 : decode cL_law 275 = .ok (.ireturn, 1) := by decide +kernel
theorem dL_law_276 : decode cL_law 276 = .ok (.aload_n 1, 1) := by decide +kernel
theorem dL_law_277 : decode cL_law 277 = .ok (.aload_n 0, 1) := by decide +kernel
theorem dL_law_278 : decode cL_law 278 = .ok (.iload_n 3, 1) := by decide +kernel
theorem dL_law_279 : decode cL_law 279 = .ok (.iconst 1, 1) := by decide +kernel
theorem dL_law_280 : decode cL_law 280 = .ok (.iadd, 1) := by decide +kernel
theorem dL_law_281 : decode cL_law 281 = .ok (.iaload, 1) := by decide +kernel
theorem dL_law_282 : decode cL_law 282 = .ok (.aload_n 0, 1) := by decide +kernel
theorem dL_law_283 : decode cL_law 283 = .ok (.iload_n 3, 1) := by decide +kernel
theorem dL_law_284 : decode cL_law 284 = .ok (.iconst 2, 1) := by decide +kernel
theorem dL_law_285 : decode cL_law 285 = .ok (.iadd, 1) := by decide +kernel
theorem dL_law_286 : decode cL_law 286 = .ok (.iaload, 1) := by decide +kernel
theorem dL_law_287 : decode cL_law 287 = .ok (.invokevirtual 32, 3) := by decide +kernel
theorem dL_law_290 : decode cL_law 290 = .ok (.aload_n 2, 1) := by decide +kernel
theorem dL_law_291 : decode cL_law 291 = .ok (.aload_n 0, 1) := by decide +kernel
theorem dL_law_292 : decode cL_law 292 = .ok (.iload_n 3, 1) := by decide +kernel
theorem dL_law_293 : decode cL_law 293 = .ok (.iconst 1, 1) := by decide +kernel
theorem dL_law_294 : decode cL_law 294 = .ok (.iadd, 1) := by decide +kernel
theorem dL_law_295 : decode cL_law 295 = .ok (.iaload, 1) := by decide +kernel
theorem dL_law_296 : decode cL_law 296 = .ok (.aload_n 0, 1) := by decide +kernel
theorem dL_law_297 : decode cL_law 297 = .ok (.iload_n 3, 1) := by decide +kernel
theorem dL_law_298 : decode cL_law 298 = .ok (.iconst 2, 1) := by decide +kernel
theorem dL_law_299 : decode cL_law 299 = .ok (.iadd, 1) := by decide +kernel
theorem dL_law_300 : decode cL_law 300 = .ok (.iaload, 1) := by decide +kernel
theorem dL_law_301 : decode cL_law 301 = .ok (.invokevirtual 36, 3) := by decide +kernel
theorem dL_law_304 : decode cL_law 304 = .ok (.if_icmp .eq 805, 3) := by decide +kernel
theorem dL_law_307 : decode cL_law 307 = .ok (.iconst 0, 1) := by decide +kernel
theorem dL_law_308 : decode cL_law 308 = .ok (.ireturn, 1) := by decide +kernel
theorem dL_law_309 : decode cL_law 309 = .ok (.aload_n 1, 1) := by decide +kernel
theorem dL_law_310 : decode cL_law 310 = .ok (.aload_n 0, 1) := by decide +kernel
theorem dL_law_311 : decode cL_law 311 = .ok (.iload_n 3, 1) := by decide +kernel
theorem dL_law_312 : decode cL_law 312 = .ok (.iconst 1, 1) := by decide +kernel
theorem dL_law_313 : decode cL_law 313 = .ok (.iadd, 1) := by decide +kernel
theorem dL_law_314 : decode cL_law 314 = .ok (.iaload, 1) := by decide +kernel
theorem dL_law_315 : decode cL_law 315 = .ok (.aload_n 0, 1) := by decide +kernel
theorem dL_law_316 : decode cL_law 316 = .ok (.iload_n 3, 1) := by decide +kernel
theorem dL_law_317 : decode cL_law 317 = .ok (.iconst 2, 1) := by decide +kernel
theorem dL_law_318 : decode cL_law 318 = .ok (.iadd, 1) := by decide +kernel
theorem dL_law_319 : decode cL_law 319 = .ok (.iaload, 1) := by decide +kernel
theorem dL_law_320 : decode cL_law 320 = .ok (.invokevirtual 37, 3) := by decide +kernel
theorem dL_law_323 : decode cL_law 323 = .ok (.aload_n 2, 1) := by decide +kernel
theorem dL_law_324 : decode cL_law 324 = .ok (.aload_n 0, 1) := by decide +kernel
theorem dL_law_325 : decode cL_law 325 = .ok (.iload_n 3, 1) := by decide +kernel
theorem dL_law_326 : decode cL_law 326 = .ok (.iconst 1, 1) := by decide +kernel
theorem dL_law_327 : decode cL_law 327 = .ok (.iadd, 1) := by decide +kernel
theorem dL_law_328 : decode cL_law 328 = .ok (.iaload, 1) := by decide +kernel
theorem dL_law_329 : decode cL_law 329 = .ok (.aload_n 0, 1) := by decide +kernel
theorem dL_law_330 : decode cL_law 330 = .ok (.iload_n 3, 1) := by decide +kernel
theorem dL_law_331 : decode cL_law 331 = .ok (.iconst 2, 1) := by decide +kernel
theorem dL_law_332 : decode cL_law 332 = .ok (.iadd, 1) := by decide +kernel
theorem dL_law_333 : decode cL_law 333 = .ok (.iaload, 1) := by decide +kernel
theorem dL_law_334 : decode cL_law 334 = .ok (.invokevirtual 40, 3) := by decide +kernel
theorem dL_law_337 : decode cL_law 337 = .ok (.if_icmp .eq 772, 3) := by decide +kernel
theorem dL_law_340 : decode cL_law 340 = .ok (.iconst 0, 1) := by decide +kernel
theorem dL_law_341 : decode cL_law 341 = .ok (.ireturn, 1) := by decide +kernel
theorem dL_law_342 : decode cL_law 342 = .ok (.aload_n 1, 1) := by decide +kernel
theorem dL_law_343 : decode cL_law 343 = .ok (.aload_n 0, 1) := by decide +kernel
theorem dL_law_344 : decode cL_law 344 = .ok (.iload_n 3, 1) := by decide +kernel
theorem dL_law_345 : decode cL_law 345 = .ok (.iconst 1, 1) := by decide +kernel
theorem dL_law_346 : decode cL_law 346 = .ok (.iadd, 1) := by decide +kernel
theorem dL_law_347 : decode cL_law 347 = .ok (.iaload, 1) := by decide +kernel
theorem dL_law_348 : decode cL_law 348 = .ok (.aload_n 0, 1) := by decide +kernel
theorem dL_law_349 : decode cL_law 349 = .ok (.iload_n 3, 1) := by decide +kernel
theorem dL_law_350 : decode cL_law 350 = .ok (.iconst 2, 1) := by decide +kernel
theorem dL_law_351 : decode cL_law 351 = .ok (.iadd, 1) := by decide +kernel
theorem dL_law_352 : decode cL_law 352 = .ok (.iaload, 1) := by decide +kernel
theorem dL_law_353 : decode cL_law 353 = .ok (.invokevirtual 41, 3) := by decide +kernel
theorem dL_law_356 : decode cL_law 356 = .ok (.aload_n 2, 1) := by decide +kernel
theorem dL_law_357 : decode cL_law 357 = .ok (.aload_n 0, 1) := by decide +kernel
theorem dL_law_358 : decode cL_law 358 = .ok (.iload_n 3, 1) := by decide +kernel
theorem dL_law_359 : decode cL_law 359 = .ok (.iconst 1, 1) := by decide +kernel
theorem dL_law_360 : decode cL_law 360 = .ok (.iadd, 1) := by decide +kernel
theorem dL_law_361 : decode cL_law 361 = .ok (.iaload, 1) := by decide +kernel
theorem dL_law_362 : decode cL_law 362 = .ok (.aload_n 0, 1) := by decide +kernel
theorem dL_law_363 : decode cL_law 363 = .ok (.iload_n 3, 1) := by decide +kernel
theorem dL_law_364 : decode cL_law 364 = .ok (.iconst 2, 1) := by decide +kernel
theorem dL_law_365 : decode cL_law 365 = .ok (.iadd, 1) := by decide +kernel
theorem dL_law_366 : decode cL_law 366 = .ok (.iaload, 1) := by decide +kernel
theorem dL_law_367 : decode cL_law 367 = .ok (.invokevirtual 44, 3) := by decide +kernel
theorem dL_law_370 : decode cL_law 370 = .ok (.if_icmp .eq 739, 3) := by decide +kernel
theorem dL_law_373 : decode cL_law 373 = .ok (.iconst 0, 1) := by decide +kernel
theorem dL_law_374 : decode cL_law 374 = .ok (.ireturn, 1) := by decide +kernel
theorem dL_law_375 : decode cL_law 375 = .ok (.aload_n 1, 1) := by decide +kernel
theorem dL_law_376 : decode cL_law 376 = .ok (.aload_n 0, 1) := by decide +kernel
theorem dL_law_377 : decode cL_law 377 = .ok (.iload_n 3, 1) := by decide +kernel
theorem dL_law_378 : decode cL_law 378 = .ok (.iconst 1, 1) := by decide +kernel
theorem dL_law_379 : decode cL_law 379 = .ok (.iadd, 1) := by decide +kernel
theorem dL_law_380 : decode cL_law 380 = .ok (.iaload, 1) := by decide +kernel
theorem dL_law_381 : decode cL_law 381 = .ok (.invokevirtual 45, 3) := by decide +kernel
theorem dL_law_384 : decode cL_law 384 = .ok (.aload_n 2, 1) := by decide +kernel
theorem dL_law_385 : decode cL_law 385 = .ok (.aload_n 0, 1) := by decide +kernel
theorem dL_law_386 : decode cL_law 386 = .ok (.iload_n 3, 1) := by decide +kernel
theorem dL_law_387 : decode cL_law 387 = .ok (.iconst 1, 1) := by decide +kernel
theorem dL_law_388 : decode cL_law 388 = .ok (.iadd, 1) := by decide +kernel
theorem dL_law_389 : decode cL_law 389 = .ok (.iaload, 1) := by decide +kernel
theorem dL_law_390 : decode cL_law 390 = .ok (.invokevirtual 49, 3) := by decide +kernel
theorem dL_law_393 : decode cL_law 393 = .ok (.lcmp, 1) := by decide +kernel
theorem dL_law_394 : decode cL_law 394 = .ok (.ifCond .eq 715, 3) := by decide +kernel
theorem dL_law_397 : decode cL_law 397 = .ok (.iconst 0, 1) := by decide +kernel
theorem dL_law_398 : decode cL_law 398 = .ok (.ireturn, 1) := by decide +kernel
theorem dL_law_399 : decode cL_law 399 = .ok (.aload_n 1, 1) := by decide +kernel
theorem dL_law_400 : decode cL_law 400 = .ok (.invokevirtual 50, 3) := by decide +kernel
theorem dL_law_403 : decode cL_law 403 = .ok (.aload_n 2, 1) := by decide +kernel
theorem dL_law_404 : decode cL_law 404 = .ok (.invokevirtual 53, 3) := by decide +kernel
theorem dL_law_407 : decode cL_law 407 = .ok (.if_icmp .eq 702, 3) := by decide +kernel
theorem dL_law_410 : decode cL_law 410 = .ok (.iconst 0, 1) := by decide +kernel
theorem dL_law_411 : decode cL_law 411 = .ok (.ireturn, 1) := by decide +kernel
theorem dL_law_412 : decode cL_law 412 = .ok (.aload_n 1, 1) := by decide +kernel
theorem dL_law_413 : decode cL_law 413 = .ok (.aload_n 0, 1) := by decide +kernel
theorem dL_law_414 : decode cL_law 414 = .ok (.iload_n 3, 1) := by decide +kernel
theorem dL_law_415 : decode cL_law 415 = .ok (.iconst 1, 1) := by decide +kernel
theorem dL_law_416 : decode cL_law 416 = .ok (.iadd, 1) := by decide +kernel
theorem dL_law_417 : decode cL_law 417 = .ok (.iaload, 1) := by decide +kernel
theorem dL_law_418 : decode cL_law 418 = .ok (.invokevirtual 54, 3) := by decide +kernel
theorem dL_law_421 : decode cL_law 421 = .ok (.aload_n 2, 1) := by decide +kernel
theorem dL_law_422 : decode cL_law 422 = .ok (.aload_n 0, 1) := by decide +kernel
theorem dL_law_423 : decode cL_law 423 = .ok (.iload_n 3, 1) := by decide +kernel
theorem dL_law_424 : decode cL_law 424 = .ok (.iconst 1, 1) := by decide +kernel
theorem dL_law_425 : decode cL_law 425 = .ok (.iadd, 1) := by decide +kernel
theorem dL_law_426 : decode cL_law 426 = .ok (.iaload, 1) := by decide +kernel
theorem dL_law_427 : decode cL_law 427 = .ok (.invokevirtual 57, 3) := by decide +kernel
theorem dL_law_430 : decode cL_law 430 = .ok (.if_icmp .eq 679, 3) := by decide +kernel
theorem dL_law_433 : decode cL_law 433 = .ok (.iconst 0, 1) := by decide +kernel
theorem dL_law_434 : decode cL_law 434 = .ok (.ireturn, 1) := by decide +kernel
theorem dL_law_435 : decode cL_law 435 = .ok (.aload_n 1, 1) := by decide +kernel
theorem dL_law_436 : decode cL_law 436 = .ok (.aload_n 0, 1) := by decide +kernel
theorem dL_law_437 : decode cL_law 437 = .ok (.iload_n 3, 1) := by decide +kernel
theorem dL_law_438 : decode cL_law 438 = .ok (.iconst 1, 1) := by decide +kernel
theorem dL_law_439 : decode cL_law 439 = .ok (.iadd, 1) := by decide +kernel
theorem dL_law_440 : decode cL_law 440 = .ok (.iaload, 1) := by decide +kernel
theorem dL_law_441 : decode cL_law 441 = .ok (.aload_n 0, 1) := by decide +kernel
theorem dL_law_442 : decode cL_law 442 = .ok (.iload_n 3, 1) := by decide +kernel
theorem dL_law_443 : decode cL_law 443 = .ok (.iconst 2, 1) := by decide +kernel
theorem dL_law_444 : decode cL_law 444 = .ok (.iadd, 1) := by decide +kernel
theorem dL_law_445 : decode cL_law 445 = .ok (.iaload, 1) := by decide +kernel
theorem dL_law_446 : decode cL_law 446 = .ok (.invokevirtual 58, 3) := by decide +kernel
theorem dL_law_449 : decode cL_law 449 = .ok (.aload_n 2, 1) := by decide +kernel
theorem dL_law_450 : decode cL_law 450 = .ok (.aload_n 0, 1) := by decide +kernel
theorem dL_law_451 : decode cL_law 451 = .ok (.iload_n 3, 1) := by decide +kernel
theorem dL_law_452 : decode cL_law 452 = .ok (.iconst 1, 1) := by decide +kernel
theorem dL_law_453 : decode cL_law 453 = .ok (.iadd, 1) := by decide +kernel
theorem dL_law_454 : decode cL_law 454 = .ok (.iaload, 1) := by decide +kernel
theorem dL_law_455 : decode cL_law 455 = .ok (.aload_n 0, 1) := by decide +kernel
theorem dL_law_456 : decode cL_law 456 = .ok (.iload_n 3, 1) := by decide +kernel
theorem dL_law_457 : decode cL_law 457 = .ok (.iconst 2, 1) := by decide +kernel
theorem dL_law_458 : decode cL_law 458 = .ok (.iadd, 1) := by decide +kernel
theorem dL_law_459 : decode cL_law 459 = .ok (.iaload, 1) := by decide +kernel
theorem dL_law_460 : decode cL_law 460 = .ok (.invokevirtual 61, 3) := by decide +kernel
theorem dL_law_463 : decode cL_law 463 = .ok (.if_icmp .eq 646, 3) := by decide +kernel
theorem dL_law_466 : decode cL_law 466 = .ok (.iconst 0, 1) := by decide +kernel
theorem dL_law_467 : decode cL_law 467 = .ok (.ireturn, 1) := by decide +kernel
theorem dL_law_468 : decode cL_law 468 = .ok (.aload_n 1, 1) := by decide +kernel
theorem dL_law_469 : decode cL_law 469 = .ok (.aload_n 0, 1) := by decide +kernel
theorem dL_law_470 : decode cL_law 470 = .ok (.iload_n 3, 1) := by decide +kernel
theorem dL_law_471 : decode cL_law 471 = .ok (.iconst 1, 1) := by decide +kernel
theorem dL_law_472 : decode cL_law 472 = .ok (.iadd, 1) := by decide +kernel
theorem dL_law_473 : decode cL_law 473 = .ok (.iaload, 1) := by decide +kernel
theorem dL_law_474 : decode cL_law 474 = .ok (.invokevirtual 62, 3) := by decide +kernel
theorem dL_law_477 : decode cL_law 477 = .ok (.aload_n 2, 1) := by decide +kernel
theorem dL_law_478 : decode cL_law 478 = .ok (.aload_n 0, 1) := by decide +kernel
theorem dL_law_479 : decode cL_law 479 = .ok (.iload_n 3, 1) := by decide +kernel
theorem dL_law_480 : decode cL_law 480 = .ok (.iconst 1, 1) := by decide +kernel
theorem dL_law_481 : decode cL_law 481 = .ok (.iadd, 1) := by decide +kernel
theorem dL_law_482 : decode cL_law 482 = .ok (.iaload, 1) := by decide +kernel
theorem dL_law_483 : decode cL_law 483 = .ok (.invokevirtual 65, 3) := by decide +kernel
theorem dL_law_486 : decode cL_law 486 = .ok (.if_icmp .eq 623, 3) := by decide +kernel
theorem dL_law_489 : decode cL_law 489 = .ok (.iconst 0, 1) := by decide +kernel
theorem dL_law_490 : decode cL_law 490 = .ok (.ireturn, 1) := by decide +kernel
theorem dL_law_491 : decode cL_law 491 = .ok (.aload_n 1, 1) := by decide +kernel
theorem dL_law_492 : decode cL_law 492 = .ok (.aload_n 0, 1) := by decide +kernel
theorem dL_law_493 : decode cL_law 493 = .ok (.iload_n 3, 1) := by decide +kernel
theorem dL_law_494 : decode cL_law 494 = .ok (.iconst 1, 1) := by decide +kernel
theorem dL_law_495 : decode cL_law 495 = .ok (.iadd, 1) := by decide +kernel
theorem dL_law_496 : decode cL_law 496 = .ok (.iaload, 1) := by decide +kernel
theorem dL_law_497 : decode cL_law 497 = .ok (.invokevirtual 66, 3) := by decide +kernel
theorem dL_law_500 : decode cL_law 500 = .ok (.aload_n 2, 1) := by decide +kernel
theorem dL_law_501 : decode cL_law 501 = .ok (.aload_n 0, 1) := by decide +kernel
theorem dL_law_502 : decode cL_law 502 = .ok (.iload_n 3, 1) := by decide +kernel
theorem dL_law_503 : decode cL_law 503 = .ok (.iconst 1, 1) := by decide +kernel
theorem dL_law_504 : decode cL_law 504 = .ok (.iadd, 1) := by decide +kernel
theorem dL_law_505 : decode cL_law 505 = .ok (.iaload, 1) := by decide +kernel
theorem dL_law_506 : decode cL_law 506 = .ok (.invokevirtual 69, 3) := by decide +kernel
theorem dL_law_509 : decode cL_law 509 = .ok (.lcmp, 1) := by decide +kernel
theorem dL_law_510 : decode cL_law 510 = .ok (.ifCond .eq 599, 3) := by decide +kernel
theorem dL_law_513 : decode cL_law 513 = .ok (.iconst 0, 1) := by decide +kernel
theorem dL_law_514 : decode cL_law 514 = .ok (.ireturn, 1) := by decide +kernel
theorem dL_law_515 : decode cL_law 515 = .ok (.aload_n 1, 1) := by decide +kernel
theorem dL_law_516 : decode cL_law 516 = .ok (.invokevirtual 70, 3) := by decide +kernel
theorem dL_law_519 : decode cL_law 519 = .ok (.aload_n 2, 1) := by decide +kernel
theorem dL_law_520 : decode cL_law 520 = .ok (.invokevirtual 73, 3) := by decide +kernel
theorem dL_law_523 : decode cL_law 523 = .ok (.if_icmp .eq 586, 3) := by decide +kernel
theorem dL_law_526 : decode cL_law 526 = .ok (.iconst 0, 1) := by decide +kernel
theorem dL_law_527 : decode cL_law 527 = .ok (.ireturn, 1) := by decide +kernel
theorem dL_law_528 : decode cL_law 528 = .ok (.aload_n 1, 1) := by decide +kernel
theorem dL_law_529 : decode cL_law 529 = .ok (.invokevirtual 74, 3) := by decide +kernel
theorem dL_law_532 : decode cL_law 532 = .ok (.aload_n 2, 1) := by decide +kernel
theorem dL_law_533 : decode cL_law 533 = .ok (.invokevirtual 77, 3) := by decide +kernel
theorem dL_law_536 : decode cL_law 536 = .ok (.if_icmp .eq 573, 3) := by decide +kernel
theorem dL_law_539 : decode cL_law 539 = .ok (.iconst 0, 1) := by decide +kernel
theorem dL_law_540 : decode cL_law 540 = .ok (.ireturn, 1) := by decide +kernel
theorem dL_law_541 : decode cL_law 541 = .ok (.aload_n 1, 1) := by decide +kernel
theorem dL_law_542 : decode cL_law 542 = .ok (.invokevirtual 78, 3) := by decide +kernel
theorem dL_law_545 : decode cL_law 545 = .ok (.aload_n 2, 1) := by decide +kernel
theorem dL_law_546 : decode cL_law 546 = .ok (.invokevirtual 81, 3) := by decide +kernel
theorem dL_law_549 : decode cL_law 549 = .ok (.if_icmp .eq 560, 3) := by decide +kernel
theorem dL_law_552 : decode cL_law 552 = .ok (.iconst 0, 1) := by decide +kernel
theorem dL_law_553 : decode cL_law 553 = .ok (.ireturn, 1) := by decide +kernel
theorem dL_law_554 : decode cL_law 554 = .ok (.aload_n 1, 1) := by decide +kernel
theorem dL_law_555 : decode cL_law 555 = .ok (.aload_n 0, 1) := by decide +kernel
theorem dL_law_556 : decode cL_law 556 = .ok (.iload_n 3, 1) := by decide +kernel
theorem dL_law_557 : decode cL_law 557 = .ok (.iconst 1, 1) := by decide +kernel
theorem dL_law_558 : decode cL_law 558 = .ok (.iadd, 1) := by decide +kernel
theorem dL_law_559 : decode cL_law 559 = .ok (.iaload, 1) := by decide +kernel
theorem dL_law_560 : decode cL_law 560 = .ok (.invokevirtual 82, 3) := by decide +kernel
theorem dL_law_563 : decode cL_law 563 = .ok (.aload_n 2, 1) := by decide +kernel
theorem dL_law_564 : decode cL_law 564 = .ok (.aload_n 0, 1) := by decide +kernel
theorem dL_law_565 : decode cL_law 565 = .ok (.iload_n 3, 1) := by decide +kernel
theorem dL_law_566 : decode cL_law 566 = .ok (.iconst 1, 1) := by decide +kernel
theorem dL_law_567 : decode cL_law 567 = .ok (.iadd, 1) := by decide +kernel
theorem dL_law_568 : decode cL_law 568 = .ok (.iaload, 1) := by decide +kernel
theorem dL_law_569 : decode cL_law 569 = .ok (.invokevirtual 85, 3) := by decide +kernel
theorem dL_law_572 : decode cL_law 572 = .ok (.if_icmp .eq 537, 3) := by decide +kernel
theorem dL_law_575 : decode cL_law 575 = .ok (.iconst 0, 1) := by decide +kernel
theorem dL_law_576 : decode cL_law 576 = .ok (.ireturn, 1) := by decide +kernel
theorem dL_law_577 : decode cL_law 577 = .ok (.aload_n 1, 1) := by decide +kernel
theorem dL_law_578 : decode cL_law 578 = .ok (.aload_n 0, 1) := by decide +kernel
theorem dL_law_579 : decode cL_law 579 = .ok (.iload_n 3, 1) := by decide +kernel
theorem dL_law_580 : decode cL_law 580 = .ok (.iconst 1, 1) := by decide +kernel
theorem dL_law_581 : decode cL_law 581 = .ok (.iadd, 1) := by decide +kernel
theorem dL_law_582 : decode cL_law 582 = .ok (.iaload, 1) := by decide +kernel
theorem dL_law_583 : decode cL_law 583 = .ok (.invokevirtual 86, 3) := by decide +kernel
theorem dL_law_586 : decode cL_law 586 = .ok (.aload_n 2, 1) := by decide +kernel
theorem dL_law_587 : decode cL_law 587 = .ok (.aload_n 0, 1) := by decide +kernel
theorem dL_law_588 : decode cL_law 588 = .ok (.iload_n 3, 1) := by decide +kernel
theorem dL_law_589 : decode cL_law 589 = .ok (.iconst 1, 1) := by decide +kernel
theorem dL_law_590 : decode cL_law 590 = .ok (.iadd, 1) := by decide +kernel
theorem dL_law_591 : decode cL_law 591 = .ok (.iaload, 1) := by decide +kernel
theorem dL_law_592 : decode cL_law 592 = .ok (.invokevirtual 89, 3) := by decide +kernel
theorem dL_law_595 : decode cL_law 595 = .ok (.if_icmp .eq 514, 3) := by decide +kernel
theorem dL_law_598 : decode cL_law 598 = .ok (.iconst 0, 1) := by decide +kernel
theorem dL_law_599 : decode cL_law 599 = .ok (.ireturn, 1) := by decide +kernel
theorem dL_law_600 : decode cL_law 600 = .ok (.aload_n 1, 1) := by decide +kernel
theorem dL_law_601 : decode cL_law 601 = .ok (.aload_n 0, 1) := by decide +kernel
theorem dL_law_602 : decode cL_law 602 = .ok (.iload_n 3, 1) := by decide +kernel
theorem dL_law_603 : decode cL_law 603 = .ok (.iconst 1, 1) := by decide +kernel
theorem dL_law_604 : decode cL_law 604 = .ok (.iadd, 1) := by decide +kernel
theorem dL_law_605 : decode cL_law 605 = .ok (.iaload, 1) := by decide +kernel
theorem dL_law_606 : decode cL_law 606 = .ok (.invokevirtual 90, 3) := by decide +kernel
theorem dL_law_609 : decode cL_law 609 = .ok (.aload_n 2, 1) := by decide +kernel
theorem dL_law_610 : decode cL_law 610 = .ok (.aload_n 0, 1) := by decide +kernel
theorem dL_law_611 : decode cL_law 611 = .ok (.iload_n 3, 1) := by decide +kernel
theorem dL_law_612 : decode cL_law 612 = .ok (.iconst 1, 1) := by decide +kernel
theorem dL_law_613 : decode cL_law 613 = .ok (.iadd, 1) := by decide +kernel
theorem dL_law_614 : decode cL_law 614 = .ok (.iaload, 1) := by decide +kernel
theorem dL_law_615 : decode cL_law 615 = .ok (.invokevirtual 93, 3) := by decide +kernel
theorem dL_law_618 : decode cL_law 618 = .ok (.if_icmp .eq 491, 3) := by decide +kernel
theorem dL_law_621 : decode cL_law 621 = .ok (.iconst 0, 1) := by decide +kernel
theorem dL_law_622 : decode cL_law 622 = .ok (.ireturn, 1) := by decide +kernel
theorem dL_law_623 : decode cL_law 623 = .ok (.aload_n 1, 1) := by decide +kernel
theorem dL_law_624 : decode cL_law 624 = .ok (.aload_n 0, 1) := by decide +kernel
theorem dL_law_625 : decode cL_law 625 = .ok (.iload_n 3, 1) := by decide +kernel
theorem dL_law_626 : decode cL_law 626 = .ok (.iconst 1, 1) := by decide +kernel
theorem dL_law_627 : decode cL_law 627 = .ok (.iadd, 1) := by decide +kernel
theorem dL_law_628 : decode cL_law 628 = .ok (.iaload, 1) := by decide +kernel
theorem dL_law_629 : decode cL_law 629 = .ok (.aload_n 0, 1) := by decide +kernel
theorem dL_law_630 : decode cL_law 630 = .ok (.iload_n 3, 1) := by decide +kernel
theorem dL_law_631 : decode cL_law 631 = .ok (.iconst 2, 1) := by decide +kernel
theorem dL_law_632 : decode cL_law 632 = .ok (.iadd, 1) := by decide +kernel
theorem dL_law_633 : decode cL_law 633 = .ok (.iaload, 1) := by decide +kernel
theorem dL_law_634 : decode cL_law 634 = .ok (.aload_n 0, 1) := by decide +kernel
theorem dL_law_635 : decode cL_law 635 = .ok (.iload_n 3, 1) := by decide +kernel
theorem dL_law_636 : decode cL_law 636 = .ok (.iconst 3, 1) := by decide +kernel
theorem dL_law_637 : decode cL_law 637 = .ok (.iadd, 1) := by decide +kernel
theorem dL_law_638 : decode cL_law 638 = .ok (.iaload, 1) := by decide +kernel
theorem dL_law_639 : decode cL_law 639 = .ok (.invokevirtual 94, 3) := by decide +kernel
theorem dL_law_642 : decode cL_law 642 = .ok (.aload_n 2, 1) := by decide +kernel
theorem dL_law_643 : decode cL_law 643 = .ok (.aload_n 0, 1) := by decide +kernel
theorem dL_law_644 : decode cL_law 644 = .ok (.iload_n 3, 1) := by decide +kernel
theorem dL_law_645 : decode cL_law 645 = .ok (.iconst 1, 1) := by decide +kernel
theorem dL_law_646 : decode cL_law 646 = .ok (.iadd, 1) := by decide +kernel
theorem dL_law_647 : decode cL_law 647 = .ok (.iaload, 1) := by decide +kernel
theorem dL_law_648 : decode cL_law 648 = .ok (.aload_n 0, 1) := by decide +kernel
theorem dL_law_649 : decode cL_law 649 = .ok (.iload_n 3, 1) := by decide +kernel
theorem dL_law_650 : decode cL_law 650 = .ok (.iconst 2, 1) := by decide +kernel
theorem dL_law_651 : decode cL_law 651 = .ok (.iadd, 1) := by decide +kernel
theorem dL_law_652 : decode cL_law 652 = .ok (.iaload, 1) := by decide +kernel
theorem dL_law_653 : decode cL_law 653 = .ok (.aload_n 0, 1) := by decide +kernel
theorem dL_law_654 : decode cL_law 654 = .ok (.iload_n 3, 1) := by decide +kernel
theorem dL_law_655 : decode cL_law 655 = .ok (.iconst 3, 1) := by decide +kernel
theorem dL_law_656 : decode cL_law 656 = .ok (.iadd, 1) := by decide +kernel
theorem dL_law_657 : decode cL_law 657 = .ok (.iaload, 1) := by decide +kernel
theorem dL_law_658 : decode cL_law 658 = .ok (.invokevirtual 97, 3) := by decide +kernel
theorem dL_law_661 : decode cL_law 661 = .ok (.if_icmp .eq 448, 3) := by decide +kernel
theorem dL_law_664 : decode cL_law 664 = .ok (.iconst 0, 1) := by decide +kernel
theorem dL_law_665 : decode cL_law 665 = .ok (.ireturn, 1) := by decide +kernel
theorem dL_law_666 : decode cL_law 666 = .ok (.aload_n 1, 1) := by decide +kernel
theorem dL_law_667 : decode cL_law 667 = .ok (.aload_n 0, 1) := by decide +kernel
theorem dL_law_668 : decode cL_law 668 = .ok (.iload_n 3, 1) := by decide +kernel
theorem dL_law_669 : decode cL_law 669 = .ok (.iconst 1, 1) := by decide +kernel
theorem dL_law_670 : decode cL_law 670 = .ok (.iadd, 1) := by decide +kernel
theorem dL_law_671 : decode cL_law 671 = .ok (.iaload, 1) := by decide +kernel
theorem dL_law_672 : decode cL_law 672 = .ok (.invokevirtual 98, 3) := by decide +kernel
theorem dL_law_675 : decode cL_law 675 = .ok (.aload_n 2, 1) := by decide +kernel
theorem dL_law_676 : decode cL_law 676 = .ok (.aload_n 0, 1) := by decide +kernel
theorem dL_law_677 : decode cL_law 677 = .ok (.iload_n 3, 1) := by decide +kernel
theorem dL_law_678 : decode cL_law 678 = .ok (.iconst 1, 1) := by decide +kernel
theorem dL_law_679 : decode cL_law 679 = .ok (.iadd, 1) := by decide +kernel
theorem dL_law_680 : decode cL_law 680 = .ok (.iaload, 1) := by decide +kernel
theorem dL_law_681 : decode cL_law 681 = .ok (.invokevirtual 101, 3) := by decide +kernel
theorem dL_law_684 : decode cL_law 684 = .ok (.if_icmp .eq 425, 3) := by decide +kernel
theorem dL_law_687 : decode cL_law 687 = .ok (.iconst 0, 1) := by decide +kernel
theorem dL_law_688 : decode cL_law 688 = .ok (.ireturn, 1) := by decide +kernel
theorem dL_law_689 : decode cL_law 689 = .ok (.aload_n 1, 1) := by decide +kernel
theorem dL_law_690 : decode cL_law 690 = .ok (.aload_n 0, 1) := by decide +kernel
theorem dL_law_691 : decode cL_law 691 = .ok (.iload_n 3, 1) := by decide +kernel
theorem dL_law_692 : decode cL_law 692 = .ok (.iconst 1, 1) := by decide +kernel
theorem dL_law_693 : decode cL_law 693 = .ok (.iadd, 1) := by decide +kernel
theorem dL_law_694 : decode cL_law 694 = .ok (.iaload, 1) := by decide +kernel
theorem dL_law_695 : decode cL_law 695 = .ok (.aload_n 0, 1) := by decide +kernel
theorem dL_law_696 : decode cL_law 696 = .ok (.iload_n 3, 1) := by decide +kernel
theorem dL_law_697 : decode cL_law 697 = .ok (.iconst 2, 1) := by decide +kernel
theorem dL_law_698 : decode cL_law 698 = .ok (.iadd, 1) := by decide +kernel
theorem dL_law_699 : decode cL_law 699 = .ok (.iaload, 1) := by decide +kernel
theorem dL_law_700 : decode cL_law 700 = .ok (.invokevirtual 102, 3) := by decide +kernel
theorem dL_law_703 : decode cL_law 703 = .ok (.aload_n 2, 1) := by decide +kernel
theorem dL_law_704 : decode cL_law 704 = .ok (.aload_n 0, 1) := by decide +kernel
theorem dL_law_705 : decode cL_law 705 = .ok (.iload_n 3, 1) := by decide +kernel
theorem dL_law_706 : decode cL_law 706 = .ok (.iconst 1, 1) := by decide +kernel
theorem dL_law_707 : decode cL_law 707 = .ok (.iadd, 1) := by decide +kernel
theorem dL_law_708 : decode cL_law 708 = .ok (.iaload, 1) := by decide +kernel
theorem dL_law_709 : decode cL_law 709 = .ok (.aload_n 0, 1) := by decide +kernel
theorem dL_law_710 : decode cL_law 710 = .ok (.iload_n 3, 1) := by decide +kernel
theorem dL_law_711 : decode cL_law 711 = .ok (.iconst 2, 1) := by decide +kernel
theorem dL_law_712 : decode cL_law 712 = .ok (.iadd, 1) := by decide +kernel
theorem dL_law_713 : decode cL_law 713 = .ok (.iaload, 1) := by decide +kernel
theorem dL_law_714 : decode cL_law 714 = .ok (.invokevirtual 105, 3) := by decide +kernel
theorem dL_law_717 : decode cL_law 717 = .ok (.if_icmp .eq 392, 3) := by decide +kernel
theorem dL_law_720 : decode cL_law 720 = .ok (.iconst 0, 1) := by decide +kernel
theorem dL_law_721 : decode cL_law 721 = .ok (.ireturn, 1) := by decide +kernel
theorem dL_law_722 : decode cL_law 722 = .ok (.aload_n 1, 1) := by decide +kernel
theorem dL_law_723 : decode cL_law 723 = .ok (.aload_n 0, 1) := by decide +kernel
theorem dL_law_724 : decode cL_law 724 = .ok (.iload_n 3, 1) := by decide +kernel
theorem dL_law_725 : decode cL_law 725 = .ok (.iconst 1, 1) := by decide +kernel
theorem dL_law_726 : decode cL_law 726 = .ok (.iadd, 1) := by decide +kernel
theorem dL_law_727 : decode cL_law 727 = .ok (.iaload, 1) := by decide +kernel
theorem dL_law_728 : decode cL_law 728 = .ok (.invokevirtual 106, 3) := by decide +kernel
theorem dL_law_731 : decode cL_law 731 = .ok (.aload_n 2, 1) := by decide +kernel
theorem dL_law_732 : decode cL_law 732 = .ok (.aload_n 0, 1) := by decide +kernel
theorem dL_law_733 : decode cL_law 733 = .ok (.iload_n 3, 1) := by decide +kernel
theorem dL_law_734 : decode cL_law 734 = .ok (.iconst 1, 1) := by decide +kernel
theorem dL_law_735 : decode cL_law 735 = .ok (.iadd, 1) := by decide +kernel
theorem dL_law_736 : decode cL_law 736 = .ok (.iaload, 1) := by decide +kernel
theorem dL_law_737 : decode cL_law 737 = .ok (.invokevirtual 109, 3) := by decide +kernel
theorem dL_law_740 : decode cL_law 740 = .ok (.if_icmp .eq 369, 3) := by decide +kernel
theorem dL_law_743 : decode cL_law 743 = .ok (.iconst 0, 1) := by decide +kernel
theorem dL_law_744 : decode cL_law 744 = .ok (.ireturn, 1) := by decide +kernel
theorem dL_law_745 : decode cL_law 745 = .ok (.aload_n 1, 1) := by decide +kernel
theorem dL_law_746 : decode cL_law 746 = .ok (.invokevirtual 110, 3) := by decide +kernel
theorem dL_law_749 : decode cL_law 749 = .ok (.aload_n 2, 1) := by decide +kernel
theorem dL_law_750 : decode cL_law 750 = .ok (.invokevirtual 113, 3) := by decide +kernel
theorem dL_law_753 : decode cL_law 753 = .ok (.if_icmp .eq 356, 3) := by decide +kernel
theorem dL_law_756 : decode cL_law 756 = .ok (.iconst 0, 1) := by decide +kernel
theorem dL_law_757 : decode cL_law 757 = .ok (.ireturn, 1) := by decide +kernel
theorem dL_law_758 : decode cL_law 758 = .ok (.aload_n 1, 1) := by decide +kernel
theorem dL_law_759 : decode cL_law 759 = .ok (.aload_n 0, 1) := by decide +kernel
theorem dL_law_760 : decode cL_law 760 = .ok (.iload_n 3, 1) := by decide +kernel
theorem dL_law_761 : decode cL_law 761 = .ok (.iconst 1, 1) := by decide +kernel
theorem dL_law_762 : decode cL_law 762 = .ok (.iadd, 1) := by decide +kernel
theorem dL_law_763 : decode cL_law 763 = .ok (.iaload, 1) := by decide +kernel
theorem dL_law_764 : decode cL_law 764 = .ok (.aload_n 0, 1) := by decide +kernel
theorem dL_law_765 : decode cL_law 765 = .ok (.iload_n 3, 1) := by decide +kernel
theorem dL_law_766 : decode cL_law 766 = .ok (.iconst 2, 1) := by decide +kernel
theorem dL_law_767 : decode cL_law 767 = .ok (.iadd, 1) := by decide +kernel
theorem dL_law_768 : decode cL_law 768 = .ok (.iaload, 1) := by decide +kernel
theorem dL_law_769 : decode cL_law 769 = .ok (.invokevirtual 114, 3) := by decide +kernel
theorem dL_law_772 : decode cL_law 772 = .ok (.aload_n 2, 1) := by decide +kernel
theorem dL_law_773 : decode cL_law 773 = .ok (.aload_n 0, 1) := by decide +kernel
theorem dL_law_774 : decode cL_law 774 = .ok (.iload_n 3, 1) := by decide +kernel
theorem dL_law_775 : decode cL_law 775 = .ok (.iconst 1, 1) := by decide +kernel
theorem dL_law_776 : decode cL_law 776 = .ok (.iadd, 1) := by decide +kernel
theorem dL_law_777 : decode cL_law 777 = .ok (.iaload, 1) := by decide +kernel
theorem dL_law_778 : decode cL_law 778 = .ok (.aload_n 0, 1) := by decide +kernel
theorem dL_law_779 : decode cL_law 779 = .ok (.iload_n 3, 1) := by decide +kernel
theorem dL_law_780 : decode cL_law 780 = .ok (.iconst 2, 1) := by decide +kernel
theorem dL_law_781 : decode cL_law 781 = .ok (.iadd, 1) := by decide +kernel
theorem dL_law_782 : decode cL_law 782 = .ok (.iaload, 1) := by decide +kernel
theorem dL_law_783 : decode cL_law 783 = .ok (.invokevirtual 117, 3) := by decide +kernel
theorem dL_law_786 : decode cL_law 786 = .ok (.if_icmp .eq 323, 3) := by decide +kernel
theorem dL_law_789 : decode cL_law 789 = .ok (.iconst 0, 1) := by decide +kernel
theorem dL_law_790 : decode cL_law 790 = .ok (.ireturn, 1) := by decide +kernel
theorem dL_law_791 : decode cL_law 791 = .ok (.aload_n 1, 1) := by decide +kernel
theorem dL_law_792 : decode cL_law 792 = .ok (.aload_n 0, 1) := by decide +kernel
theorem dL_law_793 : decode cL_law 793 = .ok (.iload_n 3, 1) := by decide +kernel
theorem dL_law_794 : decode cL_law 794 = .ok (.iconst 1, 1) := by decide +kernel
theorem dL_law_795 : decode cL_law 795 = .ok (.iadd, 1) := by decide +kernel
theorem dL_law_796 : decode cL_law 796 = .ok (.iaload, 1) := by decide +kernel
theorem dL_law_797 : decode cL_law 797 = .ok (.aload_n 0, 1) := by decide +kernel
theorem dL_law_798 : decode cL_law 798 = .ok (.iload_n 3, 1) := by decide +kernel
theorem dL_law_799 : decode cL_law 799 = .ok (.iconst 2, 1) := by decide +kernel
theorem dL_law_800 : decode cL_law 800 = .ok (.iadd, 1) := by decide +kernel
theorem dL_law_801 : decode cL_law 801 = .ok (.iaload, 1) := by decide +kernel
theorem dL_law_802 : decode cL_law 802 = .ok (.aload_n 0, 1) := by decide +kernel
theorem dL_law_803 : decode cL_law 803 = .ok (.iload_n 3, 1) := by decide +kernel
theorem dL_law_804 : decode cL_law 804 = .ok (.iconst 3, 1) := by decide +kernel
theorem dL_law_805 : decode cL_law 805 = .ok (.iadd, 1) := by decide +kernel
theorem dL_law_806 : decode cL_law 806 = .ok (.iaload, 1) := by decide +kernel
theorem dL_law_807 : decode cL_law 807 = .ok (.invokevirtual 118, 3) := by decide +kernel
theorem dL_law_810 : decode cL_law 810 = .ok (.aload_n 2, 1) := by decide +kernel
theorem dL_law_811 : decode cL_law 811 = .ok (.aload_n 0, 1) := by decide +kernel
theorem dL_law_812 : decode cL_law 812 = .ok (.iload_n 3, 1) := by decide +kernel
theorem dL_law_813 : decode cL_law 813 = .ok (.iconst 1, 1) := by decide +kernel
theorem dL_law_814 : decode cL_law 814 = .ok (.iadd, 1) := by decide +kernel
theorem dL_law_815 : decode cL_law 815 = .ok (.iaload, 1) := by decide +kernel
theorem dL_law_816 : decode cL_law 816 = .ok (.aload_n 0, 1) := by decide +kernel
theorem dL_law_817 : decode cL_law 817 = .ok (.iload_n 3, 1) := by decide +kernel
theorem dL_law_818 : decode cL_law 818 = .ok (.iconst 2, 1) := by decide +kernel
theorem dL_law_819 : decode cL_law 819 = .ok (.iadd, 1) := by decide +kernel
theorem dL_law_820 : decode cL_law 820 = .ok (.iaload, 1) := by decide +kernel
theorem dL_law_821 : decode cL_law 821 = .ok (.aload_n 0, 1) := by decide +kernel
theorem dL_law_822 : decode cL_law 822 = .ok (.iload_n 3, 1) := by decide +kernel
theorem dL_law_823 : decode cL_law 823 = .ok (.iconst 3, 1) := by decide +kernel
theorem dL_law_824 : decode cL_law 824 = .ok (.iadd, 1) := by decide +kernel
theorem dL_law_825 : decode cL_law 825 = .ok (.iaload, 1) := by decide +kernel
theorem dL_law_826 : decode cL_law 826 = .ok (.invokevirtual 121, 3) := by decide +kernel
theorem dL_law_829 : decode cL_law 829 = .ok (.if_icmp .eq 280, 3) := by decide +kernel
theorem dL_law_832 : decode cL_law 832 = .ok (.iconst 0, 1) := by decide +kernel
theorem dL_law_833 : decode cL_law 833 = .ok (.ireturn, 1) := by decide +kernel
theorem dL_law_834 : decode cL_law 834 = .ok (.aload_n 1, 1) := by decide +kernel
theorem dL_law_835 : decode cL_law 835 = .ok (.aload_n 0, 1) := by decide +kernel
theorem dL_law_836 : decode cL_law 836 = .ok (.iload_n 3, 1) := by decide +kernel
theorem dL_law_837 : decode cL_law 837 = .ok (.iconst 1, 1) := by decide +kernel
theorem dL_law_838 : decode cL_law 838 = .ok (.iadd, 1) := by decide +kernel
theorem dL_law_839 : decode cL_law 839 = .ok (.iaload, 1) := by decide +kernel
theorem dL_law_840 : decode cL_law 840 = .ok (.aload_n 0, 1) := by decide +kernel
theorem dL_law_841 : decode cL_law 841 = .ok (.iload_n 3, 1) := by decide +kernel
theorem dL_law_842 : decode cL_law 842 = .ok (.iconst 2, 1) := by decide +kernel
theorem dL_law_843 : decode cL_law 843 = .ok (.iadd, 1) := by decide +kernel
theorem dL_law_844 : decode cL_law 844 = .ok (.iaload, 1) := by decide +kernel
theorem dL_law_845 : decode cL_law 845 = .ok (.aload_n 0, 1) := by decide +kernel
theorem dL_law_846 : decode cL_law 846 = .ok (.iload_n 3, 1) := by decide +kernel
theorem dL_law_847 : decode cL_law 847 = .ok (.iconst 3, 1) := by decide +kernel
theorem dL_law_848 : decode cL_law 848 = .ok (.iadd, 1) := by decide +kernel
theorem dL_law_849 : decode cL_law 849 = .ok (.iaload, 1) := by decide +kernel
theorem dL_law_850 : decode cL_law 850 = .ok (.i2l, 1) := by decide +kernel
theorem dL_law_851 : decode cL_law 851 = .ok (.bipush 32, 2) := by decide +kernel
theorem dL_law_853 : decode cL_law 853 = .ok (.lshl, 1) := by decide +kernel
theorem dL_law_854 : decode cL_law 854 = .ok (.aload_n 0, 1) := by decide +kernel
theorem dL_law_855 : decode cL_law 855 = .ok (.iload_n 3, 1) := by decide +kernel
theorem dL_law_856 : decode cL_law 856 = .ok (.iconst 4, 1) := by decide +kernel
theorem dL_law_857 : decode cL_law 857 = .ok (.iadd, 1) := by decide +kernel
theorem dL_law_858 : decode cL_law 858 = .ok (.iaload, 1) := by decide +kernel
theorem dL_law_859 : decode cL_law 859 = .ok (.i2l, 1) := by decide +kernel
theorem dL_law_860 : decode cL_law 860 = .ok (.ldc2_w 122, 3) := by decide +kernel
theorem dL_law_863 : decode cL_law 863 = .ok (.land, 1) := by decide +kernel
theorem dL_law_864 : decode cL_law 864 = .ok (.lor, 1) := by decide +kernel
theorem dL_law_865 : decode cL_law 865 = .ok (.invokevirtual 124, 3) := by decide +kernel
theorem dL_law_868 : decode cL_law 868 = .ok (.aload_n 2, 1) := by decide +kernel
theorem dL_law_869 : decode cL_law 869 = .ok (.aload_n 0, 1) := by decide +kernel
theorem dL_law_870 : decode cL_law 870 = .ok (.iload_n 3, 1) := by decide +kernel
theorem dL_law_871 : decode cL_law 871 = .ok (.iconst 1, 1) := by decide +kernel
theorem dL_law_872 : decode cL_law 872 = .ok (.iadd, 1) := by decide +kernel
theorem dL_law_873 : decode cL_law 873 = .ok (.iaload, 1) := by decide +kernel
theorem dL_law_874 : decode cL_law 874 = .ok (.aload_n 0, 1) := by decide +kernel
theorem dL_law_875 : decode cL_law 875 = .ok (.iload_n 3, 1) := by decide +kernel
theorem dL_law_876 : decode cL_law 876 = .ok (.iconst 2, 1) := by decide +kernel
theorem dL_law_877 : decode cL_law 877 = .ok (.iadd, 1) := by decide +kernel
theorem dL_law_878 : decode cL_law 878 = .ok (.iaload, 1) := by decide +kernel
theorem dL_law_879 : decode cL_law 879 = .ok (.aload_n 0, 1) := by decide +kernel
theorem dL_law_880 : decode cL_law 880 = .ok (.iload_n 3, 1) := by decide +kernel
theorem dL_law_881 : decode cL_law 881 = .ok (.iconst 3, 1) := by decide +kernel
theorem dL_law_882 : decode cL_law 882 = .ok (.iadd, 1) := by decide +kernel
theorem dL_law_883 : decode cL_law 883 = .ok (.iaload, 1) := by decide +kernel
theorem dL_law_884 : decode cL_law 884 = .ok (.i2l, 1) := by decide +kernel
theorem dL_law_885 : decode cL_law 885 = .ok (.bipush 32, 2) := by decide +kernel
theorem dL_law_887 : decode cL_law 887 = .ok (.lshl, 1) := by decide +kernel
theorem dL_law_888 : decode cL_law 888 = .ok (.aload_n 0, 1) := by decide +kernel
theorem dL_law_889 : decode cL_law 889 = .ok (.iload_n 3, 1) := by decide +kernel
theorem dL_law_890 : decode cL_law 890 = .ok (.iconst 4, 1) := by decide +kernel
theorem dL_law_891 : decode cL_law 891 = .ok (.iadd, 1) := by decide +kernel
theorem dL_law_892 : decode cL_law 892 = .ok (.iaload, 1) := by decide +kernel
theorem dL_law_893 : decode cL_law 893 = .ok (.i2l, 1) := by decide +kernel
theorem dL_law_894 : decode cL_law 894 = .ok (.ldc2_w 122, 3) := by decide +kernel
theorem dL_law_897 : decode cL_law 897 = .ok (.land, 1) := by decide +kernel
theorem dL_law_898 : decode cL_law 898 = .ok (.lor, 1) := by decide +kernel
theorem dL_law_899 : decode cL_law 899 = .ok (.invokevirtual 128, 3) := by decide +kernel
theorem dL_law_902 : decode cL_law 902 = .ok (.lcmp, 1) := by decide +kernel
theorem dL_law_903 : decode cL_law 903 = .ok (.ifCond .eq 206, 3) := by decide +kernel
theorem dL_law_906 : decode cL_law 906 = .ok (.iconst 0, 1) := by decide +kernel
theorem dL_law_907 : decode cL_law 907 = .ok (.ireturn, 1) := by decide +kernel
theorem dL_law_908 : decode cL_law 908 = .ok (.aload_n 1, 1) := by decide +kernel
theorem dL_law_909 : decode cL_law 909 = .ok (.aload_n 0, 1) := by decide +kernel
theorem dL_law_910 : decode cL_law 910 = .ok (.iload_n 3, 1) := by decide +kernel
theorem dL_law_911 : decode cL_law 911 = .ok (.iconst 1, 1) := by decide +kernel
theorem dL_law_912 : decode cL_law 912 = .ok (.iadd, 1) := by decide +kernel
theorem dL_law_913 : decode cL_law 913 = .ok (.iaload, 1) := by decide +kernel
theorem dL_law_914 : decode cL_law 914 = .ok (.aload_n 0, 1) := by decide +kernel
theorem dL_law_915 : decode cL_law 915 = .ok (.iload_n 3, 1) := by decide +kernel
theorem dL_law_916 : decode cL_law 916 = .ok (.iconst 2, 1) := by decide +kernel
theorem dL_law_917 : decode cL_law 917 = .ok (.iadd, 1) := by decide +kernel
theorem dL_law_918 : decode cL_law 918 = .ok (.iaload, 1) := by decide +kernel
theorem dL_law_919 : decode cL_law 919 = .ok (.aload_n 0, 1) := by decide +kernel
theorem dL_law_920 : decode cL_law 920 = .ok (.iload_n 3, 1) := by decide +kernel
theorem dL_law_921 : decode cL_law 921 = .ok (.iconst 3, 1) := by decide +kernel
theorem dL_law_922 : decode cL_law 922 = .ok (.iadd, 1) := by decide +kernel
theorem dL_law_923 : decode cL_law 923 = .ok (.iaload, 1) := by decide +kernel
theorem dL_law_924 : decode cL_law 924 = .ok (.aload_n 0, 1) := by decide +kernel
theorem dL_law_925 : decode cL_law 925 = .ok (.iload_n 3, 1) := by decide +kernel
theorem dL_law_926 : decode cL_law 926 = .ok (.iconst 4, 1) := by decide +kernel
theorem dL_law_927 : decode cL_law 927 = .ok (.iadd, 1) := by decide +kernel
theorem dL_law_928 : decode cL_law 928 = .ok (.iaload, 1) := by decide +kernel
theorem dL_law_929 : decode cL_law 929 = .ok (.aload_n 0, 1) := by decide +kernel
theorem dL_law_930 : decode cL_law 930 = .ok (.iload_n 3, 1) := by decide +kernel
theorem dL_law_931 : decode cL_law 931 = .ok (.iconst 5, 1) := by decide +kernel
theorem dL_law_932 : decode cL_law 932 = .ok (.iadd, 1) := by decide +kernel
theorem dL_law_933 : decode cL_law 933 = .ok (.iaload, 1) := by decide +kernel
theorem dL_law_934 : decode cL_law 934 = .ok (.invokevirtual 129, 3) := by decide +kernel
theorem dL_law_937 : decode cL_law 937 = .ok (.aload_n 2, 1) := by decide +kernel
theorem dL_law_938 : decode cL_law 938 = .ok (.aload_n 0, 1) := by decide +kernel
theorem dL_law_939 : decode cL_law 939 = .ok (.iload_n 3, 1) := by decide +kernel
theorem dL_law_940 : decode cL_law 940 = .ok (.iconst 1, 1) := by decide +kernel
theorem dL_law_941 : decode cL_law 941 = .ok (.iadd, 1) := by decide +kernel
theorem dL_law_942 : decode cL_law 942 = .ok (.iaload, 1) := by decide +kernel
theorem dL_law_943 : decode cL_law 943 = .ok (.aload_n 0, 1) := by decide +kernel
theorem dL_law_944 : decode cL_law 944 = .ok (.iload_n 3, 1) := by decide +kernel
theorem dL_law_945 : decode cL_law 945 = .ok (.iconst 2, 1) := by decide +kernel
theorem dL_law_946 : decode cL_law 946 = .ok (.iadd, 1) := by decide +kernel
theorem dL_law_947 : decode cL_law 947 = .ok (.iaload, 1) := by decide +kernel
theorem dL_law_948 : decode cL_law 948 = .ok (.aload_n 0, 1) := by decide +kernel
theorem dL_law_949 : decode cL_law 949 = .ok (.iload_n 3, 1) := by decide +kernel
theorem dL_law_950 : decode cL_law 950 = .ok (.iconst 3, 1) := by decide +kernel
theorem dL_law_951 : decode cL_law 951 = .ok (.iadd, 1) := by decide +kernel
theorem dL_law_952 : decode cL_law 952 = .ok (.iaload, 1) := by decide +kernel
theorem dL_law_953 : decode cL_law 953 = .ok (.aload_n 0, 1) := by decide +kernel
theorem dL_law_954 : decode cL_law 954 = .ok (.iload_n 3, 1) := by decide +kernel
theorem dL_law_955 : decode cL_law 955 = .ok (.iconst 4, 1) := by decide +kernel
theorem dL_law_956 : decode cL_law 956 = .ok (.iadd, 1) := by decide +kernel
theorem dL_law_957 : decode cL_law 957 = .ok (.iaload, 1) := by decide +kernel
theorem dL_law_958 : decode cL_law 958 = .ok (.aload_n 0, 1) := by decide +kernel
theorem dL_law_959 : decode cL_law 959 = .ok (.iload_n 3, 1) := by decide +kernel
theorem dL_law_960 : decode cL_law 960 = .ok (.iconst 5, 1) := by decide +kernel
theorem dL_law_961 : decode cL_law 961 = .ok (.iadd, 1) := by decide +kernel
theorem dL_law_962 : decode cL_law 962 = .ok (.iaload, 1) := by decide +kernel
theorem dL_law_963 : decode cL_law 963 = .ok (.invokevirtual 133, 3) := by decide +kernel
theorem dL_law_966 : decode cL_law 966 = .ok (.if_icmp .eq 143, 3) := by decide +kernel
theorem dL_law_969 : decode cL_law 969 = .ok (.iconst 0, 1) := by decide +kernel
theorem dL_law_970 : decode cL_law 970 = .ok (.ireturn, 1) := by decide +kernel
theorem dL_law_971 : decode cL_law 971 = .ok (.aload_n 1, 1) := by decide +kernel
theorem dL_law_972 : decode cL_law 972 = .ok (.aload_n 0, 1) := by decide +kernel
theorem dL_law_973 : decode cL_law 973 = .ok (.iload_n 3, 1) := by decide +kernel
theorem dL_law_974 : decode cL_law 974 = .ok (.iconst 1, 1) := by decide +kernel
theorem dL_law_975 : decode cL_law 975 = .ok (.iadd, 1) := by decide +kernel
theorem dL_law_976 : decode cL_law 976 = .ok (.iaload, 1) := by decide +kernel
theorem dL_law_977 : decode cL_law 977 = .ok (.aload_n 0, 1) := by decide +kernel
theorem dL_law_978 : decode cL_law 978 = .ok (.iload_n 3, 1) := by decide +kernel
theorem dL_law_979 : decode cL_law 979 = .ok (.iconst 2, 1) := by decide +kernel
theorem dL_law_980 : decode cL_law 980 = .ok (.iadd, 1) := by decide +kernel
theorem dL_law_981 : decode cL_law 981 = .ok (.iaload, 1) := by decide +kernel
theorem dL_law_982 : decode cL_law 982 = .ok (.aload_n 0, 1) := by decide +kernel
theorem dL_law_983 : decode cL_law 983 = .ok (.iload_n 3, 1) := by decide +kernel
theorem dL_law_984 : decode cL_law 984 = .ok (.iconst 3, 1) := by decide +kernel
theorem dL_law_985 : decode cL_law 985 = .ok (.iadd, 1) := by decide +kernel
theorem dL_law_986 : decode cL_law 986 = .ok (.iaload, 1) := by decide +kernel
theorem dL_law_987 : decode cL_law 987 = .ok (.aload_n 0, 1) := by decide +kernel
theorem dL_law_988 : decode cL_law 988 = .ok (.iload_n 3, 1) := by decide +kernel
theorem dL_law_989 : decode cL_law 989 = .ok (.iconst 4, 1) := by decide +kernel
theorem dL_law_990 : decode cL_law 990 = .ok (.iadd, 1) := by decide +kernel
theorem dL_law_991 : decode cL_law 991 = .ok (.iaload, 1) := by decide +kernel
theorem dL_law_992 : decode cL_law 992 = .ok (.invokevirtual 134, 3) := by decide +kernel
theorem dL_law_995 : decode cL_law 995 = .ok (.aload_n 2, 1) := by decide +kernel
theorem dL_law_996 : decode cL_law 996 = .ok (.aload_n 0, 1) := by decide +kernel
theorem dL_law_997 : decode cL_law 997 = .ok (.iload_n 3, 1) := by decide +kernel
theorem dL_law_998 : decode cL_law 998 = .ok (.iconst 1, 1) := by decide +kernel
theorem dL_law_999 : decode cL_law 999 = .ok (.iadd, 1) := by decide +kernel
theorem dL_law_1000 : decode cL_law 1000 = .ok (.iaload, 1) := by decide +kernel
theorem dL_law_1001 : decode cL_law 1001 = .ok (.aload_n 0, 1) := by decide +kernel
theorem dL_law_1002 : decode cL_law 1002 = .ok (.iload_n 3, 1) := by decide +kernel
theorem dL_law_1003 : decode cL_law 1003 = .ok (.iconst 2, 1) := by decide +kernel
theorem dL_law_1004 : decode cL_law 1004 = .ok (.iadd, 1) := by decide +kernel
theorem dL_law_1005 : decode cL_law 1005 = .ok (.iaload, 1) := by decide +kernel
theorem dL_law_1006 : decode cL_law 1006 = .ok (.aload_n 0, 1) := by decide +kernel
theorem dL_law_1007 : decode cL_law 1007 = .ok (.iload_n 3, 1) := by decide +kernel
theorem dL_law_1008 : decode cL_law 1008 = .ok (.iconst 3, 1) := by decide +kernel
theorem dL_law_1009 : decode cL_law 1009 = .ok (.iadd, 1) := by decide +kernel
theorem dL_law_1010 : decode cL_law 1010 = .ok (.iaload, 1) := by decide +kernel
theorem dL_law_1011 : decode cL_law 1011 = .ok (.aload_n 0, 1) := by decide +kernel
theorem dL_law_1012 : decode cL_law 1012 = .ok (.iload_n 3, 1) := by decide +kernel
theorem dL_law_1013 : decode cL_law 1013 = .ok (.iconst 4, 1) := by decide +kernel
theorem dL_law_1014 : decode cL_law 1014 = .ok (.iadd, 1) := by decide +kernel
theorem dL_law_1015 : decode cL_law 1015 = .ok (.iaload, 1) := by decide +kernel
theorem dL_law_1016 : decode cL_law 1016 = .ok (.invokevirtual 138, 3) := by decide +kernel
theorem dL_law_1019 : decode cL_law 1019 = .ok (.if_icmp .eq 90, 3) := by decide +kernel
theorem dL_law_1022 : decode cL_law 1022 = .ok (.iconst 0, 1) := by decide +kernel
theorem dL_law_1023 : decode cL_law 1023 = .ok (.ireturn, 1) := by decide +kernel
theorem dL_law_1024 : decode cL_law 1024 = .ok (.aload_n 1, 1) := by decide +kernel
theorem dL_law_1025 : decode cL_law 1025 = .ok (.aload_n 0, 1) := by decide +kernel
theorem dL_law_1026 : decode cL_law 1026 = .ok (.iload_n 3, 1) := by decide +kernel
theorem dL_law_1027 : decode cL_law 1027 = .ok (.iconst 1, 1) := by decide +kernel
theorem dL_law_1028 : decode cL_law 1028 = .ok (.iadd, 1) := by decide +kernel
theorem dL_law_1029 : decode cL_law 1029 = .ok (.iaload, 1) := by decide +kernel
theorem dL_law_1030 : decode cL_law 1030 = .ok (.invokevirtual 139, 3) := by decide +kernel
theorem dL_law_1033 : decode cL_law 1033 = .ok (.aload_n 2, 1) := by decide +kernel
theorem dL_law_1034 : decode cL_law 1034 = .ok (.aload_n 0, 1) := by decide +kernel
theorem dL_law_1035 : decode cL_law 1035 = .ok (.iload_n 3, 1) := by decide +kernel
theorem dL_law_1036 : decode cL_law 1036 = .ok (.iconst 1, 1) := by decide +kernel
theorem dL_law_1037 : decode cL_law 1037 = .ok (.iadd, 1) := by decide +kernel
theorem dL_law_1038 : decode cL_law 1038 = .ok (.iaload, 1) := by decide +kernel
theorem dL_law_1039 : decode cL_law 1039 = .ok (.invokevirtual 142, 3) := by decide +kernel
theorem dL_law_1042 : decode cL_law 1042 = .ok (.if_icmp .eq 67, 3) := by decide +kernel
theorem dL_law_1045 : decode cL_law 1045 = .ok (.iconst 0, 1) := by decide +kernel
theorem dL_law_1046 : decode cL_law 1046 = .ok (.ireturn, 1) := by decide +kernel
theorem dL_law_1047 : decode cL_law 1047 = .ok (.aload_n 1, 1) := by decide +kernel
theorem dL_law_1048 : decode cL_law 1048 = .ok (.invokevirtual 143, 3) := by decide +kernel
theorem dL_law_1051 : decode cL_law 1051 = .ok (.aload_n 2, 1) := by decide +kernel
theorem dL_law_1052 : decode cL_law 1052 = .ok (.invokevirtual 146, 3) := by decide +kernel
theorem dL_law_1055 : decode cL_law 1055 = .ok (.if_icmp .eq 54, 3) := by decide +kernel
theorem dL_law_1058 : decode cL_law 1058 = .ok (.iconst 0, 1) := by decide +kernel
theorem dL_law_1059 : decode cL_law 1059 = .ok (.ireturn, 1) := by decide +kernel
theorem dL_law_1060 : decode cL_law 1060 = .ok (.aload_n 1, 1) := by decide +kernel
theorem dL_law_1061 : decode cL_law 1061 = .ok (.invokevirtual 147, 3) := by decide +kernel
theorem dL_law_1064 : decode cL_law 1064 = .ok (.aload_n 2, 1) := by decide +kernel
theorem dL_law_1065 : decode cL_law 1065 = .ok (.invokevirtual 150, 3) := by decide +kernel
theorem dL_law_1068 : decode cL_law 1068 = .ok (.if_icmp .eq 41, 3) := by decide +kernel
theorem dL_law_1071 : decode cL_law 1071 = .ok (.iconst 0, 1) := by decide +kernel
theorem dL_law_1072 : decode cL_law 1072 = .ok (.ireturn, 1) := by decide +kernel
theorem dL_law_1073 : decode cL_law 1073 = .ok (.aload_n 1, 1) := by decide +kernel
theorem dL_law_1074 : decode cL_law 1074 = .ok (.invokevirtual 151, 3) := by decide +kernel
theorem dL_law_1077 : decode cL_law 1077 = .ok (.aload_n 2, 1) := by decide +kernel
theorem dL_law_1078 : decode cL_law 1078 = .ok (.invokevirtual 154, 3) := by decide +kernel
theorem dL_law_1081 : decode cL_law 1081 = .ok (.if_icmp .eq 28, 3) := by decide +kernel
theorem dL_law_1084 : decode cL_law 1084 = .ok (.iconst 0, 1) := by decide +kernel
theorem dL_law_1085 : decode cL_law 1085 = .ok (.ireturn, 1) := by decide +kernel
theorem dL_law_1086 : decode cL_law 1086 = .ok (.aload_n 1, 1) := by decide +kernel
theorem dL_law_1087 : decode cL_law 1087 = .ok (.aload_n 0, 1) := by decide +kernel
theorem dL_law_1088 : decode cL_law 1088 = .ok (.iload_n 3, 1) := by decide +kernel
theorem dL_law_1089 : decode cL_law 1089 = .ok (.iconst 1, 1) := by decide +kernel
theorem dL_law_1090 : decode cL_law 1090 = .ok (.iadd, 1) := by decide +kernel
theorem dL_law_1091 : decode cL_law 1091 = .ok (.iaload, 1) := by decide +kernel
theorem dL_law_1092 : decode cL_law 1092 = .ok (.invokevirtual 155, 3) := by decide +kernel
theorem dL_law_1095 : decode cL_law 1095 = .ok (.aload_n 2, 1) := by decide +kernel
theorem dL_law_1096 : decode cL_law 1096 = .ok (.aload_n 0, 1) := by decide +kernel
theorem dL_law_1097 : decode cL_law 1097 = .ok (.iload_n 3, 1) := by decide +kernel
theorem dL_law_1098 : decode cL_law 1098 = .ok (.iconst 1, 1) := by decide +kernel
theorem dL_law_1099 : decode cL_law 1099 = .ok (.iadd, 1) := by decide +kernel
theorem dL_law_1100 : decode cL_law 1100 = .ok (.iaload, 1) := by decide +kernel
theorem dL_law_1101 : decode cL_law 1101 = .ok (.invokevirtual 158, 3) := by decide +kernel
theorem dL_law_1104 : decode cL_law 1104 = .ok (.if_icmp .eq 5, 3) := by decide +kernel
theorem dL_law_1107 : decode cL_law 1107 = .ok (.iconst 0, 1) := by decide +kernel
theorem dL_law_1108 : decode cL_law 1108 = .ok (.ireturn, 1) := by decide +kernel
theorem dL_law_1109 : decode cL_law 1109 = .ok (.iinc 3 6, 3) := by decide +kernel
theorem dL_law_1112 : decode cL_law 1112 = .ok (.goto (-1094), 3) := by decide +kernel
theorem dL_law_1115 : decode cL_law 1115 = .ok (.iconst 1, 1) := by decide +kernel
theorem dL_law_1116 : decode cL_law 1116 = .ok (.ireturn, 1) := by decide +kernel
