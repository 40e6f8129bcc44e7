theorem dL_areGains_0 : decode cL_areGains 0 = .ok (.iload 4, 2) := by decide +kernel
theorem dL_areGains_2 : decode cL_areGains 2 = .ok (.iconst 3, 1) := by decide +kernel
theorem dL_areGains_3 : decode cL_areGains 3 = .ok (.irem, 1) := by decide +kernel
theorem dL_areGains_4 : decode cL_areGains 4 = .ok (.istore 5, 2) := by decide +kernel
theorem dL_areGains_6 : decode cL_areGains 6 = .ok (.aload_n 3, 1) := by decide +kernel
theorem dL_areGains_7 : decode cL_areGains 7 = .ok (.iconst 1, 1) := by decide +kernel
theorem dL_areGains_8 : decode cL_areGains 8 = .ok (.iaload, 1) := by decide +kernel
theorem dL_areGains_9 : decode cL_areGains 9 = .ok (.iload 5, 2) := by decide +kernel
theorem dL_areGains_11 : decode cL_areGains 11 = .ok (.iconst 2, 1) := by decide +kernel
theorem dL_areGains_12 : decode cL_areGains 12 = .ok (.if_icmp .ne 7, 3) := by decide +kernel
theorem dL_areGains_15 : decode cL_areGains 15 = .ok (.iconst 2, 1) := by decide +kernel
theorem dL_areGains_16 : decode cL_areGains 16 = .ok (.goto 4, 3) := by decide +kernel
theorem dL_areGains_19 : decode cL_areGains 19 = .ok (.iconst 4, 1) := by decide +kernel
theorem dL_areGains_20 : decode cL_areGains 20 = .ok (.if_icmp .le 5, 3) := by decide +kernel
theorem dL_areGains_23 : decode cL_areGains 23 = .ok (.iconst 1, 1) := by decide +kernel
theorem dL_areGains_24 : decode cL_areGains 24 = .ok (.ireturn, 1) := by decide +kernel
theorem dL_areGains_25 : decode cL_areGains 25 = .ok (.iload 4, 2) := by decide +kernel
theorem dL_areGains_27 : decode cL_areGains 27 = .ok (.iconst 3, 1) := by decide +kernel
theorem dL_areGains_28 : decode cL_areGains 28 = .ok (.idiv, 1) := by decide +kernel
theorem dL_areGains_29 : decode cL_areGains 29 = .ok (.sipush 10001, 3) := by decide +kernel
theorem dL_areGains_32 : decode cL_areGains 32 = .ok (.irem, 1) := by decide +kernel
theorem dL_areGains_33 : decode cL_areGains 33 = .ok (.istore 6, 2) := by decide +kernel
theorem dL_areGains_35 : decode cL_areGains 35 = .ok (.iload 4, 2) := by decide +kernel
theorem dL_areGains_37 : decode cL_areGains 37 = .ok (.iconst 2, 1) := by decide +kernel
theorem dL_areGains_38 : decode cL_areGains 38 = .ok (.irem, 1) := by decide +kernel
theorem dL_areGains_39 : decode cL_areGains 39 = .ok (.ifCond .ne 12, 3) := by decide +kernel
theorem dL_areGains_42 : decode cL_areGains 42 = .ok (.iload 6, 2) := by decide +kernel
theorem dL_areGains_44 : decode cL_areGains 44 = .ok (.sipush 1500, 3) := by decide +kernel
theorem dL_areGains_47 : decode cL_areGains 47 = .ok (.irem, 1) := by decide +kernel
theorem dL_areGains_48 : decode cL_areGains 48 = .ok (.goto 5, 3) := by decide +kernel
theorem dL_areGains_51 : decode cL_areGains 51 = .ok (.iload 6, 2) := by decide +kernel
theorem dL_areGains_53 : decode cL_areGains 53 = .ok (.istore 6, 2) := by decide +kernel
theorem dL_areGains_55 : decode cL_areGains 55 = .ok (.iload 6, 2) := by decide +kernel
theorem dL_areGains_57 : decode cL_areGains 57 = .ok (.iload 4, 2) := by decide +kernel
theorem dL_areGains_59 : decode cL_areGains 59 = .ok (.bipush 7, 2) := by decide +kernel
theorem dL_areGains_61 : decode cL_areGains 61 = .ok (.idiv, 1) := by decide +kernel
theorem dL_areGains_62 : decode cL_areGains 62 = .ok (.sipush 10001, 3) := by decide +kernel
theorem dL_areGains_65 : decode cL_areGains 65 = .ok (.iload 6, 2) := by decide +kernel
theorem dL_areGains_67 : decode cL_areGains 67 = .ok (.isub, 1) := by decide +kernel
theorem dL_areGains_68 : decode cL_areGains 68 = .ok (.irem, 1) := by decide +kernel
theorem dL_areGains_69 : decode cL_areGains 69 = .ok (.iadd, 1) := by decide +kernel
theorem dL_areGains_70 : decode cL_areGains 70 = .ok (.istore 7, 2) := by decide +kernel
theorem dL_areGains_72 : decode cL_areGains 72 = .ok (.aload_n 1, 1) := by decide +kernel
theorem dL_areGains_73 : decode cL_areGains 73 = .ok (.aload_n 2, 1) := by decide +kernel
theorem dL_areGains_74 : decode cL_areGains 74 = .ok (.aload_n 3, 1) := by decide +kernel
theorem dL_areGains_75 : decode cL_areGains 75 = .ok (.iload 5, 2) := by decide +kernel
theorem dL_areGains_77 : decode cL_areGains 77 = .ok (.iconst 0, 1) := by decide +kernel
theorem dL_areGains_78 : decode cL_areGains 78 = .ok (.invokestatic 21, 3) := by decide +kernel
theorem dL_areGains_81 : decode cL_areGains 81 = .ok (.lstore 8, 2) := by decide +kernel
theorem dL_areGains_83 : decode cL_areGains 83 = .ok (.aload_n 1, 1) := by decide +kernel
theorem dL_areGains_84 : decode cL_areGains 84 = .ok (.aload_n 2, 1) := by decide +kernel
theorem dL_areGains_85 : decode cL_areGains 85 = .ok (.aload_n 3, 1) := by decide +kernel
theorem dL_areGains_86 : decode cL_areGains 86 = .ok (.iload 5, 2) := by decide +kernel
theorem dL_areGains_88 : decode cL_areGains 88 = .ok (.iconst 1, 1) := by decide +kernel
theorem dL_areGains_89 : decode cL_areGains 89 = .ok (.invokestatic 21, 3) := by decide +kernel
theorem dL_areGains_92 : decode cL_areGains 92 = .ok (.lstore 10, 2) := by decide +kernel
theorem dL_areGains_94 : decode cL_areGains 94 = .ok (.iconst 1, 1) := by decide +kernel
theorem dL_areGains_95 : decode cL_areGains 95 = .ok (.istore 12, 2) := by decide +kernel
theorem dL_areGains_97 : decode cL_areGains 97 = .ok (.iconst 0, 1) := by decide +kernel
theorem dL_areGains_98 : decode cL_areGains 98 = .ok (.istore 13, 2) := by decide +kernel
theorem dL_areGains_100 : decode cL_areGains 100 = .ok (.iload 13, 2) := by decide +kernel
theorem dL_areGains_102 : decode cL_areGains 102 = .ok (.aload_n 3, 1) := by decide +kernel
theorem dL_areGains_103 : decode cL_areGains 103 = .ok (.iconst 1, 1) := by decide +kernel
theorem dL_areGains_104 : decode cL_areGains 104 = .ok (.iaload, 1) := by decide +kernel
theorem dL_areGains_105 : decode cL_areGains 105 = .ok (.if_icmp .ge 32, 3) := by decide +kernel
theorem dL_areGains_108 : decode cL_areGains 108 = .ok (.iload 12, 2) := by decide +kernel
theorem dL_areGains_110 : decode cL_areGains 110 = .ok (.ifCond .eq 18, 3) := by decide +kernel
theorem dL_areGains_113 : decode cL_areGains 113 = .ok (.aload_n 1, 1) := by decide +kernel
theorem dL_areGains_114 : decode cL_areGains 114 = .ok (.aload_n 2, 1) := by decide +kernel
theorem dL_areGains_115 : decode cL_areGains 115 = .ok (.iload 13, 2) := by decide +kernel
theorem dL_areGains_117 : decode cL_areGains 117 = .ok (.iaload, 1) := by decide +kernel
theorem dL_areGains_118 : decode cL_areGains 118 = .ok (.invokestatic 25, 3) := by decide +kernel
theorem dL_areGains_121 : decode cL_areGains 121 = .ok (.ifCond .eq 7, 3) := by decide +kernel
theorem dL_areGains_124 : decode cL_areGains 124 = .ok (.iconst 1, 1) := by decide +kernel
theorem dL_areGains_125 : decode cL_areGains 125 = .ok (.goto 4, 3) := by decide +kernel
theorem dL_areGains_128 : decode cL_areGains 128 = .ok (.iconst 0, 1) := by decide +kernel
theorem dL_areGains_129 : decode cL_areGains 129 = .ok (.istore 12, 2) := by decide +kernel
theorem dL_areGains_131 : decode cL_areGains 131 = .ok (.iinc 13 1, 3) := by decide +kernel
theorem dL_areGains_134 : decode cL_areGains 134 = .ok (.goto (-34), 3) := by decide +kernel
theorem dL_areGains_137 : decode cL_areGains 137 = .ok (.lload 10, 2) := by decide +kernel
theorem dL_areGains_139 : decode cL_areGains 139 = .ok (.lconst 0, 1) := by decide +kernel
theorem dL_areGains_140 : decode cL_areGains 140 = .ok (.lcmp, 1) := by decide +kernel
theorem dL_areGains_141 : decode cL_areGains 141 = .ok (.ifCond .ne 7, 3) := by decide +kernel
theorem dL_areGains_144 : decode cL_areGains 144 = .ok (.lconst 1, 1) := by decide +kernel
theorem dL_areGains_145 : decode cL_areGains 145 = .ok (.goto 10, 3) := by decide +kernel
theorem dL_areGains_148 : decode cL_areGains 148 = .ok (.lload 8, 2) := by decide +kernel
theorem dL_areGains_150 : decode cL_areGains 150 = .ok (.lload 10, 2) := by decide +kernel
theorem dL_areGains_152 : decode cL_areGains 152 = .ok (.invokestatic 29, 3) := by decide +kernel
theorem dL_areGains_155 : decode cL_areGains 155 = .ok (.lstore 13, 2) := by decide +kernel
theorem dL_areGains_157 : decode cL_areGains 157 = .ok (.lload 10, 2) := by decide +kernel
theorem dL_areGains_159 : decode cL_areGains 159 = .ok (.lconst 0, 1) := by decide +kernel
theorem dL_areGains_160 : decode cL_areGains 160 = .ok (.lcmp, 1) := by decide +kernel
theorem dL_areGains_161 : decode cL_areGains 161 = .ok (.ifCond .ge 9, 3) := by decide +kernel
theorem dL_areGains_164 : decode cL_areGains 164 = .ok (.lload 13, 2) := by decide +kernel
theorem dL_areGains_166 : decode cL_areGains 166 = .ok (.lneg, 1) := by decide +kernel
theorem dL_areGains_167 : decode cL_areGains 167 = .ok (.goto 5, 3) := by decide +kernel
theorem dL_areGains_170 : decode cL_areGains 170 = .ok (.lload 13, 2) := by decide +kernel
theorem dL_areGains_172 : decode cL_areGains 172 = .ok (.lstore 13, 2) := by decide +kernel
theorem dL_areGains_174 : decode cL_areGains 174 = .ok (.aload_n 0, 1) := by decide +kernel
theorem dL_areGains_175 : decode cL_areGains 175 = .ok (.iload 5, 2) := by decide +kernel
theorem dL_areGains_177 : decode cL_areGains 177 = .ok (.iconst 0, 1) := by decide +kernel
theorem dL_areGains_178 : decode cL_areGains 178 = .ok (.invokevirtual 33, 3) := by decide +kernel
theorem dL_areGains_181 : decode cL_areGains 181 = .ok (.lload 10, 2) := by decide +kernel
theorem dL_areGains_183 : decode cL_areGains 183 = .ok (.lconst 0, 1) := by decide +kernel
theorem dL_areGains_184 : decode cL_areGains 184 = .ok (.lcmp, 1) := by decide +kernel
theorem dL_areGains_185 : decode cL_areGains 185 = .ok (.ifCond .ne 7, 3) := by decide +kernel
theorem dL_areGains_188 : decode cL_areGains 188 = .ok (.lconst 1, 1) := by decide +kernel
theorem dL_areGains_189 : decode cL_areGains 189 = .ok (.goto 8, 3) := by decide +kernel
theorem dL_areGains_192 : decode cL_areGains 192 = .ok (.lload 8, 2) := by decide +kernel
theorem dL_areGains_194 : decode cL_areGains 194 = .ok (.lload 13, 2) := by decide +kernel
theorem dL_areGains_196 : decode cL_areGains 196 = .ok (.ldiv, 1) := by decide +kernel
theorem dL_areGains_197 : decode cL_areGains 197 = .ok (.lcmp, 1) := by decide +kernel
theorem dL_areGains_198 : decode cL_areGains 198 = .ok (.ifCond .ne 34, 3) := by decide +kernel
theorem dL_areGains_201 : decode cL_areGains 201 = .ok (.aload_n 0, 1) := by decide +kernel
theorem dL_areGains_202 : decode cL_areGains 202 = .ok (.iload 5, 2) := by decide +kernel
theorem dL_areGains_204 : decode cL_areGains 204 = .ok (.iconst 1, 1) := by decide +kernel
theorem dL_areGains_205 : decode cL_areGains 205 = .ok (.invokevirtual 33, 3) := by decide +kernel
theorem dL_areGains_208 : decode cL_areGains 208 = .ok (.lload 10, 2) := by decide +kernel
theorem dL_areGains_210 : decode cL_areGains 210 = .ok (.lconst 0, 1) := by decide +kernel
theorem dL_areGains_211 : decode cL_areGains 211 = .ok (.lcmp, 1) := by decide +kernel
theorem dL_areGains_212 : decode cL_areGains 212 = .ok (.ifCond .ne 7, 3) := by decide +kernel
theorem dL_areGains_215 : decode cL_areGains 215 = .ok (.lconst 0, 1) := by decide +kernel
theorem dL_areGains_216 : decode cL_areGains 216 = .ok (.goto 8, 3) := by decide +kernel
theorem dL_areGains_219 : decode cL_areGains 219 = .ok (.lload 10, 2) := by decide +kernel
theorem dL_areGains_221 : decode cL_areGains 221 = .ok (.lload 13, 2) := by decide +kernel
theorem dL_areGains_223 : decode cL_areGains 223 = .ok (.ldiv, 1) := by decide +kernel
theorem dL_areGains_224 : decode cL_areGains 224 = .ok (.lcmp, 1) := by decide +kernel
theorem dL_areGains_225 : decode cL_areGains 225 = .ok (.ifCond .ne 7, 3) := by decide +kernel
theorem dL_areGains_228 : decode cL_areGains 228 = .ok (.iconst 1, 1) := by decide +kernel
theorem dL_areGains_229 : decode cL_areGains 229 = .ok (.goto 4, 3) := by decide +kernel
theorem dL_areGains_232 : decode cL_areGains 232 = .ok (.iconst 0, 1) := by decide +kernel
theorem dL_areGains_233 : decode cL_areGains 233 = .ok (.istore 15, 2) := by decide +kernel
theorem dL_areGains_235 : decode cL_areGains 235 = .ok (.lload 8, 2) := by decide +kernel
theorem dL_areGains_237 : decode cL_areGains 237 = .ok (.lconst 0, 1) := by decide +kernel
theorem dL_areGains_238 : decode cL_areGains 238 = .ok (.lcmp, 1) := by decide +kernel
theorem dL_areGains_239 : decode cL_areGains 239 = .ok (.ifCond .ge 9, 3) := by decide +kernel
theorem dL_areGains_242 : decode cL_areGains 242 = .ok (.lload 8, 2) := by decide +kernel
theorem dL_areGains_244 : decode cL_areGains 244 = .ok (.lneg, 1) := by decide +kernel
theorem dL_areGains_245 : decode cL_areGains 245 = .ok (.goto 5, 3) := by decide +kernel
theorem dL_areGains_248 : decode cL_areGains 248 = .ok (.lload 8, 2) := by decide +kernel
theorem dL_areGains_250 : decode cL_areGains 250 = .ok (.lstore 16, 2) := by decide +kernel
theorem dL_areGains_252 : decode cL_areGains 252 = .ok (.lload 10, 2) := by decide +kernel
theorem dL_areGains_254 : decode cL_areGains 254 = .ok (.lconst 0, 1) := by decide +kernel
theorem dL_areGains_255 : decode cL_areGains 255 = .ok (.lcmp, 1) := by decide +kernel
theorem dL_areGains_256 : decode cL_areGains 256 = .ok (.ifCond .ge 9, 3) := by decide +kernel
theorem dL_areGains_259 : decode cL_areGains 259 = .ok (.lload 10, 2) := by decide +kernel
theorem dL_areGains_261 : decode cL_areGains 261 = .ok (.lneg, 1) := by decide +kernel
theorem dL_areGains_262 : decode cL_areGains 262 = .ok (.goto 5, 3) := by decide +kernel
theorem dL_areGains_265 : decode cL_areGains 265 = .ok (.lload 10, 2) := by decide +kernel
theorem dL_areGains_267 : decode cL_areGains 267 = .ok (.lstore 18, 2) := by decide +kernel
theorem dL_areGains_269 : decode cL_areGains 269 = .ok (.iload 5, 2) := by decide +kernel
theorem dL_areGains_271 : decode cL_areGains 271 = .ok (.iconst 2, 1) := by decide +kernel
theorem dL_areGains_272 : decode cL_areGains 272 = .ok (.if_icmp .ne 13, 3) := by decide +kernel
theorem dL_areGains_275 : decode cL_areGains 275 = .ok (.iload 6, 2) := by decide +kernel
theorem dL_areGains_277 : decode cL_areGains 277 = .ok (.i2l, 1) := by decide +kernel
theorem dL_areGains_278 : decode cL_areGains 278 = .ok (.iload 6, 2) := by decide +kernel
theorem dL_areGains_280 : decode cL_areGains 280 = .ok (.i2l, 1) := by decide +kernel
theorem dL_areGains_281 : decode cL_areGains 281 = .ok (.lmul, 1) := by decide +kernel
theorem dL_areGains_282 : decode cL_areGains 282 = .ok (.goto 6, 3) := by decide +kernel
theorem dL_areGains_285 : decode cL_areGains 285 = .ok (.iload 6, 2) := by decide +kernel
theorem dL_areGains_287 : decode cL_areGains 287 = .ok (.i2l, 1) := by decide +kernel
theorem dL_areGains_288 : decode cL_areGains 288 = .ok (.lstore 20, 2) := by decide +kernel
theorem dL_areGains_290 : decode cL_areGains 290 = .ok (.iload 5, 2) := by decide +kernel
theorem dL_areGains_292 : decode cL_areGains 292 = .ok (.iconst 2, 1) := by decide +kernel
theorem dL_areGains_293 : decode cL_areGains 293 = .ok (.if_icmp .ne 13, 3) := by decide +kernel
theorem dL_areGains_296 : decode cL_areGains 296 = .ok (.iload 7, 2) := by decide +kernel
theorem dL_areGains_298 : decode cL_areGains 298 = .ok (.i2l, 1) := by decide +kernel
theorem dL_areGains_299 : decode cL_areGains 299 = .ok (.iload 7, 2) := by decide +kernel
theorem dL_areGains_301 : decode cL_areGains 301 = .ok (.i2l, 1) := by decide +kernel
theorem dL_areGains_302 : decode cL_areGains 302 = .ok (.lmul, 1) := by decide +kernel
theorem dL_areGains_303 : decode cL_areGains 303 = .ok (.goto 6, 3) := by decide +kernel
theorem dL_areGains_306 : decode cL_areGains 306 = .ok (.iload 7, 2) := by decide +kernel
theorem dL_areGains_308 : decode cL_areGains 308 = .ok (.i2l, 1) := by decide +kernel
theorem dL_areGains_309 : decode cL_areGains 309 = .ok (.lstore 22, 2) := by decide +kernel
theorem dL_areGains_311 : decode cL_areGains 311 = .ok (.iload 5, 2) := by decide +kernel
theorem dL_areGains_313 : decode cL_areGains 313 = .ok (.iconst 2, 1) := by decide +kernel
theorem dL_areGains_314 : decode cL_areGains 314 = .ok (.if_icmp .ne 9, 3) := by decide +kernel
theorem dL_areGains_317 : decode cL_areGains 317 = .ok (.ldc2_w 38, 3) := by decide +kernel
theorem dL_areGains_320 : decode cL_areGains 320 = .ok (.goto 6, 3) := by decide +kernel
theorem dL_areGains_323 : decode cL_areGains 323 = .ok (.ldc2_w 40, 3) := by decide +kernel
theorem dL_areGains_326 : decode cL_areGains 326 = .ok (.lstore 24, 2) := by decide +kernel
theorem dL_areGains_328 : decode cL_areGains 328 = .ok (.iload 15, 2) := by decide +kernel
theorem dL_areGains_330 : decode cL_areGains 330 = .ok (.ifCond .eq 58, 3) := by decide +kernel
theorem dL_areGains_333 : decode cL_areGains 333 = .ok (.aload_n 0, 1) := by decide +kernel
theorem dL_areGains_334 : decode cL_areGains 334 = .ok (.iload 5, 2) := by decide +kernel
theorem dL_areGains_336 : decode cL_areGains 336 = .ok (.iload 6, 2) := by decide +kernel
theorem dL_areGains_338 : decode cL_areGains 338 = .ok (.iload 7, 2) := by decide +kernel
theorem dL_areGains_340 : decode cL_areGains 340 = .ok (.invokevirtual 42, 3) := by decide +kernel
theorem dL_areGains_343 : decode cL_areGains 343 = .ok (.iload 12, 2) := by decide +kernel
theorem dL_areGains_345 : decode cL_areGains 345 = .ok (.ifCond .eq 35, 3) := by decide +kernel
theorem dL_areGains_348 : decode cL_areGains 348 = .ok (.lload 16, 2) := by decide +kernel
theorem dL_areGains_350 : decode cL_areGains 350 = .ok (.lload 24, 2) := by decide +kernel
theorem dL_areGains_352 : decode cL_areGains 352 = .ok (.lmul, 1) := by decide +kernel
theorem dL_areGains_353 : decode cL_areGains 353 = .ok (.lload 20, 2) := by decide +kernel
theorem dL_areGains_355 : decode cL_areGains 355 = .ok (.lload 18, 2) := by decide +kernel
theorem dL_areGains_357 : decode cL_areGains 357 = .ok (.lmul, 1) := by decide +kernel
theorem dL_areGains_358 : decode cL_areGains 358 = .ok (.lcmp, 1) := by decide +kernel
theorem dL_areGains_359 : decode cL_areGains 359 = .ok (.ifCond .lt 21, 3) := by decide +kernel
theorem dL_areGains_362 : decode cL_areGains 362 = .ok (.lload 16, 2) := by decide +kernel
theorem dL_areGains_364 : decode cL_areGains 364 = .ok (.lload 24, 2) := by decide +kernel
theorem dL_areGains_366 : decode cL_areGains 366 = .ok (.lmul, 1) := by decide +kernel
theorem dL_areGains_367 : decode cL_areGains 367 = .ok (.lload 22, 2) := by decide +kernel
theorem dL_areGains_369 : decode cL_areGains 369 = .ok (.lload 18, 2) := by decide +kernel
theorem dL_areGains_371 : decode cL_areGains 371 = .ok (.lmul, 1) := by decide +kernel
theorem dL_areGains_372 : decode cL_areGains 372 = .ok (.lcmp, 1) := by decide +kernel
theorem dL_areGains_373 : decode cL_areGains 373 = .ok (.ifCond .gt 7, 3) := by decide +kernel
theorem dL_areGains_376 : decode cL_areGains 376 = .ok (.iconst 1, 1) := by decide +kernel
theorem dL_areGains_377 : decode cL_areGains 377 = .ok (.goto 4, 3) := by decide +kernel
theorem dL_areGains_380 : decode cL_areGains 380 = .ok (.iconst 0, 1) := by decide +kernel
theorem dL_areGains_381 : decode cL_areGains 381 = .ok (.if_icmp .ne 7, 3) := by decide +kernel
theorem dL_areGains_384 : decode cL_areGains 384 = .ok (.iconst 1, 1) := by decide +kernel
theorem dL_areGains_385 : decode cL_areGains 385 = .ok (.goto 4, 3) := by decide +kernel
theorem dL_areGains_388 : decode cL_areGains 388 = .ok (.iconst 0, 1) := by decide +kernel
theorem dL_areGains_389 : decode cL_areGains 389 = .ok (.ireturn, 1) := by decide +kernel
theorem dL_areCycles_0 : decode cL_areCycles 0 = .ok (.bipush 25, 2) := by decide +kernel
theorem dL_areCycles_2 : decode cL_areCycles 2 = .ok (.newarray .int, 2) := by decide +kernel
theorem dL_areCycles_4 : decode cL_areCycles 4 = .ok (.astore 5, 2) := by decide +kernel
theorem dL_areCycles_6 : decode cL_areCycles 6 = .ok (.iconst 0, 1) := by decide +kernel
theorem dL_areCycles_7 : decode cL_areCycles 7 = .ok (.istore 6, 2) := by decide +kernel
theorem dL_areCycles_9 : decode cL_areCycles 9 = .ok (.iconst 0, 1) := by decide +kernel
theorem dL_areCycles_10 : decode cL_areCycles 10 = .ok (.istore 7, 2) := by decide +kernel
theorem dL_areCycles_12 : decode cL_areCycles 12 = .ok (.iconst 0, 1) := by decide +kernel
theorem dL_areCycles_13 : decode cL_areCycles 13 = .ok (.istore 8, 2) := by decide +kernel
theorem dL_areCycles_15 : decode cL_areCycles 15 = .ok (.iconst 0, 1) := by decide +kernel
theorem dL_areCycles_16 : decode cL_areCycles 16 = .ok (.istore 9, 2) := by decide +kernel
theorem dL_areCycles_18 : decode cL_areCycles 18 = .ok (.iconst 0, 1) := by decide +kernel
theorem dL_areCycles_19 : decode cL_areCycles 19 = .ok (.istore 10, 2) := by decide +kernel
theorem dL_areCycles_21 : decode cL_areCycles 21 = .ok (.iload 10, 2) := by decide +kernel
theorem dL_areCycles_23 : decode cL_areCycles 23 = .ok (.iconst 2, 1) := by decide +kernel
theorem dL_areCycles_24 : decode cL_areCycles 24 = .ok (.iload_n 3, 1) := by decide +kernel
theorem dL_areCycles_25 : decode cL_areCycles 25 = .ok (.imul, 1) := by decide +kernel
theorem dL_areCycles_26 : decode cL_areCycles 26 = .ok (.iconst 1, 1) := by decide +kernel
theorem dL_areCycles_27 : decode cL_areCycles 27 = .ok (.iadd, 1) := by decide +kernel
theorem dL_areCycles_28 : decode cL_areCycles 28 = .ok (.iconst 2, 1) := by decide +kernel
theorem dL_areCycles_29 : decode cL_areCycles 29 = .ok (.iload_n 3, 1) := by decide +kernel
theorem dL_areCycles_30 : decode cL_areCycles 30 = .ok (.imul, 1) := by decide +kernel
theorem dL_areCycles_31 : decode cL_areCycles 31 = .ok (.iconst 1, 1) := by decide +kernel
theorem dL_areCycles_32 : decode cL_areCycles 32 = .ok (.iadd, 1) := by decide +kernel
theorem dL_areCycles_33 : decode cL_areCycles 33 = .ok (.imul, 1) := by decide +kernel
theorem dL_areCycles_34 : decode cL_areCycles 34 = .ok (.if_icmp .ge 237, 3) := by decide +kernel
theorem dL_areCycles_37 : decode cL_areCycles 37 = .ok (.sipush 1000, 3) := by decide +kernel
theorem dL_areCycles_40 : decode cL_areCycles 40 = .ok (.iload 10, 2) := by decide +kernel
theorem dL_areCycles_42 : decode cL_areCycles 42 = .ok (.iconst 2, 1) := by decide +kernel
theorem dL_areCycles_43 : decode cL_areCycles 43 = .ok (.iload_n 3, 1) := by decide +kernel
theorem dL_areCycles_44 : decode cL_areCycles 44 = .ok (.imul, 1) := by decide +kernel
theorem dL_areCycles_45 : decode cL_areCycles 45 = .ok (.iconst 1, 1) := by decide +kernel
theorem dL_areCycles_46 : decode cL_areCycles 46 = .ok (.iadd, 1) := by decide +kernel
theorem dL_areCycles_47 : decode cL_areCycles 47 = .ok (.idiv, 1) := by decide +kernel
theorem dL_areCycles_48 : decode cL_areCycles 48 = .ok (.iload_n 3, 1) := by decide +kernel
theorem dL_areCycles_49 : decode cL_areCycles 49 = .ok (.isub, 1) := by decide +kernel
theorem dL_areCycles_50 : decode cL_areCycles 50 = .ok (.sipush 500, 3) := by decide +kernel
theorem dL_areCycles_53 : decode cL_areCycles 53 = .ok (.iadd, 1) := by decide +kernel
theorem dL_areCycles_54 : decode cL_areCycles 54 = .ok (.imul, 1) := by decide +kernel
theorem dL_areCycles_55 : decode cL_areCycles 55 = .ok (.iload 10, 2) := by decide +kernel
theorem dL_areCycles_57 : decode cL_areCycles 57 = .ok (.iconst 2, 1) := by decide +kernel
theorem dL_areCycles_58 : decode cL_areCycles 58 = .ok (.iload_n 3, 1) := by decide +kernel
theorem dL_areCycles_59 : decode cL_areCycles 59 = .ok (.imul, 1) := by decide +kernel
theorem dL_areCycles_60 : decode cL_areCycles 60 = .ok (.iconst 1, 1) := by decide +kernel
theorem dL_areCycles_61 : decode cL_areCycles 61 = .ok (.iadd, 1) := by decide +kernel
theorem dL_areCycles_62 : decode cL_areCycles 62 = .ok (.irem, 1) := by decide +kernel
theorem dL_areCycles_63 : decode cL_areCycles 63 = .ok (.iadd, 1) := by decide +kernel
theorem dL_areCycles_64 : decode cL_areCycles 64 = .ok (.iload_n 3, 1) := by decide +kernel
theorem dL_areCycles_65 : decode cL_areCycles 65 = .ok (.isub, 1) := by decide +kernel
theorem dL_areCycles_66 : decode cL_areCycles 66 = .ok (.sipush 500, 3) := by decide +kernel
theorem dL_areCycles_69 : decode cL_areCycles 69 = .ok (.iadd, 1) := by decide +kernel
theorem dL_areCycles_70 : decode cL_areCycles 70 = .ok (.istore 11, 2) := by decide +kernel
theorem dL_areCycles_72 : decode cL_areCycles 72 = .ok (.aload_n 1, 1) := by decide +kernel
theorem dL_areCycles_73 : decode cL_areCycles 73 = .ok (.bipush 10, 2) := by decide +kernel
theorem dL_areCycles_75 : decode cL_areCycles 75 = .ok (.iload_n 2, 1) := by decide +kernel
theorem dL_areCycles_76 : decode cL_areCycles 76 = .ok (.imul, 1) := by decide +kernel
theorem dL_areCycles_77 : decode cL_areCycles 77 = .ok (.iload 11, 2) := by decide +kernel
theorem dL_areCycles_79 : decode cL_areCycles 79 = .ok (.invokestatic 49, 3) := by decide +kernel
theorem dL_areCycles_82 : decode cL_areCycles 82 = .ok (.istore 12, 2) := by decide +kernel
theorem dL_areCycles_84 : decode cL_areCycles 84 = .ok (.iload 7, 2) := by decide +kernel
theorem dL_areCycles_86 : decode cL_areCycles 86 = .ok (.iload 12, 2) := by decide +kernel
theorem dL_areCycles_88 : decode cL_areCycles 88 = .ok (.ifCond .ge 7, 3) := by decide +kernel
theorem dL_areCycles_91 : decode cL_areCycles 91 = .ok (.iconst 1, 1) := by decide +kernel
theorem dL_areCycles_92 : decode cL_areCycles 92 = .ok (.goto 4, 3) := by decide +kernel
theorem dL_areCycles_95 : decode cL_areCycles 95 = .ok (.iconst 0, 1) := by decide +kernel
theorem dL_areCycles_96 : decode cL_areCycles 96 = .ok (.iadd, 1) := by decide +kernel
theorem dL_areCycles_97 : decode cL_areCycles 97 = .ok (.istore 7, 2) := by decide +kernel
theorem dL_areCycles_99 : decode cL_areCycles 99 = .ok (.iload 12, 2) := by decide +kernel
theorem dL_areCycles_101 : decode cL_areCycles 101 = .ok (.ifCond .lt 10, 3) := by decide +kernel
theorem dL_areCycles_104 : decode cL_areCycles 104 = .ok (.iload 12, 2) := by decide +kernel
theorem dL_areCycles_106 : decode cL_areCycles 106 = .ok (.ldc 52, 2) := by decide +kernel
theorem dL_areCycles_108 : decode cL_areCycles 108 = .ok (.if_icmp .ne 7, 3) := by decide +kernel
theorem dL_areCycles_111 : decode cL_areCycles 111 = .ok (.iconst 1, 1) := by decide +kernel
theorem dL_areCycles_112 : decode cL_areCycles 112 = .ok (.goto 4, 3) := by decide +kernel
theorem dL_areCycles_115 : decode cL_areCycles 115 = .ok (.iconst 0, 1) := by decide +kernel
theorem dL_areCycles_116 : decode cL_areCycles 116 = .ok (.istore 13, 2) := by decide +kernel
theorem dL_areCycles_118 : decode cL_areCycles 118 = .ok (.iconst 0, 1) := by decide +kernel
theorem dL_areCycles_119 : decode cL_areCycles 119 = .ok (.istore 14, 2) := by decide +kernel
theorem dL_areCycles_121 : decode cL_areCycles 121 = .ok (.iload 14, 2) := by decide +kernel
theorem dL_areCycles_123 : decode cL_areCycles 123 = .ok (.iload 6, 2) := by decide +kernel
theorem dL_areCycles_125 : decode cL_areCycles 125 = .ok (.if_icmp .ge 31, 3) := by decide +kernel
theorem dL_areCycles_128 : decode cL_areCycles 128 = .ok (.iload 13, 2) := by decide +kernel
theorem dL_areCycles_130 : decode cL_areCycles 130 = .ok (.ifCond .ne 13, 3) := by decide +kernel
theorem dL_areCycles_133 : decode cL_areCycles 133 = .ok (.aload 5, 2) := by decide +kernel
theorem dL_areCycles_135 : decode cL_areCycles 135 = .ok (.iload 14, 2) := by decide +kernel
theorem dL_areCycles_137 : decode cL_areCycles 137 = .ok (.iaload, 1) := by decide +kernel
theorem dL_areCycles_138 : decode cL_areCycles 138 = .ok (.iload 12, 2) := by decide +kernel
theorem dL_areCycles_140 : decode cL_areCycles 140 = .ok (.if_icmp .ne 7, 3) := by decide +kernel
theorem dL_areCycles_143 : decode cL_areCycles 143 = .ok (.iconst 1, 1) := by decide +kernel
theorem dL_areCycles_144 : decode cL_areCycles 144 = .ok (.goto 4, 3) := by decide +kernel
theorem dL_areCycles_147 : decode cL_areCycles 147 = .ok (.iconst 0, 1) := by decide +kernel
theorem dL_areCycles_148 : decode cL_areCycles 148 = .ok (.istore 13, 2) := by decide +kernel
theorem dL_areCycles_150 : decode cL_areCycles 150 = .ok (.iinc 14 1, 3) := by decide +kernel
theorem dL_areCycles_153 : decode cL_areCycles 153 = .ok (.goto (-32), 3) := by decide +kernel
theorem dL_areCycles_156 : decode cL_areCycles 156 = .ok (.iload 13, 2) := by decide +kernel
theorem dL_areCycles_158 : decode cL_areCycles 158 = .ok (.ifCond .ne 107, 3) := by decide +kernel
theorem dL_areCycles_161 : decode cL_areCycles 161 = .ok (.aload 5, 2) := by decide +kernel
theorem dL_areCycles_163 : decode cL_areCycles 163 = .ok (.iload 6, 2) := by decide +kernel
theorem dL_areCycles_165 : decode cL_areCycles 165 = .ok (.iload 12, 2) := by decide +kernel
theorem dL_areCycles_167 : decode cL_areCycles 167 = .ok (.iastore, 1) := by decide +kernel
theorem dL_areCycles_168 : decode cL_areCycles 168 = .ok (.iinc 6 1, 3) := by decide +kernel
theorem dL_areCycles_171 : decode cL_areCycles 171 = .ok (.iconst 0, 1) := by decide +kernel
theorem dL_areCycles_172 : decode cL_areCycles 172 = .ok (.istore 14, 2) := by decide +kernel
theorem dL_areCycles_174 : decode cL_areCycles 174 = .ok (.iload 12, 2) := by decide +kernel
theorem dL_areCycles_176 : decode cL_areCycles 176 = .ok (.istore 15, 2) := by decide +kernel
theorem dL_areCycles_178 : decode cL_areCycles 178 = .ok (.iconst 1, 1) := by decide +kernel
theorem dL_areCycles_179 : decode cL_areCycles 179 = .ok (.istore 16, 2) := by decide +kernel
theorem dL_areCycles_181 : decode cL_areCycles 181 = .ok (.iload 16, 2) := by decide +kernel
theorem dL_areCycles_183 : decode cL_areCycles 183 = .ok (.ifCond .eq 66, 3) := by decide +kernel
theorem dL_areCycles_186 : decode cL_areCycles 186 = .ok (.iload 15, 2) := by decide +kernel
theorem dL_areCycles_188 : decode cL_areCycles 188 = .ok (.sipush 1000, 3) := by decide +kernel
theorem dL_areCycles_191 : decode cL_areCycles 191 = .ok (.idiv, 1) := by decide +kernel
theorem dL_areCycles_192 : decode cL_areCycles 192 = .ok (.sipush 500, 3) := by decide +kernel
theorem dL_areCycles_195 : decode cL_areCycles 195 = .ok (.isub, 1) := by decide +kernel
theorem dL_areCycles_196 : decode cL_areCycles 196 = .ok (.invokestatic 15, 3) := by decide +kernel
theorem dL_areCycles_199 : decode cL_areCycles 199 = .ok (.istore 17, 2) := by decide +kernel
theorem dL_areCycles_201 : decode cL_areCycles 201 = .ok (.iload 17, 2) := by decide +kernel
theorem dL_areCycles_203 : decode cL_areCycles 203 = .ok (.iload 9, 2) := by decide +kernel
theorem dL_areCycles_205 : decode cL_areCycles 205 = .ok (.if_icmp .le 8, 3) := by decide +kernel
theorem dL_areCycles_208 : decode cL_areCycles 208 = .ok (.iload 17, 2) := by decide +kernel
theorem dL_areCycles_210 : decode cL_areCycles 210 = .ok (.goto 5, 3) := by decide +kernel
theorem dL_areCycles_213 : decode cL_areCycles 213 = .ok (.iload 9, 2) := by decide +kernel
theorem dL_areCycles_215 : decode cL_areCycles 215 = .ok (.istore 9, 2) := by decide +kernel
theorem dL_areCycles_217 : decode cL_areCycles 217 = .ok (.iinc 14 1, 3) := by decide +kernel
theorem dL_areCycles_220 : decode cL_areCycles 220 = .ok (.aload_n 1, 1) := by decide +kernel
theorem dL_areCycles_221 : decode cL_areCycles 221 = .ok (.bipush 10, 2) := by decide +kernel
theorem dL_areCycles_223 : decode cL_areCycles 223 = .ok (.iload_n 2, 1) := by decide +kernel
theorem dL_areCycles_224 : decode cL_areCycles 224 = .ok (.imul, 1) := by decide +kernel
theorem dL_areCycles_225 : decode cL_areCycles 225 = .ok (.iload 15, 2) := by decide +kernel
theorem dL_areCycles_227 : decode cL_areCycles 227 = .ok (.invokestatic 46, 3) := by decide +kernel
theorem dL_areCycles_230 : decode cL_areCycles 230 = .ok (.istore 15, 2) := by decide +kernel
theorem dL_areCycles_232 : decode cL_areCycles 232 = .ok (.iload 15, 2) := by decide +kernel
theorem dL_areCycles_234 : decode cL_areCycles 234 = .ok (.iload 12, 2) := by decide +kernel
theorem dL_areCycles_236 : decode cL_areCycles 236 = .ok (.if_icmp .eq 7, 3) := by decide +kernel
theorem dL_areCycles_239 : decode cL_areCycles 239 = .ok (.iconst 1, 1) := by decide +kernel
theorem dL_areCycles_240 : decode cL_areCycles 240 = .ok (.goto 4, 3) := by decide +kernel
theorem dL_areCycles_243 : decode cL_areCycles 243 = .ok (.iconst 0, 1) := by decide +kernel
theorem dL_areCycles_244 : decode cL_areCycles 244 = .ok (.istore 16, 2) := by decide +kernel
theorem dL_areCycles_246 : decode cL_areCycles 246 = .ok (.goto (-65), 3) := by decide +kernel
theorem dL_areCycles_249 : decode cL_areCycles 249 = .ok (.iload 14, 2) := by decide +kernel
theorem dL_areCycles_251 : decode cL_areCycles 251 = .ok (.iload 8, 2) := by decide +kernel
theorem dL_areCycles_253 : decode cL_areCycles 253 = .ok (.if_icmp .le 8, 3) := by decide +kernel
theorem dL_areCycles_256 : decode cL_areCycles 256 = .ok (.iload 14, 2) := by decide +kernel
theorem dL_areCycles_258 : decode cL_areCycles 258 = .ok (.goto 5, 3) := by decide +kernel
theorem dL_areCycles_261 : decode cL_areCycles 261 = .ok (.iload 8, 2) := by decide +kernel
theorem dL_areCycles_263 : decode cL_areCycles 263 = .ok (.istore 8, 2) := by decide +kernel
theorem dL_areCycles_265 : decode cL_areCycles 265 = .ok (.iinc 10 1, 3) := by decide +kernel
theorem dL_areCycles_268 : decode cL_areCycles 268 = .ok (.goto (-247), 3) := by decide +kernel
theorem dL_areCycles_271 : decode cL_areCycles 271 = .ok (.aload_n 0, 1) := by decide +kernel
theorem dL_areCycles_272 : decode cL_areCycles 272 = .ok (.iload_n 2, 1) := by decide +kernel
theorem dL_areCycles_273 : decode cL_areCycles 273 = .ok (.iload_n 3, 1) := by decide +kernel
theorem dL_areCycles_274 : decode cL_areCycles 274 = .ok (.iload 4, 2) := by decide +kernel
theorem dL_areCycles_276 : decode cL_areCycles 276 = .ok (.invokevirtual 53, 3) := by decide +kernel
theorem dL_areCycles_279 : decode cL_areCycles 279 = .ok (.iload 4, 2) := by decide +kernel
theorem dL_areCycles_281 : decode cL_areCycles 281 = .ok (.ifCond .ne 8, 3) := by decide +kernel
theorem dL_areCycles_284 : decode cL_areCycles 284 = .ok (.iload 6, 2) := by decide +kernel
theorem dL_areCycles_286 : decode cL_areCycles 286 = .ok (.goto 27, 3) := by decide +kernel
theorem dL_areCycles_289 : decode cL_areCycles 289 = .ok (.iload 4, 2) := by decide +kernel
theorem dL_areCycles_291 : decode cL_areCycles 291 = .ok (.iconst 1, 1) := by decide +kernel
theorem dL_areCycles_292 : decode cL_areCycles 292 = .ok (.if_icmp .ne 8, 3) := by decide +kernel
theorem dL_areCycles_295 : decode cL_areCycles 295 = .ok (.iload 8, 2) := by decide +kernel
theorem dL_areCycles_297 : decode cL_areCycles 297 = .ok (.goto 16, 3) := by decide +kernel
theorem dL_areCycles_300 : decode cL_areCycles 300 = .ok (.iload 4, 2) := by decide +kernel
theorem dL_areCycles_302 : decode cL_areCycles 302 = .ok (.iconst 2, 1) := by decide +kernel
theorem dL_areCycles_303 : decode cL_areCycles 303 = .ok (.if_icmp .ne 8, 3) := by decide +kernel
theorem dL_areCycles_306 : decode cL_areCycles 306 = .ok (.iload 9, 2) := by decide +kernel
theorem dL_areCycles_308 : decode cL_areCycles 308 = .ok (.goto 5, 3) := by decide +kernel
theorem dL_areCycles_311 : decode cL_areCycles 311 = .ok (.iload 7, 2) := by decide +kernel
theorem dL_areCycles_313 : decode cL_areCycles 313 = .ok (.if_icmp .ne 7, 3) := by decide +kernel
theorem dL_areCycles_316 : decode cL_areCycles 316 = .ok (.iconst 1, 1) := by decide +kernel
theorem dL_areCycles_317 : decode cL_areCycles 317 = .ok (.goto 4, 3) := by decide +kernel
theorem dL_areCycles_320 : decode cL_areCycles 320 = .ok (.iconst 0, 1) := by decide +kernel
theorem dL_areCycles_321 : decode cL_areCycles 321 = .ok (.ireturn, 1) := by decide +kernel
theorem dL_isSame_0 : decode cL_isSame 0 = .ok (.aload_n 0, 1) := by decide +kernel
theorem dL_isSame_1 : decode cL_isSame 1 = .ok (.iload 7, 2) := by decide +kernel
theorem dL_isSame_3 : decode cL_isSame 3 = .ok (.bipush 17, 2) := by decide +kernel
theorem dL_isSame_5 : decode cL_isSame 5 = .ok (.irem, 1) := by decide +kernel
theorem dL_isSame_6 : decode cL_isSame 6 = .ok (.invokevirtual 68, 3) := by decide +kernel
theorem dL_isSame_9 : decode cL_isSame 9 = .ok (.iload 7, 2) := by decide +kernel
theorem dL_isSame_11 : decode cL_isSame 11 = .ok (.bipush 17, 2) := by decide +kernel
theorem dL_isSame_13 : decode cL_isSame 13 = .ok (.irem, 1) := by decide +kernel
theorem dL_isSame_14 : decode cL_isSame 14 = .ok (.aload 6, 2) := by decide +kernel
theorem dL_isSame_16 : decode cL_isSame 16 = .ok (.iconst 2, 1) := by decide +kernel
theorem dL_isSame_17 : decode cL_isSame 17 = .ok (.iaload, 1) := by decide +kernel
theorem dL_isSame_18 : decode cL_isSame 18 = .ok (.if_icmp .ge 13, 3) := by decide +kernel
theorem dL_isSame_21 : decode cL_isSame 21 = .ok (.aload_n 3, 1) := by decide +kernel
theorem dL_isSame_22 : decode cL_isSame 22 = .ok (.iload 7, 2) := by decide +kernel
theorem dL_isSame_24 : decode cL_isSame 24 = .ok (.bipush 17, 2) := by decide +kernel
theorem dL_isSame_26 : decode cL_isSame 26 = .ok (.irem, 1) := by decide +kernel
theorem dL_isSame_27 : decode cL_isSame 27 = .ok (.iaload, 1) := by decide +kernel
theorem dL_isSame_28 : decode cL_isSame 28 = .ok (.goto 4, 3) := by decide +kernel
theorem dL_isSame_31 : decode cL_isSame 31 = .ok (.iconst 0, 1) := by decide +kernel
theorem dL_isSame_32 : decode cL_isSame 32 = .ok (.if_icmp .ne 123, 3) := by decide +kernel
theorem dL_isSame_35 : decode cL_isSame 35 = .ok (.aload_n 0, 1) := by decide +kernel
theorem dL_isSame_36 : decode cL_isSame 36 = .ok (.iload 7, 2) := by decide +kernel
theorem dL_isSame_38 : decode cL_isSame 38 = .ok (.bipush 17, 2) := by decide +kernel
theorem dL_isSame_40 : decode cL_isSame 40 = .ok (.idiv, 1) := by decide +kernel
theorem dL_isSame_41 : decode cL_isSame 41 = .ok (.bipush 32, 2) := by decide +kernel
theorem dL_isSame_43 : decode cL_isSame 43 = .ok (.irem, 1) := by decide +kernel
theorem dL_isSame_44 : decode cL_isSame 44 = .ok (.invokevirtual 70, 3) := by decide +kernel
theorem dL_isSame_47 : decode cL_isSame 47 = .ok (.aload 4, 2) := by decide +kernel
theorem dL_isSame_49 : decode cL_isSame 49 = .ok (.iload 7, 2) := by decide +kernel
theorem dL_isSame_51 : decode cL_isSame 51 = .ok (.bipush 17, 2) := by decide +kernel
theorem dL_isSame_53 : decode cL_isSame 53 = .ok (.idiv, 1) := by decide +kernel
theorem dL_isSame_54 : decode cL_isSame 54 = .ok (.bipush 32, 2) := by decide +kernel
theorem dL_isSame_56 : decode cL_isSame 56 = .ok (.irem, 1) := by decide +kernel
theorem dL_isSame_57 : decode cL_isSame 57 = .ok (.iaload, 1) := by decide +kernel
theorem dL_isSame_58 : decode cL_isSame 58 = .ok (.if_icmp .ne 97, 3) := by decide +kernel
theorem dL_isSame_61 : decode cL_isSame 61 = .ok (.aload_n 0, 1) := by decide +kernel
theorem dL_isSame_62 : decode cL_isSame 62 = .ok (.iload 7, 2) := by decide +kernel
theorem dL_isSame_64 : decode cL_isSame 64 = .ok (.sipush 544, 3) := by decide +kernel
theorem dL_isSame_67 : decode cL_isSame 67 = .ok (.idiv, 1) := by decide +kernel
theorem dL_isSame_68 : decode cL_isSame 68 = .ok (.bipush 40, 2) := by decide +kernel
theorem dL_isSame_70 : decode cL_isSame 70 = .ok (.irem, 1) := by decide +kernel
theorem dL_isSame_71 : decode cL_isSame 71 = .ok (.invokevirtual 73, 3) := by decide +kernel
theorem dL_isSame_74 : decode cL_isSame 74 = .ok (.aload 4, 2) := by decide +kernel
theorem dL_isSame_76 : decode cL_isSame 76 = .ok (.aload 5, 2) := by decide +kernel
theorem dL_isSame_78 : decode cL_isSame 78 = .ok (.aload 6, 2) := by decide +kernel
theorem dL_isSame_80 : decode cL_isSame 80 = .ok (.iload 7, 2) := by decide +kernel
theorem dL_isSame_82 : decode cL_isSame 82 = .ok (.sipush 544, 3) := by decide +kernel
theorem dL_isSame_85 : decode cL_isSame 85 = .ok (.idiv, 1) := by decide +kernel
theorem dL_isSame_86 : decode cL_isSame 86 = .ok (.bipush 40, 2) := by decide +kernel
theorem dL_isSame_88 : decode cL_isSame 88 = .ok (.irem, 1) := by decide +kernel
theorem dL_isSame_89 : decode cL_isSame 89 = .ok (.invokestatic 76, 3) := by decide +kernel
theorem dL_isSame_92 : decode cL_isSame 92 = .ok (.if_icmp .ne 63, 3) := by decide +kernel
theorem dL_isSame_95 : decode cL_isSame 95 = .ok (.aload_n 0, 1) := by decide +kernel
theorem dL_isSame_96 : decode cL_isSame 96 = .ok (.iload 7, 2) := by decide +kernel
theorem dL_isSame_98 : decode cL_isSame 98 = .ok (.bipush 9, 2) := by decide +kernel
theorem dL_isSame_100 : decode cL_isSame 100 = .ok (.idiv, 1) := by decide +kernel
theorem dL_isSame_101 : decode cL_isSame 101 = .ok (.bipush 32, 2) := by decide +kernel
theorem dL_isSame_103 : decode cL_isSame 103 = .ok (.irem, 1) := by decide +kernel
theorem dL_isSame_104 : decode cL_isSame 104 = .ok (.invokevirtual 79, 3) := by decide +kernel
theorem dL_isSame_107 : decode cL_isSame 107 = .ok (.aload 4, 2) := by decide +kernel
theorem dL_isSame_109 : decode cL_isSame 109 = .ok (.iload 7, 2) := by decide +kernel
theorem dL_isSame_111 : decode cL_isSame 111 = .ok (.bipush 9, 2) := by decide +kernel
theorem dL_isSame_113 : decode cL_isSame 113 = .ok (.idiv, 1) := by decide +kernel
theorem dL_isSame_114 : decode cL_isSame 114 = .ok (.bipush 32, 2) := by decide +kernel
theorem dL_isSame_116 : decode cL_isSame 116 = .ok (.irem, 1) := by decide +kernel
theorem dL_isSame_117 : decode cL_isSame 117 = .ok (.invokestatic 64, 3) := by decide +kernel
theorem dL_isSame_120 : decode cL_isSame 120 = .ok (.if_icmp .ne 35, 3) := by decide +kernel
theorem dL_isSame_123 : decode cL_isSame 123 = .ok (.aload_n 0, 1) := by decide +kernel
theorem dL_isSame_124 : decode cL_isSame 124 = .ok (.iload 7, 2) := by decide +kernel
theorem dL_isSame_126 : decode cL_isSame 126 = .ok (.bipush 11, 2) := by decide +kernel
theorem dL_isSame_128 : decode cL_isSame 128 = .ok (.idiv, 1) := by decide +kernel
theorem dL_isSame_129 : decode cL_isSame 129 = .ok (.bipush 32, 2) := by decide +kernel
theorem dL_isSame_131 : decode cL_isSame 131 = .ok (.irem, 1) := by decide +kernel
theorem dL_isSame_132 : decode cL_isSame 132 = .ok (.invokevirtual 81, 3) := by decide +kernel
theorem dL_isSame_135 : decode cL_isSame 135 = .ok (.aload 4, 2) := by decide +kernel
theorem dL_isSame_137 : decode cL_isSame 137 = .ok (.iload 7, 2) := by decide +kernel
theorem dL_isSame_139 : decode cL_isSame 139 = .ok (.bipush 11, 2) := by decide +kernel
theorem dL_isSame_141 : decode cL_isSame 141 = .ok (.idiv, 1) := by decide +kernel
theorem dL_isSame_142 : decode cL_isSame 142 = .ok (.bipush 32, 2) := by decide +kernel
theorem dL_isSame_144 : decode cL_isSame 144 = .ok (.irem, 1) := by decide +kernel
theorem dL_isSame_145 : decode cL_isSame 145 = .ok (.invokestatic 64, 3) := by decide +kernel
theorem dL_isSame_148 : decode cL_isSame 148 = .ok (.if_icmp .ne 7, 3) := by decide +kernel
theorem dL_isSame_151 : decode cL_isSame 151 = .ok (.iconst 1, 1) := by decide +kernel
theorem dL_isSame_152 : decode cL_isSame 152 = .ok (.goto 4, 3) := by decide +kernel
theorem dL_isSame_155 : decode cL_isSame 155 = .ok (.iconst 0, 1) := by decide +kernel
theorem dL_isSame_156 : decode cL_isSame 156 = .ok (.istore 8, 2) := by decide +kernel
theorem dL_isSame_158 : decode cL_isSame 158 = .ok (.aload 6, 2) := by decide +kernel
theorem dL_isSame_160 : decode cL_isSame 160 = .ok (.iconst 0, 1) := by decide +kernel
theorem dL_isSame_161 : decode cL_isSame 161 = .ok (.iaload, 1) := by decide +kernel
theorem dL_isSame_162 : decode cL_isSame 162 = .ok (.ifCond .le 215, 3) := by decide +kernel
theorem dL_isSame_165 : decode cL_isSame 165 = .ok (.iload 8, 2) := by decide +kernel
theorem dL_isSame_167 : decode cL_isSame 167 = .ok (.ifCond .eq 210, 3) := by decide +kernel
theorem dL_isSame_170 : decode cL_isSame 170 = .ok (.iload 7, 2) := by decide +kernel
theorem dL_isSame_172 : decode cL_isSame 172 = .ok (.aload 6, 2) := by decide +kernel
theorem dL_isSame_174 : decode cL_isSame 174 = .ok (.iconst 0, 1) := by decide +kernel
theorem dL_isSame_175 : decode cL_isSame 175 = .ok (.iaload, 1) := by decide +kernel
theorem dL_isSame_176 : decode cL_isSame 176 = .ok (.irem, 1) := by decide +kernel
theorem dL_isSame_177 : decode cL_isSame 177 = .ok (.istore 9, 2) := by decide +kernel
theorem dL_isSame_179 : decode cL_isSame 179 = .ok (.iconst (-1), 1) := by decide +kernel
theorem dL_isSame_180 : decode cL_isSame 180 = .ok (.istore 10, 2) := by decide +kernel
theorem dL_isSame_182 : decode cL_isSame 182 = .ok (.iconst 0, 1) := by decide +kernel
theorem dL_isSame_183 : decode cL_isSame 183 = .ok (.istore 11, 2) := by decide +kernel
theorem dL_isSame_185 : decode cL_isSame 185 = .ok (.iload 11, 2) := by decide +kernel
theorem dL_isSame_187 : decode cL_isSame 187 = .ok (.aload 6, 2) := by decide +kernel
theorem dL_isSame_189 : decode cL_isSame 189 = .ok (.iconst 1, 1) := by decide +kernel
theorem dL_isSame_190 : decode cL_isSame 190 = .ok (.iaload, 1) := by decide +kernel
theorem dL_isSame_191 : decode cL_isSame 191 = .ok (.if_icmp .ge 27, 3) := by decide +kernel
theorem dL_isSame_194 : decode cL_isSame 194 = .ok (.aload_n 2, 1) := by decide +kernel
theorem dL_isSame_195 : decode cL_isSame 195 = .ok (.iload 11, 2) := by decide +kernel
theorem dL_isSame_197 : decode cL_isSame 197 = .ok (.iaload, 1) := by decide +kernel
theorem dL_isSame_198 : decode cL_isSame 198 = .ok (.iload 9, 2) := by decide +kernel
theorem dL_isSame_200 : decode cL_isSame 200 = .ok (.if_icmp .ne 8, 3) := by decide +kernel
theorem dL_isSame_203 : decode cL_isSame 203 = .ok (.iload 11, 2) := by decide +kernel
theorem dL_isSame_205 : decode cL_isSame 205 = .ok (.goto 5, 3) := by decide +kernel
theorem dL_isSame_208 : decode cL_isSame 208 = .ok (.iload 10, 2) := by decide +kernel
theorem dL_isSame_210 : decode cL_isSame 210 = .ok (.istore 10, 2) := by decide +kernel
theorem dL_isSame_212 : decode cL_isSame 212 = .ok (.iinc 11 1, 3) := by decide +kernel
theorem dL_isSame_215 : decode cL_isSame 215 = .ok (.goto (-30), 3) := by decide +kernel
theorem dL_isSame_218 : decode cL_isSame 218 = .ok (.iconst 0, 1) := by decide +kernel
theorem dL_isSame_219 : decode cL_isSame 219 = .ok (.istore 11, 2) := by decide +kernel
theorem dL_isSame_221 : decode cL_isSame 221 = .ok (.iload 11, 2) := by decide +kernel
theorem dL_isSame_223 : decode cL_isSame 223 = .ok (.iconst 5, 1) := by decide +kernel
theorem dL_isSame_224 : decode cL_isSame 224 = .ok (.if_icmp .ge 42, 3) := by decide +kernel
theorem dL_isSame_227 : decode cL_isSame 227 = .ok (.iload 8, 2) := by decide +kernel
theorem dL_isSame_229 : decode cL_isSame 229 = .ok (.ifCond .eq 37, 3) := by decide +kernel
theorem dL_isSame_232 : decode cL_isSame 232 = .ok (.aload_n 0, 1) := by decide +kernel
theorem dL_isSame_233 : decode cL_isSame 233 = .ok (.iload 9, 2) := by decide +kernel
theorem dL_isSame_235 : decode cL_isSame 235 = .ok (.iload 11, 2) := by decide +kernel
theorem dL_isSame_237 : decode cL_isSame 237 = .ok (.invokevirtual 84, 3) := by decide +kernel
theorem dL_isSame_240 : decode cL_isSame 240 = .ok (.aload_n 1, 1) := by decide +kernel
theorem dL_isSame_241 : decode cL_isSame 241 = .ok (.bipush 10, 2) := by decide +kernel
theorem dL_isSame_243 : decode cL_isSame 243 = .ok (.iload 9, 2) := by decide +kernel
theorem dL_isSame_245 : decode cL_isSame 245 = .ok (.imul, 1) := by decide +kernel
theorem dL_isSame_246 : decode cL_isSame 246 = .ok (.iload 11, 2) := by decide +kernel
theorem dL_isSame_248 : decode cL_isSame 248 = .ok (.iadd, 1) := by decide +kernel
theorem dL_isSame_249 : decode cL_isSame 249 = .ok (.iaload, 1) := by decide +kernel
theorem dL_isSame_250 : decode cL_isSame 250 = .ok (.if_icmp .ne 7, 3) := by decide +kernel
theorem dL_isSame_253 : decode cL_isSame 253 = .ok (.iconst 1, 1) := by decide +kernel
theorem dL_isSame_254 : decode cL_isSame 254 = .ok (.goto 4, 3) := by decide +kernel
theorem dL_isSame_257 : decode cL_isSame 257 = .ok (.iconst 0, 1) := by decide +kernel
theorem dL_isSame_258 : decode cL_isSame 258 = .ok (.istore 8, 2) := by decide +kernel
theorem dL_isSame_260 : decode cL_isSame 260 = .ok (.iinc 11 1, 3) := by decide +kernel
theorem dL_isSame_263 : decode cL_isSame 263 = .ok (.goto (-42), 3) := by decide +kernel
theorem dL_isSame_266 : decode cL_isSame 266 = .ok (.iload 8, 2) := by decide +kernel
theorem dL_isSame_268 : decode cL_isSame 268 = .ok (.ifCond .eq 106, 3) := by decide +kernel
theorem dL_isSame_271 : decode cL_isSame 271 = .ok (.aload_n 0, 1) := by decide +kernel
theorem dL_isSame_272 : decode cL_isSame 272 = .ok (.iload 9, 2) := by decide +kernel
theorem dL_isSame_274 : decode cL_isSame 274 = .ok (.iconst 5, 1) := by decide +kernel
theorem dL_isSame_275 : decode cL_isSame 275 = .ok (.invokevirtual 84, 3) := by decide +kernel
theorem dL_isSame_278 : decode cL_isSame 278 = .ok (.aload_n 1, 1) := by decide +kernel
theorem dL_isSame_279 : decode cL_isSame 279 = .ok (.iload 9, 2) := by decide +kernel
theorem dL_isSame_281 : decode cL_isSame 281 = .ok (.invokestatic 25, 3) := by decide +kernel
theorem dL_isSame_284 : decode cL_isSame 284 = .ok (.ifCond .eq 7, 3) := by decide +kernel
theorem dL_isSame_287 : decode cL_isSame 287 = .ok (.iconst 1, 1) := by decide +kernel
theorem dL_isSame_288 : decode cL_isSame 288 = .ok (.goto 4, 3) := by decide +kernel
theorem dL_isSame_291 : decode cL_isSame 291 = .ok (.iconst 0, 1) := by decide +kernel
theorem dL_isSame_292 : decode cL_isSame 292 = .ok (.if_icmp .ne 82, 3) := by decide +kernel
theorem dL_isSame_295 : decode cL_isSame 295 = .ok (.aload_n 0, 1) := by decide +kernel
theorem dL_isSame_296 : decode cL_isSame 296 = .ok (.iload 9, 2) := by decide +kernel
theorem dL_isSame_298 : decode cL_isSame 298 = .ok (.bipush 6, 2) := by decide +kernel
theorem dL_isSame_300 : decode cL_isSame 300 = .ok (.invokevirtual 84, 3) := by decide +kernel
theorem dL_isSame_303 : decode cL_isSame 303 = .ok (.iload 10, 2) := by decide +kernel
theorem dL_isSame_305 : decode cL_isSame 305 = .ok (.if_icmp .ne 69, 3) := by decide +kernel
theorem dL_isSame_308 : decode cL_isSame 308 = .ok (.aload_n 0, 1) := by decide +kernel
theorem dL_isSame_309 : decode cL_isSame 309 = .ok (.iload 9, 2) := by decide +kernel
theorem dL_isSame_311 : decode cL_isSame 311 = .ok (.bipush 7, 2) := by decide +kernel
theorem dL_isSame_313 : decode cL_isSame 313 = .ok (.invokevirtual 84, 3) := by decide +kernel
theorem dL_isSame_316 : decode cL_isSame 316 = .ok (.aload_n 1, 1) := by decide +kernel
theorem dL_isSame_317 : decode cL_isSame 317 = .ok (.bipush 10, 2) := by decide +kernel
theorem dL_isSame_319 : decode cL_isSame 319 = .ok (.iload 9, 2) := by decide +kernel
theorem dL_isSame_321 : decode cL_isSame 321 = .ok (.imul, 1) := by decide +kernel
theorem dL_isSame_322 : decode cL_isSame 322 = .ok (.bipush 8, 2) := by decide +kernel
theorem dL_isSame_324 : decode cL_isSame 324 = .ok (.iadd, 1) := by decide +kernel
theorem dL_isSame_325 : decode cL_isSame 325 = .ok (.iaload, 1) := by decide +kernel
theorem dL_isSame_326 : decode cL_isSame 326 = .ok (.if_icmp .ne 48, 3) := by decide +kernel
theorem dL_isSame_329 : decode cL_isSame 329 = .ok (.aload_n 0, 1) := by decide +kernel
theorem dL_isSame_330 : decode cL_isSame 330 = .ok (.iload 9, 2) := by decide +kernel
theorem dL_isSame_332 : decode cL_isSame 332 = .ok (.bipush 8, 2) := by decide +kernel
theorem dL_isSame_334 : decode cL_isSame 334 = .ok (.invokevirtual 84, 3) := by decide +kernel
theorem dL_isSame_337 : decode cL_isSame 337 = .ok (.aload_n 1, 1) := by decide +kernel
theorem dL_isSame_338 : decode cL_isSame 338 = .ok (.bipush 10, 2) := by decide +kernel
theorem dL_isSame_340 : decode cL_isSame 340 = .ok (.iload 9, 2) := by decide +kernel
theorem dL_isSame_342 : decode cL_isSame 342 = .ok (.imul, 1) := by decide +kernel
theorem dL_isSame_343 : decode cL_isSame 343 = .ok (.bipush 9, 2) := by decide +kernel
theorem dL_isSame_345 : decode cL_isSame 345 = .ok (.iadd, 1) := by decide +kernel
theorem dL_isSame_346 : decode cL_isSame 346 = .ok (.iaload, 1) := by decide +kernel
theorem dL_isSame_347 : decode cL_isSame 347 = .ok (.if_icmp .ne 27, 3) := by decide +kernel
theorem dL_isSame_350 : decode cL_isSame 350 = .ok (.aload_n 0, 1) := by decide +kernel
theorem dL_isSame_351 : decode cL_isSame 351 = .ok (.iload 9, 2) := by decide +kernel
theorem dL_isSame_353 : decode cL_isSame 353 = .ok (.bipush 9, 2) := by decide +kernel
theorem dL_isSame_355 : decode cL_isSame 355 = .ok (.invokevirtual 84, 3) := by decide +kernel
theorem dL_isSame_358 : decode cL_isSame 358 = .ok (.aload_n 1, 1) := by decide +kernel
theorem dL_isSame_359 : decode cL_isSame 359 = .ok (.bipush 10, 2) := by decide +kernel
theorem dL_isSame_361 : decode cL_isSame 361 = .ok (.iload 9, 2) := by decide +kernel
theorem dL_isSame_363 : decode cL_isSame 363 = .ok (.imul, 1) := by decide +kernel
theorem dL_isSame_364 : decode cL_isSame 364 = .ok (.iconst 5, 1) := by decide +kernel
theorem dL_isSame_365 : decode cL_isSame 365 = .ok (.iadd, 1) := by decide +kernel
theorem dL_isSame_366 : decode cL_isSame 366 = .ok (.iaload, 1) := by decide +kernel
theorem dL_isSame_367 : decode cL_isSame 367 = .ok (.if_icmp .ne 7, 3) := by decide +kernel
theorem dL_isSame_370 : decode cL_isSame 370 = .ok (.iconst 1, 1) := by decide +kernel
theorem dL_isSame_371 : decode cL_isSame 371 = .ok (.goto 4, 3) := by decide +kernel
theorem dL_isSame_374 : decode cL_isSame 374 = .ok (.iconst 0, 1) := by decide +kernel
theorem dL_isSame_375 : decode cL_isSame 375 = .ok (.istore 8, 2) := by decide +kernel
theorem dL_isSame_377 : decode cL_isSame 377 = .ok (.iload 8, 2) := by decide +kernel
theorem dL_isSame_379 : decode cL_isSame 379 = .ok (.ireturn, 1) := by decide +kernel
theorem dL_isActed_0 : decode cL_isActed 0 = .ok (.aload 7, 2) := by decide +kernel
theorem dL_isActed_2 : decode cL_isActed 2 = .ok (.iconst 0, 1) := by decide +kernel
theorem dL_isActed_3 : decode cL_isActed 3 = .ok (.iaload, 1) := by decide +kernel
theorem dL_isActed_4 : decode cL_isActed 4 = .ok (.ifCond .ne 7, 3) := by decide +kernel
theorem dL_isActed_7 : decode cL_isActed 7 = .ok (.iconst 0, 1) := by decide +kernel
theorem dL_isActed_8 : decode cL_isActed 8 = .ok (.goto 10, 3) := by decide +kernel
theorem dL_isActed_11 : decode cL_isActed 11 = .ok (.iload 9, 2) := by decide +kernel
theorem dL_isActed_13 : decode cL_isActed 13 = .ok (.aload 7, 2) := by decide +kernel
theorem dL_isActed_15 : decode cL_isActed 15 = .ok (.iconst 0, 1) := by decide +kernel
theorem dL_isActed_16 : decode cL_isActed 16 = .ok (.iaload, 1) := by decide +kernel
theorem dL_isActed_17 : decode cL_isActed 17 = .ok (.irem, 1) := by decide +kernel
theorem dL_isActed_18 : decode cL_isActed 18 = .ok (.istore 10, 2) := by decide +kernel
theorem dL_isActed_20 : decode cL_isActed 20 = .ok (.iload 8, 2) := by decide +kernel
theorem dL_isActed_22 : decode cL_isActed 22 = .ok (.iconst 2, 1) := by decide +kernel
theorem dL_isActed_23 : decode cL_isActed 23 = .ok (.if_icmp .lt 10, 3) := by decide +kernel
theorem dL_isActed_26 : decode cL_isActed 26 = .ok (.aload 7, 2) := by decide +kernel
theorem dL_isActed_28 : decode cL_isActed 28 = .ok (.iconst 0, 1) := by decide +kernel
theorem dL_isActed_29 : decode cL_isActed 29 = .ok (.iaload, 1) := by decide +kernel
theorem dL_isActed_30 : decode cL_isActed 30 = .ok (.ifCond .ne 70, 3) := by decide +kernel
theorem dL_isActed_33 : decode cL_isActed 33 = .ok (.aload 7, 2) := by decide +kernel
theorem dL_isActed_35 : decode cL_isActed 35 = .ok (.iconst 0, 1) := by decide +kernel
theorem dL_isActed_36 : decode cL_isActed 36 = .ok (.iaload, 1) := by decide +kernel
theorem dL_isActed_37 : decode cL_isActed 37 = .ok (.iconst 4, 1) := by decide +kernel
theorem dL_isActed_38 : decode cL_isActed 38 = .ok (.if_icmp .ne 5, 3) := by decide +kernel
theorem dL_isActed_41 : decode cL_isActed 41 = .ok (.iconst 1, 1) := by decide +kernel
theorem dL_isActed_42 : decode cL_isActed 42 = .ok (.ireturn, 1) := by decide +kernel
theorem dL_isActed_43 : decode cL_isActed 43 = .ok (.aload_n 1, 1) := by decide +kernel
theorem dL_isActed_44 : decode cL_isActed 44 = .ok (.bipush 10, 2) := by decide +kernel
theorem dL_isActed_46 : decode cL_isActed 46 = .ok (.aload 7, 2) := by decide +kernel
theorem dL_isActed_48 : decode cL_isActed 48 = .ok (.iconst 0, 1) := by decide +kernel
theorem dL_isActed_49 : decode cL_isActed 49 = .ok (.iaload, 1) := by decide +kernel
theorem dL_isActed_50 : decode cL_isActed 50 = .ok (.imul, 1) := by decide +kernel
theorem dL_isActed_51 : decode cL_isActed 51 = .ok (.bipush 64, 2) := by decide +kernel
theorem dL_isActed_53 : decode cL_isActed 53 = .ok (.iastore, 1) := by decide +kernel
theorem dL_isActed_54 : decode cL_isActed 54 = .ok (.aload_n 1, 1) := by decide +kernel
theorem dL_isActed_55 : decode cL_isActed 55 = .ok (.bipush 10, 2) := by decide +kernel
theorem dL_isActed_57 : decode cL_isActed 57 = .ok (.aload 7, 2) := by decide +kernel
theorem dL_isActed_59 : decode cL_isActed 59 = .ok (.iconst 0, 1) := by decide +kernel
theorem dL_isActed_60 : decode cL_isActed 60 = .ok (.iaload, 1) := by decide +kernel
theorem dL_isActed_61 : decode cL_isActed 61 = .ok (.imul, 1) := by decide +kernel
theorem dL_isActed_62 : decode cL_isActed 62 = .ok (.iconst 5, 1) := by decide +kernel
theorem dL_isActed_63 : decode cL_isActed 63 = .ok (.iadd, 1) := by decide +kernel
theorem dL_isActed_64 : decode cL_isActed 64 = .ok (.iload 9, 2) := by decide +kernel
theorem dL_isActed_66 : decode cL_isActed 66 = .ok (.iconst 3, 1) := by decide +kernel
theorem dL_isActed_67 : decode cL_isActed 67 = .ok (.irem, 1) := by decide +kernel
theorem dL_isActed_68 : decode cL_isActed 68 = .ok (.iastore, 1) := by decide +kernel
theorem dL_isActed_69 : decode cL_isActed 69 = .ok (.aload 7, 2) := by decide +kernel
theorem dL_isActed_71 : decode cL_isActed 71 = .ok (.iconst 0, 1) := by decide +kernel
theorem dL_isActed_72 : decode cL_isActed 72 = .ok (.dup2, 1) := by decide +kernel
theorem dL_isActed_73 : decode cL_isActed 73 = .ok (.iaload, 1) := by decide +kernel
theorem dL_isActed_74 : decode cL_isActed 74 = .ok (.iconst 1, 1) := by decide +kernel
theorem dL_isActed_75 : decode cL_isActed 75 = .ok (.iadd, 1) := by decide +kernel
theorem dL_isActed_76 : decode cL_isActed 76 = .ok (.iastore, 1) := by decide +kernel
theorem dL_isActed_77 : decode cL_isActed 77 = .ok (.aload_n 0, 1) := by decide +kernel
theorem dL_isActed_78 : decode cL_isActed 78 = .ok (.iload 9, 2) := by decide +kernel
theorem dL_isActed_80 : decode cL_isActed 80 = .ok (.iconst 3, 1) := by decide +kernel
theorem dL_isActed_81 : decode cL_isActed 81 = .ok (.irem, 1) := by decide +kernel
theorem dL_isActed_82 : decode cL_isActed 82 = .ok (.invokevirtual 94, 3) := by decide +kernel
theorem dL_isActed_85 : decode cL_isActed 85 = .ok (.aload 7, 2) := by decide +kernel
theorem dL_isActed_87 : decode cL_isActed 87 = .ok (.iconst 0, 1) := by decide +kernel
theorem dL_isActed_88 : decode cL_isActed 88 = .ok (.iaload, 1) := by decide +kernel
theorem dL_isActed_89 : decode cL_isActed 89 = .ok (.iconst 1, 1) := by decide +kernel
theorem dL_isActed_90 : decode cL_isActed 90 = .ok (.isub, 1) := by decide +kernel
theorem dL_isActed_91 : decode cL_isActed 91 = .ok (.if_icmp .ne 7, 3) := by decide +kernel
theorem dL_isActed_94 : decode cL_isActed 94 = .ok (.iconst 1, 1) := by decide +kernel
theorem dL_isActed_95 : decode cL_isActed 95 = .ok (.goto 4, 3) := by decide +kernel
theorem dL_isActed_98 : decode cL_isActed 98 = .ok (.iconst 0, 1) := by decide +kernel
theorem dL_isActed_99 : decode cL_isActed 99 = .ok (.ireturn, 1) := by decide +kernel
theorem dL_isActed_100 : decode cL_isActed 100 = .ok (.iload 8, 2) := by decide +kernel
theorem dL_isActed_102 : decode cL_isActed 102 = .ok (.bipush 8, 2) := by decide +kernel
theorem dL_isActed_104 : decode cL_isActed 104 = .ok (.if_icmp .ge 94, 3) := by decide +kernel
theorem dL_isActed_107 : decode cL_isActed 107 = .ok (.iload 9, 2) := by decide +kernel
theorem dL_isActed_109 : decode cL_isActed 109 = .ok (.iconst 4, 1) := by decide +kernel
theorem dL_isActed_110 : decode cL_isActed 110 = .ok (.idiv, 1) := by decide +kernel
theorem dL_isActed_111 : decode cL_isActed 111 = .ok (.iconst 5, 1) := by decide +kernel
theorem dL_isActed_112 : decode cL_isActed 112 = .ok (.irem, 1) := by decide +kernel
theorem dL_isActed_113 : decode cL_isActed 113 = .ok (.istore 11, 2) := by decide +kernel
theorem dL_isActed_115 : decode cL_isActed 115 = .ok (.iload 9, 2) := by decide +kernel
theorem dL_isActed_117 : decode cL_isActed 117 = .ok (.bipush 20, 2) := by decide +kernel
theorem dL_isActed_119 : decode cL_isActed 119 = .ok (.idiv, 1) := by decide +kernel
theorem dL_isActed_120 : decode cL_isActed 120 = .ok (.sipush 255, 3) := by decide +kernel
theorem dL_isActed_123 : decode cL_isActed 123 = .ok (.irem, 1) := by decide +kernel
theorem dL_isActed_124 : decode cL_isActed 124 = .ok (.bipush 127, 2) := by decide +kernel
theorem dL_isActed_126 : decode cL_isActed 126 = .ok (.isub, 1) := by decide +kernel
theorem dL_isActed_127 : decode cL_isActed 127 = .ok (.istore 12, 2) := by decide +kernel
theorem dL_isActed_129 : decode cL_isActed 129 = .ok (.iload 11, 2) := by decide +kernel
theorem dL_isActed_131 : decode cL_isActed 131 = .ok (.iconst 4, 1) := by decide +kernel
theorem dL_isActed_132 : decode cL_isActed 132 = .ok (.if_icmp .ne 17, 3) := by decide +kernel
theorem dL_isActed_135 : decode cL_isActed 135 = .ok (.iload 9, 2) := by decide +kernel
theorem dL_isActed_137 : decode cL_isActed 137 = .ok (.iconst 3, 1) := by decide +kernel
theorem dL_isActed_138 : decode cL_isActed 138 = .ok (.irem, 1) := by decide +kernel
theorem dL_isActed_139 : decode cL_isActed 139 = .ok (.ifCond .le 10, 3) := by decide +kernel
theorem dL_isActed_142 : decode cL_isActed 142 = .ok (.iload 12, 2) := by decide +kernel
theorem dL_isActed_144 : decode cL_isActed 144 = .ok (.iconst 2, 1) := by decide +kernel
theorem dL_isActed_145 : decode cL_isActed 145 = .ok (.idiv, 1) := by decide +kernel
theorem dL_isActed_146 : decode cL_isActed 146 = .ok (.goto 5, 3) := by decide +kernel
theorem dL_isActed_149 : decode cL_isActed 149 = .ok (.iload 12, 2) := by decide +kernel
theorem dL_isActed_151 : decode cL_isActed 151 = .ok (.istore 12, 2) := by decide +kernel
theorem dL_isActed_153 : decode cL_isActed 153 = .ok (.aload_n 1, 1) := by decide +kernel
theorem dL_isActed_154 : decode cL_isActed 154 = .ok (.bipush 10, 2) := by decide +kernel
theorem dL_isActed_156 : decode cL_isActed 156 = .ok (.iload 10, 2) := by decide +kernel
theorem dL_isActed_158 : decode cL_isActed 158 = .ok (.imul, 1) := by decide +kernel
theorem dL_isActed_159 : decode cL_isActed 159 = .ok (.iload 11, 2) := by decide +kernel
theorem dL_isActed_161 : decode cL_isActed 161 = .ok (.iadd, 1) := by decide +kernel
theorem dL_isActed_162 : decode cL_isActed 162 = .ok (.iaload, 1) := by decide +kernel
theorem dL_isActed_163 : decode cL_isActed 163 = .ok (.istore 13, 2) := by decide +kernel
theorem dL_isActed_165 : decode cL_isActed 165 = .ok (.aload_n 1, 1) := by decide +kernel
theorem dL_isActed_166 : decode cL_isActed 166 = .ok (.bipush 10, 2) := by decide +kernel
theorem dL_isActed_168 : decode cL_isActed 168 = .ok (.iload 10, 2) := by decide +kernel
theorem dL_isActed_170 : decode cL_isActed 170 = .ok (.imul, 1) := by decide +kernel
theorem dL_isActed_171 : decode cL_isActed 171 = .ok (.iload 11, 2) := by decide +kernel
theorem dL_isActed_173 : decode cL_isActed 173 = .ok (.iadd, 1) := by decide +kernel
theorem dL_isActed_174 : decode cL_isActed 174 = .ok (.iload 12, 2) := by decide +kernel
theorem dL_isActed_176 : decode cL_isActed 176 = .ok (.iastore, 1) := by decide +kernel
theorem dL_isActed_177 : decode cL_isActed 177 = .ok (.aload_n 0, 1) := by decide +kernel
theorem dL_isActed_178 : decode cL_isActed 178 = .ok (.iload 10, 2) := by decide +kernel
theorem dL_isActed_180 : decode cL_isActed 180 = .ok (.iload 11, 2) := by decide +kernel
theorem dL_isActed_182 : decode cL_isActed 182 = .ok (.iload 12, 2) := by decide +kernel
theorem dL_isActed_184 : decode cL_isActed 184 = .ok (.invokevirtual 97, 3) := by decide +kernel
theorem dL_isActed_187 : decode cL_isActed 187 = .ok (.iload 13, 2) := by decide +kernel
theorem dL_isActed_189 : decode cL_isActed 189 = .ok (.if_icmp .ne 7, 3) := by decide +kernel
theorem dL_isActed_192 : decode cL_isActed 192 = .ok (.iconst 1, 1) := by decide +kernel
theorem dL_isActed_193 : decode cL_isActed 193 = .ok (.goto 4, 3) := by decide +kernel
theorem dL_isActed_196 : decode cL_isActed 196 = .ok (.iconst 0, 1) := by decide +kernel
theorem dL_isActed_197 : decode cL_isActed 197 = .ok (.ireturn, 1) := by decide +kernel
theorem dL_isActed_198 : decode cL_isActed 198 = .ok (.iload 8, 2) := by decide +kernel
theorem dL_isActed_200 : decode cL_isActed 200 = .ok (.bipush 11, 2) := by decide +kernel
theorem dL_isActed_202 : decode cL_isActed 202 = .ok (.if_icmp .ge 13, 3) := by decide +kernel
theorem dL_isActed_205 : decode cL_isActed 205 = .ok (.aload_n 0, 1) := by decide +kernel
theorem dL_isActed_206 : decode cL_isActed 206 = .ok (.aload_n 2, 1) := by decide +kernel
theorem dL_isActed_207 : decode cL_isActed 207 = .ok (.aload 7, 2) := by decide +kernel
theorem dL_isActed_209 : decode cL_isActed 209 = .ok (.iload 10, 2) := by decide +kernel
theorem dL_isActed_211 : decode cL_isActed 211 = .ok (.invokestatic 100, 3) := by decide +kernel
theorem dL_isActed_214 : decode cL_isActed 214 = .ok (.ireturn, 1) := by decide +kernel
theorem dL_isActed_215 : decode cL_isActed 215 = .ok (.iload 8, 2) := by decide +kernel
theorem dL_isActed_217 : decode cL_isActed 217 = .ok (.bipush 11, 2) := by decide +kernel
theorem dL_isActed_219 : decode cL_isActed 219 = .ok (.if_icmp .ne 12, 3) := by decide +kernel
theorem dL_isActed_222 : decode cL_isActed 222 = .ok (.aload_n 0, 1) := by decide +kernel
theorem dL_isActed_223 : decode cL_isActed 223 = .ok (.aload_n 1, 1) := by decide +kernel
theorem dL_isActed_224 : decode cL_isActed 224 = .ok (.aload_n 2, 1) := by decide +kernel
theorem dL_isActed_225 : decode cL_isActed 225 = .ok (.aload 7, 2) := by decide +kernel
theorem dL_isActed_227 : decode cL_isActed 227 = .ok (.invokestatic 104, 3) := by decide +kernel
theorem dL_isActed_230 : decode cL_isActed 230 = .ok (.ireturn, 1) := by decide +kernel
theorem dL_isActed_231 : decode cL_isActed 231 = .ok (.iload 8, 2) := by decide +kernel
theorem dL_isActed_233 : decode cL_isActed 233 = .ok (.bipush 18, 2) := by decide +kernel
theorem dL_isActed_235 : decode cL_isActed 235 = .ok (.if_icmp .ge 62, 3) := by decide +kernel
theorem dL_isActed_238 : decode cL_isActed 238 = .ok (.iload 9, 2) := by decide +kernel
theorem dL_isActed_240 : decode cL_isActed 240 = .ok (.iconst 3, 1) := by decide +kernel
theorem dL_isActed_241 : decode cL_isActed 241 = .ok (.irem, 1) := by decide +kernel
theorem dL_isActed_242 : decode cL_isActed 242 = .ok (.ifCond .ne 17, 3) := by decide +kernel
theorem dL_isActed_245 : decode cL_isActed 245 = .ok (.iload 9, 2) := by decide +kernel
theorem dL_isActed_247 : decode cL_isActed 247 = .ok (.iconst 3, 1) := by decide +kernel
theorem dL_isActed_248 : decode cL_isActed 248 = .ok (.idiv, 1) := by decide +kernel
theorem dL_isActed_249 : decode cL_isActed 249 = .ok (.ldc 108, 2) := by decide +kernel
theorem dL_isActed_251 : decode cL_isActed 251 = .ok (.irem, 1) := by decide +kernel
theorem dL_isActed_252 : decode cL_isActed 252 = .ok (.sipush 32767, 3) := by decide +kernel
theorem dL_isActed_255 : decode cL_isActed 255 = .ok (.isub, 1) := by decide +kernel
theorem dL_isActed_256 : decode cL_isActed 256 = .ok (.goto 14, 3) := by decide +kernel
theorem dL_isActed_259 : decode cL_isActed 259 = .ok (.iload 9, 2) := by decide +kernel
theorem dL_isActed_261 : decode cL_isActed 261 = .ok (.iconst 3, 1) := by decide +kernel
theorem dL_isActed_262 : decode cL_isActed 262 = .ok (.idiv, 1) := by decide +kernel
theorem dL_isActed_263 : decode cL_isActed 263 = .ok (.sipush 201, 3) := by decide +kernel
theorem dL_isActed_266 : decode cL_isActed 266 = .ok (.irem, 1) := by decide +kernel
theorem dL_isActed_267 : decode cL_isActed 267 = .ok (.bipush 100, 2) := by decide +kernel
theorem dL_isActed_269 : decode cL_isActed 269 = .ok (.isub, 1) := by decide +kernel
theorem dL_isActed_270 : decode cL_isActed 270 = .ok (.istore 11, 2) := by decide +kernel
theorem dL_isActed_272 : decode cL_isActed 272 = .ok (.aload_n 0, 1) := by decide +kernel
theorem dL_isActed_273 : decode cL_isActed 273 = .ok (.iload 11, 2) := by decide +kernel
theorem dL_isActed_275 : decode cL_isActed 275 = .ok (.invokevirtual 109, 3) := by decide +kernel
theorem dL_isActed_278 : decode cL_isActed 278 = .ok (.aload_n 1, 1) := by decide +kernel
theorem dL_isActed_279 : decode cL_isActed 279 = .ok (.aload_n 2, 1) := by decide +kernel
theorem dL_isActed_280 : decode cL_isActed 280 = .ok (.aload_n 3, 1) := by decide +kernel
theorem dL_isActed_281 : decode cL_isActed 281 = .ok (.aload 7, 2) := by decide +kernel
theorem dL_isActed_283 : decode cL_isActed 283 = .ok (.iload 11, 2) := by decide +kernel
theorem dL_isActed_285 : decode cL_isActed 285 = .ok (.invokestatic 112, 3) := by decide +kernel
theorem dL_isActed_288 : decode cL_isActed 288 = .ok (.if_icmp .ne 7, 3) := by decide +kernel
theorem dL_isActed_291 : decode cL_isActed 291 = .ok (.iconst 1, 1) := by decide +kernel
theorem dL_isActed_292 : decode cL_isActed 292 = .ok (.goto 4, 3) := by decide +kernel
theorem dL_isActed_295 : decode cL_isActed 295 = .ok (.iconst 0, 1) := by decide +kernel
theorem dL_isActed_296 : decode cL_isActed 296 = .ok (.ireturn, 1) := by decide +kernel
theorem dL_isActed_297 : decode cL_isActed 297 = .ok (.iload 8, 2) := by decide +kernel
theorem dL_isActed_299 : decode cL_isActed 299 = .ok (.bipush 18, 2) := by decide +kernel
theorem dL_isActed_301 : decode cL_isActed 301 = .ok (.if_icmp .ne 91, 3) := by decide +kernel
theorem dL_isActed_304 : decode cL_isActed 304 = .ok (.aload 7, 2) := by decide +kernel
theorem dL_isActed_306 : decode cL_isActed 306 = .ok (.iconst 2, 1) := by decide +kernel
theorem dL_isActed_307 : decode cL_isActed 307 = .ok (.iaload, 1) := by decide +kernel
theorem dL_isActed_308 : decode cL_isActed 308 = .ok (.istore 11, 2) := by decide +kernel
theorem dL_isActed_310 : decode cL_isActed 310 = .ok (.aload 7, 2) := by decide +kernel
theorem dL_isActed_312 : decode cL_isActed 312 = .ok (.iconst 2, 1) := by decide +kernel
theorem dL_isActed_313 : decode cL_isActed 313 = .ok (.iconst 0, 1) := by decide +kernel
theorem dL_isActed_314 : decode cL_isActed 314 = .ok (.iastore, 1) := by decide +kernel
theorem dL_isActed_315 : decode cL_isActed 315 = .ok (.iconst 0, 1) := by decide +kernel
theorem dL_isActed_316 : decode cL_isActed 316 = .ok (.istore 12, 2) := by decide +kernel
theorem dL_isActed_318 : decode cL_isActed 318 = .ok (.iload 12, 2) := by decide +kernel
theorem dL_isActed_320 : decode cL_isActed 320 = .ok (.aload 7, 2) := by decide +kernel
theorem dL_isActed_322 : decode cL_isActed 322 = .ok (.iconst 0, 1) := by decide +kernel
theorem dL_isActed_323 : decode cL_isActed 323 = .ok (.iaload, 1) := by decide +kernel
theorem dL_isActed_324 : decode cL_isActed 324 = .ok (.if_icmp .ge 53, 3) := by decide +kernel
theorem dL_isActed_327 : decode cL_isActed 327 = .ok (.aload_n 1, 1) := by decide +kernel
theorem dL_isActed_328 : decode cL_isActed 328 = .ok (.bipush 10, 2) := by decide +kernel
theorem dL_isActed_330 : decode cL_isActed 330 = .ok (.iload 12, 2) := by decide +kernel
theorem dL_isActed_332 : decode cL_isActed 332 = .ok (.imul, 1) := by decide +kernel
theorem dL_isActed_333 : decode cL_isActed 333 = .ok (.bipush 6, 2) := by decide +kernel
theorem dL_isActed_335 : decode cL_isActed 335 = .ok (.iadd, 1) := by decide +kernel
theorem dL_isActed_336 : decode cL_isActed 336 = .ok (.iconst 0, 1) := by decide +kernel
theorem dL_isActed_337 : decode cL_isActed 337 = .ok (.iastore, 1) := by decide +kernel
theorem dL_isActed_338 : decode cL_isActed 338 = .ok (.aload_n 1, 1) := by decide +kernel
theorem dL_isActed_339 : decode cL_isActed 339 = .ok (.bipush 10, 2) := by decide +kernel
theorem dL_isActed_341 : decode cL_isActed 341 = .ok (.iload 12, 2) := by decide +kernel
theorem dL_isActed_343 : decode cL_isActed 343 = .ok (.imul, 1) := by decide +kernel
theorem dL_isActed_344 : decode cL_isActed 344 = .ok (.bipush 7, 2) := by decide +kernel
theorem dL_isActed_346 : decode cL_isActed 346 = .ok (.iadd, 1) := by decide +kernel
theorem dL_isActed_347 : decode cL_isActed 347 = .ok (.iconst 0, 1) := by decide +kernel
theorem dL_isActed_348 : decode cL_isActed 348 = .ok (.iastore, 1) := by decide +kernel
theorem dL_isActed_349 : decode cL_isActed 349 = .ok (.aload_n 1, 1) := by decide +kernel
theorem dL_isActed_350 : decode cL_isActed 350 = .ok (.bipush 10, 2) := by decide +kernel
theorem dL_isActed_352 : decode cL_isActed 352 = .ok (.iload 12, 2) := by decide +kernel
theorem dL_isActed_354 : decode cL_isActed 354 = .ok (.imul, 1) := by decide +kernel
theorem dL_isActed_355 : decode cL_isActed 355 = .ok (.bipush 8, 2) := by decide +kernel
theorem dL_isActed_357 : decode cL_isActed 357 = .ok (.iadd, 1) := by decide +kernel
theorem dL_isActed_358 : decode cL_isActed 358 = .ok (.iconst 0, 1) := by decide +kernel
theorem dL_isActed_359 : decode cL_isActed 359 = .ok (.iastore, 1) := by decide +kernel
theorem dL_isActed_360 : decode cL_isActed 360 = .ok (.aload_n 1, 1) := by decide +kernel
theorem dL_isActed_361 : decode cL_isActed 361 = .ok (.bipush 10, 2) := by decide +kernel
theorem dL_isActed_363 : decode cL_isActed 363 = .ok (.iload 12, 2) := by decide +kernel
theorem dL_isActed_365 : decode cL_isActed 365 = .ok (.imul, 1) := by decide +kernel
theorem dL_isActed_366 : decode cL_isActed 366 = .ok (.bipush 9, 2) := by decide +kernel
theorem dL_isActed_368 : decode cL_isActed 368 = .ok (.iadd, 1) := by decide +kernel
theorem dL_isActed_369 : decode cL_isActed 369 = .ok (.iconst 0, 1) := by decide +kernel
theorem dL_isActed_370 : decode cL_isActed 370 = .ok (.iastore, 1) := by decide +kernel
theorem dL_isActed_371 : decode cL_isActed 371 = .ok (.iinc 12 1, 3) := by decide +kernel
theorem dL_isActed_374 : decode cL_isActed 374 = .ok (.goto (-56), 3) := by decide +kernel
theorem dL_isActed_377 : decode cL_isActed 377 = .ok (.aload_n 0, 1) := by decide +kernel
theorem dL_isActed_378 : decode cL_isActed 378 = .ok (.invokevirtual 115, 3) := by decide +kernel
theorem dL_isActed_381 : decode cL_isActed 381 = .ok (.iload 11, 2) := by decide +kernel
theorem dL_isActed_383 : decode cL_isActed 383 = .ok (.if_icmp .ne 7, 3) := by decide +kernel
theorem dL_isActed_386 : decode cL_isActed 386 = .ok (.iconst 1, 1) := by decide +kernel
theorem dL_isActed_387 : decode cL_isActed 387 = .ok (.goto 4, 3) := by decide +kernel
theorem dL_isActed_390 : decode cL_isActed 390 = .ok (.iconst 0, 1) := by decide +kernel
theorem dL_isActed_391 : decode cL_isActed 391 = .ok (.ireturn, 1) := by decide +kernel
theorem dL_isActed_392 : decode cL_isActed 392 = .ok (.iload 9, 2) := by decide +kernel
theorem dL_isActed_394 : decode cL_isActed 394 = .ok (.bipush 32, 2) := by decide +kernel
theorem dL_isActed_396 : decode cL_isActed 396 = .ok (.idiv, 1) := by decide +kernel
theorem dL_isActed_397 : decode cL_isActed 397 = .ok (.sipush 193, 3) := by decide +kernel
theorem dL_isActed_400 : decode cL_isActed 400 = .ok (.irem, 1) := by decide +kernel
theorem dL_isActed_401 : decode cL_isActed 401 = .ok (.bipush 96, 2) := by decide +kernel
theorem dL_isActed_403 : decode cL_isActed 403 = .ok (.isub, 1) := by decide +kernel
theorem dL_isActed_404 : decode cL_isActed 404 = .ok (.istore 11, 2) := by decide +kernel
theorem dL_isActed_406 : decode cL_isActed 406 = .ok (.iload 8, 2) := by decide +kernel
theorem dL_isActed_408 : decode cL_isActed 408 = .ok (.bipush 22, 2) := by decide +kernel
theorem dL_isActed_410 : decode cL_isActed 410 = .ok (.if_icmp .ge 108, 3) := by decide +kernel
theorem dL_isActed_413 : decode cL_isActed 413 = .ok (.iload 8, 2) := by decide +kernel
theorem dL_isActed_415 : decode cL_isActed 415 = .ok (.bipush 19, 2) := by decide +kernel
theorem dL_isActed_417 : decode cL_isActed 417 = .ok (.if_icmp .ne 14, 3) := by decide +kernel
theorem dL_isActed_420 : decode cL_isActed 420 = .ok (.aload 4, 2) := by decide +kernel
theorem dL_isActed_422 : decode cL_isActed 422 = .ok (.iload 9, 2) := by decide +kernel
theorem dL_isActed_424 : decode cL_isActed 424 = .ok (.bipush 32, 2) := by decide +kernel
theorem dL_isActed_426 : decode cL_isActed 426 = .ok (.irem, 1) := by decide +kernel
theorem dL_isActed_427 : decode cL_isActed 427 = .ok (.iaload, 1) := by decide +kernel
theorem dL_isActed_428 : decode cL_isActed 428 = .ok (.goto 11, 3) := by decide +kernel
theorem dL_isActed_431 : decode cL_isActed 431 = .ok (.aload 5, 2) := by decide +kernel
theorem dL_isActed_433 : decode cL_isActed 433 = .ok (.iload 9, 2) := by decide +kernel
theorem dL_isActed_435 : decode cL_isActed 435 = .ok (.bipush 32, 2) := by decide +kernel
theorem dL_isActed_437 : decode cL_isActed 437 = .ok (.irem, 1) := by decide +kernel
theorem dL_isActed_438 : decode cL_isActed 438 = .ok (.iaload, 1) := by decide +kernel
theorem dL_isActed_439 : decode cL_isActed 439 = .ok (.istore 12, 2) := by decide +kernel
theorem dL_isActed_441 : decode cL_isActed 441 = .ok (.iload 8, 2) := by decide +kernel
theorem dL_isActed_443 : decode cL_isActed 443 = .ok (.bipush 19, 2) := by decide +kernel
theorem dL_isActed_445 : decode cL_isActed 445 = .ok (.if_icmp .ne 38, 3) := by decide +kernel
theorem dL_isActed_448 : decode cL_isActed 448 = .ok (.aload 4, 2) := by decide +kernel
theorem dL_isActed_450 : decode cL_isActed 450 = .ok (.iload 9, 2) := by decide +kernel
theorem dL_isActed_452 : decode cL_isActed 452 = .ok (.bipush 32, 2) := by decide +kernel
theorem dL_isActed_454 : decode cL_isActed 454 = .ok (.irem, 1) := by decide +kernel
theorem dL_isActed_455 : decode cL_isActed 455 = .ok (.iload 11, 2) := by decide +kernel
theorem dL_isActed_457 : decode cL_isActed 457 = .ok (.invokestatic 118, 3) := by decide +kernel
theorem dL_isActed_460 : decode cL_isActed 460 = .ok (.iastore, 1) := by decide +kernel
theorem dL_isActed_461 : decode cL_isActed 461 = .ok (.aload_n 0, 1) := by decide +kernel
theorem dL_isActed_462 : decode cL_isActed 462 = .ok (.iload 9, 2) := by decide +kernel
theorem dL_isActed_464 : decode cL_isActed 464 = .ok (.bipush 32, 2) := by decide +kernel
theorem dL_isActed_466 : decode cL_isActed 466 = .ok (.irem, 1) := by decide +kernel
theorem dL_isActed_467 : decode cL_isActed 467 = .ok (.iload 11, 2) := by decide +kernel
theorem dL_isActed_469 : decode cL_isActed 469 = .ok (.invokevirtual 120, 3) := by decide +kernel
theorem dL_isActed_472 : decode cL_isActed 472 = .ok (.iload 12, 2) := by decide +kernel
theorem dL_isActed_474 : decode cL_isActed 474 = .ok (.if_icmp .ne 7, 3) := by decide +kernel
theorem dL_isActed_477 : decode cL_isActed 477 = .ok (.iconst 1, 1) := by decide +kernel
theorem dL_isActed_478 : decode cL_isActed 478 = .ok (.goto 4, 3) := by decide +kernel
theorem dL_isActed_481 : decode cL_isActed 481 = .ok (.iconst 0, 1) := by decide +kernel
theorem dL_isActed_482 : decode cL_isActed 482 = .ok (.ireturn, 1) := by decide +kernel
theorem dL_isActed_483 : decode cL_isActed 483 = .ok (.aload 5, 2) := by decide +kernel
theorem dL_isActed_485 : decode cL_isActed 485 = .ok (.iload 9, 2) := by decide +kernel
theorem dL_isActed_487 : decode cL_isActed 487 = .ok (.bipush 32, 2) := by decide +kernel
theorem dL_isActed_489 : decode cL_isActed 489 = .ok (.irem, 1) := by decide +kernel
theorem dL_isActed_490 : decode cL_isActed 490 = .ok (.iload 11, 2) := by decide +kernel
theorem dL_isActed_492 : decode cL_isActed 492 = .ok (.invokestatic 118, 3) := by decide +kernel
theorem dL_isActed_495 : decode cL_isActed 495 = .ok (.iastore, 1) := by decide +kernel
theorem dL_isActed_496 : decode cL_isActed 496 = .ok (.aload_n 0, 1) := by decide +kernel
theorem dL_isActed_497 : decode cL_isActed 497 = .ok (.iload 9, 2) := by decide +kernel
theorem dL_isActed_499 : decode cL_isActed 499 = .ok (.bipush 32, 2) := by decide +kernel
theorem dL_isActed_501 : decode cL_isActed 501 = .ok (.irem, 1) := by decide +kernel
theorem dL_isActed_502 : decode cL_isActed 502 = .ok (.iload 11, 2) := by decide +kernel
theorem dL_isActed_504 : decode cL_isActed 504 = .ok (.invokevirtual 123, 3) := by decide +kernel
theorem dL_isActed_507 : decode cL_isActed 507 = .ok (.iload 12, 2) := by decide +kernel
theorem dL_isActed_509 : decode cL_isActed 509 = .ok (.if_icmp .ne 7, 3) := by decide +kernel
theorem dL_isActed_512 : decode cL_isActed 512 = .ok (.iconst 1, 1) := by decide +kernel
theorem dL_isActed_513 : decode cL_isActed 513 = .ok (.goto 4, 3) := by decide +kernel
theorem dL_isActed_516 : decode cL_isActed 516 = .ok (.iconst 0, 1) := by decide +kernel
theorem dL_isActed_517 : decode cL_isActed 517 = .ok (.ireturn, 1) := by decide +kernel
theorem dL_isActed_518 : decode cL_isActed 518 = .ok (.iload 8, 2) := by decide +kernel
theorem dL_isActed_520 : decode cL_isActed 520 = .ok (.bipush 22, 2) := by decide +kernel
theorem dL_isActed_522 : decode cL_isActed 522 = .ok (.if_icmp .ne 12, 3) := by decide +kernel
theorem dL_isActed_525 : decode cL_isActed 525 = .ok (.aload_n 0, 1) := by decide +kernel
theorem dL_isActed_526 : decode cL_isActed 526 = .ok (.aload 4, 2) := by decide +kernel
theorem dL_isActed_528 : decode cL_isActed 528 = .ok (.aload 5, 2) := by decide +kernel
theorem dL_isActed_530 : decode cL_isActed 530 = .ok (.invokestatic 126, 3) := by decide +kernel
theorem dL_isActed_533 : decode cL_isActed 533 = .ok (.ireturn, 1) := by decide +kernel
theorem dL_isActed_534 : decode cL_isActed 534 = .ok (.bipush 63, 2) := by decide +kernel
theorem dL_isActed_536 : decode cL_isActed 536 = .ok (.istore 12, 2) := by decide +kernel
theorem dL_isActed_538 : decode cL_isActed 538 = .ok (.iload 12, 2) := by decide +kernel
theorem dL_isActed_540 : decode cL_isActed 540 = .ok (.ifCond .le 21, 3) := by decide +kernel
theorem dL_isActed_543 : decode cL_isActed 543 = .ok (.aload 6, 2) := by decide +kernel
theorem dL_isActed_545 : decode cL_isActed 545 = .ok (.iload 12, 2) := by decide +kernel
theorem dL_isActed_547 : decode cL_isActed 547 = .ok (.aload 6, 2) := by decide +kernel
theorem dL_isActed_549 : decode cL_isActed 549 = .ok (.iload 12, 2) := by decide +kernel
theorem dL_isActed_551 : decode cL_isActed 551 = .ok (.iconst 1, 1) := by decide +kernel
theorem dL_isActed_552 : decode cL_isActed 552 = .ok (.isub, 1) := by decide +kernel
theorem dL_isActed_553 : decode cL_isActed 553 = .ok (.iaload, 1) := by decide +kernel
theorem dL_isActed_554 : decode cL_isActed 554 = .ok (.iastore, 1) := by decide +kernel
theorem dL_isActed_555 : decode cL_isActed 555 = .ok (.iinc 12 (-1), 3) := by decide +kernel
theorem dL_isActed_558 : decode cL_isActed 558 = .ok (.goto (-20), 3) := by decide +kernel
theorem dL_isActed_561 : decode cL_isActed 561 = .ok (.aload 6, 2) := by decide +kernel
theorem dL_isActed_563 : decode cL_isActed 563 = .ok (.iconst 0, 1) := by decide +kernel
theorem dL_isActed_564 : decode cL_isActed 564 = .ok (.iload 11, 2) := by decide +kernel
theorem dL_isActed_566 : decode cL_isActed 566 = .ok (.invokestatic 118, 3) := by decide +kernel
theorem dL_isActed_569 : decode cL_isActed 569 = .ok (.iastore, 1) := by decide +kernel
theorem dL_isActed_570 : decode cL_isActed 570 = .ok (.aload 7, 2) := by decide +kernel
theorem dL_isActed_572 : decode cL_isActed 572 = .ok (.iconst 3, 1) := by decide +kernel
theorem dL_isActed_573 : decode cL_isActed 573 = .ok (.dup2, 1) := by decide +kernel
theorem dL_isActed_574 : decode cL_isActed 574 = .ok (.iaload, 1) := by decide +kernel
theorem dL_isActed_575 : decode cL_isActed 575 = .ok (.aload 7, 2) := by decide +kernel
theorem dL_isActed_577 : decode cL_isActed 577 = .ok (.iconst 3, 1) := by decide +kernel
theorem dL_isActed_578 : decode cL_isActed 578 = .ok (.iaload, 1) := by decide +kernel
theorem dL_isActed_579 : decode cL_isActed 579 = .ok (.bipush 64, 2) := by decide +kernel
theorem dL_isActed_581 : decode cL_isActed 581 = .ok (.if_icmp .ge 7, 3) := by decide +kernel
theorem dL_isActed_584 : decode cL_isActed 584 = .ok (.iconst 1, 1) := by decide +kernel
theorem dL_isActed_585 : decode cL_isActed 585 = .ok (.goto 4, 3) := by decide +kernel
theorem dL_isActed_588 : decode cL_isActed 588 = .ok (.iconst 0, 1) := by decide +kernel
theorem dL_isActed_589 : decode cL_isActed 589 = .ok (.iadd, 1) := by decide +kernel
theorem dL_isActed_590 : decode cL_isActed 590 = .ok (.iastore, 1) := by decide +kernel
theorem dL_isActed_591 : decode cL_isActed 591 = .ok (.aload_n 0, 1) := by decide +kernel
theorem dL_isActed_592 : decode cL_isActed 592 = .ok (.iload 11, 2) := by decide +kernel
theorem dL_isActed_594 : decode cL_isActed 594 = .ok (.invokevirtual 130, 3) := by decide +kernel
theorem dL_isActed_597 : decode cL_isActed 597 = .ok (.aload 7, 2) := by decide +kernel
theorem dL_isActed_599 : decode cL_isActed 599 = .ok (.iconst 3, 1) := by decide +kernel
theorem dL_isActed_600 : decode cL_isActed 600 = .ok (.iaload, 1) := by decide +kernel
theorem dL_isActed_601 : decode cL_isActed 601 = .ok (.if_icmp .ne 7, 3) := by decide +kernel
theorem dL_isActed_604 : decode cL_isActed 604 = .ok (.iconst 1, 1) := by decide +kernel
theorem dL_isActed_605 : decode cL_isActed 605 = .ok (.goto 4, 3) := by decide +kernel
theorem dL_isActed_608 : decode cL_isActed 608 = .ok (.iconst 0, 1) := by decide +kernel
theorem dL_isActed_609 : decode cL_isActed 609 = .ok (.ireturn, 1) := by decide +kernel
