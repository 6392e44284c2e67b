theorem dX12_finish_0 : decode cX12_finish 0 = .ok (.aload_n 0, 1) := by decide +kernel
theorem dX12_finish_1 : decode cX12_finish 1 = .ok (.iload_n 1, 1) := by decide +kernel
theorem dX12_finish_2 : decode cX12_finish 2 = .ok (.invokevirtual 225, 3) := by decide +kernel
theorem dX12_finish_5 : decode cX12_finish 5 = .ok (.istore_n 2, 1) := by decide +kernel
theorem dX12_finish_6 : decode cX12_finish 6 = .ok (.iconst 0, 1) := by decide +kernel
theorem dX12_finish_7 : decode cX12_finish 7 = .ok (.istore_n 3, 1) := by decide +kernel
theorem dX12_finish_8 : decode cX12_finish 8 = .ok (.iconst 0, 1) := by decide +kernel
theorem dX12_finish_9 : decode cX12_finish 9 = .ok (.istore 4, 2) := by decide +kernel
theorem dX12_finish_11 : decode cX12_finish 11 = .ok (.iload 4, 2) := by decide +kernel
theorem dX12_finish_13 : decode cX12_finish 13 = .ok (.aload_n 0, 1) := by decide +kernel
theorem dX12_finish_14 : decode cX12_finish 14 = .ok (.getfield 42, 3) := by decide +kernel
theorem dX12_finish_17 : decode cX12_finish 17 = .ok (.iload_n 2, 1) := by decide +kernel
theorem dX12_finish_18 : decode cX12_finish 18 = .ok (.iaload, 1) := by decide +kernel
theorem dX12_finish_19 : decode cX12_finish 19 = .ok (.if_icmp .ge 50, 3) := by decide +kernel
theorem dX12_finish_22 : decode cX12_finish 22 = .ok (.iload_n 3, 1) := by decide +kernel
theorem dX12_finish_23 : decode cX12_finish 23 = .ok (.aload_n 0, 1) := by decide +kernel
theorem dX12_finish_24 : decode cX12_finish 24 = .ok (.getfield 48, 3) := by decide +kernel
theorem dX12_finish_27 : decode cX12_finish 27 = .ok (.bipush 8, 2) := by decide +kernel
theorem dX12_finish_29 : decode cX12_finish 29 = .ok (.iload_n 2, 1) := by decide +kernel
theorem dX12_finish_30 : decode cX12_finish 30 = .ok (.imul, 1) := by decide +kernel
theorem dX12_finish_31 : decode cX12_finish 31 = .ok (.iload 4, 2) := by decide +kernel
theorem dX12_finish_33 : decode cX12_finish 33 = .ok (.iadd, 1) := by decide +kernel
theorem dX12_finish_34 : decode cX12_finish 34 = .ok (.iaload, 1) := by decide +kernel
theorem dX12_finish_35 : decode cX12_finish 35 = .ok (.bipush 9, 2) := by decide +kernel
theorem dX12_finish_37 : decode cX12_finish 37 = .ok (.if_icmp .ne 23, 3) := by decide +kernel
theorem dX12_finish_40 : decode cX12_finish 40 = .ok (.aload_n 0, 1) := by decide +kernel
theorem dX12_finish_41 : decode cX12_finish 41 = .ok (.iload_n 1, 1) := by decide +kernel
theorem dX12_finish_42 : decode cX12_finish 42 = .ok (.aload_n 0, 1) := by decide +kernel
theorem dX12_finish_43 : decode cX12_finish 43 = .ok (.getfield 87, 3) := by decide +kernel
theorem dX12_finish_46 : decode cX12_finish 46 = .ok (.iload 4, 2) := by decide +kernel
theorem dX12_finish_48 : decode cX12_finish 48 = .ok (.laload, 1) := by decide +kernel
theorem dX12_finish_49 : decode cX12_finish 49 = .ok (.l2i, 1) := by decide +kernel
theorem dX12_finish_50 : decode cX12_finish 50 = .ok (.invokevirtual 240, 3) := by decide +kernel
theorem dX12_finish_53 : decode cX12_finish 53 = .ok (.ifCond .eq 7, 3) := by decide +kernel
theorem dX12_finish_56 : decode cX12_finish 56 = .ok (.iconst 1, 1) := by decide +kernel
theorem dX12_finish_57 : decode cX12_finish 57 = .ok (.goto 4, 3) := by decide +kernel
theorem dX12_finish_60 : decode cX12_finish 60 = .ok (.iconst 0, 1) := by decide +kernel
theorem dX12_finish_61 : decode cX12_finish 61 = .ok (.iadd, 1) := by decide +kernel
theorem dX12_finish_62 : decode cX12_finish 62 = .ok (.istore_n 3, 1) := by decide +kernel
theorem dX12_finish_63 : decode cX12_finish 63 = .ok (.iinc 4 1, 3) := by decide +kernel
theorem dX12_finish_66 : decode cX12_finish 66 = .ok (.goto (-55), 3) := by decide +kernel
theorem dX12_finish_69 : decode cX12_finish 69 = .ok (.aload_n 0, 1) := by decide +kernel
theorem dX12_finish_70 : decode cX12_finish 70 = .ok (.getfield 153, 3) := by decide +kernel
theorem dX12_finish_73 : decode cX12_finish 73 = .ok (.iload_n 3, 1) := by decide +kernel
theorem dX12_finish_74 : decode cX12_finish 74 = .ok (.iadd, 1) := by decide +kernel
theorem dX12_finish_75 : decode cX12_finish 75 = .ok (.bipush 60, 2) := by decide +kernel
theorem dX12_finish_77 : decode cX12_finish 77 = .ok (.if_icmp .le 6, 3) := by decide +kernel
theorem dX12_finish_80 : decode cX12_finish 80 = .ok (.bipush (-4), 2) := by decide +kernel
theorem dX12_finish_82 : decode cX12_finish 82 = .ok (.ireturn, 1) := by decide +kernel
theorem dX12_finish_83 : decode cX12_finish 83 = .ok (.aload_n 0, 1) := by decide +kernel
theorem dX12_finish_84 : decode cX12_finish 84 = .ok (.iload_n 1, 1) := by decide +kernel
theorem dX12_finish_85 : decode cX12_finish 85 = .ok (.iload_n 2, 1) := by decide +kernel
theorem dX12_finish_86 : decode cX12_finish 86 = .ok (.invokevirtual 243, 3) := by decide +kernel
theorem dX12_finish_89 : decode cX12_finish 89 = .ok (.ifCond .eq 9, 3) := by decide +kernel
theorem dX12_finish_92 : decode cX12_finish 92 = .ok (.aload_n 0, 1) := by decide +kernel
theorem dX12_finish_93 : decode cX12_finish 93 = .ok (.iconst 5, 1) := by decide +kernel
theorem dX12_finish_94 : decode cX12_finish 94 = .ok (.invokevirtual 166, 3) := by decide +kernel
theorem dX12_finish_97 : decode cX12_finish 97 = .ok (.ireturn, 1) := by decide +kernel
theorem dX12_finish_98 : decode cX12_finish 98 = .ok (.aload_n 0, 1) := by decide +kernel
theorem dX12_finish_99 : decode cX12_finish 99 = .ok (.iconst 1, 1) := by decide +kernel
theorem dX12_finish_100 : decode cX12_finish 100 = .ok (.putfield 234, 3) := by decide +kernel
theorem dX12_finish_103 : decode cX12_finish 103 = .ok (.aload_n 0, 1) := by decide +kernel
theorem dX12_finish_104 : decode cX12_finish 104 = .ok (.iconst 0, 1) := by decide +kernel
theorem dX12_finish_105 : decode cX12_finish 105 = .ok (.putfield 237, 3) := by decide +kernel
theorem dX12_finish_108 : decode cX12_finish 108 = .ok (.iconst 0, 1) := by decide +kernel
theorem dX12_finish_109 : decode cX12_finish 109 = .ok (.istore 4, 2) := by decide +kernel
theorem dX12_finish_111 : decode cX12_finish 111 = .ok (.iload 4, 2) := by decide +kernel
theorem dX12_finish_113 : decode cX12_finish 113 = .ok (.aload_n 0, 1) := by decide +kernel
theorem dX12_finish_114 : decode cX12_finish 114 = .ok (.getfield 42, 3) := by decide +kernel
theorem dX12_finish_117 : decode cX12_finish 117 = .ok (.iload_n 2, 1) := by decide +kernel
theorem dX12_finish_118 : decode cX12_finish 118 = .ok (.iaload, 1) := by decide +kernel
theorem dX12_finish_119 : decode cX12_finish 119 = .ok (.if_icmp .ge 137, 3) := by decide +kernel
theorem dX12_finish_122 : decode cX12_finish 122 = .ok (.aload_n 0, 1) := by decide +kernel
theorem dX12_finish_123 : decode cX12_finish 123 = .ok (.getfield 48, 3) := by decide +kernel
theorem dX12_finish_126 : decode cX12_finish 126 = .ok (.bipush 8, 2) := by decide +kernel
theorem dX12_finish_128 : decode cX12_finish 128 = .ok (.iload_n 2, 1) := by decide +kernel
theorem dX12_finish_129 : decode cX12_finish 129 = .ok (.imul, 1) := by decide +kernel
theorem dX12_finish_130 : decode cX12_finish 130 = .ok (.iload 4, 2) := by decide +kernel
theorem dX12_finish_132 : decode cX12_finish 132 = .ok (.iadd, 1) := by decide +kernel
theorem dX12_finish_133 : decode cX12_finish 133 = .ok (.iaload, 1) := by decide +kernel
theorem dX12_finish_134 : decode cX12_finish 134 = .ok (.bipush 8, 2) := by decide +kernel
theorem dX12_finish_136 : decode cX12_finish 136 = .ok (.if_icmp .ne 17, 3) := by decide +kernel
theorem dX12_finish_139 : decode cX12_finish 139 = .ok (.aload_n 0, 1) := by decide +kernel
theorem dX12_finish_140 : decode cX12_finish 140 = .ok (.aload_n 0, 1) := by decide +kernel
theorem dX12_finish_141 : decode cX12_finish 141 = .ok (.getfield 87, 3) := by decide +kernel
theorem dX12_finish_144 : decode cX12_finish 144 = .ok (.iload 4, 2) := by decide +kernel
theorem dX12_finish_146 : decode cX12_finish 146 = .ok (.laload, 1) := by decide +kernel
theorem dX12_finish_147 : decode cX12_finish 147 = .ok (.invokevirtual 246, 3) := by decide +kernel
theorem dX12_finish_150 : decode cX12_finish 150 = .ok (.goto 100, 3) := by decide +kernel
theorem dX12_finish_153 : decode cX12_finish 153 = .ok (.aload_n 0, 1) := by decide +kernel
theorem dX12_finish_154 : decode cX12_finish 154 = .ok (.getfield 48, 3) := by decide +kernel
theorem dX12_finish_157 : decode cX12_finish 157 = .ok (.bipush 8, 2) := by decide +kernel
theorem dX12_finish_159 : decode cX12_finish 159 = .ok (.iload_n 2, 1) := by decide +kernel
theorem dX12_finish_160 : decode cX12_finish 160 = .ok (.imul, 1) := by decide +kernel
theorem dX12_finish_161 : decode cX12_finish 161 = .ok (.iload 4, 2) := by decide +kernel
theorem dX12_finish_163 : decode cX12_finish 163 = .ok (.iadd, 1) := by decide +kernel
theorem dX12_finish_164 : decode cX12_finish 164 = .ok (.iaload, 1) := by decide +kernel
theorem dX12_finish_165 : decode cX12_finish 165 = .ok (.bipush 9, 2) := by decide +kernel
theorem dX12_finish_167 : decode cX12_finish 167 = .ok (.if_icmp .ne 83, 3) := by decide +kernel
theorem dX12_finish_170 : decode cX12_finish 170 = .ok (.aload_n 0, 1) := by decide +kernel
theorem dX12_finish_171 : decode cX12_finish 171 = .ok (.getfield 87, 3) := by decide +kernel
theorem dX12_finish_174 : decode cX12_finish 174 = .ok (.iload 4, 2) := by decide +kernel
theorem dX12_finish_176 : decode cX12_finish 176 = .ok (.laload, 1) := by decide +kernel
theorem dX12_finish_177 : decode cX12_finish 177 = .ok (.lconst 0, 1) := by decide +kernel
theorem dX12_finish_178 : decode cX12_finish 178 = .ok (.lcmp, 1) := by decide +kernel
theorem dX12_finish_179 : decode cX12_finish 179 = .ok (.ifCond .lt 71, 3) := by decide +kernel
theorem dX12_finish_182 : decode cX12_finish 182 = .ok (.aload_n 0, 1) := by decide +kernel
theorem dX12_finish_183 : decode cX12_finish 183 = .ok (.getfield 7, 3) := by decide +kernel
theorem dX12_finish_186 : decode cX12_finish 186 = .ok (.aload_n 0, 1) := by decide +kernel
theorem dX12_finish_187 : decode cX12_finish 187 = .ok (.getfield 87, 3) := by decide +kernel
theorem dX12_finish_190 : decode cX12_finish 190 = .ok (.iload 4, 2) := by decide +kernel
theorem dX12_finish_192 : decode cX12_finish 192 = .ok (.laload, 1) := by decide +kernel
theorem dX12_finish_193 : decode cX12_finish 193 = .ok (.l2i, 1) := by decide +kernel
theorem dX12_finish_194 : decode cX12_finish 194 = .ok (.iaload, 1) := by decide +kernel
theorem dX12_finish_195 : decode cX12_finish 195 = .ok (.bipush 8, 2) := by decide +kernel
theorem dX12_finish_197 : decode cX12_finish 197 = .ok (.if_icmp .ne 53, 3) := by decide +kernel
theorem dX12_finish_200 : decode cX12_finish 200 = .ok (.iconst 0, 1) := by decide +kernel
theorem dX12_finish_201 : decode cX12_finish 201 = .ok (.istore 5, 2) := by decide +kernel
theorem dX12_finish_203 : decode cX12_finish 203 = .ok (.iload 5, 2) := by decide +kernel
theorem dX12_finish_205 : decode cX12_finish 205 = .ok (.aload_n 0, 1) := by decide +kernel
theorem dX12_finish_206 : decode cX12_finish 206 = .ok (.getfield 13, 3) := by decide +kernel
theorem dX12_finish_209 : decode cX12_finish 209 = .ok (.aload_n 0, 1) := by decide +kernel
theorem dX12_finish_210 : decode cX12_finish 210 = .ok (.getfield 87, 3) := by decide +kernel
theorem dX12_finish_213 : decode cX12_finish 213 = .ok (.iload 4, 2) := by decide +kernel
theorem dX12_finish_215 : decode cX12_finish 215 = .ok (.laload, 1) := by decide +kernel
theorem dX12_finish_216 : decode cX12_finish 216 = .ok (.l2i, 1) := by decide +kernel
theorem dX12_finish_217 : decode cX12_finish 217 = .ok (.iaload, 1) := by decide +kernel
theorem dX12_finish_218 : decode cX12_finish 218 = .ok (.if_icmp .ge 32, 3) := by decide +kernel
theorem dX12_finish_221 : decode cX12_finish 221 = .ok (.aload_n 0, 1) := by decide +kernel
theorem dX12_finish_222 : decode cX12_finish 222 = .ok (.aload_n 0, 1) := by decide +kernel
theorem dX12_finish_223 : decode cX12_finish 223 = .ok (.getfield 20, 3) := by decide +kernel
theorem dX12_finish_226 : decode cX12_finish 226 = .ok (.bipush 20, 2) := by decide +kernel
theorem dX12_finish_228 : decode cX12_finish 228 = .ok (.aload_n 0, 1) := by decide +kernel
theorem dX12_finish_229 : decode cX12_finish 229 = .ok (.getfield 87, 3) := by decide +kernel
theorem dX12_finish_232 : decode cX12_finish 232 = .ok (.iload 4, 2) := by decide +kernel
theorem dX12_finish_234 : decode cX12_finish 234 = .ok (.laload, 1) := by decide +kernel
theorem dX12_finish_235 : decode cX12_finish 235 = .ok (.l2i, 1) := by decide +kernel
theorem dX12_finish_236 : decode cX12_finish 236 = .ok (.imul, 1) := by decide +kernel
theorem dX12_finish_237 : decode cX12_finish 237 = .ok (.iload 5, 2) := by decide +kernel
theorem dX12_finish_239 : decode cX12_finish 239 = .ok (.iadd, 1) := by decide +kernel
theorem dX12_finish_240 : decode cX12_finish 240 = .ok (.laload, 1) := by decide +kernel
theorem dX12_finish_241 : decode cX12_finish 241 = .ok (.invokevirtual 246, 3) := by decide +kernel
theorem dX12_finish_244 : decode cX12_finish 244 = .ok (.iinc 5 1, 3) := by decide +kernel
theorem dX12_finish_247 : decode cX12_finish 247 = .ok (.goto (-44), 3) := by decide +kernel
theorem dX12_finish_250 : decode cX12_finish 250 = .ok (.iinc 4 1, 3) := by decide +kernel
theorem dX12_finish_253 : decode cX12_finish 253 = .ok (.goto (-142), 3) := by decide +kernel
theorem dX12_finish_256 : decode cX12_finish 256 = .ok (.aload_n 0, 1) := by decide +kernel
theorem dX12_finish_257 : decode cX12_finish 257 = .ok (.getfield 234, 3) := by decide +kernel
theorem dX12_finish_260 : decode cX12_finish 260 = .ok (.sipush 300, 3) := by decide +kernel
theorem dX12_finish_263 : decode cX12_finish 263 = .ok (.if_icmp .gt 14, 3) := by decide +kernel
theorem dX12_finish_266 : decode cX12_finish 266 = .ok (.aload_n 0, 1) := by decide +kernel
theorem dX12_finish_267 : decode cX12_finish 267 = .ok (.getfield 237, 3) := by decide +kernel
theorem dX12_finish_270 : decode cX12_finish 270 = .ok (.iconst 1, 1) := by decide +kernel
theorem dX12_finish_271 : decode cX12_finish 271 = .ok (.iadd, 1) := by decide +kernel
theorem dX12_finish_272 : decode cX12_finish 272 = .ok (.bipush 8, 2) := by decide +kernel
theorem dX12_finish_274 : decode cX12_finish 274 = .ok (.if_icmp .le 6, 3) := by decide +kernel
theorem dX12_finish_277 : decode cX12_finish 277 = .ok (.bipush (-4), 2) := by decide +kernel
theorem dX12_finish_279 : decode cX12_finish 279 = .ok (.ireturn, 1) := by decide +kernel
theorem dX12_finish_280 : decode cX12_finish 280 = .ok (.aload_n 0, 1) := by decide +kernel
theorem dX12_finish_281 : decode cX12_finish 281 = .ok (.iload_n 1, 1) := by decide +kernel
theorem dX12_finish_282 : decode cX12_finish 282 = .ok (.invokevirtual 212, 3) := by decide +kernel
theorem dX12_finish_285 : decode cX12_finish 285 = .ok (.istore 4, 2) := by decide +kernel
theorem dX12_finish_287 : decode cX12_finish 287 = .ok (.aload_n 0, 1) := by decide +kernel
theorem dX12_finish_288 : decode cX12_finish 288 = .ok (.getfield 75, 3) := by decide +kernel
theorem dX12_finish_291 : decode cX12_finish 291 = .ok (.iload 4, 2) := by decide +kernel
theorem dX12_finish_293 : decode cX12_finish 293 = .ok (.aload_n 0, 1) := by decide +kernel
theorem dX12_finish_294 : decode cX12_finish 294 = .ok (.getfield 234, 3) := by decide +kernel
theorem dX12_finish_297 : decode cX12_finish 297 = .ok (.iastore, 1) := by decide +kernel
theorem dX12_finish_298 : decode cX12_finish 298 = .ok (.aload_n 0, 1) := by decide +kernel
theorem dX12_finish_299 : decode cX12_finish 299 = .ok (.getfield 78, 3) := by decide +kernel
theorem dX12_finish_302 : decode cX12_finish 302 = .ok (.iload 4, 2) := by decide +kernel
theorem dX12_finish_304 : decode cX12_finish 304 = .ok (.aload_n 0, 1) := by decide +kernel
theorem dX12_finish_305 : decode cX12_finish 305 = .ok (.getfield 237, 3) := by decide +kernel
theorem dX12_finish_308 : decode cX12_finish 308 = .ok (.iconst 1, 1) := by decide +kernel
theorem dX12_finish_309 : decode cX12_finish 309 = .ok (.iadd, 1) := by decide +kernel
theorem dX12_finish_310 : decode cX12_finish 310 = .ok (.iastore, 1) := by decide +kernel
theorem dX12_finish_311 : decode cX12_finish 311 = .ok (.iconst 0, 1) := by decide +kernel
theorem dX12_finish_312 : decode cX12_finish 312 = .ok (.istore 5, 2) := by decide +kernel
theorem dX12_finish_314 : decode cX12_finish 314 = .ok (.iload 5, 2) := by decide +kernel
theorem dX12_finish_316 : decode cX12_finish 316 = .ok (.aload_n 0, 1) := by decide +kernel
theorem dX12_finish_317 : decode cX12_finish 317 = .ok (.getfield 42, 3) := by decide +kernel
theorem dX12_finish_320 : decode cX12_finish 320 = .ok (.iload_n 2, 1) := by decide +kernel
theorem dX12_finish_321 : decode cX12_finish 321 = .ok (.iaload, 1) := by decide +kernel
theorem dX12_finish_322 : decode cX12_finish 322 = .ok (.if_icmp .ge 110, 3) := by decide +kernel
theorem dX12_finish_325 : decode cX12_finish 325 = .ok (.aload_n 0, 1) := by decide +kernel
theorem dX12_finish_326 : decode cX12_finish 326 = .ok (.getfield 48, 3) := by decide +kernel
theorem dX12_finish_329 : decode cX12_finish 329 = .ok (.bipush 8, 2) := by decide +kernel
theorem dX12_finish_331 : decode cX12_finish 331 = .ok (.iload_n 2, 1) := by decide +kernel
theorem dX12_finish_332 : decode cX12_finish 332 = .ok (.imul, 1) := by decide +kernel
theorem dX12_finish_333 : decode cX12_finish 333 = .ok (.iload 5, 2) := by decide +kernel
theorem dX12_finish_335 : decode cX12_finish 335 = .ok (.iadd, 1) := by decide +kernel
theorem dX12_finish_336 : decode cX12_finish 336 = .ok (.iaload, 1) := by decide +kernel
theorem dX12_finish_337 : decode cX12_finish 337 = .ok (.bipush 9, 2) := by decide +kernel
theorem dX12_finish_339 : decode cX12_finish 339 = .ok (.if_icmp .ne 67, 3) := by decide +kernel
theorem dX12_finish_342 : decode cX12_finish 342 = .ok (.aload_n 0, 1) := by decide +kernel
theorem dX12_finish_343 : decode cX12_finish 343 = .ok (.iload_n 1, 1) := by decide +kernel
theorem dX12_finish_344 : decode cX12_finish 344 = .ok (.aload_n 0, 1) := by decide +kernel
theorem dX12_finish_345 : decode cX12_finish 345 = .ok (.getfield 87, 3) := by decide +kernel
theorem dX12_finish_348 : decode cX12_finish 348 = .ok (.iload 5, 2) := by decide +kernel
theorem dX12_finish_350 : decode cX12_finish 350 = .ok (.laload, 1) := by decide +kernel
theorem dX12_finish_351 : decode cX12_finish 351 = .ok (.l2i, 1) := by decide +kernel
theorem dX12_finish_352 : decode cX12_finish 352 = .ok (.invokevirtual 240, 3) := by decide +kernel
theorem dX12_finish_355 : decode cX12_finish 355 = .ok (.ifCond .eq 51, 3) := by decide +kernel
theorem dX12_finish_358 : decode cX12_finish 358 = .ok (.aload_n 0, 1) := by decide +kernel
theorem dX12_finish_359 : decode cX12_finish 359 = .ok (.aload_n 0, 1) := by decide +kernel
theorem dX12_finish_360 : decode cX12_finish 360 = .ok (.getfield 87, 3) := by decide +kernel
theorem dX12_finish_363 : decode cX12_finish 363 = .ok (.iload 5, 2) := by decide +kernel
theorem dX12_finish_365 : decode cX12_finish 365 = .ok (.laload, 1) := by decide +kernel
theorem dX12_finish_366 : decode cX12_finish 366 = .ok (.l2i, 1) := by decide +kernel
theorem dX12_finish_367 : decode cX12_finish 367 = .ok (.invokevirtual 196, 3) := by decide +kernel
theorem dX12_finish_370 : decode cX12_finish 370 = .ok (.istore 6, 2) := by decide +kernel
theorem dX12_finish_372 : decode cX12_finish 372 = .ok (.aload_n 0, 1) := by decide +kernel
theorem dX12_finish_373 : decode cX12_finish 373 = .ok (.getfield 16, 3) := by decide +kernel
theorem dX12_finish_376 : decode cX12_finish 376 = .ok (.iload 6, 2) := by decide +kernel
theorem dX12_finish_378 : decode cX12_finish 378 = .ok (.aload_n 0, 1) := by decide +kernel
theorem dX12_finish_379 : decode cX12_finish 379 = .ok (.getfield 7, 3) := by decide +kernel
theorem dX12_finish_382 : decode cX12_finish 382 = .ok (.iload 6, 2) := by decide +kernel
theorem dX12_finish_384 : decode cX12_finish 384 = .ok (.iaload, 1) := by decide +kernel
theorem dX12_finish_385 : decode cX12_finish 385 = .ok (.bipush 8, 2) := by decide +kernel
theorem dX12_finish_387 : decode cX12_finish 387 = .ok (.if_icmp .ne 7, 3) := by decide +kernel
theorem dX12_finish_390 : decode cX12_finish 390 = .ok (.iconst 1, 1) := by decide +kernel
theorem dX12_finish_391 : decode cX12_finish 391 = .ok (.goto 4, 3) := by decide +kernel
theorem dX12_finish_394 : decode cX12_finish 394 = .ok (.iconst 0, 1) := by decide +kernel
theorem dX12_finish_395 : decode cX12_finish 395 = .ok (.bastore, 1) := by decide +kernel
theorem dX12_finish_396 : decode cX12_finish 396 = .ok (.aload_n 0, 1) := by decide +kernel
theorem dX12_finish_397 : decode cX12_finish 397 = .ok (.getfield 87, 3) := by decide +kernel
theorem dX12_finish_400 : decode cX12_finish 400 = .ok (.iload 5, 2) := by decide +kernel
theorem dX12_finish_402 : decode cX12_finish 402 = .ok (.iload 6, 2) := by decide +kernel
theorem dX12_finish_404 : decode cX12_finish 404 = .ok (.i2l, 1) := by decide +kernel
theorem dX12_finish_405 : decode cX12_finish 405 = .ok (.lastore, 1) := by decide +kernel
theorem dX12_finish_406 : decode cX12_finish 406 = .ok (.aload_n 0, 1) := by decide +kernel
theorem dX12_finish_407 : decode cX12_finish 407 = .ok (.getfield 84, 3) := by decide +kernel
theorem dX12_finish_410 : decode cX12_finish 410 = .ok (.bipush 6, 2) := by decide +kernel
theorem dX12_finish_412 : decode cX12_finish 412 = .ok (.iload 4, 2) := by decide +kernel
theorem dX12_finish_414 : decode cX12_finish 414 = .ok (.imul, 1) := by decide +kernel
theorem dX12_finish_415 : decode cX12_finish 415 = .ok (.iload 5, 2) := by decide +kernel
theorem dX12_finish_417 : decode cX12_finish 417 = .ok (.iadd, 1) := by decide +kernel
theorem dX12_finish_418 : decode cX12_finish 418 = .ok (.aload_n 0, 1) := by decide +kernel
theorem dX12_finish_419 : decode cX12_finish 419 = .ok (.getfield 87, 3) := by decide +kernel
theorem dX12_finish_422 : decode cX12_finish 422 = .ok (.iload 5, 2) := by decide +kernel
theorem dX12_finish_424 : decode cX12_finish 424 = .ok (.laload, 1) := by decide +kernel
theorem dX12_finish_425 : decode cX12_finish 425 = .ok (.lastore, 1) := by decide +kernel
theorem dX12_finish_426 : decode cX12_finish 426 = .ok (.iinc 5 1, 3) := by decide +kernel
theorem dX12_finish_429 : decode cX12_finish 429 = .ok (.goto (-115), 3) := by decide +kernel
theorem dX12_finish_432 : decode cX12_finish 432 = .ok (.iload 4, 2) := by decide +kernel
theorem dX12_finish_434 : decode cX12_finish 434 = .ok (.ireturn, 1) := by decide +kernel
def L_X12_finish_11 (d : Nat) (v0 : Option Nm) (v1 : Int32) (v2 : Int32) (v3 : Int32) (v4 : Int32) (h : MH) (u : Nat) (Q : Int32 → MH → Prop) : Prop := T u_X12_finish (d + 1) 11 [some (jR v0), some (jI v1), some (jI v2), some (jI v3), some (jI v4), none, none] [] h u (qI Q)
def L_X12_finish_111 (d : Nat) (v0 : Option Nm) (v1 : Int32) (v2 : Int32) (v4 : Int32) (h : MH) (u : Nat) (Q : Int32 → MH → Prop) : Prop := T u_X12_finish (d + 1) 111 [some (jR v0), some (jI v1), some (jI v2), none, some (jI v4), none, none] [] h u (qI Q)
def L_X12_finish_203 (d : Nat) (v0 : Option Nm) (v1 : Int32) (v2 : Int32) (v4 : Int32) (v5 : Int32) (h : MH) (u : Nat) (Q : Int32 → MH → Prop) : Prop := T u_X12_finish (d + 1) 203 [some (jR v0), some (jI v1), some (jI v2), none, some (jI v4), some (jI v5), none] [] h u (qI Q)
def L_X12_finish_314 (d : Nat) (v0 : Option Nm) (v1 : Int32) (v2 : Int32) (v4 : Int32) (v5 : Int32) (h : MH) (u : Nat) (Q : Int32 → MH → Prop) : Prop := T u_X12_finish (d + 1) 314 [some (jR v0), some (jI v1), some (jI v2), none, some (jI v4), some (jI v5), none] [] h u (qI Q)
def F_X12_finish (d : Nat) (v0 : Option Nm) (v1 : Int32) (h : MH) (u : Nat) (Q : Int32 → MH → Prop) : Prop :=
  rc h v0 11 ∧ iI d u_X12_newestOf [jR v0, jI v1] h u fun x1 h u =>
  L_X12_finish_11 d v0 v1 x1 0 0 h u Q
set_option maxRecDepth 20000 in
theorem E_X12_finish {d : Nat} {v0 : Option Nm} {v1 : Int32} {h : MH} {u : Nat} {Q : Int32 → MH → Prop} (H : F_X12_finish d v0 v1 h u Q) : T u_X12_finish (d + 1) 0 [some (jR v0), some (jI v1), none, none, none, none, none] [] h u (qI Q) := by
  unfold F_X12_finish at H
  refine T_aload_n (pc := 0) dX12_finish_0 rfl rfl ?_
  refine T_iload_n (pc := 1) dX12_finish_1 rfl rfl ?_
  obtain ⟨H0, H⟩ := H
  refine T_iV (pc := 2) (ci := 11) (av := [jI v1]) (rest := []) (o := v0) dX12_finish_2 mf_X12_newestOf c_5_210 c_5_212 pr_X12_newestOf rfl rfl (Nat.le_of_ble_eq_true rfl) rfl H0 (iI_k (iI_mono (fun x1 h u H => ?_) H))
  refine T_istore_n (pc := 5) (ls2 := [some (jR v0), some (jI v1), some (jI x1), none, none, none, none]) dX12_finish_5 rfl (Nat.le_of_ble_eq_true rfl) rfl ?_
  refine T_iconst (pc := 6) (v := 0) dX12_finish_6 (by decide) ?_
  refine T_istore_n (pc := 7) (ls2 := [some (jR v0), some (jI v1), some (jI x1), some (jI 0), none, none, none]) dX12_finish_7 rfl (Nat.le_of_ble_eq_true rfl) rfl ?_
  refine T_iconst (pc := 8) (v := 0) dX12_finish_8 (by decide) ?_
  refine T_istore (pc := 9) (ls2 := [some (jR v0), some (jI v1), some (jI x1), some (jI 0), some (jI 0), none, none]) dX12_finish_9 (Nat.le_of_ble_eq_true rfl) rfl ?_
  exact T.forget H ⟨rfl, rfl, rfl, rfl, rfl, trivial⟩
def F_X12_finish_11 (d : Nat) (v0 : Option Nm) (v1 : Int32) (v2 : Int32) (v3 : Int32) (v4 : Int32) (h : MH) (u : Nat) (Q : Int32 → MH → Prop) : Prop :=
  gR h v0 11 15 fun x1 =>
  aI .int h x1 v2 fun x2 =>
  if x2 ≤ v4 then
    gI h v0 11 3 fun x3 =>
    if (x3 + v3) ≤ 60 then
      rc h v0 11 ∧ iI d u_X12_breaks [jR v0, jI v1, jI v2] h u fun x4 h u =>
      if x4 = 0 then
        pV h v0 11 33 (jI 1) fun h =>
        pV h v0 11 34 (jI 0) fun h =>
        L_X12_finish_111 d v0 v1 v2 0 h u Q
      else
        rc h v0 11 ∧ iI d u_X12_fails [jR v0, jI 5] h u fun x5 h u =>
        Q x5 h
    else
      Q (-4) h
  else
    gR h v0 11 17 fun x6 =>
    aI .int h x6 ((8 * v2) + v4) fun x7 =>
    if x7 = 9 then
      gR h v0 11 32 fun x8 =>
      aL h x8 v4 fun x9 =>
      rc h v0 11 ∧ iI d u_X12_isTwinned [jR v0, jI v1, jI (x9.toInt32)] h u fun x10 h u =>
      if x10 = 0 then
        L_X12_finish_11 d v0 v1 v2 (v3 + 0) (v4 + 1) h u Q
      else
        L_X12_finish_11 d v0 v1 v2 (v3 + 1) (v4 + 1) h u Q
    else
      L_X12_finish_11 d v0 v1 v2 (v3 + 0) (v4 + 1) h u Q
set_option maxRecDepth 20000 in
theorem E_X12_finish_11 {d : Nat} {v0 : Option Nm} {v1 : Int32} {v2 : Int32} {v3 : Int32} {v4 : Int32} {h : MH} {u : Nat} {Q : Int32 → MH → Prop} (H : F_X12_finish_11 d v0 v1 v2 v3 v4 h u Q) : T u_X12_finish (d + 1) 11 [some (jR v0), some (jI v1), some (jI v2), some (jI v3), some (jI v4), none, none] [] h u (qI Q) := by
  unfold F_X12_finish_11 at H
  refine T_iload (pc := 11) dX12_finish_11 rfl ?_
  refine T_aload_n (pc := 13) dX12_finish_13 rfl rfl ?_
  refine T_gR (pc := 14) fa_X12_42 dX12_finish_14 (gR_mono (fun x1 H => ?_) H)
  refine T_iload_n (pc := 17) dX12_finish_17 rfl rfl ?_
  refine T_aI (pc := 18) dX12_finish_18 (aI_mono (fun x2 H => ?_) H)
  refine T_icmp_ge (pc := 19) (tgt := 69) dX12_finish_19 (by decide) (fun hc => ?_) (fun hc => ?_)
  · rw [if_pos hc] at H
    refine T_aload_n (pc := 69) dX12_finish_69 rfl rfl ?_
    refine T_gI (pc := 70) fa_X12_153 dX12_finish_70 (gI_mono (fun x3 H => ?_) H)
    refine T_iload_n (pc := 73) dX12_finish_73 rfl rfl ?_
    refine T_iadd (pc := 74) dX12_finish_74 ?_
    refine T_bipush (pc := 75) (v := 60) dX12_finish_75 (by decide) ?_
    refine T_icmp_le (pc := 77) (tgt := 83) dX12_finish_77 (by decide) (fun hc => ?_) (fun hc => ?_)
    · rw [if_pos hc] at H
      refine T_aload_n (pc := 83) dX12_finish_83 rfl rfl ?_
      refine T_iload_n (pc := 84) dX12_finish_84 rfl rfl ?_
      refine T_iload_n (pc := 85) dX12_finish_85 rfl rfl ?_
      obtain ⟨H0, H⟩ := H
      refine T_iV (pc := 86) (ci := 11) (av := [jI v1, jI v2]) (rest := []) (o := v0) dX12_finish_86 mf_X12_breaks c_6_18 c_6_20 pr_X12_breaks rfl rfl (Nat.le_of_ble_eq_true rfl) rfl H0 (iI_k (iI_mono (fun x4 h u H => ?_) H))
      refine T_if_eq (pc := 89) (tgt := 98) dX12_finish_89 (by decide) (fun hc => ?_) (fun hc => ?_)
      · rw [if_pos hc] at H
        refine T_aload_n (pc := 98) dX12_finish_98 rfl rfl ?_
        refine T_iconst (pc := 99) (v := 1) dX12_finish_99 (by decide) ?_
        refine T_pV (pc := 100) fa_X12_234 dX12_finish_100 trivial (pV_mono (fun h H => ?_) H)
        refine T_aload_n (pc := 103) dX12_finish_103 rfl rfl ?_
        refine T_iconst (pc := 104) (v := 0) dX12_finish_104 (by decide) ?_
        refine T_pV (pc := 105) fa_X12_237 dX12_finish_105 trivial (pV_mono (fun h H => ?_) H)
        refine T_iconst (pc := 108) (v := 0) dX12_finish_108 (by decide) ?_
        refine T_istore (pc := 109) (ls2 := [some (jR v0), some (jI v1), some (jI v2), some (jI v3), some (jI 0), none, none]) dX12_finish_109 (Nat.le_of_ble_eq_true rfl) rfl ?_
        exact T.forget H ⟨rfl, rfl, rfl, rfl, trivial⟩
      · rw [if_neg hc] at H
        refine T_aload_n (pc := 92) dX12_finish_92 rfl rfl ?_
        refine T_iconst (pc := 93) (v := 5) dX12_finish_93 (by decide) ?_
        obtain ⟨H0, H⟩ := H
        refine T_iV (pc := 94) (ci := 11) (av := [jI 5]) (rest := []) (o := v0) dX12_finish_94 mf_X12_fails c_5_89 c_5_91 pr_X12_fails rfl rfl (Nat.le_of_ble_eq_true rfl) rfl H0 (iI_k (iI_mono (fun x5 h u H => ?_) H))
        exact T_ireturn (pc := 97) rfl rfl dX12_finish_97 H
    · rw [if_neg hc] at H
      refine T_bipush (pc := 80) (v := (-4)) dX12_finish_80 (by decide) ?_
      exact T_ireturn (pc := 82) rfl rfl dX12_finish_82 H
  · rw [if_neg hc] at H
    refine T_iload_n (pc := 22) dX12_finish_22 rfl rfl ?_
    refine T_aload_n (pc := 23) dX12_finish_23 rfl rfl ?_
    refine T_gR (pc := 24) fa_X12_48 dX12_finish_24 (gR_mono (fun x6 H => ?_) H)
    refine T_bipush (pc := 27) (v := 8) dX12_finish_27 (by decide) ?_
    refine T_iload_n (pc := 29) dX12_finish_29 rfl rfl ?_
    refine T_imul (pc := 30) dX12_finish_30 ?_
    refine T_iload (pc := 31) dX12_finish_31 rfl ?_
    refine T_iadd (pc := 33) dX12_finish_33 ?_
    refine T_aI (pc := 34) dX12_finish_34 (aI_mono (fun x7 H => ?_) H)
    refine T_bipush (pc := 35) (v := 9) dX12_finish_35 (by decide) ?_
    refine T_icmp_ne (pc := 37) (tgt := 60) dX12_finish_37 (by decide) (fun hc => ?_) (fun hc => ?_)
    · rw [if_neg hc] at H
      refine T_iconst (pc := 60) (v := 0) dX12_finish_60 (by decide) ?_
      refine T_iadd (pc := 61) dX12_finish_61 ?_
      refine T_istore_n (pc := 62) (ls2 := [some (jR v0), some (jI v1), some (jI v2), some (jI (v3 + 0)), some (jI v4), none, none]) dX12_finish_62 rfl (Nat.le_of_ble_eq_true rfl) rfl ?_
      refine T_iinc (pc := 63) (v := v4 + 1) (ls2 := [some (jR v0), some (jI v1), some (jI v2), some (jI (v3 + 0)), some (jI (v4 + 1)), none, none]) dX12_finish_63 rfl rfl (Nat.le_of_ble_eq_true rfl) rfl ?_
      refine T_goto (pc := 66) (tgt := 11) dX12_finish_66 (by decide) ?_
      exact T.forget H ⟨rfl, rfl, rfl, rfl, rfl, trivial⟩
    · rw [if_pos hc] at H
      refine T_aload_n (pc := 40) dX12_finish_40 rfl rfl ?_
      refine T_iload_n (pc := 41) dX12_finish_41 rfl rfl ?_
      refine T_aload_n (pc := 42) dX12_finish_42 rfl rfl ?_
      refine T_gR (pc := 43) fa_X12_87 dX12_finish_43 (gR_mono (fun x8 H => ?_) H)
      refine T_iload (pc := 46) dX12_finish_46 rfl ?_
      refine T_aL (pc := 48) dX12_finish_48 (aL_mono (fun x9 H => ?_) H)
      refine T_l2i (pc := 49) dX12_finish_49 ?_
      obtain ⟨H0, H⟩ := H
      refine T_iV (pc := 50) (ci := 11) (av := [jI v1, jI (x9.toInt32)]) (rest := [jI v3]) (o := v0) dX12_finish_50 mf_X12_isTwinned c_6_14 c_6_16 pr_X12_isTwinned rfl rfl (Nat.le_of_ble_eq_true rfl) rfl H0 (iI_k (iI_mono (fun x10 h u H => ?_) H))
      refine T_if_eq (pc := 53) (tgt := 60) dX12_finish_53 (by decide) (fun hc => ?_) (fun hc => ?_)
      · rw [if_pos hc] at H
        refine T_iconst (pc := 60) (v := 0) dX12_finish_60 (by decide) ?_
        refine T_iadd (pc := 61) dX12_finish_61 ?_
        refine T_istore_n (pc := 62) (ls2 := [some (jR v0), some (jI v1), some (jI v2), some (jI (v3 + 0)), some (jI v4), none, none]) dX12_finish_62 rfl (Nat.le_of_ble_eq_true rfl) rfl ?_
        refine T_iinc (pc := 63) (v := v4 + 1) (ls2 := [some (jR v0), some (jI v1), some (jI v2), some (jI (v3 + 0)), some (jI (v4 + 1)), none, none]) dX12_finish_63 rfl rfl (Nat.le_of_ble_eq_true rfl) rfl ?_
        refine T_goto (pc := 66) (tgt := 11) dX12_finish_66 (by decide) ?_
        exact T.forget H ⟨rfl, rfl, rfl, rfl, rfl, trivial⟩
      · rw [if_neg hc] at H
        refine T_iconst (pc := 56) (v := 1) dX12_finish_56 (by decide) ?_
        refine T_goto (pc := 57) (tgt := 61) dX12_finish_57 (by decide) ?_
        refine T_iadd (pc := 61) dX12_finish_61 ?_
        refine T_istore_n (pc := 62) (ls2 := [some (jR v0), some (jI v1), some (jI v2), some (jI (v3 + 1)), some (jI v4), none, none]) dX12_finish_62 rfl (Nat.le_of_ble_eq_true rfl) rfl ?_
        refine T_iinc (pc := 63) (v := v4 + 1) (ls2 := [some (jR v0), some (jI v1), some (jI v2), some (jI (v3 + 1)), some (jI (v4 + 1)), none, none]) dX12_finish_63 rfl rfl (Nat.le_of_ble_eq_true rfl) rfl ?_
        refine T_goto (pc := 66) (tgt := 11) dX12_finish_66 (by decide) ?_
        exact T.forget H ⟨rfl, rfl, rfl, rfl, rfl, trivial⟩
def F_X12_finish_111 (d : Nat) (v0 : Option Nm) (v1 : Int32) (v2 : Int32) (v4 : Int32) (h : MH) (u : Nat) (Q : Int32 → MH → Prop) : Prop :=
  gR h v0 11 15 fun x1 =>
  aI .int h x1 v2 fun x2 =>
  if x2 ≤ v4 then
    gI h v0 11 33 fun x3 =>
    if 300 < x3 then
      Q (-4) h
    else
      gI h v0 11 34 fun x4 =>
      if (x4 + 1) ≤ 8 then
        rc h v0 11 ∧ iI d u_X12_newValue [jR v0, jI v1] h u fun x5 h u =>
        gR h v0 11 28 fun x6 =>
        gI h v0 11 33 fun x7 =>
        sV .int h x6 x5 (jI x7) fun h =>
        gR h v0 11 29 fun x8 =>
        gI h v0 11 34 fun x9 =>
        sV .int h x8 x5 (jI (x9 + 1)) fun h =>
        L_X12_finish_314 d v0 v1 v2 x5 0 h u Q
      else
        Q (-4) h
  else
    gR h v0 11 17 fun x10 =>
    aI .int h x10 ((8 * v2) + v4) fun x11 =>
    if x11 = 8 then
      gR h v0 11 32 fun x20 =>
      aL h x20 v4 fun x21 =>
      rc h v0 11 ∧ iV d u_X12_counts [jR v0, jL x21] h u fun h u =>
      L_X12_finish_111 d v0 v1 v2 (v4 + 1) h u Q
    else
      gR h v0 11 17 fun x12 =>
      aI .int h x12 ((8 * v2) + v4) fun x13 =>
      if x13 = 9 then
        gR h v0 11 32 fun x14 =>
        aL h x14 v4 fun x15 =>
        if (lg_cmp x15 0) < 0 then
          L_X12_finish_111 d v0 v1 v2 (v4 + 1) h u Q
        else
          gR h v0 11 4 fun x16 =>
          gR h v0 11 32 fun x17 =>
          aL h x17 v4 fun x18 =>
          aI .int h x16 (x18.toInt32) fun x19 =>
          if x19 = 8 then
            L_X12_finish_203 d v0 v1 v2 v4 0 h u Q
          else
            L_X12_finish_111 d v0 v1 v2 (v4 + 1) h u Q
      else
        L_X12_finish_111 d v0 v1 v2 (v4 + 1) h u Q
set_option maxRecDepth 20000 in
theorem E_X12_finish_111 {d : Nat} {v0 : Option Nm} {v1 : Int32} {v2 : Int32} {v4 : Int32} {h : MH} {u : Nat} {Q : Int32 → MH → Prop} (H : F_X12_finish_111 d v0 v1 v2 v4 h u Q) : T u_X12_finish (d + 1) 111 [some (jR v0), some (jI v1), some (jI v2), none, some (jI v4), none, none] [] h u (qI Q) := by
  unfold F_X12_finish_111 at H
  refine T_iload (pc := 111) dX12_finish_111 rfl ?_
  refine T_aload_n (pc := 113) dX12_finish_113 rfl rfl ?_
  refine T_gR (pc := 114) fa_X12_42 dX12_finish_114 (gR_mono (fun x1 H => ?_) H)
  refine T_iload_n (pc := 117) dX12_finish_117 rfl rfl ?_
  refine T_aI (pc := 118) dX12_finish_118 (aI_mono (fun x2 H => ?_) H)
  refine T_icmp_ge (pc := 119) (tgt := 256) dX12_finish_119 (by decide) (fun hc => ?_) (fun hc => ?_)
  · rw [if_pos hc] at H
    refine T_aload_n (pc := 256) dX12_finish_256 rfl rfl ?_
    refine T_gI (pc := 257) fa_X12_234 dX12_finish_257 (gI_mono (fun x3 H => ?_) H)
    refine T_sipush (pc := 260) (v := 300) dX12_finish_260 (by decide) ?_
    refine T_icmp_gt (pc := 263) (tgt := 277) dX12_finish_263 (by decide) (fun hc => ?_) (fun hc => ?_)
    · rw [if_pos hc] at H
      refine T_bipush (pc := 277) (v := (-4)) dX12_finish_277 (by decide) ?_
      exact T_ireturn (pc := 279) rfl rfl dX12_finish_279 H
    · rw [if_neg hc] at H
      refine T_aload_n (pc := 266) dX12_finish_266 rfl rfl ?_
      refine T_gI (pc := 267) fa_X12_237 dX12_finish_267 (gI_mono (fun x4 H => ?_) H)
      refine T_iconst (pc := 270) (v := 1) dX12_finish_270 (by decide) ?_
      refine T_iadd (pc := 271) dX12_finish_271 ?_
      refine T_bipush (pc := 272) (v := 8) dX12_finish_272 (by decide) ?_
      refine T_icmp_le (pc := 274) (tgt := 280) dX12_finish_274 (by decide) (fun hc => ?_) (fun hc => ?_)
      · rw [if_pos hc] at H
        refine T_aload_n (pc := 280) dX12_finish_280 rfl rfl ?_
        refine T_iload_n (pc := 281) dX12_finish_281 rfl rfl ?_
        obtain ⟨H0, H⟩ := H
        refine T_iV (pc := 282) (ci := 11) (av := [jI v1]) (rest := []) (o := v0) dX12_finish_282 mf_X12_newValue c_5_218 c_5_220 pr_X12_newValue rfl rfl (Nat.le_of_ble_eq_true rfl) rfl H0 (iI_k (iI_mono (fun x5 h u H => ?_) H))
        refine T_istore (pc := 285) (ls2 := [some (jR v0), some (jI v1), some (jI v2), none, some (jI x5), none, none]) dX12_finish_285 (Nat.le_of_ble_eq_true rfl) rfl ?_
        refine T_aload_n (pc := 287) dX12_finish_287 rfl rfl ?_
        refine T_gR (pc := 288) fa_X12_75 dX12_finish_288 (gR_mono (fun x6 H => ?_) H)
        refine T_iload (pc := 291) dX12_finish_291 rfl ?_
        refine T_aload_n (pc := 293) dX12_finish_293 rfl rfl ?_
        refine T_gI (pc := 294) fa_X12_234 dX12_finish_294 (gI_mono (fun x7 H => ?_) H)
        refine T_sI (pc := 297) dX12_finish_297 (sV_mono (fun h H => ?_) H)
        refine T_aload_n (pc := 298) dX12_finish_298 rfl rfl ?_
        refine T_gR (pc := 299) fa_X12_78 dX12_finish_299 (gR_mono (fun x8 H => ?_) H)
        refine T_iload (pc := 302) dX12_finish_302 rfl ?_
        refine T_aload_n (pc := 304) dX12_finish_304 rfl rfl ?_
        refine T_gI (pc := 305) fa_X12_237 dX12_finish_305 (gI_mono (fun x9 H => ?_) H)
        refine T_iconst (pc := 308) (v := 1) dX12_finish_308 (by decide) ?_
        refine T_iadd (pc := 309) dX12_finish_309 ?_
        refine T_sI (pc := 310) dX12_finish_310 (sV_mono (fun h H => ?_) H)
        refine T_iconst (pc := 311) (v := 0) dX12_finish_311 (by decide) ?_
        refine T_istore (pc := 312) (ls2 := [some (jR v0), some (jI v1), some (jI v2), none, some (jI x5), some (jI 0), none]) dX12_finish_312 (Nat.le_of_ble_eq_true rfl) rfl ?_
        exact T.forget H ⟨rfl, rfl, rfl, rfl, rfl, trivial⟩
      · rw [if_neg hc] at H
        refine T_bipush (pc := 277) (v := (-4)) dX12_finish_277 (by decide) ?_
        exact T_ireturn (pc := 279) rfl rfl dX12_finish_279 H
  · rw [if_neg hc] at H
    refine T_aload_n (pc := 122) dX12_finish_122 rfl rfl ?_
    refine T_gR (pc := 123) fa_X12_48 dX12_finish_123 (gR_mono (fun x10 H => ?_) H)
    refine T_bipush (pc := 126) (v := 8) dX12_finish_126 (by decide) ?_
    refine T_iload_n (pc := 128) dX12_finish_128 rfl rfl ?_
    refine T_imul (pc := 129) dX12_finish_129 ?_
    refine T_iload (pc := 130) dX12_finish_130 rfl ?_
    refine T_iadd (pc := 132) dX12_finish_132 ?_
    refine T_aI (pc := 133) dX12_finish_133 (aI_mono (fun x11 H => ?_) H)
    refine T_bipush (pc := 134) (v := 8) dX12_finish_134 (by decide) ?_
    refine T_icmp_ne (pc := 136) (tgt := 153) dX12_finish_136 (by decide) (fun hc => ?_) (fun hc => ?_)
    · rw [if_neg hc] at H
      refine T_aload_n (pc := 153) dX12_finish_153 rfl rfl ?_
      refine T_gR (pc := 154) fa_X12_48 dX12_finish_154 (gR_mono (fun x12 H => ?_) H)
      refine T_bipush (pc := 157) (v := 8) dX12_finish_157 (by decide) ?_
      refine T_iload_n (pc := 159) dX12_finish_159 rfl rfl ?_
      refine T_imul (pc := 160) dX12_finish_160 ?_
      refine T_iload (pc := 161) dX12_finish_161 rfl ?_
      refine T_iadd (pc := 163) dX12_finish_163 ?_
      refine T_aI (pc := 164) dX12_finish_164 (aI_mono (fun x13 H => ?_) H)
      refine T_bipush (pc := 165) (v := 9) dX12_finish_165 (by decide) ?_
      refine T_icmp_ne (pc := 167) (tgt := 250) dX12_finish_167 (by decide) (fun hc => ?_) (fun hc => ?_)
      · rw [if_neg hc] at H
        refine T_iinc (pc := 250) (v := v4 + 1) (ls2 := [some (jR v0), some (jI v1), some (jI v2), none, some (jI (v4 + 1)), none, none]) dX12_finish_250 rfl rfl (Nat.le_of_ble_eq_true rfl) rfl ?_
        refine T_goto (pc := 253) (tgt := 111) dX12_finish_253 (by decide) ?_
        exact T.forget H ⟨rfl, rfl, rfl, rfl, trivial⟩
      · rw [if_pos hc] at H
        refine T_aload_n (pc := 170) dX12_finish_170 rfl rfl ?_
        refine T_gR (pc := 171) fa_X12_87 dX12_finish_171 (gR_mono (fun x14 H => ?_) H)
        refine T_iload (pc := 174) dX12_finish_174 rfl ?_
        refine T_aL (pc := 176) dX12_finish_176 (aL_mono (fun x15 H => ?_) H)
        refine T_lconst (pc := 177) (v := 0) dX12_finish_177 (by decide) ?_
        refine T_lcmp (pc := 178) dX12_finish_178 ?_
        refine T_if_lt (pc := 179) (tgt := 250) dX12_finish_179 (by decide) (fun hc => ?_) (fun hc => ?_)
        · rw [if_pos hc] at H
          refine T_iinc (pc := 250) (v := v4 + 1) (ls2 := [some (jR v0), some (jI v1), some (jI v2), none, some (jI (v4 + 1)), none, none]) dX12_finish_250 rfl rfl (Nat.le_of_ble_eq_true rfl) rfl ?_
          refine T_goto (pc := 253) (tgt := 111) dX12_finish_253 (by decide) ?_
          exact T.forget H ⟨rfl, rfl, rfl, rfl, trivial⟩
        · rw [if_neg hc] at H
          refine T_aload_n (pc := 182) dX12_finish_182 rfl rfl ?_
          refine T_gR (pc := 183) fa_X12_7 dX12_finish_183 (gR_mono (fun x16 H => ?_) H)
          refine T_aload_n (pc := 186) dX12_finish_186 rfl rfl ?_
          refine T_gR (pc := 187) fa_X12_87 dX12_finish_187 (gR_mono (fun x17 H => ?_) H)
          refine T_iload (pc := 190) dX12_finish_190 rfl ?_
          refine T_aL (pc := 192) dX12_finish_192 (aL_mono (fun x18 H => ?_) H)
          refine T_l2i (pc := 193) dX12_finish_193 ?_
          refine T_aI (pc := 194) dX12_finish_194 (aI_mono (fun x19 H => ?_) H)
          refine T_bipush (pc := 195) (v := 8) dX12_finish_195 (by decide) ?_
          refine T_icmp_ne (pc := 197) (tgt := 250) dX12_finish_197 (by decide) (fun hc => ?_) (fun hc => ?_)
          · rw [if_neg hc] at H
            refine T_iinc (pc := 250) (v := v4 + 1) (ls2 := [some (jR v0), some (jI v1), some (jI v2), none, some (jI (v4 + 1)), none, none]) dX12_finish_250 rfl rfl (Nat.le_of_ble_eq_true rfl) rfl ?_
            refine T_goto (pc := 253) (tgt := 111) dX12_finish_253 (by decide) ?_
            exact T.forget H ⟨rfl, rfl, rfl, rfl, trivial⟩
          · rw [if_pos hc] at H
            refine T_iconst (pc := 200) (v := 0) dX12_finish_200 (by decide) ?_
            refine T_istore (pc := 201) (ls2 := [some (jR v0), some (jI v1), some (jI v2), none, some (jI v4), some (jI 0), none]) dX12_finish_201 (Nat.le_of_ble_eq_true rfl) rfl ?_
            exact T.forget H ⟨rfl, rfl, rfl, rfl, rfl, trivial⟩
    · rw [if_pos hc] at H
      refine T_aload_n (pc := 139) dX12_finish_139 rfl rfl ?_
      refine T_aload_n (pc := 140) dX12_finish_140 rfl rfl ?_
      refine T_gR (pc := 141) fa_X12_87 dX12_finish_141 (gR_mono (fun x20 H => ?_) H)
      refine T_iload (pc := 144) dX12_finish_144 rfl ?_
      refine T_aL (pc := 146) dX12_finish_146 (aL_mono (fun x21 H => ?_) H)
      obtain ⟨H0, H⟩ := H
      refine T_iV (pc := 147) (ci := 11) (av := [jL x21]) (rest := []) (o := v0) dX12_finish_147 mf_X12_counts c_6_22 c_6_24 pr_X12_counts rfl rfl (Nat.le_of_ble_eq_true rfl) rfl H0 (iV_k (iV_mono (fun h u H => ?_) H))
      refine T_goto (pc := 150) (tgt := 250) dX12_finish_150 (by decide) ?_
      refine T_iinc (pc := 250) (v := v4 + 1) (ls2 := [some (jR v0), some (jI v1), some (jI v2), none, some (jI (v4 + 1)), none, none]) dX12_finish_250 rfl rfl (Nat.le_of_ble_eq_true rfl) rfl ?_
      refine T_goto (pc := 253) (tgt := 111) dX12_finish_253 (by decide) ?_
      exact T.forget H ⟨rfl, rfl, rfl, rfl, trivial⟩
def F_X12_finish_203 (d : Nat) (v0 : Option Nm) (v1 : Int32) (v2 : Int32) (v4 : Int32) (v5 : Int32) (h : MH) (u : Nat) (Q : Int32 → MH → Prop) : Prop :=
  gR h v0 11 5 fun x1 =>
  gR h v0 11 32 fun x2 =>
  aL h x2 v4 fun x3 =>
  aI .int h x1 (x3.toInt32) fun x4 =>
  if x4 ≤ v5 then
    L_X12_finish_111 d v0 v1 v2 (v4 + 1) h u Q
  else
    gR h v0 11 7 fun x5 =>
    gR h v0 11 32 fun x6 =>
    aL h x6 v4 fun x7 =>
    aL h x5 ((20 * (x7.toInt32)) + v5) fun x8 =>
    rc h v0 11 ∧ iV d u_X12_counts [jR v0, jL x8] h u fun h u =>
    L_X12_finish_203 d v0 v1 v2 v4 (v5 + 1) h u Q
set_option maxRecDepth 20000 in
theorem E_X12_finish_203 {d : Nat} {v0 : Option Nm} {v1 : Int32} {v2 : Int32} {v4 : Int32} {v5 : Int32} {h : MH} {u : Nat} {Q : Int32 → MH → Prop} (H : F_X12_finish_203 d v0 v1 v2 v4 v5 h u Q) : T u_X12_finish (d + 1) 203 [some (jR v0), some (jI v1), some (jI v2), none, some (jI v4), some (jI v5), none] [] h u (qI Q) := by
  unfold F_X12_finish_203 at H
  refine T_iload (pc := 203) dX12_finish_203 rfl ?_
  refine T_aload_n (pc := 205) dX12_finish_205 rfl rfl ?_
  refine T_gR (pc := 206) fa_X12_13 dX12_finish_206 (gR_mono (fun x1 H => ?_) H)
  refine T_aload_n (pc := 209) dX12_finish_209 rfl rfl ?_
  refine T_gR (pc := 210) fa_X12_87 dX12_finish_210 (gR_mono (fun x2 H => ?_) H)
  refine T_iload (pc := 213) dX12_finish_213 rfl ?_
  refine T_aL (pc := 215) dX12_finish_215 (aL_mono (fun x3 H => ?_) H)
  refine T_l2i (pc := 216) dX12_finish_216 ?_
  refine T_aI (pc := 217) dX12_finish_217 (aI_mono (fun x4 H => ?_) H)
  refine T_icmp_ge (pc := 218) (tgt := 250) dX12_finish_218 (by decide) (fun hc => ?_) (fun hc => ?_)
  · rw [if_pos hc] at H
    refine T_iinc (pc := 250) (v := v4 + 1) (ls2 := [some (jR v0), some (jI v1), some (jI v2), none, some (jI (v4 + 1)), some (jI v5), none]) dX12_finish_250 rfl rfl (Nat.le_of_ble_eq_true rfl) rfl ?_
    refine T_goto (pc := 253) (tgt := 111) dX12_finish_253 (by decide) ?_
    exact T.forget H ⟨rfl, rfl, rfl, rfl, trivial⟩
  · rw [if_neg hc] at H
    refine T_aload_n (pc := 221) dX12_finish_221 rfl rfl ?_
    refine T_aload_n (pc := 222) dX12_finish_222 rfl rfl ?_
    refine T_gR (pc := 223) fa_X12_20 dX12_finish_223 (gR_mono (fun x5 H => ?_) H)
    refine T_bipush (pc := 226) (v := 20) dX12_finish_226 (by decide) ?_
    refine T_aload_n (pc := 228) dX12_finish_228 rfl rfl ?_
    refine T_gR (pc := 229) fa_X12_87 dX12_finish_229 (gR_mono (fun x6 H => ?_) H)
    refine T_iload (pc := 232) dX12_finish_232 rfl ?_
    refine T_aL (pc := 234) dX12_finish_234 (aL_mono (fun x7 H => ?_) H)
    refine T_l2i (pc := 235) dX12_finish_235 ?_
    refine T_imul (pc := 236) dX12_finish_236 ?_
    refine T_iload (pc := 237) dX12_finish_237 rfl ?_
    refine T_iadd (pc := 239) dX12_finish_239 ?_
    refine T_aL (pc := 240) dX12_finish_240 (aL_mono (fun x8 H => ?_) H)
    obtain ⟨H0, H⟩ := H
    refine T_iV (pc := 241) (ci := 11) (av := [jL x8]) (rest := []) (o := v0) dX12_finish_241 mf_X12_counts c_6_22 c_6_24 pr_X12_counts rfl rfl (Nat.le_of_ble_eq_true rfl) rfl H0 (iV_k (iV_mono (fun h u H => ?_) H))
    refine T_iinc (pc := 244) (v := v5 + 1) (ls2 := [some (jR v0), some (jI v1), some (jI v2), none, some (jI v4), some (jI (v5 + 1)), none]) dX12_finish_244 rfl rfl (Nat.le_of_ble_eq_true rfl) rfl ?_
    refine T_goto (pc := 247) (tgt := 203) dX12_finish_247 (by decide) ?_
    exact T.forget H ⟨rfl, rfl, rfl, rfl, rfl, trivial⟩
def F_X12_finish_406 (d : Nat) (v0 : Option Nm) (v1 : Int32) (v2 : Int32) (v4 : Int32) (v5 : Int32) (h : MH) (u : Nat) (Q : Int32 → MH → Prop) : Prop :=
  gR h v0 11 31 fun x1 =>
  gR h v0 11 32 fun x2 =>
  aL h x2 v5 fun x3 =>
  sV .long h x1 ((6 * v4) + v5) (jL x3) fun h =>
  L_X12_finish_314 d v0 v1 v2 v4 (v5 + 1) h u Q
set_option maxRecDepth 20000 in
theorem E_X12_finish_406 {d : Nat} {v0 : Option Nm} {v1 : Int32} {v2 : Int32} {v4 : Int32} {v5 : Int32} {h : MH} {u : Nat} {Q : Int32 → MH → Prop} (H : F_X12_finish_406 d v0 v1 v2 v4 v5 h u Q) : T u_X12_finish (d + 1) 406 [some (jR v0), some (jI v1), some (jI v2), none, some (jI v4), some (jI v5), none] [] h u (qI Q) := by
  unfold F_X12_finish_406 at H
  refine T_aload_n (pc := 406) dX12_finish_406 rfl rfl ?_
  refine T_gR (pc := 407) fa_X12_84 dX12_finish_407 (gR_mono (fun x1 H => ?_) H)
  refine T_bipush (pc := 410) (v := 6) dX12_finish_410 (by decide) ?_
  refine T_iload (pc := 412) dX12_finish_412 rfl ?_
  refine T_imul (pc := 414) dX12_finish_414 ?_
  refine T_iload (pc := 415) dX12_finish_415 rfl ?_
  refine T_iadd (pc := 417) dX12_finish_417 ?_
  refine T_aload_n (pc := 418) dX12_finish_418 rfl rfl ?_
  refine T_gR (pc := 419) fa_X12_87 dX12_finish_419 (gR_mono (fun x2 H => ?_) H)
  refine T_iload (pc := 422) dX12_finish_422 rfl ?_
  refine T_aL (pc := 424) dX12_finish_424 (aL_mono (fun x3 H => ?_) H)
  refine T_sL (pc := 425) dX12_finish_425 (sV_mono (fun h H => ?_) H)
  refine T_iinc (pc := 426) (v := v5 + 1) (ls2 := [some (jR v0), some (jI v1), some (jI v2), none, some (jI v4), some (jI (v5 + 1)), none]) dX12_finish_426 rfl rfl (Nat.le_of_ble_eq_true rfl) rfl ?_
  refine T_goto (pc := 429) (tgt := 314) dX12_finish_429 (by decide) ?_
  exact T.forget H ⟨rfl, rfl, rfl, rfl, rfl, trivial⟩
def F_X12_finish_395 (d : Nat) (v0 : Option Nm) (v1 : Int32) (v2 : Int32) (v4 : Int32) (v5 : Int32) (v6 : Int32) (s0 : Option Nm) (s1 : Int32) (s2 : Int32) (h : MH) (u : Nat) (Q : Int32 → MH → Prop) : Prop :=
  sV .boolean h s0 s1 (jI (vp_nar .boolean s2)) fun h =>
  gR h v0 11 32 fun x1 =>
  sV .long h x1 v5 (jL (v6.toInt64)) fun h =>
  F_X12_finish_406 d v0 v1 v2 v4 v5 h u Q
set_option maxRecDepth 20000 in
theorem E_X12_finish_395 {d : Nat} {v0 : Option Nm} {v1 : Int32} {v2 : Int32} {v4 : Int32} {v5 : Int32} {v6 : Int32} {s0 : Option Nm} {s1 : Int32} {s2 : Int32} {h : MH} {u : Nat} {Q : Int32 → MH → Prop} (H : F_X12_finish_395 d v0 v1 v2 v4 v5 v6 s0 s1 s2 h u Q) : T u_X12_finish (d + 1) 395 [some (jR v0), some (jI v1), some (jI v2), none, some (jI v4), some (jI v5), some (jI v6)] [jI s2, jI s1, jR s0] h u (qI Q) := by
  unfold F_X12_finish_395 at H
  refine T_sZ (pc := 395) dX12_finish_395 (sV_mono (fun h H => ?_) H)
  refine T_aload_n (pc := 396) dX12_finish_396 rfl rfl ?_
  refine T_gR (pc := 397) fa_X12_87 dX12_finish_397 (gR_mono (fun x1 H => ?_) H)
  refine T_iload (pc := 400) dX12_finish_400 rfl ?_
  refine T_iload (pc := 402) dX12_finish_402 rfl ?_
  refine T_i2l (pc := 404) dX12_finish_404 ?_
  refine T_sL (pc := 405) dX12_finish_405 (sV_mono (fun h H => ?_) H)
  exact T.forget (E_X12_finish_406 H) ⟨rfl, rfl, rfl, rfl, rfl, trivial⟩
def F_X12_finish_314 (d : Nat) (v0 : Option Nm) (v1 : Int32) (v2 : Int32) (v4 : Int32) (v5 : Int32) (h : MH) (u : Nat) (Q : Int32 → MH → Prop) : Prop :=
  gR h v0 11 15 fun x1 =>
  aI .int h x1 v2 fun x2 =>
  if x2 ≤ v5 then
    Q v4 h
  else
    gR h v0 11 17 fun x3 =>
    aI .int h x3 ((8 * v2) + v5) fun x4 =>
    if x4 = 9 then
      gR h v0 11 32 fun x5 =>
      aL h x5 v5 fun x6 =>
      rc h v0 11 ∧ iI d u_X12_isTwinned [jR v0, jI v1, jI (x6.toInt32)] h u fun x7 h u =>
      if x7 = 0 then
        F_X12_finish_406 d v0 v1 v2 v4 v5 h u Q
      else
        gR h v0 11 32 fun x8 =>
        aL h x8 v5 fun x9 =>
        rc h v0 11 ∧ iI d u_X12_twinOf [jR v0, jI (x9.toInt32)] h u fun x10 h u =>
        gR h v0 11 6 fun x11 =>
        gR h v0 11 4 fun x12 =>
        aI .int h x12 x10 fun x13 =>
        if x13 = 8 then
          F_X12_finish_395 d v0 v1 v2 v4 v5 x10 x11 x10 1 h u Q
        else
          F_X12_finish_395 d v0 v1 v2 v4 v5 x10 x11 x10 0 h u Q
    else
      F_X12_finish_406 d v0 v1 v2 v4 v5 h u Q
set_option maxRecDepth 20000 in
theorem E_X12_finish_314 {d : Nat} {v0 : Option Nm} {v1 : Int32} {v2 : Int32} {v4 : Int32} {v5 : Int32} {h : MH} {u : Nat} {Q : Int32 → MH → Prop} (H : F_X12_finish_314 d v0 v1 v2 v4 v5 h u Q) : T u_X12_finish (d + 1) 314 [some (jR v0), some (jI v1), some (jI v2), none, some (jI v4), some (jI v5), none] [] h u (qI Q) := by
  unfold F_X12_finish_314 at H
  refine T_iload (pc := 314) dX12_finish_314 rfl ?_
  refine T_aload_n (pc := 316) dX12_finish_316 rfl rfl ?_
  refine T_gR (pc := 317) fa_X12_42 dX12_finish_317 (gR_mono (fun x1 H => ?_) H)
  refine T_iload_n (pc := 320) dX12_finish_320 rfl rfl ?_
  refine T_aI (pc := 321) dX12_finish_321 (aI_mono (fun x2 H => ?_) H)
  refine T_icmp_ge (pc := 322) (tgt := 432) dX12_finish_322 (by decide) (fun hc => ?_) (fun hc => ?_)
  · rw [if_pos hc] at H
    refine T_iload (pc := 432) dX12_finish_432 rfl ?_
    exact T_ireturn (pc := 434) rfl rfl dX12_finish_434 H
  · rw [if_neg hc] at H
    refine T_aload_n (pc := 325) dX12_finish_325 rfl rfl ?_
    refine T_gR (pc := 326) fa_X12_48 dX12_finish_326 (gR_mono (fun x3 H => ?_) H)
    refine T_bipush (pc := 329) (v := 8) dX12_finish_329 (by decide) ?_
    refine T_iload_n (pc := 331) dX12_finish_331 rfl rfl ?_
    refine T_imul (pc := 332) dX12_finish_332 ?_
    refine T_iload (pc := 333) dX12_finish_333 rfl ?_
    refine T_iadd (pc := 335) dX12_finish_335 ?_
    refine T_aI (pc := 336) dX12_finish_336 (aI_mono (fun x4 H => ?_) H)
    refine T_bipush (pc := 337) (v := 9) dX12_finish_337 (by decide) ?_
    refine T_icmp_ne (pc := 339) (tgt := 406) dX12_finish_339 (by decide) (fun hc => ?_) (fun hc => ?_)
    · rw [if_neg hc] at H
      exact T.forget (E_X12_finish_406 H) ⟨rfl, rfl, rfl, rfl, rfl, trivial⟩
    · rw [if_pos hc] at H
      refine T_aload_n (pc := 342) dX12_finish_342 rfl rfl ?_
      refine T_iload_n (pc := 343) dX12_finish_343 rfl rfl ?_
      refine T_aload_n (pc := 344) dX12_finish_344 rfl rfl ?_
      refine T_gR (pc := 345) fa_X12_87 dX12_finish_345 (gR_mono (fun x5 H => ?_) H)
      refine T_iload (pc := 348) dX12_finish_348 rfl ?_
      refine T_aL (pc := 350) dX12_finish_350 (aL_mono (fun x6 H => ?_) H)
      refine T_l2i (pc := 351) dX12_finish_351 ?_
      obtain ⟨H0, H⟩ := H
      refine T_iV (pc := 352) (ci := 11) (av := [jI v1, jI (x6.toInt32)]) (rest := []) (o := v0) dX12_finish_352 mf_X12_isTwinned c_6_14 c_6_16 pr_X12_isTwinned rfl rfl (Nat.le_of_ble_eq_true rfl) rfl H0 (iI_k (iI_mono (fun x7 h u H => ?_) H))
      refine T_if_eq (pc := 355) (tgt := 406) dX12_finish_355 (by decide) (fun hc => ?_) (fun hc => ?_)
      · rw [if_pos hc] at H
        exact T.forget (E_X12_finish_406 H) ⟨rfl, rfl, rfl, rfl, rfl, trivial⟩
      · rw [if_neg hc] at H
        refine T_aload_n (pc := 358) dX12_finish_358 rfl rfl ?_
        refine T_aload_n (pc := 359) dX12_finish_359 rfl rfl ?_
        refine T_gR (pc := 360) fa_X12_87 dX12_finish_360 (gR_mono (fun x8 H => ?_) H)
        refine T_iload (pc := 363) dX12_finish_363 rfl ?_
        refine T_aL (pc := 365) dX12_finish_365 (aL_mono (fun x9 H => ?_) H)
        refine T_l2i (pc := 366) dX12_finish_366 ?_
        obtain ⟨H0, H⟩ := H
        refine T_iV (pc := 367) (ci := 11) (av := [jI (x9.toInt32)]) (rest := []) (o := v0) dX12_finish_367 mf_X12_twinOf c_5_178 c_5_180 pr_X12_twinOf rfl rfl (Nat.le_of_ble_eq_true rfl) rfl H0 (iI_k (iI_mono (fun x10 h u H => ?_) H))
        refine T_istore (pc := 370) (ls2 := [some (jR v0), some (jI v1), some (jI v2), none, some (jI v4), some (jI v5), some (jI x10)]) dX12_finish_370 (Nat.le_of_ble_eq_true rfl) rfl ?_
        refine T_aload_n (pc := 372) dX12_finish_372 rfl rfl ?_
        refine T_gR (pc := 373) fa_X12_16 dX12_finish_373 (gR_mono (fun x11 H => ?_) H)
        refine T_iload (pc := 376) dX12_finish_376 rfl ?_
        refine T_aload_n (pc := 378) dX12_finish_378 rfl rfl ?_
        refine T_gR (pc := 379) fa_X12_7 dX12_finish_379 (gR_mono (fun x12 H => ?_) H)
        refine T_iload (pc := 382) dX12_finish_382 rfl ?_
        refine T_aI (pc := 384) dX12_finish_384 (aI_mono (fun x13 H => ?_) H)
        refine T_bipush (pc := 385) (v := 8) dX12_finish_385 (by decide) ?_
        refine T_icmp_ne (pc := 387) (tgt := 394) dX12_finish_387 (by decide) (fun hc => ?_) (fun hc => ?_)
        · rw [if_neg hc] at H
          refine T_iconst (pc := 394) (v := 0) dX12_finish_394 (by decide) ?_
          exact T.forget (E_X12_finish_395 H) ⟨rfl, rfl, rfl, rfl, rfl, rfl, trivial⟩
        · rw [if_pos hc] at H
          refine T_iconst (pc := 390) (v := 1) dX12_finish_390 (by decide) ?_
          refine T_goto (pc := 391) (tgt := 395) dX12_finish_391 (by decide) ?_
          exact T.forget (E_X12_finish_395 H) ⟨rfl, rfl, rfl, rfl, rfl, rfl, trivial⟩
theorem I_X12_finish {d : Nat} {v0 : Option Nm} {v1 : Int32} {h : MH} {u : Nat} {K : Int32 → MH → Nat → Prop} (u1 : Nat) (hu : u1 ≤ u) (H : F_X12_finish d v0 v1 h u1 (fun x h2 => K x h2 (u - u1))) : iI (d + 1) u_X12_finish [jR v0, jI v1] h u K := inv.of u1 hu (Ct.of (by decide +kernel) rfl (Nat.le_of_ble_eq_true rfl) rfl (E_X12_finish H))
theorem dX12_make_0 : decode cX12_make 0 = .ok (.aload_n 0, 1) := by decide +kernel
theorem dX12_make_1 : decode cX12_make 1 = .ok (.iload_n 1, 1) := by decide +kernel
theorem dX12_make_2 : decode cX12_make 2 = .ok (.invokevirtual 206, 3) := by decide +kernel
theorem dX12_make_5 : decode cX12_make 5 = .ok (.ifCond .ne 5, 3) := by decide +kernel
theorem dX12_make_8 : decode cX12_make 8 = .ok (.iconst (-1), 1) := by decide +kernel
theorem dX12_make_9 : decode cX12_make 9 = .ok (.ireturn, 1) := by decide +kernel
theorem dX12_make_10 : decode cX12_make 10 = .ok (.aload_n 0, 1) := by decide +kernel
theorem dX12_make_11 : decode cX12_make 11 = .ok (.getfield 27, 3) := by decide +kernel
theorem dX12_make_14 : decode cX12_make 14 = .ok (.iload_n 1, 1) := by decide +kernel
theorem dX12_make_15 : decode cX12_make 15 = .ok (.baload, 1) := by decide +kernel
theorem dX12_make_16 : decode cX12_make 16 = .ok (.ifCond .eq 6, 3) := by decide +kernel
theorem dX12_make_19 : decode cX12_make 19 = .ok (.bipush (-3), 2) := by decide +kernel
theorem dX12_make_21 : decode cX12_make 21 = .ok (.ireturn, 1) := by decide +kernel
theorem dX12_make_22 : decode cX12_make 22 = .ok (.aload_n 0, 1) := by decide +kernel
theorem dX12_make_23 : decode cX12_make 23 = .ok (.getfield 215, 3) := by decide +kernel
theorem dX12_make_26 : decode cX12_make 26 = .ok (.sipush 200, 3) := by decide +kernel
theorem dX12_make_29 : decode cX12_make 29 = .ok (.if_icmp .eq 11, 3) := by decide +kernel
theorem dX12_make_32 : decode cX12_make 32 = .ok (.aload_n 0, 1) := by decide +kernel
theorem dX12_make_33 : decode cX12_make 33 = .ok (.iload_n 1, 1) := by decide +kernel
theorem dX12_make_34 : decode cX12_make 34 = .ok (.invokevirtual 250, 3) := by decide +kernel
theorem dX12_make_37 : decode cX12_make 37 = .ok (.ifCond .ne 6, 3) := by decide +kernel
theorem dX12_make_40 : decode cX12_make 40 = .ok (.bipush (-4), 2) := by decide +kernel
theorem dX12_make_42 : decode cX12_make 42 = .ok (.ireturn, 1) := by decide +kernel
theorem dX12_make_43 : decode cX12_make 43 = .ok (.aload_n 0, 1) := by decide +kernel
theorem dX12_make_44 : decode cX12_make 44 = .ok (.iload_n 1, 1) := by decide +kernel
theorem dX12_make_45 : decode cX12_make 45 = .ok (.invokevirtual 225, 3) := by decide +kernel
theorem dX12_make_48 : decode cX12_make 48 = .ok (.istore_n 2, 1) := by decide +kernel
theorem dX12_make_49 : decode cX12_make 49 = .ok (.iconst 0, 1) := by decide +kernel
theorem dX12_make_50 : decode cX12_make 50 = .ok (.istore_n 3, 1) := by decide +kernel
theorem dX12_make_51 : decode cX12_make 51 = .ok (.iload_n 3, 1) := by decide +kernel
theorem dX12_make_52 : decode cX12_make 52 = .ok (.aload_n 0, 1) := by decide +kernel
theorem dX12_make_53 : decode cX12_make 53 = .ok (.getfield 42, 3) := by decide +kernel
theorem dX12_make_56 : decode cX12_make 56 = .ok (.iload_n 2, 1) := by decide +kernel
theorem dX12_make_57 : decode cX12_make 57 = .ok (.iaload, 1) := by decide +kernel
theorem dX12_make_58 : decode cX12_make 58 = .ok (.if_icmp .ge 145, 3) := by decide +kernel
theorem dX12_make_61 : decode cX12_make 61 = .ok (.aload_n 0, 1) := by decide +kernel
theorem dX12_make_62 : decode cX12_make 62 = .ok (.getfield 48, 3) := by decide +kernel
theorem dX12_make_65 : decode cX12_make 65 = .ok (.bipush 8, 2) := by decide +kernel
theorem dX12_make_67 : decode cX12_make 67 = .ok (.iload_n 2, 1) := by decide +kernel
theorem dX12_make_68 : decode cX12_make 68 = .ok (.imul, 1) := by decide +kernel
theorem dX12_make_69 : decode cX12_make 69 = .ok (.iload_n 3, 1) := by decide +kernel
theorem dX12_make_70 : decode cX12_make 70 = .ok (.iadd, 1) := by decide +kernel
theorem dX12_make_71 : decode cX12_make 71 = .ok (.iaload, 1) := by decide +kernel
theorem dX12_make_72 : decode cX12_make 72 = .ok (.istore 4, 2) := by decide +kernel
theorem dX12_make_74 : decode cX12_make 74 = .ok (.aload_n 0, 1) := by decide +kernel
theorem dX12_make_75 : decode cX12_make 75 = .ok (.getfield 60, 3) := by decide +kernel
theorem dX12_make_78 : decode cX12_make 78 = .ok (.iload_n 3, 1) := by decide +kernel
theorem dX12_make_79 : decode cX12_make 79 = .ok (.iaload, 1) := by decide +kernel
theorem dX12_make_80 : decode cX12_make 80 = .ok (.istore 5, 2) := by decide +kernel
theorem dX12_make_82 : decode cX12_make 82 = .ok (.iload 4, 2) := by decide +kernel
theorem dX12_make_84 : decode cX12_make 84 = .ok (.bipush 8, 2) := by decide +kernel
theorem dX12_make_86 : decode cX12_make 86 = .ok (.if_icmp .ge 16, 3) := by decide +kernel
theorem dX12_make_89 : decode cX12_make 89 = .ok (.iload 5, 2) := by decide +kernel
theorem dX12_make_91 : decode cX12_make 91 = .ok (.bipush (-5), 2) := by decide +kernel
theorem dX12_make_93 : decode cX12_make 93 = .ok (.if_icmp .ne 9, 3) := by decide +kernel
theorem dX12_make_96 : decode cX12_make 96 = .ok (.aload_n 0, 1) := by decide +kernel
theorem dX12_make_97 : decode cX12_make 97 = .ok (.iconst 1, 1) := by decide +kernel
theorem dX12_make_98 : decode cX12_make 98 = .ok (.invokevirtual 166, 3) := by decide +kernel
theorem dX12_make_101 : decode cX12_make 101 = .ok (.ireturn, 1) := by decide +kernel
theorem dX12_make_102 : decode cX12_make 102 = .ok (.iload 4, 2) := by decide +kernel
theorem dX12_make_104 : decode cX12_make 104 = .ok (.bipush 8, 2) := by decide +kernel
theorem dX12_make_106 : decode cX12_make 106 = .ok (.if_icmp .ge 23, 3) := by decide +kernel
theorem dX12_make_109 : decode cX12_make 109 = .ok (.iload 5, 2) := by decide +kernel
theorem dX12_make_111 : decode cX12_make 111 = .ok (.bipush 8, 2) := by decide +kernel
theorem dX12_make_113 : decode cX12_make 113 = .ok (.if_icmp .ge 30, 3) := by decide +kernel
theorem dX12_make_116 : decode cX12_make 116 = .ok (.iload 5, 2) := by decide +kernel
theorem dX12_make_118 : decode cX12_make 118 = .ok (.iload 4, 2) := by decide +kernel
theorem dX12_make_120 : decode cX12_make 120 = .ok (.invokestatic 174, 3) := by decide +kernel
theorem dX12_make_123 : decode cX12_make 123 = .ok (.ifCond .ne 26, 3) := by decide +kernel
theorem dX12_make_126 : decode cX12_make 126 = .ok (.goto 17, 3) := by decide +kernel
theorem dX12_make_129 : decode cX12_make 129 = .ok (.iload 5, 2) := by decide +kernel
theorem dX12_make_131 : decode cX12_make 131 = .ok (.bipush (-5), 2) := by decide +kernel
theorem dX12_make_133 : decode cX12_make 133 = .ok (.if_icmp .eq 16, 3) := by decide +kernel
theorem dX12_make_136 : decode cX12_make 136 = .ok (.iload 5, 2) := by decide +kernel
theorem dX12_make_138 : decode cX12_make 138 = .ok (.iload 4, 2) := by decide +kernel
theorem dX12_make_140 : decode cX12_make 140 = .ok (.if_icmp .eq 9, 3) := by decide +kernel
theorem dX12_make_143 : decode cX12_make 143 = .ok (.aload_n 0, 1) := by decide +kernel
theorem dX12_make_144 : decode cX12_make 144 = .ok (.iconst 3, 1) := by decide +kernel
theorem dX12_make_145 : decode cX12_make 145 = .ok (.invokevirtual 166, 3) := by decide +kernel
theorem dX12_make_148 : decode cX12_make 148 = .ok (.ireturn, 1) := by decide +kernel
theorem dX12_make_149 : decode cX12_make 149 = .ok (.aload_n 0, 1) := by decide +kernel
theorem dX12_make_150 : decode cX12_make 150 = .ok (.getfield 87, 3) := by decide +kernel
theorem dX12_make_153 : decode cX12_make 153 = .ok (.iload_n 3, 1) := by decide +kernel
theorem dX12_make_154 : decode cX12_make 154 = .ok (.iload 5, 2) := by decide +kernel
theorem dX12_make_156 : decode cX12_make 156 = .ok (.bipush (-5), 2) := by decide +kernel
theorem dX12_make_158 : decode cX12_make 158 = .ok (.if_icmp .ne 9, 3) := by decide +kernel
theorem dX12_make_161 : decode cX12_make 161 = .ok (.ldc2_w 160, 3) := by decide +kernel
theorem dX12_make_164 : decode cX12_make 164 = .ok (.goto 32, 3) := by decide +kernel
theorem dX12_make_167 : decode cX12_make 167 = .ok (.iload 4, 2) := by decide +kernel
theorem dX12_make_169 : decode cX12_make 169 = .ok (.bipush 8, 2) := by decide +kernel
theorem dX12_make_171 : decode cX12_make 171 = .ok (.if_icmp .ge 19, 3) := by decide +kernel
theorem dX12_make_174 : decode cX12_make 174 = .ok (.iload 5, 2) := by decide +kernel
theorem dX12_make_176 : decode cX12_make 176 = .ok (.iload 4, 2) := by decide +kernel
theorem dX12_make_178 : decode cX12_make 178 = .ok (.aload_n 0, 1) := by decide +kernel
theorem dX12_make_179 : decode cX12_make 179 = .ok (.getfield 63, 3) := by decide +kernel
theorem dX12_make_182 : decode cX12_make 182 = .ok (.iload_n 3, 1) := by decide +kernel
theorem dX12_make_183 : decode cX12_make 183 = .ok (.laload, 1) := by decide +kernel
theorem dX12_make_184 : decode cX12_make 184 = .ok (.invokestatic 182, 3) := by decide +kernel
theorem dX12_make_187 : decode cX12_make 187 = .ok (.goto 9, 3) := by decide +kernel
theorem dX12_make_190 : decode cX12_make 190 = .ok (.aload_n 0, 1) := by decide +kernel
theorem dX12_make_191 : decode cX12_make 191 = .ok (.getfield 63, 3) := by decide +kernel
theorem dX12_make_194 : decode cX12_make 194 = .ok (.iload_n 3, 1) := by decide +kernel
theorem dX12_make_195 : decode cX12_make 195 = .ok (.laload, 1) := by decide +kernel
theorem dX12_make_196 : decode cX12_make 196 = .ok (.lastore, 1) := by decide +kernel
theorem dX12_make_197 : decode cX12_make 197 = .ok (.iinc 3 1, 3) := by decide +kernel
theorem dX12_make_200 : decode cX12_make 200 = .ok (.goto (-149), 3) := by decide +kernel
theorem dX12_make_203 : decode cX12_make 203 = .ok (.aload_n 0, 1) := by decide +kernel
theorem dX12_make_204 : decode cX12_make 204 = .ok (.iload_n 1, 1) := by decide +kernel
theorem dX12_make_205 : decode cX12_make 205 = .ok (.invokevirtual 253, 3) := by decide +kernel
theorem dX12_make_208 : decode cX12_make 208 = .ok (.istore_n 3, 1) := by decide +kernel
theorem dX12_make_209 : decode cX12_make 209 = .ok (.iconst 0, 1) := by decide +kernel
theorem dX12_make_210 : decode cX12_make 210 = .ok (.istore 4, 2) := by decide +kernel
theorem dX12_make_212 : decode cX12_make 212 = .ok (.iload 4, 2) := by decide +kernel
theorem dX12_make_214 : decode cX12_make 214 = .ok (.bipush 6, 2) := by decide +kernel
theorem dX12_make_216 : decode cX12_make 216 = .ok (.if_icmp .ge 22, 3) := by decide +kernel
theorem dX12_make_219 : decode cX12_make 219 = .ok (.iload_n 3, 1) := by decide +kernel
theorem dX12_make_220 : decode cX12_make 220 = .ok (.ifCond .lt 18, 3) := by decide +kernel
theorem dX12_make_223 : decode cX12_make 223 = .ok (.aload_n 0, 1) := by decide +kernel
theorem dX12_make_224 : decode cX12_make 224 = .ok (.getfield 60, 3) := by decide +kernel
theorem dX12_make_227 : decode cX12_make 227 = .ok (.iload 4, 2) := by decide +kernel
theorem dX12_make_229 : decode cX12_make 229 = .ok (.bipush (-5), 2) := by decide +kernel
theorem dX12_make_231 : decode cX12_make 231 = .ok (.iastore, 1) := by decide +kernel
theorem dX12_make_232 : decode cX12_make 232 = .ok (.iinc 4 1, 3) := by decide +kernel
theorem dX12_make_235 : decode cX12_make 235 = .ok (.goto (-23), 3) := by decide +kernel
theorem dX12_make_238 : decode cX12_make 238 = .ok (.iload_n 3, 1) := by decide +kernel
theorem dX12_make_239 : decode cX12_make 239 = .ok (.ireturn, 1) := by decide +kernel
def L_X12_make_51 (d : Nat) (v0 : Option Nm) (v1 : Int32) (v2 : Int32) (v3 : Int32) (h : MH) (u : Nat) (Q : Int32 → MH → Prop) : Prop := T u_X12_make (d + 1) 51 [some (jR v0), some (jI v1), some (jI v2), some (jI v3), none, none] [] h u (qI Q)
def L_X12_make_212 (d : Nat) (v0 : Option Nm) (v3 : Int32) (v4 : Int32) (h : MH) (u : Nat) (Q : Int32 → MH → Prop) : Prop := T u_X12_make (d + 1) 212 [some (jR v0), none, none, some (jI v3), some (jI v4), none] [] h u (qI Q)
def F_X12_make (d : Nat) (v0 : Option Nm) (v1 : Int32) (h : MH) (u : Nat) (Q : Int32 → MH → Prop) : Prop :=
  rc h v0 11 ∧ iI d u_X12_isKind [jR v0, jI v1] h u fun x1 h u =>
  if x1 = 0 then
    Q (-1) h
  else
    gR h v0 11 10 fun x2 =>
    aI .boolean h x2 v1 fun x3 =>
    if x3 = 0 then
      gI h v0 11 24 fun x4 =>
      if x4 = 200 then
        Q (-4) h
      else
        rc h v0 11 ∧ iI d u_X12_starts [jR v0, jI v1] h u fun x5 h u =>
        if x5 = 0 then
          Q (-4) h
        else
          rc h v0 11 ∧ iI d u_X12_newestOf [jR v0, jI v1] h u fun x6 h u =>
          L_X12_make_51 d v0 v1 x6 0 h u Q
    else
      Q (-3) h
set_option maxRecDepth 20000 in
theorem E_X12_make {d : Nat} {v0 : Option Nm} {v1 : Int32} {h : MH} {u : Nat} {Q : Int32 → MH → Prop} (H : F_X12_make d v0 v1 h u Q) : T u_X12_make (d + 1) 0 [some (jR v0), some (jI v1), none, none, none, none] [] h u (qI Q) := by
  unfold F_X12_make at H
  refine T_aload_n (pc := 0) dX12_make_0 rfl rfl ?_
  refine T_iload_n (pc := 1) dX12_make_1 rfl rfl ?_
  obtain ⟨H0, H⟩ := H
  refine T_iV (pc := 2) (ci := 11) (av := [jI v1]) (rest := []) (o := v0) dX12_make_2 mf_X12_isKind c_5_198 c_5_200 pr_X12_isKind rfl rfl (Nat.le_of_ble_eq_true rfl) rfl H0 (iI_k (iI_mono (fun x1 h u H => ?_) H))
  refine T_if_ne (pc := 5) (tgt := 10) dX12_make_5 (by decide) (fun hc => ?_) (fun hc => ?_)
  · rw [if_neg hc] at H
    refine T_aload_n (pc := 10) dX12_make_10 rfl rfl ?_
    refine T_gR (pc := 11) fa_X12_27 dX12_make_11 (gR_mono (fun x2 H => ?_) H)
    refine T_iload_n (pc := 14) dX12_make_14 rfl rfl ?_
    refine T_aZ (pc := 15) dX12_make_15 (aI_mono (fun x3 H => ?_) H)
    refine T_if_eq (pc := 16) (tgt := 22) dX12_make_16 (by decide) (fun hc => ?_) (fun hc => ?_)
    · rw [if_pos hc] at H
      refine T_aload_n (pc := 22) dX12_make_22 rfl rfl ?_
      refine T_gI (pc := 23) fa_X12_215 dX12_make_23 (gI_mono (fun x4 H => ?_) H)
      refine T_sipush (pc := 26) (v := 200) dX12_make_26 (by decide) ?_
      refine T_icmp_eq (pc := 29) (tgt := 40) dX12_make_29 (by decide) (fun hc => ?_) (fun hc => ?_)
      · rw [if_pos hc] at H
        refine T_bipush (pc := 40) (v := (-4)) dX12_make_40 (by decide) ?_
        exact T_ireturn (pc := 42) rfl rfl dX12_make_42 H
      · rw [if_neg hc] at H
        refine T_aload_n (pc := 32) dX12_make_32 rfl rfl ?_
        refine T_iload_n (pc := 33) dX12_make_33 rfl rfl ?_
        obtain ⟨H0, H⟩ := H
        refine T_iV (pc := 34) (ci := 11) (av := [jI v1]) (rest := []) (o := v0) dX12_make_34 mf_X12_starts c_6_2 c_6_4 pr_X12_starts rfl rfl (Nat.le_of_ble_eq_true rfl) rfl H0 (iI_k (iI_mono (fun x5 h u H => ?_) H))
        refine T_if_ne (pc := 37) (tgt := 43) dX12_make_37 (by decide) (fun hc => ?_) (fun hc => ?_)
        · rw [if_neg hc] at H
          refine T_aload_n (pc := 43) dX12_make_43 rfl rfl ?_
          refine T_iload_n (pc := 44) dX12_make_44 rfl rfl ?_
          obtain ⟨H0, H⟩ := H
          refine T_iV (pc := 45) (ci := 11) (av := [jI v1]) (rest := []) (o := v0) dX12_make_45 mf_X12_newestOf c_5_210 c_5_212 pr_X12_newestOf rfl rfl (Nat.le_of_ble_eq_true rfl) rfl H0 (iI_k (iI_mono (fun x6 h u H => ?_) H))
          refine T_istore_n (pc := 48) (ls2 := [some (jR v0), some (jI v1), some (jI x6), none, none, none]) dX12_make_48 rfl (Nat.le_of_ble_eq_true rfl) rfl ?_
          refine T_iconst (pc := 49) (v := 0) dX12_make_49 (by decide) ?_
          refine T_istore_n (pc := 50) (ls2 := [some (jR v0), some (jI v1), some (jI x6), some (jI 0), none, none]) dX12_make_50 rfl (Nat.le_of_ble_eq_true rfl) rfl ?_
          exact T.forget H ⟨rfl, rfl, rfl, rfl, trivial⟩
        · rw [if_pos hc] at H
          refine T_bipush (pc := 40) (v := (-4)) dX12_make_40 (by decide) ?_
          exact T_ireturn (pc := 42) rfl rfl dX12_make_42 H
    · rw [if_neg hc] at H
      refine T_bipush (pc := 19) (v := (-3)) dX12_make_19 (by decide) ?_
      exact T_ireturn (pc := 21) rfl rfl dX12_make_21 H
  · rw [if_pos hc] at H
    refine T_iconst (pc := 8) (v := (-1)) dX12_make_8 (by decide) ?_
    exact T_ireturn (pc := 9) rfl rfl dX12_make_9 H
def F_X12_make_149 (d : Nat) (v0 : Option Nm) (v1 : Int32) (v2 : Int32) (v3 : Int32) (v4 : Int32) (v5 : Int32) (h : MH) (u : Nat) (Q : Int32 → MH → Prop) : Prop :=
  gR h v0 11 32 fun x1 =>
  if v5 = (-5) then
    sV .long h x1 v3 (jL (-1)) fun h =>
    L_X12_make_51 d v0 v1 v2 (v3 + 1) h u Q
  else
    if 8 ≤ v4 then
      gR h v0 11 23 fun x2 =>
      aL h x2 v3 fun x3 =>
      sV .long h x1 v3 (jL x3) fun h =>
      L_X12_make_51 d v0 v1 v2 (v3 + 1) h u Q
    else
      gR h v0 11 23 fun x4 =>
      aL h x4 v3 fun x5 =>
      iL d u_X12_widened [jI v5, jI v4, jL x5] h u fun x6 h u =>
      sV .long h x1 v3 (jL x6) fun h =>
      L_X12_make_51 d v0 v1 v2 (v3 + 1) h u Q
set_option maxRecDepth 20000 in
theorem E_X12_make_149 {d : Nat} {v0 : Option Nm} {v1 : Int32} {v2 : Int32} {v3 : Int32} {v4 : Int32} {v5 : Int32} {h : MH} {u : Nat} {Q : Int32 → MH → Prop} (H : F_X12_make_149 d v0 v1 v2 v3 v4 v5 h u Q) : T u_X12_make (d + 1) 149 [some (jR v0), some (jI v1), some (jI v2), some (jI v3), some (jI v4), some (jI v5)] [] h u (qI Q) := by
  unfold F_X12_make_149 at H
  refine T_aload_n (pc := 149) dX12_make_149 rfl rfl ?_
  refine T_gR (pc := 150) fa_X12_87 dX12_make_150 (gR_mono (fun x1 H => ?_) H)
  refine T_iload_n (pc := 153) dX12_make_153 rfl rfl ?_
  refine T_iload (pc := 154) dX12_make_154 rfl ?_
  refine T_bipush (pc := 156) (v := (-5)) dX12_make_156 (by decide) ?_
  refine T_icmp_ne (pc := 158) (tgt := 167) dX12_make_158 (by decide) (fun hc => ?_) (fun hc => ?_)
  · rw [if_neg hc] at H
    refine T_iload (pc := 167) dX12_make_167 rfl ?_
    refine T_bipush (pc := 169) (v := 8) dX12_make_169 (by decide) ?_
    refine T_icmp_ge (pc := 171) (tgt := 190) dX12_make_171 (by decide) (fun hc => ?_) (fun hc => ?_)
    · rw [if_pos hc] at H
      refine T_aload_n (pc := 190) dX12_make_190 rfl rfl ?_
      refine T_gR (pc := 191) fa_X12_63 dX12_make_191 (gR_mono (fun x2 H => ?_) H)
      refine T_iload_n (pc := 194) dX12_make_194 rfl rfl ?_
      refine T_aL (pc := 195) dX12_make_195 (aL_mono (fun x3 H => ?_) H)
      refine T_sL (pc := 196) dX12_make_196 (sV_mono (fun h H => ?_) H)
      refine T_iinc (pc := 197) (v := v3 + 1) (ls2 := [some (jR v0), some (jI v1), some (jI v2), some (jI (v3 + 1)), some (jI v4), some (jI v5)]) dX12_make_197 rfl rfl (Nat.le_of_ble_eq_true rfl) rfl ?_
      refine T_goto (pc := 200) (tgt := 51) dX12_make_200 (by decide) ?_
      exact T.forget H ⟨rfl, rfl, rfl, rfl, trivial⟩
    · rw [if_neg hc] at H
      refine T_iload (pc := 174) dX12_make_174 rfl ?_
      refine T_iload (pc := 176) dX12_make_176 rfl ?_
      refine T_aload_n (pc := 178) dX12_make_178 rfl rfl ?_
      refine T_gR (pc := 179) fa_X12_63 dX12_make_179 (gR_mono (fun x4 H => ?_) H)
      refine T_iload_n (pc := 182) dX12_make_182 rfl rfl ?_
      refine T_aL (pc := 183) dX12_make_183 (aL_mono (fun x5 H => ?_) H)
      refine T_invS (pc := 184) (av := [jI v5, jI v4, jL x5]) (rest := [jI v3, jR x1]) dX12_make_184 mf_X12_widened c_5_133 c_5_134 rfl (Nat.le_of_ble_eq_true rfl) rfl (iL_k (iL_mono (fun x6 h u H => ?_) H))
      refine T_goto (pc := 187) (tgt := 196) dX12_make_187 (by decide) ?_
      refine T_sL (pc := 196) dX12_make_196 (sV_mono (fun h H => ?_) H)
      refine T_iinc (pc := 197) (v := v3 + 1) (ls2 := [some (jR v0), some (jI v1), some (jI v2), some (jI (v3 + 1)), some (jI v4), some (jI v5)]) dX12_make_197 rfl rfl (Nat.le_of_ble_eq_true rfl) rfl ?_
      refine T_goto (pc := 200) (tgt := 51) dX12_make_200 (by decide) ?_
      exact T.forget H ⟨rfl, rfl, rfl, rfl, trivial⟩
  · rw [if_pos hc] at H
    refine T_ldc2 (pc := 161) (v := (-1)) dX12_make_161 c_5_97 ?_
    refine T_goto (pc := 164) (tgt := 196) dX12_make_164 (by decide) ?_
    refine T_sL (pc := 196) dX12_make_196 (sV_mono (fun h H => ?_) H)
    refine T_iinc (pc := 197) (v := v3 + 1) (ls2 := [some (jR v0), some (jI v1), some (jI v2), some (jI (v3 + 1)), some (jI v4), some (jI v5)]) dX12_make_197 rfl rfl (Nat.le_of_ble_eq_true rfl) rfl ?_
    refine T_goto (pc := 200) (tgt := 51) dX12_make_200 (by decide) ?_
    exact T.forget H ⟨rfl, rfl, rfl, rfl, trivial⟩
def F_X12_make_102 (d : Nat) (v0 : Option Nm) (v1 : Int32) (v2 : Int32) (v3 : Int32) (v4 : Int32) (v5 : Int32) (h : MH) (u : Nat) (Q : Int32 → MH → Prop) : Prop :=
  if 8 ≤ v4 then
    if v5 = (-5) then
      F_X12_make_149 d v0 v1 v2 v3 v4 v5 h u Q
    else
      if v5 = v4 then
        F_X12_make_149 d v0 v1 v2 v3 v4 v5 h u Q
      else
        rc h v0 11 ∧ iI d u_X12_fails [jR v0, jI 3] h u fun x1 h u =>
        Q x1 h
  else
    if 8 ≤ v5 then
      rc h v0 11 ∧ iI d u_X12_fails [jR v0, jI 3] h u fun x2 h u =>
      Q x2 h
    else
      iI d u_X12_isWidened [jI v5, jI v4] h u fun x3 h u =>
      if x3 = 0 then
        rc h v0 11 ∧ iI d u_X12_fails [jR v0, jI 3] h u fun x4 h u =>
        Q x4 h
      else
        F_X12_make_149 d v0 v1 v2 v3 v4 v5 h u Q
set_option maxRecDepth 20000 in
theorem E_X12_make_102 {d : Nat} {v0 : Option Nm} {v1 : Int32} {v2 : Int32} {v3 : Int32} {v4 : Int32} {v5 : Int32} {h : MH} {u : Nat} {Q : Int32 → MH → Prop} (H : F_X12_make_102 d v0 v1 v2 v3 v4 v5 h u Q) : T u_X12_make (d + 1) 102 [some (jR v0), some (jI v1), some (jI v2), some (jI v3), some (jI v4), some (jI v5)] [] h u (qI Q) := by
  unfold F_X12_make_102 at H
  refine T_iload (pc := 102) dX12_make_102 rfl ?_
  refine T_bipush (pc := 104) (v := 8) dX12_make_104 (by decide) ?_
  refine T_icmp_ge (pc := 106) (tgt := 129) dX12_make_106 (by decide) (fun hc => ?_) (fun hc => ?_)
  · rw [if_pos hc] at H
    refine T_iload (pc := 129) dX12_make_129 rfl ?_
    refine T_bipush (pc := 131) (v := (-5)) dX12_make_131 (by decide) ?_
    refine T_icmp_eq (pc := 133) (tgt := 149) dX12_make_133 (by decide) (fun hc => ?_) (fun hc => ?_)
    · rw [if_pos hc] at H
      exact T.forget (E_X12_make_149 H) ⟨rfl, rfl, rfl, rfl, rfl, rfl, trivial⟩
    · rw [if_neg hc] at H
      refine T_iload (pc := 136) dX12_make_136 rfl ?_
      refine T_iload (pc := 138) dX12_make_138 rfl ?_
      refine T_icmp_eq (pc := 140) (tgt := 149) dX12_make_140 (by decide) (fun hc => ?_) (fun hc => ?_)
      · rw [if_pos hc] at H
        exact T.forget (E_X12_make_149 H) ⟨rfl, rfl, rfl, rfl, rfl, rfl, trivial⟩
      · rw [if_neg hc] at H
        refine T_aload_n (pc := 143) dX12_make_143 rfl rfl ?_
        refine T_iconst (pc := 144) (v := 3) dX12_make_144 (by decide) ?_
        obtain ⟨H0, H⟩ := H
        refine T_iV (pc := 145) (ci := 11) (av := [jI 3]) (rest := []) (o := v0) dX12_make_145 mf_X12_fails c_5_89 c_5_91 pr_X12_fails rfl rfl (Nat.le_of_ble_eq_true rfl) rfl H0 (iI_k (iI_mono (fun x1 h u H => ?_) H))
        exact T_ireturn (pc := 148) rfl rfl dX12_make_148 H
  · rw [if_neg hc] at H
    refine T_iload (pc := 109) dX12_make_109 rfl ?_
    refine T_bipush (pc := 111) (v := 8) dX12_make_111 (by decide) ?_
    refine T_icmp_ge (pc := 113) (tgt := 143) dX12_make_113 (by decide) (fun hc => ?_) (fun hc => ?_)
    · rw [if_pos hc] at H
      refine T_aload_n (pc := 143) dX12_make_143 rfl rfl ?_
      refine T_iconst (pc := 144) (v := 3) dX12_make_144 (by decide) ?_
      obtain ⟨H0, H⟩ := H
      refine T_iV (pc := 145) (ci := 11) (av := [jI 3]) (rest := []) (o := v0) dX12_make_145 mf_X12_fails c_5_89 c_5_91 pr_X12_fails rfl rfl (Nat.le_of_ble_eq_true rfl) rfl H0 (iI_k (iI_mono (fun x2 h u H => ?_) H))
      exact T_ireturn (pc := 148) rfl rfl dX12_make_148 H
    · rw [if_neg hc] at H
      refine T_iload (pc := 116) dX12_make_116 rfl ?_
      refine T_iload (pc := 118) dX12_make_118 rfl ?_
      refine T_invS (pc := 120) (av := [jI v5, jI v4]) (rest := []) dX12_make_120 mf_X12_isWidened c_5_106 c_5_107 rfl (Nat.le_of_ble_eq_true rfl) rfl (iI_k (iI_mono (fun x3 h u H => ?_) H))
      refine T_if_ne (pc := 123) (tgt := 149) dX12_make_123 (by decide) (fun hc => ?_) (fun hc => ?_)
      · rw [if_neg hc] at H
        exact T.forget (E_X12_make_149 H) ⟨rfl, rfl, rfl, rfl, rfl, rfl, trivial⟩
      · rw [if_pos hc] at H
        refine T_goto (pc := 126) (tgt := 143) dX12_make_126 (by decide) ?_
        refine T_aload_n (pc := 143) dX12_make_143 rfl rfl ?_
        refine T_iconst (pc := 144) (v := 3) dX12_make_144 (by decide) ?_
        obtain ⟨H0, H⟩ := H
        refine T_iV (pc := 145) (ci := 11) (av := [jI 3]) (rest := []) (o := v0) dX12_make_145 mf_X12_fails c_5_89 c_5_91 pr_X12_fails rfl rfl (Nat.le_of_ble_eq_true rfl) rfl H0 (iI_k (iI_mono (fun x4 h u H => ?_) H))
        exact T_ireturn (pc := 148) rfl rfl dX12_make_148 H
def F_X12_make_51 (d : Nat) (v0 : Option Nm) (v1 : Int32) (v2 : Int32) (v3 : Int32) (h : MH) (u : Nat) (Q : Int32 → MH → Prop) : Prop :=
  gR h v0 11 15 fun x1 =>
  aI .int h x1 v2 fun x2 =>
  if x2 ≤ v3 then
    rc h v0 11 ∧ iI d u_X12_finish [jR v0, jI v1] h u fun x3 h u =>
    L_X12_make_212 d v0 x3 0 h u Q
  else
    gR h v0 11 17 fun x4 =>
    aI .int h x4 ((8 * v2) + v3) fun x5 =>
    gR h v0 11 22 fun x6 =>
    aI .int h x6 v3 fun x7 =>
    if 8 ≤ x5 then
      F_X12_make_102 d v0 v1 v2 v3 x5 x7 h u Q
    else
      if x7 = (-5) then
        rc h v0 11 ∧ iI d u_X12_fails [jR v0, jI 1] h u fun x8 h u =>
        Q x8 h
      else
        F_X12_make_102 d v0 v1 v2 v3 x5 x7 h u Q
set_option maxRecDepth 20000 in
theorem E_X12_make_51 {d : Nat} {v0 : Option Nm} {v1 : Int32} {v2 : Int32} {v3 : Int32} {h : MH} {u : Nat} {Q : Int32 → MH → Prop} (H : F_X12_make_51 d v0 v1 v2 v3 h u Q) : T u_X12_make (d + 1) 51 [some (jR v0), some (jI v1), some (jI v2), some (jI v3), none, none] [] h u (qI Q) := by
  unfold F_X12_make_51 at H
  refine T_iload_n (pc := 51) dX12_make_51 rfl rfl ?_
  refine T_aload_n (pc := 52) dX12_make_52 rfl rfl ?_
  refine T_gR (pc := 53) fa_X12_42 dX12_make_53 (gR_mono (fun x1 H => ?_) H)
  refine T_iload_n (pc := 56) dX12_make_56 rfl rfl ?_
  refine T_aI (pc := 57) dX12_make_57 (aI_mono (fun x2 H => ?_) H)
  refine T_icmp_ge (pc := 58) (tgt := 203) dX12_make_58 (by decide) (fun hc => ?_) (fun hc => ?_)
  · rw [if_pos hc] at H
    refine T_aload_n (pc := 203) dX12_make_203 rfl rfl ?_
    refine T_iload_n (pc := 204) dX12_make_204 rfl rfl ?_
    obtain ⟨H0, H⟩ := H
    refine T_iV (pc := 205) (ci := 11) (av := [jI v1]) (rest := []) (o := v0) dX12_make_205 mf_X12_finish c_6_10 c_6_12 pr_X12_finish rfl rfl (Nat.le_of_ble_eq_true rfl) rfl H0 (iI_k (iI_mono (fun x3 h u H => ?_) H))
    refine T_istore_n (pc := 208) (ls2 := [some (jR v0), some (jI v1), some (jI v2), some (jI x3), none, none]) dX12_make_208 rfl (Nat.le_of_ble_eq_true rfl) rfl ?_
    refine T_iconst (pc := 209) (v := 0) dX12_make_209 (by decide) ?_
    refine T_istore (pc := 210) (ls2 := [some (jR v0), some (jI v1), some (jI v2), some (jI x3), some (jI 0), none]) dX12_make_210 (Nat.le_of_ble_eq_true rfl) rfl ?_
    exact T.forget H ⟨rfl, rfl, rfl, trivial⟩
  · rw [if_neg hc] at H
    refine T_aload_n (pc := 61) dX12_make_61 rfl rfl ?_
    refine T_gR (pc := 62) fa_X12_48 dX12_make_62 (gR_mono (fun x4 H => ?_) H)
    refine T_bipush (pc := 65) (v := 8) dX12_make_65 (by decide) ?_
    refine T_iload_n (pc := 67) dX12_make_67 rfl rfl ?_
    refine T_imul (pc := 68) dX12_make_68 ?_
    refine T_iload_n (pc := 69) dX12_make_69 rfl rfl ?_
    refine T_iadd (pc := 70) dX12_make_70 ?_
    refine T_aI (pc := 71) dX12_make_71 (aI_mono (fun x5 H => ?_) H)
    refine T_istore (pc := 72) (ls2 := [some (jR v0), some (jI v1), some (jI v2), some (jI v3), some (jI x5), none]) dX12_make_72 (Nat.le_of_ble_eq_true rfl) rfl ?_
    refine T_aload_n (pc := 74) dX12_make_74 rfl rfl ?_
    refine T_gR (pc := 75) fa_X12_60 dX12_make_75 (gR_mono (fun x6 H => ?_) H)
    refine T_iload_n (pc := 78) dX12_make_78 rfl rfl ?_
    refine T_aI (pc := 79) dX12_make_79 (aI_mono (fun x7 H => ?_) H)
    refine T_istore (pc := 80) (ls2 := [some (jR v0), some (jI v1), some (jI v2), some (jI v3), some (jI x5), some (jI x7)]) dX12_make_80 (Nat.le_of_ble_eq_true rfl) rfl ?_
    refine T_iload (pc := 82) dX12_make_82 rfl ?_
    refine T_bipush (pc := 84) (v := 8) dX12_make_84 (by decide) ?_
    refine T_icmp_ge (pc := 86) (tgt := 102) dX12_make_86 (by decide) (fun hc => ?_) (fun hc => ?_)
    · rw [if_pos hc] at H
      exact T.forget (E_X12_make_102 H) ⟨rfl, rfl, rfl, rfl, rfl, rfl, trivial⟩
    · rw [if_neg hc] at H
      refine T_iload (pc := 89) dX12_make_89 rfl ?_
      refine T_bipush (pc := 91) (v := (-5)) dX12_make_91 (by decide) ?_
      refine T_icmp_ne (pc := 93) (tgt := 102) dX12_make_93 (by decide) (fun hc => ?_) (fun hc => ?_)
      · rw [if_neg hc] at H
        exact T.forget (E_X12_make_102 H) ⟨rfl, rfl, rfl, rfl, rfl, rfl, trivial⟩
      · rw [if_pos hc] at H
        refine T_aload_n (pc := 96) dX12_make_96 rfl rfl ?_
        refine T_iconst (pc := 97) (v := 1) dX12_make_97 (by decide) ?_
        obtain ⟨H0, H⟩ := H
        refine T_iV (pc := 98) (ci := 11) (av := [jI 1]) (rest := []) (o := v0) dX12_make_98 mf_X12_fails c_5_89 c_5_91 pr_X12_fails rfl rfl (Nat.le_of_ble_eq_true rfl) rfl H0 (iI_k (iI_mono (fun x8 h u H => ?_) H))
        exact T_ireturn (pc := 101) rfl rfl dX12_make_101 H
def F_X12_make_212 (d : Nat) (v0 : Option Nm) (v3 : Int32) (v4 : Int32) (h : MH) (u : Nat) (Q : Int32 → MH → Prop) : Prop :=
  if 6 ≤ v4 then
    Q v3 h
  else
    if v3 < 0 then
      Q v3 h
    else
      gR h v0 11 22 fun x1 =>
      sV .int h x1 v4 (jI (-5)) fun h =>
      L_X12_make_212 d v0 v3 (v4 + 1) h u Q
set_option maxRecDepth 20000 in
theorem E_X12_make_212 {d : Nat} {v0 : Option Nm} {v3 : Int32} {v4 : Int32} {h : MH} {u : Nat} {Q : Int32 → MH → Prop} (H : F_X12_make_212 d v0 v3 v4 h u Q) : T u_X12_make (d + 1) 212 [some (jR v0), none, none, some (jI v3), some (jI v4), none] [] h u (qI Q) := by
  unfold F_X12_make_212 at H
  refine T_iload (pc := 212) dX12_make_212 rfl ?_
  refine T_bipush (pc := 214) (v := 6) dX12_make_214 (by decide) ?_
  refine T_icmp_ge (pc := 216) (tgt := 238) dX12_make_216 (by decide) (fun hc => ?_) (fun hc => ?_)
  · rw [if_pos hc] at H
    refine T_iload_n (pc := 238) dX12_make_238 rfl rfl ?_
    exact T_ireturn (pc := 239) rfl rfl dX12_make_239 H
  · rw [if_neg hc] at H
    refine T_iload_n (pc := 219) dX12_make_219 rfl rfl ?_
    refine T_if_lt (pc := 220) (tgt := 238) dX12_make_220 (by decide) (fun hc => ?_) (fun hc => ?_)
    · rw [if_pos hc] at H
      refine T_iload_n (pc := 238) dX12_make_238 rfl rfl ?_
      exact T_ireturn (pc := 239) rfl rfl dX12_make_239 H
    · rw [if_neg hc] at H
      refine T_aload_n (pc := 223) dX12_make_223 rfl rfl ?_
      refine T_gR (pc := 224) fa_X12_60 dX12_make_224 (gR_mono (fun x1 H => ?_) H)
      refine T_iload (pc := 227) dX12_make_227 rfl ?_
      refine T_bipush (pc := 229) (v := (-5)) dX12_make_229 (by decide) ?_
      refine T_sI (pc := 231) dX12_make_231 (sV_mono (fun h H => ?_) H)
      refine T_iinc (pc := 232) (v := v4 + 1) (ls2 := [some (jR v0), none, none, some (jI v3), some (jI (v4 + 1)), none]) dX12_make_232 rfl rfl (Nat.le_of_ble_eq_true rfl) rfl ?_
      refine T_goto (pc := 235) (tgt := 212) dX12_make_235 (by decide) ?_
      exact T.forget H ⟨rfl, rfl, rfl, trivial⟩
theorem I_X12_make {d : Nat} {v0 : Option Nm} {v1 : Int32} {h : MH} {u : Nat} {K : Int32 → MH → Nat → Prop} (u1 : Nat) (hu : u1 ≤ u) (H : F_X12_make d v0 v1 h u1 (fun x h2 => K x h2 (u - u1))) : iI (d + 1) u_X12_make [jR v0, jI v1] h u K := inv.of u1 hu (Ct.of (by decide +kernel) rfl (Nat.le_of_ble_eq_true rfl) rfl (E_X12_make H))
theorem dX12_named_0 : decode cX12_named 0 = .ok (.aload_n 0, 1) := by decide +kernel
theorem dX12_named_1 : decode cX12_named 1 = .ok (.iload_n 1, 1) := by decide +kernel
theorem dX12_named_2 : decode cX12_named 2 = .ok (.invokevirtual 206, 3) := by decide +kernel
theorem dX12_named_5 : decode cX12_named 5 = .ok (.ifCond .ne 5, 3) := by decide +kernel
theorem dX12_named_8 : decode cX12_named 8 = .ok (.iconst (-1), 1) := by decide +kernel
theorem dX12_named_9 : decode cX12_named 9 = .ok (.ireturn, 1) := by decide +kernel
theorem dX12_named_10 : decode cX12_named 10 = .ok (.aload_n 0, 1) := by decide +kernel
theorem dX12_named_11 : decode cX12_named 11 = .ok (.aload_n 0, 1) := by decide +kernel
theorem dX12_named_12 : decode cX12_named 12 = .ok (.iload_n 1, 1) := by decide +kernel
theorem dX12_named_13 : decode cX12_named 13 = .ok (.invokevirtual 225, 3) := by decide +kernel
theorem dX12_named_16 : decode cX12_named 16 = .ok (.iload_n 2, 1) := by decide +kernel
theorem dX12_named_17 : decode cX12_named 17 = .ok (.invokevirtual 209, 3) := by decide +kernel
theorem dX12_named_20 : decode cX12_named 20 = .ok (.istore_n 3, 1) := by decide +kernel
theorem dX12_named_21 : decode cX12_named 21 = .ok (.aload_n 0, 1) := by decide +kernel
theorem dX12_named_22 : decode cX12_named 22 = .ok (.getfield 27, 3) := by decide +kernel
theorem dX12_named_25 : decode cX12_named 25 = .ok (.iload_n 1, 1) := by decide +kernel
theorem dX12_named_26 : decode cX12_named 26 = .ok (.baload, 1) := by decide +kernel
theorem dX12_named_27 : decode cX12_named 27 = .ok (.ifCond .eq 7, 3) := by decide +kernel
theorem dX12_named_30 : decode cX12_named 30 = .ok (.iload_n 3, 1) := by decide +kernel
theorem dX12_named_31 : decode cX12_named 31 = .ok (.ifCond .ge 6, 3) := by decide +kernel
theorem dX12_named_34 : decode cX12_named 34 = .ok (.bipush (-3), 2) := by decide +kernel
theorem dX12_named_36 : decode cX12_named 36 = .ok (.ireturn, 1) := by decide +kernel
theorem dX12_named_37 : decode cX12_named 37 = .ok (.aload_n 0, 1) := by decide +kernel
theorem dX12_named_38 : decode cX12_named 38 = .ok (.iload_n 1, 1) := by decide +kernel
theorem dX12_named_39 : decode cX12_named 39 = .ok (.invokevirtual 250, 3) := by decide +kernel
theorem dX12_named_42 : decode cX12_named 42 = .ok (.ifCond .eq 21, 3) := by decide +kernel
theorem dX12_named_45 : decode cX12_named 45 = .ok (.aload_n 0, 1) := by decide +kernel
theorem dX12_named_46 : decode cX12_named 46 = .ok (.getfield 51, 3) := by decide +kernel
theorem dX12_named_49 : decode cX12_named 49 = .ok (.bipush 8, 2) := by decide +kernel
theorem dX12_named_51 : decode cX12_named 51 = .ok (.aload_n 0, 1) := by decide +kernel
theorem dX12_named_52 : decode cX12_named 52 = .ok (.iload_n 1, 1) := by decide +kernel
theorem dX12_named_53 : decode cX12_named 53 = .ok (.invokevirtual 225, 3) := by decide +kernel
theorem dX12_named_56 : decode cX12_named 56 = .ok (.imul, 1) := by decide +kernel
theorem dX12_named_57 : decode cX12_named 57 = .ok (.iload_n 3, 1) := by decide +kernel
theorem dX12_named_58 : decode cX12_named 58 = .ok (.iadd, 1) := by decide +kernel
theorem dX12_named_59 : decode cX12_named 59 = .ok (.iaload, 1) := by decide +kernel
theorem dX12_named_60 : decode cX12_named 60 = .ok (.goto 5, 3) := by decide +kernel
theorem dX12_named_63 : decode cX12_named 63 = .ok (.bipush (-4), 2) := by decide +kernel
theorem dX12_named_65 : decode cX12_named 65 = .ok (.ireturn, 1) := by decide +kernel
def F_X12_named (d : Nat) (v0 : Option Nm) (v1 : Int32) (v2 : Int32) (h : MH) (u : Nat) (Q : Int32 → MH → Prop) : Prop :=
  rc h v0 11 ∧ iI d u_X12_isKind [jR v0, jI v1] h u fun x1 h u =>
  if x1 = 0 then
    Q (-1) h
  else
    rc h v0 11 ∧ iI d u_X12_newestOf [jR v0, jI v1] h u fun x2 h u =>
    rc h v0 11 ∧ iI d u_X12_placeOf [jR v0, jI x2, jI v2] h u fun x3 h u =>
    gR h v0 11 10 fun x4 =>
    aI .boolean h x4 v1 fun x5 =>
    if x5 = 0 then
      Q (-3) h
    else
      if 0 ≤ x3 then
        rc h v0 11 ∧ iI d u_X12_starts [jR v0, jI v1] h u fun x6 h u =>
        if x6 = 0 then
          Q (-4) h
        else
          gR h v0 11 18 fun x7 =>
          rc h v0 11 ∧ iI d u_X12_newestOf [jR v0, jI v1] h u fun x8 h u =>
          aI .int h x7 ((8 * x8) + x3) fun x9 =>
          Q x9 h
      else
        Q (-3) h
set_option maxRecDepth 20000 in
theorem E_X12_named {d : Nat} {v0 : Option Nm} {v1 : Int32} {v2 : Int32} {h : MH} {u : Nat} {Q : Int32 → MH → Prop} (H : F_X12_named d v0 v1 v2 h u Q) : T u_X12_named (d + 1) 0 [some (jR v0), some (jI v1), some (jI v2), none] [] h u (qI Q) := by
  unfold F_X12_named at H
  refine T_aload_n (pc := 0) dX12_named_0 rfl rfl ?_
  refine T_iload_n (pc := 1) dX12_named_1 rfl rfl ?_
  obtain ⟨H0, H⟩ := H
  refine T_iV (pc := 2) (ci := 11) (av := [jI v1]) (rest := []) (o := v0) dX12_named_2 mf_X12_isKind c_5_198 c_5_200 pr_X12_isKind rfl rfl (Nat.le_of_ble_eq_true rfl) rfl H0 (iI_k (iI_mono (fun x1 h u H => ?_) H))
  refine T_if_ne (pc := 5) (tgt := 10) dX12_named_5 (by decide) (fun hc => ?_) (fun hc => ?_)
  · rw [if_neg hc] at H
    refine T_aload_n (pc := 10) dX12_named_10 rfl rfl ?_
    refine T_aload_n (pc := 11) dX12_named_11 rfl rfl ?_
    refine T_iload_n (pc := 12) dX12_named_12 rfl rfl ?_
    obtain ⟨H0, H⟩ := H
    refine T_iV (pc := 13) (ci := 11) (av := [jI v1]) (rest := [jR v0]) (o := v0) dX12_named_13 mf_X12_newestOf c_5_210 c_5_212 pr_X12_newestOf rfl rfl (Nat.le_of_ble_eq_true rfl) rfl H0 (iI_k (iI_mono (fun x2 h u H => ?_) H))
    refine T_iload_n (pc := 16) dX12_named_16 rfl rfl ?_
    obtain ⟨H0, H⟩ := H
    refine T_iV (pc := 17) (ci := 11) (av := [jI x2, jI v2]) (rest := []) (o := v0) dX12_named_17 mf_X12_placeOf c_5_202 c_5_204 pr_X12_placeOf rfl rfl (Nat.le_of_ble_eq_true rfl) rfl H0 (iI_k (iI_mono (fun x3 h u H => ?_) H))
    refine T_istore_n (pc := 20) (ls2 := [some (jR v0), some (jI v1), some (jI v2), some (jI x3)]) dX12_named_20 rfl (Nat.le_of_ble_eq_true rfl) rfl ?_
    refine T_aload_n (pc := 21) dX12_named_21 rfl rfl ?_
    refine T_gR (pc := 22) fa_X12_27 dX12_named_22 (gR_mono (fun x4 H => ?_) H)
    refine T_iload_n (pc := 25) dX12_named_25 rfl rfl ?_
    refine T_aZ (pc := 26) dX12_named_26 (aI_mono (fun x5 H => ?_) H)
    refine T_if_eq (pc := 27) (tgt := 34) dX12_named_27 (by decide) (fun hc => ?_) (fun hc => ?_)
    · rw [if_pos hc] at H
      refine T_bipush (pc := 34) (v := (-3)) dX12_named_34 (by decide) ?_
      exact T_ireturn (pc := 36) rfl rfl dX12_named_36 H
    · rw [if_neg hc] at H
      refine T_iload_n (pc := 30) dX12_named_30 rfl rfl ?_
      refine T_if_ge (pc := 31) (tgt := 37) dX12_named_31 (by decide) (fun hc => ?_) (fun hc => ?_)
      · rw [if_pos hc] at H
        refine T_aload_n (pc := 37) dX12_named_37 rfl rfl ?_
        refine T_iload_n (pc := 38) dX12_named_38 rfl rfl ?_
        obtain ⟨H0, H⟩ := H
        refine T_iV (pc := 39) (ci := 11) (av := [jI v1]) (rest := []) (o := v0) dX12_named_39 mf_X12_starts c_6_2 c_6_4 pr_X12_starts rfl rfl (Nat.le_of_ble_eq_true rfl) rfl H0 (iI_k (iI_mono (fun x6 h u H => ?_) H))
        refine T_if_eq (pc := 42) (tgt := 63) dX12_named_42 (by decide) (fun hc => ?_) (fun hc => ?_)
        · rw [if_pos hc] at H
          refine T_bipush (pc := 63) (v := (-4)) dX12_named_63 (by decide) ?_
          exact T_ireturn (pc := 65) rfl rfl dX12_named_65 H
        · rw [if_neg hc] at H
          refine T_aload_n (pc := 45) dX12_named_45 rfl rfl ?_
          refine T_gR (pc := 46) fa_X12_51 dX12_named_46 (gR_mono (fun x7 H => ?_) H)
          refine T_bipush (pc := 49) (v := 8) dX12_named_49 (by decide) ?_
          refine T_aload_n (pc := 51) dX12_named_51 rfl rfl ?_
          refine T_iload_n (pc := 52) dX12_named_52 rfl rfl ?_
          obtain ⟨H0, H⟩ := H
          refine T_iV (pc := 53) (ci := 11) (av := [jI v1]) (rest := [jI 8, jR x7]) (o := v0) dX12_named_53 mf_X12_newestOf c_5_210 c_5_212 pr_X12_newestOf rfl rfl (Nat.le_of_ble_eq_true rfl) rfl H0 (iI_k (iI_mono (fun x8 h u H => ?_) H))
          refine T_imul (pc := 56) dX12_named_56 ?_
          refine T_iload_n (pc := 57) dX12_named_57 rfl rfl ?_
          refine T_iadd (pc := 58) dX12_named_58 ?_
          refine T_aI (pc := 59) dX12_named_59 (aI_mono (fun x9 H => ?_) H)
          refine T_goto (pc := 60) (tgt := 65) dX12_named_60 (by decide) ?_
          exact T_ireturn (pc := 65) rfl rfl dX12_named_65 H
      · rw [if_neg hc] at H
        refine T_bipush (pc := 34) (v := (-3)) dX12_named_34 (by decide) ?_
        exact T_ireturn (pc := 36) rfl rfl dX12_named_36 H
  · rw [if_pos hc] at H
    refine T_iconst (pc := 8) (v := (-1)) dX12_named_8 (by decide) ?_
    exact T_ireturn (pc := 9) rfl rfl dX12_named_9 H
theorem I_X12_named {d : Nat} {v0 : Option Nm} {v1 : Int32} {v2 : Int32} {h : MH} {u : Nat} {K : Int32 → MH → Nat → Prop} (u1 : Nat) (hu : u1 ≤ u) (H : F_X12_named d v0 v1 v2 h u1 (fun x h2 => K x h2 (u - u1))) : iI (d + 1) u_X12_named [jR v0, jI v1, jI v2] h u K := inv.of u1 hu (Ct.of (by decide +kernel) rfl (Nat.le_of_ble_eq_true rfl) rfl (E_X12_named H))
theorem dX12_toldPart_0 : decode cX12_toldPart 0 = .ok (.aload_n 0, 1) := by decide +kernel
theorem dX12_toldPart_1 : decode cX12_toldPart 1 = .ok (.iload_n 1, 1) := by decide +kernel
theorem dX12_toldPart_2 : decode cX12_toldPart 2 = .ok (.iload_n 2, 1) := by decide +kernel
theorem dX12_toldPart_3 : decode cX12_toldPart 3 = .ok (.invokevirtual 256, 3) := by decide +kernel
theorem dX12_toldPart_6 : decode cX12_toldPart 6 = .ok (.bipush 8, 2) := by decide +kernel
theorem dX12_toldPart_8 : decode cX12_toldPart 8 = .ok (.if_icmp .lt 25, 3) := by decide +kernel
theorem dX12_toldPart_11 : decode cX12_toldPart 11 = .ok (.aload_n 0, 1) := by decide +kernel
theorem dX12_toldPart_12 : decode cX12_toldPart 12 = .ok (.getfield 84, 3) := by decide +kernel
theorem dX12_toldPart_15 : decode cX12_toldPart 15 = .ok (.bipush 6, 2) := by decide +kernel
theorem dX12_toldPart_17 : decode cX12_toldPart 17 = .ok (.iload_n 1, 1) := by decide +kernel
theorem dX12_toldPart_18 : decode cX12_toldPart 18 = .ok (.imul, 1) := by decide +kernel
theorem dX12_toldPart_19 : decode cX12_toldPart 19 = .ok (.iload_n 2, 1) := by decide +kernel
theorem dX12_toldPart_20 : decode cX12_toldPart 20 = .ok (.iadd, 1) := by decide +kernel
theorem dX12_toldPart_21 : decode cX12_toldPart 21 = .ok (.laload, 1) := by decide +kernel
theorem dX12_toldPart_22 : decode cX12_toldPart 22 = .ok (.lconst 0, 1) := by decide +kernel
theorem dX12_toldPart_23 : decode cX12_toldPart 23 = .ok (.lcmp, 1) := by decide +kernel
theorem dX12_toldPart_24 : decode cX12_toldPart 24 = .ok (.ifCond .ge 9, 3) := by decide +kernel
theorem dX12_toldPart_27 : decode cX12_toldPart 27 = .ok (.ldc2_w 259, 3) := by decide +kernel
theorem dX12_toldPart_30 : decode cX12_toldPart 30 = .ok (.goto 14, 3) := by decide +kernel
theorem dX12_toldPart_33 : decode cX12_toldPart 33 = .ok (.aload_n 0, 1) := by decide +kernel
theorem dX12_toldPart_34 : decode cX12_toldPart 34 = .ok (.getfield 84, 3) := by decide +kernel
theorem dX12_toldPart_37 : decode cX12_toldPart 37 = .ok (.bipush 6, 2) := by decide +kernel
theorem dX12_toldPart_39 : decode cX12_toldPart 39 = .ok (.iload_n 1, 1) := by decide +kernel
theorem dX12_toldPart_40 : decode cX12_toldPart 40 = .ok (.imul, 1) := by decide +kernel
theorem dX12_toldPart_41 : decode cX12_toldPart 41 = .ok (.iload_n 2, 1) := by decide +kernel
theorem dX12_toldPart_42 : decode cX12_toldPart 42 = .ok (.iadd, 1) := by decide +kernel
theorem dX12_toldPart_43 : decode cX12_toldPart 43 = .ok (.laload, 1) := by decide +kernel
theorem dX12_toldPart_44 : decode cX12_toldPart 44 = .ok (.lreturn, 1) := by decide +kernel
def F_X12_toldPart (d : Nat) (v0 : Option Nm) (v1 : Int32) (v2 : Int32) (h : MH) (u : Nat) (Q : Int64 → MH → Prop) : Prop :=
  rc h v0 11 ∧ iI d u_X12_laneOf [jR v0, jI v1, jI v2] h u fun x1 h u =>
  if x1 < 8 then
    gR h v0 11 31 fun x2 =>
    aL h x2 ((6 * v1) + v2) fun x3 =>
    Q x3 h
  else
    gR h v0 11 31 fun x4 =>
    aL h x4 ((6 * v1) + v2) fun x5 =>
    if 0 ≤ (lg_cmp x5 0) then
      gR h v0 11 31 fun x6 =>
      aL h x6 ((6 * v1) + v2) fun x7 =>
      Q x7 h
    else
      Q (-5) h
set_option maxRecDepth 20000 in
theorem E_X12_toldPart {d : Nat} {v0 : Option Nm} {v1 : Int32} {v2 : Int32} {h : MH} {u : Nat} {Q : Int64 → MH → Prop} (H : F_X12_toldPart d v0 v1 v2 h u Q) : T u_X12_toldPart (d + 1) 0 [some (jR v0), some (jI v1), some (jI v2)] [] h u (qL Q) := by
  unfold F_X12_toldPart at H
  refine T_aload_n (pc := 0) dX12_toldPart_0 rfl rfl ?_
  refine T_iload_n (pc := 1) dX12_toldPart_1 rfl rfl ?_
  refine T_iload_n (pc := 2) dX12_toldPart_2 rfl rfl ?_
  obtain ⟨H0, H⟩ := H
  refine T_iV (pc := 3) (ci := 11) (av := [jI v1, jI v2]) (rest := []) (o := v0) dX12_toldPart_3 mf_X12_laneOf c_6_50 c_6_52 pr_X12_laneOf rfl rfl (Nat.le_of_ble_eq_true rfl) rfl H0 (iI_k (iI_mono (fun x1 h u H => ?_) H))
  refine T_bipush (pc := 6) (v := 8) dX12_toldPart_6 (by decide) ?_
  refine T_icmp_lt (pc := 8) (tgt := 33) dX12_toldPart_8 (by decide) (fun hc => ?_) (fun hc => ?_)
  · rw [if_pos hc] at H
    refine T_aload_n (pc := 33) dX12_toldPart_33 rfl rfl ?_
    refine T_gR (pc := 34) fa_X12_84 dX12_toldPart_34 (gR_mono (fun x2 H => ?_) H)
    refine T_bipush (pc := 37) (v := 6) dX12_toldPart_37 (by decide) ?_
    refine T_iload_n (pc := 39) dX12_toldPart_39 rfl rfl ?_
    refine T_imul (pc := 40) dX12_toldPart_40 ?_
    refine T_iload_n (pc := 41) dX12_toldPart_41 rfl rfl ?_
    refine T_iadd (pc := 42) dX12_toldPart_42 ?_
    refine T_aL (pc := 43) dX12_toldPart_43 (aL_mono (fun x3 H => ?_) H)
    exact T_lreturn (pc := 44) rfl dX12_toldPart_44 H
  · rw [if_neg hc] at H
    refine T_aload_n (pc := 11) dX12_toldPart_11 rfl rfl ?_
    refine T_gR (pc := 12) fa_X12_84 dX12_toldPart_12 (gR_mono (fun x4 H => ?_) H)
    refine T_bipush (pc := 15) (v := 6) dX12_toldPart_15 (by decide) ?_
    refine T_iload_n (pc := 17) dX12_toldPart_17 rfl rfl ?_
    refine T_imul (pc := 18) dX12_toldPart_18 ?_
    refine T_iload_n (pc := 19) dX12_toldPart_19 rfl rfl ?_
    refine T_iadd (pc := 20) dX12_toldPart_20 ?_
    refine T_aL (pc := 21) dX12_toldPart_21 (aL_mono (fun x5 H => ?_) H)
    refine T_lconst (pc := 22) (v := 0) dX12_toldPart_22 (by decide) ?_
    refine T_lcmp (pc := 23) dX12_toldPart_23 ?_
    refine T_if_ge (pc := 24) (tgt := 33) dX12_toldPart_24 (by decide) (fun hc => ?_) (fun hc => ?_)
    · rw [if_pos hc] at H
      refine T_aload_n (pc := 33) dX12_toldPart_33 rfl rfl ?_
      refine T_gR (pc := 34) fa_X12_84 dX12_toldPart_34 (gR_mono (fun x6 H => ?_) H)
      refine T_bipush (pc := 37) (v := 6) dX12_toldPart_37 (by decide) ?_
      refine T_iload_n (pc := 39) dX12_toldPart_39 rfl rfl ?_
      refine T_imul (pc := 40) dX12_toldPart_40 ?_
      refine T_iload_n (pc := 41) dX12_toldPart_41 rfl rfl ?_
      refine T_iadd (pc := 42) dX12_toldPart_42 ?_
      refine T_aL (pc := 43) dX12_toldPart_43 (aL_mono (fun x7 H => ?_) H)
      exact T_lreturn (pc := 44) rfl dX12_toldPart_44 H
    · rw [if_neg hc] at H
      refine T_ldc2 (pc := 27) (v := (-5)) dX12_toldPart_27 c_6_54 ?_
      refine T_goto (pc := 30) (tgt := 44) dX12_toldPart_30 (by decide) ?_
      exact T_lreturn (pc := 44) rfl dX12_toldPart_44 H
theorem I_X12_toldPart {d : Nat} {v0 : Option Nm} {v1 : Int32} {v2 : Int32} {h : MH} {u : Nat} {K : Int64 → MH → Nat → Prop} (u1 : Nat) (hu : u1 ≤ u) (H : F_X12_toldPart d v0 v1 v2 h u1 (fun x h2 => K x h2 (u - u1))) : iL (d + 1) u_X12_toldPart [jR v0, jI v1, jI v2] h u K := inv.of u1 hu (Ct.of (by decide +kernel) rfl (Nat.le_of_ble_eq_true rfl) rfl (E_X12_toldPart H))
theorem dX12_part_0 : decode cX12_part 0 = .ok (.aload_n 0, 1) := by decide +kernel
theorem dX12_part_1 : decode cX12_part 1 = .ok (.iload_n 1, 1) := by decide +kernel
theorem dX12_part_2 : decode cX12_part 2 = .ok (.invokevirtual 190, 3) := by decide +kernel
theorem dX12_part_5 : decode cX12_part 5 = .ok (.ifCond .eq 11, 3) := by decide +kernel
theorem dX12_part_8 : decode cX12_part 8 = .ok (.aload_n 0, 1) := by decide +kernel
theorem dX12_part_9 : decode cX12_part 9 = .ok (.iload_n 1, 1) := by decide +kernel
theorem dX12_part_10 : decode cX12_part 10 = .ok (.invokevirtual 261, 3) := by decide +kernel
theorem dX12_part_13 : decode cX12_part 13 = .ok (.ifCond .eq 7, 3) := by decide +kernel
theorem dX12_part_16 : decode cX12_part 16 = .ok (.invokestatic 124, 3) := by decide +kernel
theorem dX12_part_19 : decode cX12_part 19 = .ok (.lreturn, 1) := by decide +kernel
theorem dX12_part_20 : decode cX12_part 20 = .ok (.iload_n 2, 1) := by decide +kernel
theorem dX12_part_21 : decode cX12_part 21 = .ok (.iconst 0, 1) := by decide +kernel
theorem dX12_part_22 : decode cX12_part 22 = .ok (.aload_n 0, 1) := by decide +kernel
theorem dX12_part_23 : decode cX12_part 23 = .ok (.iload_n 1, 1) := by decide +kernel
theorem dX12_part_24 : decode cX12_part 24 = .ok (.invokevirtual 264, 3) := by decide +kernel
theorem dX12_part_27 : decode cX12_part 27 = .ok (.iconst 1, 1) := by decide +kernel
theorem dX12_part_28 : decode cX12_part 28 = .ok (.isub, 1) := by decide +kernel
theorem dX12_part_29 : decode cX12_part 29 = .ok (.invokestatic 156, 3) := by decide +kernel
theorem dX12_part_32 : decode cX12_part 32 = .ok (.ifCond .eq 12, 3) := by decide +kernel
theorem dX12_part_35 : decode cX12_part 35 = .ok (.aload_n 0, 1) := by decide +kernel
theorem dX12_part_36 : decode cX12_part 36 = .ok (.iload_n 1, 1) := by decide +kernel
theorem dX12_part_37 : decode cX12_part 37 = .ok (.iload_n 2, 1) := by decide +kernel
theorem dX12_part_38 : decode cX12_part 38 = .ok (.invokevirtual 267, 3) := by decide +kernel
theorem dX12_part_41 : decode cX12_part 41 = .ok (.goto 8, 3) := by decide +kernel
theorem dX12_part_44 : decode cX12_part 44 = .ok (.aload_n 0, 1) := by decide +kernel
theorem dX12_part_45 : decode cX12_part 45 = .ok (.iconst 2, 1) := by decide +kernel
theorem dX12_part_46 : decode cX12_part 46 = .ok (.invokevirtual 186, 3) := by decide +kernel
theorem dX12_part_49 : decode cX12_part 49 = .ok (.lreturn, 1) := by decide +kernel
def F_X12_part (d : Nat) (v0 : Option Nm) (v1 : Int32) (v2 : Int32) (h : MH) (u : Nat) (Q : Int64 → MH → Prop) : Prop :=
  rc h v0 11 ∧ iI d u_X12_isValue [jR v0, jI v1] h u fun x1 h u =>
  if x1 = 0 then
    iL d u_X12_lost [] h u fun x2 h u =>
    Q x2 h
  else
    rc h v0 11 ∧ iI d u_X12_isConstant [jR v0, jI v1] h u fun x3 h u =>
    if x3 = 0 then
      rc h v0 11 ∧ iI d u_X12_partsOf [jR v0, jI v1] h u fun x4 h u =>
      iI d u_X12_in [jI v2, jI 0, jI (x4 - 1)] h u fun x5 h u =>
      if x5 = 0 then
        rc h v0 11 ∧ iL d u_X12_failsLong [jR v0, jI 2] h u fun x6 h u =>
        Q x6 h
      else
        rc h v0 11 ∧ iL d u_X12_toldPart [jR v0, jI v1, jI v2] h u fun x7 h u =>
        Q x7 h
    else
      iL d u_X12_lost [] h u fun x8 h u =>
      Q x8 h
set_option maxRecDepth 20000 in
theorem E_X12_part {d : Nat} {v0 : Option Nm} {v1 : Int32} {v2 : Int32} {h : MH} {u : Nat} {Q : Int64 → MH → Prop} (H : F_X12_part d v0 v1 v2 h u Q) : T u_X12_part (d + 1) 0 [some (jR v0), some (jI v1), some (jI v2)] [] h u (qL Q) := by
  unfold F_X12_part at H
  refine T_aload_n (pc := 0) dX12_part_0 rfl rfl ?_
  refine T_iload_n (pc := 1) dX12_part_1 rfl rfl ?_
  obtain ⟨H0, H⟩ := H
  refine T_iV (pc := 2) (ci := 11) (av := [jI v1]) (rest := []) (o := v0) dX12_part_2 mf_X12_isValue c_5_155 c_5_157 pr_X12_isValue rfl rfl (Nat.le_of_ble_eq_true rfl) rfl H0 (iI_k (iI_mono (fun x1 h u H => ?_) H))
  refine T_if_eq (pc := 5) (tgt := 16) dX12_part_5 (by decide) (fun hc => ?_) (fun hc => ?_)
  · rw [if_pos hc] at H
    refine T_invS (pc := 16) (av := []) (rest := []) dX12_part_16 mf_X12_lost c_5_143 c_5_144 rfl (Nat.le_of_ble_eq_true rfl) rfl (iL_k (iL_mono (fun x2 h u H => ?_) H))
    exact T_lreturn (pc := 19) rfl dX12_part_19 H
  · rw [if_neg hc] at H
    refine T_aload_n (pc := 8) dX12_part_8 rfl rfl ?_
    refine T_iload_n (pc := 9) dX12_part_9 rfl rfl ?_
    obtain ⟨H0, H⟩ := H
    refine T_iV (pc := 10) (ci := 11) (av := [jI v1]) (rest := []) (o := v0) dX12_part_10 mf_X12_isConstant c_6_34 c_6_36 pr_X12_isConstant rfl rfl (Nat.le_of_ble_eq_true rfl) rfl H0 (iI_k (iI_mono (fun x3 h u H => ?_) H))
    refine T_if_eq (pc := 13) (tgt := 20) dX12_part_13 (by decide) (fun hc => ?_) (fun hc => ?_)
    · rw [if_pos hc] at H
      refine T_iload_n (pc := 20) dX12_part_20 rfl rfl ?_
      refine T_iconst (pc := 21) (v := 0) dX12_part_21 (by decide) ?_
      refine T_aload_n (pc := 22) dX12_part_22 rfl rfl ?_
      refine T_iload_n (pc := 23) dX12_part_23 rfl rfl ?_
      obtain ⟨H0, H⟩ := H
      refine T_iV (pc := 24) (ci := 11) (av := [jI v1]) (rest := [jI 0, jI v2]) (o := v0) dX12_part_24 mf_X12_partsOf c_6_38 c_6_40 pr_X12_partsOf rfl rfl (Nat.le_of_ble_eq_true rfl) rfl H0 (iI_k (iI_mono (fun x4 h u H => ?_) H))
      refine T_iconst (pc := 27) (v := 1) dX12_part_27 (by decide) ?_
      refine T_isub (pc := 28) dX12_part_28 ?_
      refine T_invS (pc := 29) (av := [jI v2, jI 0, jI (x4 - 1)]) (rest := []) dX12_part_29 mf_X12_in c_5_86 c_5_87 rfl (Nat.le_of_ble_eq_true rfl) rfl (iI_k (iI_mono (fun x5 h u H => ?_) H))
      refine T_if_eq (pc := 32) (tgt := 44) dX12_part_32 (by decide) (fun hc => ?_) (fun hc => ?_)
      · rw [if_pos hc] at H
        refine T_aload_n (pc := 44) dX12_part_44 rfl rfl ?_
        refine T_iconst (pc := 45) (v := 2) dX12_part_45 (by decide) ?_
        obtain ⟨H0, H⟩ := H
        refine T_iV (pc := 46) (ci := 11) (av := [jI 2]) (rest := []) (o := v0) dX12_part_46 mf_X12_failsLong c_5_147 c_5_149 pr_X12_failsLong rfl rfl (Nat.le_of_ble_eq_true rfl) rfl H0 (iL_k (iL_mono (fun x6 h u H => ?_) H))
        exact T_lreturn (pc := 49) rfl dX12_part_49 H
      · rw [if_neg hc] at H
        refine T_aload_n (pc := 35) dX12_part_35 rfl rfl ?_
        refine T_iload_n (pc := 36) dX12_part_36 rfl rfl ?_
        refine T_iload_n (pc := 37) dX12_part_37 rfl rfl ?_
        obtain ⟨H0, H⟩ := H
        refine T_iV (pc := 38) (ci := 11) (av := [jI v1, jI v2]) (rest := []) (o := v0) dX12_part_38 mf_X12_toldPart c_6_46 c_6_48 pr_X12_toldPart rfl rfl (Nat.le_of_ble_eq_true rfl) rfl H0 (iL_k (iL_mono (fun x7 h u H => ?_) H))
        refine T_goto (pc := 41) (tgt := 49) dX12_part_41 (by decide) ?_
        exact T_lreturn (pc := 49) rfl dX12_part_49 H
    · rw [if_neg hc] at H
      refine T_invS (pc := 16) (av := []) (rest := []) dX12_part_16 mf_X12_lost c_5_143 c_5_144 rfl (Nat.le_of_ble_eq_true rfl) rfl (iL_k (iL_mono (fun x8 h u H => ?_) H))
      exact T_lreturn (pc := 19) rfl dX12_part_19 H
theorem I_X12_part {d : Nat} {v0 : Option Nm} {v1 : Int32} {v2 : Int32} {h : MH} {u : Nat} {K : Int64 → MH → Nat → Prop} (u1 : Nat) (hu : u1 ≤ u) (H : F_X12_part d v0 v1 v2 h u1 (fun x h2 => K x h2 (u - u1))) : iL (d + 1) u_X12_part [jR v0, jI v1, jI v2] h u K := inv.of u1 hu (Ct.of (by decide +kernel) rfl (Nat.le_of_ble_eq_true rfl) rfl (E_X12_part H))
theorem dX12_accessor_0 : decode cX12_accessor 0 = .ok (.aload_n 0, 1) := by decide +kernel
theorem dX12_accessor_1 : decode cX12_accessor 1 = .ok (.iload_n 1, 1) := by decide +kernel
theorem dX12_accessor_2 : decode cX12_accessor 2 = .ok (.invokevirtual 190, 3) := by decide +kernel
theorem dX12_accessor_5 : decode cX12_accessor 5 = .ok (.ifCond .eq 11, 3) := by decide +kernel
theorem dX12_accessor_8 : decode cX12_accessor 8 = .ok (.aload_n 0, 1) := by decide +kernel
theorem dX12_accessor_9 : decode cX12_accessor 9 = .ok (.iload_n 1, 1) := by decide +kernel
theorem dX12_accessor_10 : decode cX12_accessor 10 = .ok (.invokevirtual 261, 3) := by decide +kernel
theorem dX12_accessor_13 : decode cX12_accessor 13 = .ok (.ifCond .eq 7, 3) := by decide +kernel
theorem dX12_accessor_16 : decode cX12_accessor 16 = .ok (.invokestatic 124, 3) := by decide +kernel
theorem dX12_accessor_19 : decode cX12_accessor 19 = .ok (.lreturn, 1) := by decide +kernel
theorem dX12_accessor_20 : decode cX12_accessor 20 = .ok (.aload_n 0, 1) := by decide +kernel
theorem dX12_accessor_21 : decode cX12_accessor 21 = .ok (.aload_n 0, 1) := by decide +kernel
theorem dX12_accessor_22 : decode cX12_accessor 22 = .ok (.iload_n 1, 1) := by decide +kernel
theorem dX12_accessor_23 : decode cX12_accessor 23 = .ok (.invokevirtual 231, 3) := by decide +kernel
theorem dX12_accessor_26 : decode cX12_accessor 26 = .ok (.iload_n 2, 1) := by decide +kernel
theorem dX12_accessor_27 : decode cX12_accessor 27 = .ok (.invokevirtual 209, 3) := by decide +kernel
theorem dX12_accessor_30 : decode cX12_accessor 30 = .ok (.istore_n 3, 1) := by decide +kernel
theorem dX12_accessor_31 : decode cX12_accessor 31 = .ok (.iload_n 3, 1) := by decide +kernel
theorem dX12_accessor_32 : decode cX12_accessor 32 = .ok (.ifCond .ge 9, 3) := by decide +kernel
theorem dX12_accessor_35 : decode cX12_accessor 35 = .ok (.invokestatic 124, 3) := by decide +kernel
theorem dX12_accessor_38 : decode cX12_accessor 38 = .ok (.goto 9, 3) := by decide +kernel
theorem dX12_accessor_41 : decode cX12_accessor 41 = .ok (.aload_n 0, 1) := by decide +kernel
theorem dX12_accessor_42 : decode cX12_accessor 42 = .ok (.iload_n 1, 1) := by decide +kernel
theorem dX12_accessor_43 : decode cX12_accessor 43 = .ok (.iload_n 3, 1) := by decide +kernel
theorem dX12_accessor_44 : decode cX12_accessor 44 = .ok (.invokevirtual 267, 3) := by decide +kernel
theorem dX12_accessor_47 : decode cX12_accessor 47 = .ok (.lreturn, 1) := by decide +kernel
def F_X12_accessor (d : Nat) (v0 : Option Nm) (v1 : Int32) (v2 : Int32) (h : MH) (u : Nat) (Q : Int64 → MH → Prop) : Prop :=
  rc h v0 11 ∧ iI d u_X12_isValue [jR v0, jI v1] h u fun x1 h u =>
  if x1 = 0 then
    iL d u_X12_lost [] h u fun x2 h u =>
    Q x2 h
  else
    rc h v0 11 ∧ iI d u_X12_isConstant [jR v0, jI v1] h u fun x3 h u =>
    if x3 = 0 then
      rc h v0 11 ∧ iI d u_X12_editionOf [jR v0, jI v1] h u fun x4 h u =>
      rc h v0 11 ∧ iI d u_X12_placeOf [jR v0, jI x4, jI v2] h u fun x5 h u =>
      if 0 ≤ x5 then
        rc h v0 11 ∧ iL d u_X12_toldPart [jR v0, jI v1, jI x5] h u fun x6 h u =>
        Q x6 h
      else
        iL d u_X12_lost [] h u fun x7 h u =>
        Q x7 h
    else
      iL d u_X12_lost [] h u fun x8 h u =>
      Q x8 h
set_option maxRecDepth 20000 in
theorem E_X12_accessor {d : Nat} {v0 : Option Nm} {v1 : Int32} {v2 : Int32} {h : MH} {u : Nat} {Q : Int64 → MH → Prop} (H : F_X12_accessor d v0 v1 v2 h u Q) : T u_X12_accessor (d + 1) 0 [some (jR v0), some (jI v1), some (jI v2), none] [] h u (qL Q) := by
  unfold F_X12_accessor at H
  refine T_aload_n (pc := 0) dX12_accessor_0 rfl rfl ?_
  refine T_iload_n (pc := 1) dX12_accessor_1 rfl rfl ?_
  obtain ⟨H0, H⟩ := H
  refine T_iV (pc := 2) (ci := 11) (av := [jI v1]) (rest := []) (o := v0) dX12_accessor_2 mf_X12_isValue c_5_155 c_5_157 pr_X12_isValue rfl rfl (Nat.le_of_ble_eq_true rfl) rfl H0 (iI_k (iI_mono (fun x1 h u H => ?_) H))
  refine T_if_eq (pc := 5) (tgt := 16) dX12_accessor_5 (by decide) (fun hc => ?_) (fun hc => ?_)
  · rw [if_pos hc] at H
    refine T_invS (pc := 16) (av := []) (rest := []) dX12_accessor_16 mf_X12_lost c_5_143 c_5_144 rfl (Nat.le_of_ble_eq_true rfl) rfl (iL_k (iL_mono (fun x2 h u H => ?_) H))
    exact T_lreturn (pc := 19) rfl dX12_accessor_19 H
  · rw [if_neg hc] at H
    refine T_aload_n (pc := 8) dX12_accessor_8 rfl rfl ?_
    refine T_iload_n (pc := 9) dX12_accessor_9 rfl rfl ?_
    obtain ⟨H0, H⟩ := H
    refine T_iV (pc := 10) (ci := 11) (av := [jI v1]) (rest := []) (o := v0) dX12_accessor_10 mf_X12_isConstant c_6_34 c_6_36 pr_X12_isConstant rfl rfl (Nat.le_of_ble_eq_true rfl) rfl H0 (iI_k (iI_mono (fun x3 h u H => ?_) H))
    refine T_if_eq (pc := 13) (tgt := 20) dX12_accessor_13 (by decide) (fun hc => ?_) (fun hc => ?_)
    · rw [if_pos hc] at H
      refine T_aload_n (pc := 20) dX12_accessor_20 rfl rfl ?_
      refine T_aload_n (pc := 21) dX12_accessor_21 rfl rfl ?_
      refine T_iload_n (pc := 22) dX12_accessor_22 rfl rfl ?_
      obtain ⟨H0, H⟩ := H
      refine T_iV (pc := 23) (ci := 11) (av := [jI v1]) (rest := [jR v0]) (o := v0) dX12_accessor_23 mf_X12_editionOf c_6_42 c_6_44 pr_X12_editionOf rfl rfl (Nat.le_of_ble_eq_true rfl) rfl H0 (iI_k (iI_mono (fun x4 h u H => ?_) H))
      refine T_iload_n (pc := 26) dX12_accessor_26 rfl rfl ?_
      obtain ⟨H0, H⟩ := H
      refine T_iV (pc := 27) (ci := 11) (av := [jI x4, jI v2]) (rest := []) (o := v0) dX12_accessor_27 mf_X12_placeOf c_5_202 c_5_204 pr_X12_placeOf rfl rfl (Nat.le_of_ble_eq_true rfl) rfl H0 (iI_k (iI_mono (fun x5 h u H => ?_) H))
      refine T_istore_n (pc := 30) (ls2 := [some (jR v0), some (jI v1), some (jI v2), some (jI x5)]) dX12_accessor_30 rfl (Nat.le_of_ble_eq_true rfl) rfl ?_
      refine T_iload_n (pc := 31) dX12_accessor_31 rfl rfl ?_
      refine T_if_ge (pc := 32) (tgt := 41) dX12_accessor_32 (by decide) (fun hc => ?_) (fun hc => ?_)
      · rw [if_pos hc] at H
        refine T_aload_n (pc := 41) dX12_accessor_41 rfl rfl ?_
        refine T_iload_n (pc := 42) dX12_accessor_42 rfl rfl ?_
        refine T_iload_n (pc := 43) dX12_accessor_43 rfl rfl ?_
        obtain ⟨H0, H⟩ := H
        refine T_iV (pc := 44) (ci := 11) (av := [jI v1, jI x5]) (rest := []) (o := v0) dX12_accessor_44 mf_X12_toldPart c_6_46 c_6_48 pr_X12_toldPart rfl rfl (Nat.le_of_ble_eq_true rfl) rfl H0 (iL_k (iL_mono (fun x6 h u H => ?_) H))
        exact T_lreturn (pc := 47) rfl dX12_accessor_47 H
      · rw [if_neg hc] at H
        refine T_invS (pc := 35) (av := []) (rest := []) dX12_accessor_35 mf_X12_lost c_5_143 c_5_144 rfl (Nat.le_of_ble_eq_true rfl) rfl (iL_k (iL_mono (fun x7 h u H => ?_) H))
        refine T_goto (pc := 38) (tgt := 47) dX12_accessor_38 (by decide) ?_
        exact T_lreturn (pc := 47) rfl dX12_accessor_47 H
    · rw [if_neg hc] at H
      refine T_invS (pc := 16) (av := []) (rest := []) dX12_accessor_16 mf_X12_lost c_5_143 c_5_144 rfl (Nat.le_of_ble_eq_true rfl) rfl (iL_k (iL_mono (fun x8 h u H => ?_) H))
      exact T_lreturn (pc := 19) rfl dX12_accessor_19 H
theorem I_X12_accessor {d : Nat} {v0 : Option Nm} {v1 : Int32} {v2 : Int32} {h : MH} {u : Nat} {K : Int64 → MH → Nat → Prop} (u1 : Nat) (hu : u1 ≤ u) (H : F_X12_accessor d v0 v1 v2 h u1 (fun x h2 => K x h2 (u - u1))) : iL (d + 1) u_X12_accessor [jR v0, jI v1, jI v2] h u K := inv.of u1 hu (Ct.of (by decide +kernel) rfl (Nat.le_of_ble_eq_true rfl) rfl (E_X12_accessor H))
theorem dX12_of_0 : decode cX12_of 0 = .ok (.aload_n 0, 1) := by decide +kernel
theorem dX12_of_1 : decode cX12_of 1 = .ok (.iload_n 1, 1) := by decide +kernel
theorem dX12_of_2 : decode cX12_of 2 = .ok (.invokevirtual 190, 3) := by decide +kernel
theorem dX12_of_5 : decode cX12_of 5 = .ok (.ifCond .ne 5, 3) := by decide +kernel
theorem dX12_of_8 : decode cX12_of 8 = .ok (.iconst (-1), 1) := by decide +kernel
theorem dX12_of_9 : decode cX12_of 9 = .ok (.ireturn, 1) := by decide +kernel
theorem dX12_of_10 : decode cX12_of 10 = .ok (.iload_n 2, 1) := by decide +kernel
theorem dX12_of_11 : decode cX12_of 11 = .ok (.tableswitch 79 0 5 #[37, 44, 51, 58, 65, 72], 37) := by decide +kernel
theorem dX12_of_48 : decode cX12_of 48 = .ok (.aload_n 0, 1) := by decide +kernel
theorem dX12_of_49 : decode cX12_of 49 = .ok (.getfield 66, 3) := by decide +kernel
theorem dX12_of_52 : decode cX12_of 52 = .ok (.iload_n 1, 1) := by decide +kernel
theorem dX12_of_53 : decode cX12_of 53 = .ok (.iaload, 1) := by decide +kernel
theorem dX12_of_54 : decode cX12_of 54 = .ok (.ireturn, 1) := by decide +kernel
theorem dX12_of_55 : decode cX12_of 55 = .ok (.aload_n 0, 1) := by decide +kernel
theorem dX12_of_56 : decode cX12_of 56 = .ok (.getfield 69, 3) := by decide +kernel
theorem dX12_of_59 : decode cX12_of 59 = .ok (.iload_n 1, 1) := by decide +kernel
theorem dX12_of_60 : decode cX12_of 60 = .ok (.iaload, 1) := by decide +kernel
theorem dX12_of_61 : decode cX12_of 61 = .ok (.ireturn, 1) := by decide +kernel
theorem dX12_of_62 : decode cX12_of 62 = .ok (.aload_n 0, 1) := by decide +kernel
theorem dX12_of_63 : decode cX12_of 63 = .ok (.getfield 75, 3) := by decide +kernel
theorem dX12_of_66 : decode cX12_of 66 = .ok (.iload_n 1, 1) := by decide +kernel
theorem dX12_of_67 : decode cX12_of 67 = .ok (.iaload, 1) := by decide +kernel
theorem dX12_of_68 : decode cX12_of 68 = .ok (.ireturn, 1) := by decide +kernel
theorem dX12_of_69 : decode cX12_of 69 = .ok (.aload_n 0, 1) := by decide +kernel
theorem dX12_of_70 : decode cX12_of 70 = .ok (.getfield 72, 3) := by decide +kernel
theorem dX12_of_73 : decode cX12_of 73 = .ok (.iload_n 1, 1) := by decide +kernel
theorem dX12_of_74 : decode cX12_of 74 = .ok (.iaload, 1) := by decide +kernel
theorem dX12_of_75 : decode cX12_of 75 = .ok (.ireturn, 1) := by decide +kernel
theorem dX12_of_76 : decode cX12_of 76 = .ok (.aload_n 0, 1) := by decide +kernel
theorem dX12_of_77 : decode cX12_of 77 = .ok (.getfield 81, 3) := by decide +kernel
theorem dX12_of_80 : decode cX12_of 80 = .ok (.iload_n 1, 1) := by decide +kernel
theorem dX12_of_81 : decode cX12_of 81 = .ok (.iaload, 1) := by decide +kernel
theorem dX12_of_82 : decode cX12_of 82 = .ok (.ireturn, 1) := by decide +kernel
theorem dX12_of_83 : decode cX12_of 83 = .ok (.aload_n 0, 1) := by decide +kernel
theorem dX12_of_84 : decode cX12_of 84 = .ok (.getfield 78, 3) := by decide +kernel
theorem dX12_of_87 : decode cX12_of 87 = .ok (.iload_n 1, 1) := by decide +kernel
theorem dX12_of_88 : decode cX12_of 88 = .ok (.iaload, 1) := by decide +kernel
theorem dX12_of_89 : decode cX12_of 89 = .ok (.ireturn, 1) := by decide +kernel
theorem dX12_of_90 : decode cX12_of 90 = .ok (.bipush (-2), 2) := by decide +kernel
theorem dX12_of_92 : decode cX12_of 92 = .ok (.ireturn, 1) := by decide +kernel
def F_X12_of (d : Nat) (v0 : Option Nm) (v1 : Int32) (v2 : Int32) (h : MH) (u : Nat) (Q : Int32 → MH → Prop) : Prop :=
  rc h v0 11 ∧ iI d u_X12_isValue [jR v0, jI v1] h u fun x1 h u =>
  if x1 = 0 then
    Q (-1) h
  else
    if v2 = 0 then
      gR h v0 11 25 fun x2 =>
      aI .int h x2 v1 fun x3 =>
      Q x3 h
    else if v2 = 1 then
      gR h v0 11 26 fun x4 =>
      aI .int h x4 v1 fun x5 =>
      Q x5 h
    else if v2 = 2 then
      gR h v0 11 28 fun x6 =>
      aI .int h x6 v1 fun x7 =>
      Q x7 h
    else if v2 = 3 then
      gR h v0 11 27 fun x8 =>
      aI .int h x8 v1 fun x9 =>
      Q x9 h
    else if v2 = 4 then
      gR h v0 11 30 fun x10 =>
      aI .int h x10 v1 fun x11 =>
      Q x11 h
    else if v2 = 5 then
      gR h v0 11 29 fun x12 =>
      aI .int h x12 v1 fun x13 =>
      Q x13 h
    else 
      Q (-2) h
set_option maxRecDepth 20000 in
theorem E_X12_of {d : Nat} {v0 : Option Nm} {v1 : Int32} {v2 : Int32} {h : MH} {u : Nat} {Q : Int32 → MH → Prop} (H : F_X12_of d v0 v1 v2 h u Q) : T u_X12_of (d + 1) 0 [some (jR v0), some (jI v1), some (jI v2)] [] h u (qI Q) := by
  unfold F_X12_of at H
  refine T_aload_n (pc := 0) dX12_of_0 rfl rfl ?_
  refine T_iload_n (pc := 1) dX12_of_1 rfl rfl ?_
  obtain ⟨H0, H⟩ := H
  refine T_iV (pc := 2) (ci := 11) (av := [jI v1]) (rest := []) (o := v0) dX12_of_2 mf_X12_isValue c_5_155 c_5_157 pr_X12_isValue rfl rfl (Nat.le_of_ble_eq_true rfl) rfl H0 (iI_k (iI_mono (fun x1 h u H => ?_) H))
  refine T_if_ne (pc := 5) (tgt := 10) dX12_of_5 (by decide) (fun hc => ?_) (fun hc => ?_)
  · rw [if_neg hc] at H
    refine T_iload_n (pc := 10) dX12_of_10 rfl rfl ?_
    by_cases h0 : v2 = 0
    · rw [if_pos h0] at H
      refine T_tableIn (pc := 11) (off := 37) (tgt := 48) dX12_of_11 (by rw [h0]; decide) (by rw [h0]; decide) (by rw [h0]; rfl) (by decide) ?_
      refine T_aload_n (pc := 48) dX12_of_48 rfl rfl ?_
      refine T_gR (pc := 49) fa_X12_66 dX12_of_49 (gR_mono (fun x2 H => ?_) H)
      refine T_iload_n (pc := 52) dX12_of_52 rfl rfl ?_
      refine T_aI (pc := 53) dX12_of_53 (aI_mono (fun x3 H => ?_) H)
      exact T_ireturn (pc := 54) rfl rfl dX12_of_54 H
    rw [if_neg h0] at H
    by_cases h1 : v2 = 1
    · rw [if_pos h1] at H
      refine T_tableIn (pc := 11) (off := 44) (tgt := 55) dX12_of_11 (by rw [h1]; decide) (by rw [h1]; decide) (by rw [h1]; rfl) (by decide) ?_
      refine T_aload_n (pc := 55) dX12_of_55 rfl rfl ?_
      refine T_gR (pc := 56) fa_X12_69 dX12_of_56 (gR_mono (fun x4 H => ?_) H)
      refine T_iload_n (pc := 59) dX12_of_59 rfl rfl ?_
      refine T_aI (pc := 60) dX12_of_60 (aI_mono (fun x5 H => ?_) H)
      exact T_ireturn (pc := 61) rfl rfl dX12_of_61 H
    rw [if_neg h1] at H
    by_cases h2 : v2 = 2
    · rw [if_pos h2] at H
      refine T_tableIn (pc := 11) (off := 51) (tgt := 62) dX12_of_11 (by rw [h2]; decide) (by rw [h2]; decide) (by rw [h2]; rfl) (by decide) ?_
      refine T_aload_n (pc := 62) dX12_of_62 rfl rfl ?_
      refine T_gR (pc := 63) fa_X12_75 dX12_of_63 (gR_mono (fun x6 H => ?_) H)
      refine T_iload_n (pc := 66) dX12_of_66 rfl rfl ?_
      refine T_aI (pc := 67) dX12_of_67 (aI_mono (fun x7 H => ?_) H)
      exact T_ireturn (pc := 68) rfl rfl dX12_of_68 H
    rw [if_neg h2] at H
    by_cases h3 : v2 = 3
    · rw [if_pos h3] at H
      refine T_tableIn (pc := 11) (off := 58) (tgt := 69) dX12_of_11 (by rw [h3]; decide) (by rw [h3]; decide) (by rw [h3]; rfl) (by decide) ?_
      refine T_aload_n (pc := 69) dX12_of_69 rfl rfl ?_
      refine T_gR (pc := 70) fa_X12_72 dX12_of_70 (gR_mono (fun x8 H => ?_) H)
      refine T_iload_n (pc := 73) dX12_of_73 rfl rfl ?_
      refine T_aI (pc := 74) dX12_of_74 (aI_mono (fun x9 H => ?_) H)
      exact T_ireturn (pc := 75) rfl rfl dX12_of_75 H
    rw [if_neg h3] at H
    by_cases h4 : v2 = 4
    · rw [if_pos h4] at H
      refine T_tableIn (pc := 11) (off := 65) (tgt := 76) dX12_of_11 (by rw [h4]; decide) (by rw [h4]; decide) (by rw [h4]; rfl) (by decide) ?_
      refine T_aload_n (pc := 76) dX12_of_76 rfl rfl ?_
      refine T_gR (pc := 77) fa_X12_81 dX12_of_77 (gR_mono (fun x10 H => ?_) H)
      refine T_iload_n (pc := 80) dX12_of_80 rfl rfl ?_
      refine T_aI (pc := 81) dX12_of_81 (aI_mono (fun x11 H => ?_) H)
      exact T_ireturn (pc := 82) rfl rfl dX12_of_82 H
    rw [if_neg h4] at H
    by_cases h5 : v2 = 5
    · rw [if_pos h5] at H
      refine T_tableIn (pc := 11) (off := 72) (tgt := 83) dX12_of_11 (by rw [h5]; decide) (by rw [h5]; decide) (by rw [h5]; rfl) (by decide) ?_
      refine T_aload_n (pc := 83) dX12_of_83 rfl rfl ?_
      refine T_gR (pc := 84) fa_X12_78 dX12_of_84 (gR_mono (fun x12 H => ?_) H)
      refine T_iload_n (pc := 87) dX12_of_87 rfl rfl ?_
      refine T_aI (pc := 88) dX12_of_88 (aI_mono (fun x13 H => ?_) H)
      exact T_ireturn (pc := 89) rfl rfl dX12_of_89 H
    rw [if_neg h5] at H
    have e0 : (v2 : Int32).toInt ≠ 0 := fun q => h0 (Int32.toInt_inj.mp (q.trans (by decide)))
    have e1 : (v2 : Int32).toInt ≠ 1 := fun q => h1 (Int32.toInt_inj.mp (q.trans (by decide)))
    have e2 : (v2 : Int32).toInt ≠ 2 := fun q => h2 (Int32.toInt_inj.mp (q.trans (by decide)))
    have e3 : (v2 : Int32).toInt ≠ 3 := fun q => h3 (Int32.toInt_inj.mp (q.trans (by decide)))
    have e4 : (v2 : Int32).toInt ≠ 4 := fun q => h4 (Int32.toInt_inj.mp (q.trans (by decide)))
    have e5 : (v2 : Int32).toInt ≠ 5 := fun q => h5 (Int32.toInt_inj.mp (q.trans (by decide)))
    refine T_tableOut (pc := 11) (tgt := 90) dX12_of_11 (by omega) (by decide) ?_
    refine T_bipush (pc := 90) (v := (-2)) dX12_of_90 (by decide) ?_
    exact T_ireturn (pc := 92) rfl rfl dX12_of_92 H
  · rw [if_pos hc] at H
    refine T_iconst (pc := 8) (v := (-1)) dX12_of_8 (by decide) ?_
    exact T_ireturn (pc := 9) rfl rfl dX12_of_9 H
theorem I_X12_of {d : Nat} {v0 : Option Nm} {v1 : Int32} {v2 : Int32} {h : MH} {u : Nat} {K : Int32 → MH → Nat → Prop} (u1 : Nat) (hu : u1 ≤ u) (H : F_X12_of d v0 v1 v2 h u1 (fun x h2 => K x h2 (u - u1))) : iI (d + 1) u_X12_of [jR v0, jI v1, jI v2] h u K := inv.of u1 hu (Ct.of (by decide +kernel) rfl (Nat.le_of_ble_eq_true rfl) rfl (E_X12_of H))
theorem dX12_array_0 : decode cX12_array 0 = .ok (.aload_n 0, 1) := by decide +kernel
theorem dX12_array_1 : decode cX12_array 1 = .ok (.iload_n 1, 1) := by decide +kernel
theorem dX12_array_2 : decode cX12_array 2 = .ok (.invokevirtual 190, 3) := by decide +kernel
theorem dX12_array_5 : decode cX12_array 5 = .ok (.ifCond .ne 5, 3) := by decide +kernel
theorem dX12_array_8 : decode cX12_array 8 = .ok (.iconst (-1), 1) := by decide +kernel
theorem dX12_array_9 : decode cX12_array 9 = .ok (.ireturn, 1) := by decide +kernel
theorem dX12_array_10 : decode cX12_array 10 = .ok (.aload_n 0, 1) := by decide +kernel
theorem dX12_array_11 : decode cX12_array 11 = .ok (.iload_n 1, 1) := by decide +kernel
theorem dX12_array_12 : decode cX12_array 12 = .ok (.invokevirtual 261, 3) := by decide +kernel
theorem dX12_array_15 : decode cX12_array 15 = .ok (.ifCond .eq 6, 3) := by decide +kernel
theorem dX12_array_18 : decode cX12_array 18 = .ok (.bipush (-3), 2) := by decide +kernel
theorem dX12_array_20 : decode cX12_array 20 = .ok (.ireturn, 1) := by decide +kernel
theorem dX12_array_21 : decode cX12_array 21 = .ok (.iload_n 2, 1) := by decide +kernel
theorem dX12_array_22 : decode cX12_array 22 = .ok (.iconst 0, 1) := by decide +kernel
theorem dX12_array_23 : decode cX12_array 23 = .ok (.aload_n 0, 1) := by decide +kernel
theorem dX12_array_24 : decode cX12_array 24 = .ok (.iload_n 1, 1) := by decide +kernel
theorem dX12_array_25 : decode cX12_array 25 = .ok (.invokevirtual 264, 3) := by decide +kernel
theorem dX12_array_28 : decode cX12_array 28 = .ok (.iconst 1, 1) := by decide +kernel
theorem dX12_array_29 : decode cX12_array 29 = .ok (.isub, 1) := by decide +kernel
theorem dX12_array_30 : decode cX12_array 30 = .ok (.invokestatic 156, 3) := by decide +kernel
theorem dX12_array_33 : decode cX12_array 33 = .ok (.ifCond .ne 9, 3) := by decide +kernel
theorem dX12_array_36 : decode cX12_array 36 = .ok (.aload_n 0, 1) := by decide +kernel
theorem dX12_array_37 : decode cX12_array 37 = .ok (.iconst 2, 1) := by decide +kernel
theorem dX12_array_38 : decode cX12_array 38 = .ok (.invokevirtual 166, 3) := by decide +kernel
theorem dX12_array_41 : decode cX12_array 41 = .ok (.ireturn, 1) := by decide +kernel
theorem dX12_array_42 : decode cX12_array 42 = .ok (.aload_n 0, 1) := by decide +kernel
theorem dX12_array_43 : decode cX12_array 43 = .ok (.iload_n 1, 1) := by decide +kernel
theorem dX12_array_44 : decode cX12_array 44 = .ok (.iload_n 2, 1) := by decide +kernel
theorem dX12_array_45 : decode cX12_array 45 = .ok (.invokevirtual 256, 3) := by decide +kernel
theorem dX12_array_48 : decode cX12_array 48 = .ok (.bipush 9, 2) := by decide +kernel
theorem dX12_array_50 : decode cX12_array 50 = .ok (.if_icmp .eq 9, 3) := by decide +kernel
theorem dX12_array_53 : decode cX12_array 53 = .ok (.aload_n 0, 1) := by decide +kernel
theorem dX12_array_54 : decode cX12_array 54 = .ok (.iconst 3, 1) := by decide +kernel
theorem dX12_array_55 : decode cX12_array 55 = .ok (.invokevirtual 166, 3) := by decide +kernel
theorem dX12_array_58 : decode cX12_array 58 = .ok (.ireturn, 1) := by decide +kernel
theorem dX12_array_59 : decode cX12_array 59 = .ok (.aload_n 0, 1) := by decide +kernel
theorem dX12_array_60 : decode cX12_array 60 = .ok (.getfield 84, 3) := by decide +kernel
theorem dX12_array_63 : decode cX12_array 63 = .ok (.bipush 6, 2) := by decide +kernel
theorem dX12_array_65 : decode cX12_array 65 = .ok (.iload_n 1, 1) := by decide +kernel
theorem dX12_array_66 : decode cX12_array 66 = .ok (.imul, 1) := by decide +kernel
theorem dX12_array_67 : decode cX12_array 67 = .ok (.iload_n 2, 1) := by decide +kernel
theorem dX12_array_68 : decode cX12_array 68 = .ok (.iadd, 1) := by decide +kernel
theorem dX12_array_69 : decode cX12_array 69 = .ok (.laload, 1) := by decide +kernel
theorem dX12_array_70 : decode cX12_array 70 = .ok (.l2i, 1) := by decide +kernel
theorem dX12_array_71 : decode cX12_array 71 = .ok (.istore 4, 2) := by decide +kernel
theorem dX12_array_73 : decode cX12_array 73 = .ok (.iload 4, 2) := by decide +kernel
theorem dX12_array_75 : decode cX12_array 75 = .ok (.ifCond .ge 9, 3) := by decide +kernel
theorem dX12_array_78 : decode cX12_array 78 = .ok (.aload_n 0, 1) := by decide +kernel
theorem dX12_array_79 : decode cX12_array 79 = .ok (.iconst 1, 1) := by decide +kernel
theorem dX12_array_80 : decode cX12_array 80 = .ok (.invokevirtual 166, 3) := by decide +kernel
theorem dX12_array_83 : decode cX12_array 83 = .ok (.ireturn, 1) := by decide +kernel
theorem dX12_array_84 : decode cX12_array 84 = .ok (.iload_n 3, 1) := by decide +kernel
theorem dX12_array_85 : decode cX12_array 85 = .ok (.ifCond .eq 6, 3) := by decide +kernel
theorem dX12_array_88 : decode cX12_array 88 = .ok (.iload 4, 2) := by decide +kernel
theorem dX12_array_90 : decode cX12_array 90 = .ok (.ireturn, 1) := by decide +kernel
theorem dX12_array_91 : decode cX12_array 91 = .ok (.aload_n 0, 1) := by decide +kernel
theorem dX12_array_92 : decode cX12_array 92 = .ok (.getfield 153, 3) := by decide +kernel
theorem dX12_array_95 : decode cX12_array 95 = .ok (.bipush 60, 2) := by decide +kernel
theorem dX12_array_97 : decode cX12_array 97 = .ok (.if_icmp .ne 8, 3) := by decide +kernel
theorem dX12_array_100 : decode cX12_array 100 = .ok (.bipush (-4), 2) := by decide +kernel
theorem dX12_array_102 : decode cX12_array 102 = .ok (.goto 9, 3) := by decide +kernel
theorem dX12_array_105 : decode cX12_array 105 = .ok (.aload_n 0, 1) := by decide +kernel
theorem dX12_array_106 : decode cX12_array 106 = .ok (.iload 4, 2) := by decide +kernel
theorem dX12_array_108 : decode cX12_array 108 = .ok (.invokevirtual 196, 3) := by decide +kernel
theorem dX12_array_111 : decode cX12_array 111 = .ok (.ireturn, 1) := by decide +kernel
def F_X12_array (d : Nat) (v0 : Option Nm) (v1 : Int32) (v2 : Int32) (v3 : Int32) (h : MH) (u : Nat) (Q : Int32 → MH → Prop) : Prop :=
  rc h v0 11 ∧ iI d u_X12_isValue [jR v0, jI v1] h u fun x1 h u =>
  if x1 = 0 then
    Q (-1) h
  else
    rc h v0 11 ∧ iI d u_X12_isConstant [jR v0, jI v1] h u fun x2 h u =>
    if x2 = 0 then
      rc h v0 11 ∧ iI d u_X12_partsOf [jR v0, jI v1] h u fun x3 h u =>
      iI d u_X12_in [jI v2, jI 0, jI (x3 - 1)] h u fun x4 h u =>
      if x4 = 0 then
        rc h v0 11 ∧ iI d u_X12_fails [jR v0, jI 2] h u fun x12 h u =>
        Q x12 h
      else
        rc h v0 11 ∧ iI d u_X12_laneOf [jR v0, jI v1, jI v2] h u fun x5 h u =>
        if x5 = 9 then
          gR h v0 11 31 fun x6 =>
          aL h x6 ((6 * v1) + v2) fun x7 =>
          if 0 ≤ (x7.toInt32) then
            if v3 = 0 then
              gI h v0 11 3 fun x8 =>
              if x8 = 60 then
                Q (-4) h
              else
                rc h v0 11 ∧ iI d u_X12_twinOf [jR v0, jI (x7.toInt32)] h u fun x9 h u =>
                Q x9 h
            else
              Q (x7.toInt32) h
          else
            rc h v0 11 ∧ iI d u_X12_fails [jR v0, jI 1] h u fun x10 h u =>
            Q x10 h
        else
          rc h v0 11 ∧ iI d u_X12_fails [jR v0, jI 3] h u fun x11 h u =>
          Q x11 h
    else
      Q (-3) h
set_option maxRecDepth 20000 in
theorem E_X12_array {d : Nat} {v0 : Option Nm} {v1 : Int32} {v2 : Int32} {v3 : Int32} {h : MH} {u : Nat} {Q : Int32 → MH → Prop} (H : F_X12_array d v0 v1 v2 v3 h u Q) : T u_X12_array (d + 1) 0 [some (jR v0), some (jI v1), some (jI v2), some (jI v3), none] [] h u (qI Q) := by
  unfold F_X12_array at H
  refine T_aload_n (pc := 0) dX12_array_0 rfl rfl ?_
  refine T_iload_n (pc := 1) dX12_array_1 rfl rfl ?_
  obtain ⟨H0, H⟩ := H
  refine T_iV (pc := 2) (ci := 11) (av := [jI v1]) (rest := []) (o := v0) dX12_array_2 mf_X12_isValue c_5_155 c_5_157 pr_X12_isValue rfl rfl (Nat.le_of_ble_eq_true rfl) rfl H0 (iI_k (iI_mono (fun x1 h u H => ?_) H))
  refine T_if_ne (pc := 5) (tgt := 10) dX12_array_5 (by decide) (fun hc => ?_) (fun hc => ?_)
  · rw [if_neg hc] at H
    refine T_aload_n (pc := 10) dX12_array_10 rfl rfl ?_
    refine T_iload_n (pc := 11) dX12_array_11 rfl rfl ?_
    obtain ⟨H0, H⟩ := H
    refine T_iV (pc := 12) (ci := 11) (av := [jI v1]) (rest := []) (o := v0) dX12_array_12 mf_X12_isConstant c_6_34 c_6_36 pr_X12_isConstant rfl rfl (Nat.le_of_ble_eq_true rfl) rfl H0 (iI_k (iI_mono (fun x2 h u H => ?_) H))
    refine T_if_eq (pc := 15) (tgt := 21) dX12_array_15 (by decide) (fun hc => ?_) (fun hc => ?_)
    · rw [if_pos hc] at H
      refine T_iload_n (pc := 21) dX12_array_21 rfl rfl ?_
      refine T_iconst (pc := 22) (v := 0) dX12_array_22 (by decide) ?_
      refine T_aload_n (pc := 23) dX12_array_23 rfl rfl ?_
      refine T_iload_n (pc := 24) dX12_array_24 rfl rfl ?_
      obtain ⟨H0, H⟩ := H
      refine T_iV (pc := 25) (ci := 11) (av := [jI v1]) (rest := [jI 0, jI v2]) (o := v0) dX12_array_25 mf_X12_partsOf c_6_38 c_6_40 pr_X12_partsOf rfl rfl (Nat.le_of_ble_eq_true rfl) rfl H0 (iI_k (iI_mono (fun x3 h u H => ?_) H))
      refine T_iconst (pc := 28) (v := 1) dX12_array_28 (by decide) ?_
      refine T_isub (pc := 29) dX12_array_29 ?_
      refine T_invS (pc := 30) (av := [jI v2, jI 0, jI (x3 - 1)]) (rest := []) dX12_array_30 mf_X12_in c_5_86 c_5_87 rfl (Nat.le_of_ble_eq_true rfl) rfl (iI_k (iI_mono (fun x4 h u H => ?_) H))
      refine T_if_ne (pc := 33) (tgt := 42) dX12_array_33 (by decide) (fun hc => ?_) (fun hc => ?_)
      · rw [if_neg hc] at H
        refine T_aload_n (pc := 42) dX12_array_42 rfl rfl ?_
        refine T_iload_n (pc := 43) dX12_array_43 rfl rfl ?_
        refine T_iload_n (pc := 44) dX12_array_44 rfl rfl ?_
        obtain ⟨H0, H⟩ := H
        refine T_iV (pc := 45) (ci := 11) (av := [jI v1, jI v2]) (rest := []) (o := v0) dX12_array_45 mf_X12_laneOf c_6_50 c_6_52 pr_X12_laneOf rfl rfl (Nat.le_of_ble_eq_true rfl) rfl H0 (iI_k (iI_mono (fun x5 h u H => ?_) H))
        refine T_bipush (pc := 48) (v := 9) dX12_array_48 (by decide) ?_
        refine T_icmp_eq (pc := 50) (tgt := 59) dX12_array_50 (by decide) (fun hc => ?_) (fun hc => ?_)
        · rw [if_pos hc] at H
          refine T_aload_n (pc := 59) dX12_array_59 rfl rfl ?_
          refine T_gR (pc := 60) fa_X12_84 dX12_array_60 (gR_mono (fun x6 H => ?_) H)
          refine T_bipush (pc := 63) (v := 6) dX12_array_63 (by decide) ?_
          refine T_iload_n (pc := 65) dX12_array_65 rfl rfl ?_
          refine T_imul (pc := 66) dX12_array_66 ?_
          refine T_iload_n (pc := 67) dX12_array_67 rfl rfl ?_
          refine T_iadd (pc := 68) dX12_array_68 ?_
          refine T_aL (pc := 69) dX12_array_69 (aL_mono (fun x7 H => ?_) H)
          refine T_l2i (pc := 70) dX12_array_70 ?_
          refine T_istore (pc := 71) (ls2 := [some (jR v0), some (jI v1), some (jI v2), some (jI v3), some (jI (x7.toInt32))]) dX12_array_71 (Nat.le_of_ble_eq_true rfl) rfl ?_
          refine T_iload (pc := 73) dX12_array_73 rfl ?_
          refine T_if_ge (pc := 75) (tgt := 84) dX12_array_75 (by decide) (fun hc => ?_) (fun hc => ?_)
          · rw [if_pos hc] at H
            refine T_iload_n (pc := 84) dX12_array_84 rfl rfl ?_
            refine T_if_eq (pc := 85) (tgt := 91) dX12_array_85 (by decide) (fun hc => ?_) (fun hc => ?_)
            · rw [if_pos hc] at H
              refine T_aload_n (pc := 91) dX12_array_91 rfl rfl ?_
              refine T_gI (pc := 92) fa_X12_153 dX12_array_92 (gI_mono (fun x8 H => ?_) H)
              refine T_bipush (pc := 95) (v := 60) dX12_array_95 (by decide) ?_
              refine T_icmp_ne (pc := 97) (tgt := 105) dX12_array_97 (by decide) (fun hc => ?_) (fun hc => ?_)
              · rw [if_neg hc] at H
                refine T_aload_n (pc := 105) dX12_array_105 rfl rfl ?_
                refine T_iload (pc := 106) dX12_array_106 rfl ?_
                obtain ⟨H0, H⟩ := H
                refine T_iV (pc := 108) (ci := 11) (av := [jI (x7.toInt32)]) (rest := []) (o := v0) dX12_array_108 mf_X12_twinOf c_5_178 c_5_180 pr_X12_twinOf rfl rfl (Nat.le_of_ble_eq_true rfl) rfl H0 (iI_k (iI_mono (fun x9 h u H => ?_) H))
                exact T_ireturn (pc := 111) rfl rfl dX12_array_111 H
              · rw [if_pos hc] at H
                refine T_bipush (pc := 100) (v := (-4)) dX12_array_100 (by decide) ?_
                refine T_goto (pc := 102) (tgt := 111) dX12_array_102 (by decide) ?_
                exact T_ireturn (pc := 111) rfl rfl dX12_array_111 H
            · rw [if_neg hc] at H
              refine T_iload (pc := 88) dX12_array_88 rfl ?_
              exact T_ireturn (pc := 90) rfl rfl dX12_array_90 H
          · rw [if_neg hc] at H
            refine T_aload_n (pc := 78) dX12_array_78 rfl rfl ?_
            refine T_iconst (pc := 79) (v := 1) dX12_array_79 (by decide) ?_
            obtain ⟨H0, H⟩ := H
            refine T_iV (pc := 80) (ci := 11) (av := [jI 1]) (rest := []) (o := v0) dX12_array_80 mf_X12_fails c_5_89 c_5_91 pr_X12_fails rfl rfl (Nat.le_of_ble_eq_true rfl) rfl H0 (iI_k (iI_mono (fun x10 h u H => ?_) H))
            exact T_ireturn (pc := 83) rfl rfl dX12_array_83 H
        · rw [if_neg hc] at H
          refine T_aload_n (pc := 53) dX12_array_53 rfl rfl ?_
          refine T_iconst (pc := 54) (v := 3) dX12_array_54 (by decide) ?_
          obtain ⟨H0, H⟩ := H
          refine T_iV (pc := 55) (ci := 11) (av := [jI 3]) (rest := []) (o := v0) dX12_array_55 mf_X12_fails c_5_89 c_5_91 pr_X12_fails rfl rfl (Nat.le_of_ble_eq_true rfl) rfl H0 (iI_k (iI_mono (fun x11 h u H => ?_) H))
          exact T_ireturn (pc := 58) rfl rfl dX12_array_58 H
      · rw [if_pos hc] at H
        refine T_aload_n (pc := 36) dX12_array_36 rfl rfl ?_
        refine T_iconst (pc := 37) (v := 2) dX12_array_37 (by decide) ?_
        obtain ⟨H0, H⟩ := H
        refine T_iV (pc := 38) (ci := 11) (av := [jI 2]) (rest := []) (o := v0) dX12_array_38 mf_X12_fails c_5_89 c_5_91 pr_X12_fails rfl rfl (Nat.le_of_ble_eq_true rfl) rfl H0 (iI_k (iI_mono (fun x12 h u H => ?_) H))
        exact T_ireturn (pc := 41) rfl rfl dX12_array_41 H
    · rw [if_neg hc] at H
      refine T_bipush (pc := 18) (v := (-3)) dX12_array_18 (by decide) ?_
      exact T_ireturn (pc := 20) rfl rfl dX12_array_20 H
  · rw [if_pos hc] at H
    refine T_iconst (pc := 8) (v := (-1)) dX12_array_8 (by decide) ?_
    exact T_ireturn (pc := 9) rfl rfl dX12_array_9 H
theorem I_X12_array {d : Nat} {v0 : Option Nm} {v1 : Int32} {v2 : Int32} {v3 : Int32} {h : MH} {u : Nat} {K : Int32 → MH → Nat → Prop} (u1 : Nat) (hu : u1 ≤ u) (H : F_X12_array d v0 v1 v2 v3 h u1 (fun x h2 => K x h2 (u - u1))) : iI (d + 1) u_X12_array [jR v0, jI v1, jI v2, jI v3] h u K := inv.of u1 hu (Ct.of (by decide +kernel) rfl (Nat.le_of_ble_eq_true rfl) rfl (E_X12_array H))
theorem dX12_match_0 : decode cX12_match 0 = .ok (.iload_n 1, 1) := by decide +kernel
theorem dX12_match_1 : decode cX12_match 1 = .ok (.iconst 0, 1) := by decide +kernel
theorem dX12_match_2 : decode cX12_match 2 = .ok (.aload_n 0, 1) := by decide +kernel
theorem dX12_match_3 : decode cX12_match 3 = .ok (.getfield 228, 3) := by decide +kernel
theorem dX12_match_6 : decode cX12_match 6 = .ok (.iconst 1, 1) := by decide +kernel
theorem dX12_match_7 : decode cX12_match 7 = .ok (.isub, 1) := by decide +kernel
theorem dX12_match_8 : decode cX12_match 8 = .ok (.invokestatic 156, 3) := by decide +kernel
theorem dX12_match_11 : decode cX12_match 11 = .ok (.ifCond .eq 11, 3) := by decide +kernel
theorem dX12_match_14 : decode cX12_match 14 = .ok (.aload_n 0, 1) := by decide +kernel
theorem dX12_match_15 : decode cX12_match 15 = .ok (.iload_n 2, 1) := by decide +kernel
theorem dX12_match_16 : decode cX12_match 16 = .ok (.invokevirtual 190, 3) := by decide +kernel
theorem dX12_match_19 : decode cX12_match 19 = .ok (.ifCond .ne 5, 3) := by decide +kernel
theorem dX12_match_22 : decode cX12_match 22 = .ok (.iconst (-1), 1) := by decide +kernel
theorem dX12_match_23 : decode cX12_match 23 = .ok (.ireturn, 1) := by decide +kernel
theorem dX12_match_24 : decode cX12_match 24 = .ok (.iconst 0, 1) := by decide +kernel
theorem dX12_match_25 : decode cX12_match 25 = .ok (.istore_n 3, 1) := by decide +kernel
theorem dX12_match_26 : decode cX12_match 26 = .ok (.iconst 0, 1) := by decide +kernel
theorem dX12_match_27 : decode cX12_match 27 = .ok (.istore 4, 2) := by decide +kernel
theorem dX12_match_29 : decode cX12_match 29 = .ok (.iload 4, 2) := by decide +kernel
theorem dX12_match_31 : decode cX12_match 31 = .ok (.aload_n 0, 1) := by decide +kernel
theorem dX12_match_32 : decode cX12_match 32 = .ok (.getfield 66, 3) := by decide +kernel
theorem dX12_match_35 : decode cX12_match 35 = .ok (.iload_n 2, 1) := by decide +kernel
theorem dX12_match_36 : decode cX12_match 36 = .ok (.iaload, 1) := by decide +kernel
theorem dX12_match_37 : decode cX12_match 37 = .ok (.if_icmp .ge 23, 3) := by decide +kernel
theorem dX12_match_40 : decode cX12_match 40 = .ok (.iload_n 3, 1) := by decide +kernel
theorem dX12_match_41 : decode cX12_match 41 = .ok (.aload_n 0, 1) := by decide +kernel
theorem dX12_match_42 : decode cX12_match 42 = .ok (.getfield 54, 3) := by decide +kernel
theorem dX12_match_45 : decode cX12_match 45 = .ok (.iload_n 1, 1) := by decide +kernel
theorem dX12_match_46 : decode cX12_match 46 = .ok (.iaload, 1) := by decide +kernel
theorem dX12_match_47 : decode cX12_match 47 = .ok (.iload 4, 2) := by decide +kernel
theorem dX12_match_49 : decode cX12_match 49 = .ok (.ishr, 1) := by decide +kernel
theorem dX12_match_50 : decode cX12_match 50 = .ok (.iconst 1, 1) := by decide +kernel
theorem dX12_match_51 : decode cX12_match 51 = .ok (.iand, 1) := by decide +kernel
theorem dX12_match_52 : decode cX12_match 52 = .ok (.iadd, 1) := by decide +kernel
theorem dX12_match_53 : decode cX12_match 53 = .ok (.istore_n 3, 1) := by decide +kernel
theorem dX12_match_54 : decode cX12_match 54 = .ok (.iinc 4 1, 3) := by decide +kernel
theorem dX12_match_57 : decode cX12_match 57 = .ok (.goto (-28), 3) := by decide +kernel
theorem dX12_match_60 : decode cX12_match 60 = .ok (.aload_n 0, 1) := by decide +kernel
theorem dX12_match_61 : decode cX12_match 61 = .ok (.getfield 54, 3) := by decide +kernel
theorem dX12_match_64 : decode cX12_match 64 = .ok (.iload_n 1, 1) := by decide +kernel
theorem dX12_match_65 : decode cX12_match 65 = .ok (.iaload, 1) := by decide +kernel
theorem dX12_match_66 : decode cX12_match 66 = .ok (.aload_n 0, 1) := by decide +kernel
theorem dX12_match_67 : decode cX12_match 67 = .ok (.getfield 66, 3) := by decide +kernel
theorem dX12_match_70 : decode cX12_match 70 = .ok (.iload_n 2, 1) := by decide +kernel
theorem dX12_match_71 : decode cX12_match 71 = .ok (.iaload, 1) := by decide +kernel
theorem dX12_match_72 : decode cX12_match 72 = .ok (.ishr, 1) := by decide +kernel
theorem dX12_match_73 : decode cX12_match 73 = .ok (.iconst 1, 1) := by decide +kernel
theorem dX12_match_74 : decode cX12_match 74 = .ok (.iand, 1) := by decide +kernel
theorem dX12_match_75 : decode cX12_match 75 = .ok (.iconst 1, 1) := by decide +kernel
theorem dX12_match_76 : decode cX12_match 76 = .ok (.if_icmp .ne 7, 3) := by decide +kernel
theorem dX12_match_79 : decode cX12_match 79 = .ok (.iload_n 3, 1) := by decide +kernel
theorem dX12_match_80 : decode cX12_match 80 = .ok (.goto 19, 3) := by decide +kernel
theorem dX12_match_83 : decode cX12_match 83 = .ok (.aload_n 0, 1) := by decide +kernel
theorem dX12_match_84 : decode cX12_match 84 = .ok (.getfield 57, 3) := by decide +kernel
theorem dX12_match_87 : decode cX12_match 87 = .ok (.iload_n 1, 1) := by decide +kernel
theorem dX12_match_88 : decode cX12_match 88 = .ok (.baload, 1) := by decide +kernel
theorem dX12_match_89 : decode cX12_match 89 = .ok (.ifCond .eq 8, 3) := by decide +kernel
theorem dX12_match_92 : decode cX12_match 92 = .ok (.bipush (-3), 2) := by decide +kernel
theorem dX12_match_94 : decode cX12_match 94 = .ok (.goto 5, 3) := by decide +kernel
theorem dX12_match_97 : decode cX12_match 97 = .ok (.bipush (-5), 2) := by decide +kernel
theorem dX12_match_99 : decode cX12_match 99 = .ok (.ireturn, 1) := by decide +kernel
def L_X12_match_29 (d : Nat) (v0 : Option Nm) (v1 : Int32) (v2 : Int32) (v3 : Int32) (v4 : Int32) (h : MH) (u : Nat) (Q : Int32 → MH → Prop) : Prop := T u_X12_match (d + 1) 29 [some (jR v0), some (jI v1), some (jI v2), some (jI v3), some (jI v4)] [] h u (qI Q)
def F_X12_match (d : Nat) (v0 : Option Nm) (v1 : Int32) (v2 : Int32) (h : MH) (u : Nat) (Q : Int32 → MH → Prop) : Prop :=
  gI h v0 11 19 fun x1 =>
  iI d u_X12_in [jI v1, jI 0, jI (x1 - 1)] h u fun x2 h u =>
  if x2 = 0 then
    Q (-1) h
  else
    rc h v0 11 ∧ iI d u_X12_isValue [jR v0, jI v2] h u fun x3 h u =>
    if x3 = 0 then
      Q (-1) h
    else
      L_X12_match_29 d v0 v1 v2 0 0 h u Q
set_option maxRecDepth 20000 in
theorem E_X12_match {d : Nat} {v0 : Option Nm} {v1 : Int32} {v2 : Int32} {h : MH} {u : Nat} {Q : Int32 → MH → Prop} (H : F_X12_match d v0 v1 v2 h u Q) : T u_X12_match (d + 1) 0 [some (jR v0), some (jI v1), some (jI v2), none, none] [] h u (qI Q) := by
  unfold F_X12_match at H
  refine T_iload_n (pc := 0) dX12_match_0 rfl rfl ?_
  refine T_iconst (pc := 1) (v := 0) dX12_match_1 (by decide) ?_
  refine T_aload_n (pc := 2) dX12_match_2 rfl rfl ?_
  refine T_gI (pc := 3) fa_X12_228 dX12_match_3 (gI_mono (fun x1 H => ?_) H)
  refine T_iconst (pc := 6) (v := 1) dX12_match_6 (by decide) ?_
  refine T_isub (pc := 7) dX12_match_7 ?_
  refine T_invS (pc := 8) (av := [jI v1, jI 0, jI (x1 - 1)]) (rest := []) dX12_match_8 mf_X12_in c_5_86 c_5_87 rfl (Nat.le_of_ble_eq_true rfl) rfl (iI_k (iI_mono (fun x2 h u H => ?_) H))
  refine T_if_eq (pc := 11) (tgt := 22) dX12_match_11 (by decide) (fun hc => ?_) (fun hc => ?_)
  · rw [if_pos hc] at H
    refine T_iconst (pc := 22) (v := (-1)) dX12_match_22 (by decide) ?_
    exact T_ireturn (pc := 23) rfl rfl dX12_match_23 H
  · rw [if_neg hc] at H
    refine T_aload_n (pc := 14) dX12_match_14 rfl rfl ?_
    refine T_iload_n (pc := 15) dX12_match_15 rfl rfl ?_
    obtain ⟨H0, H⟩ := H
    refine T_iV (pc := 16) (ci := 11) (av := [jI v2]) (rest := []) (o := v0) dX12_match_16 mf_X12_isValue c_5_155 c_5_157 pr_X12_isValue rfl rfl (Nat.le_of_ble_eq_true rfl) rfl H0 (iI_k (iI_mono (fun x3 h u H => ?_) H))
    refine T_if_ne (pc := 19) (tgt := 24) dX12_match_19 (by decide) (fun hc => ?_) (fun hc => ?_)
    · rw [if_neg hc] at H
      refine T_iconst (pc := 24) (v := 0) dX12_match_24 (by decide) ?_
      refine T_istore_n (pc := 25) (ls2 := [some (jR v0), some (jI v1), some (jI v2), some (jI 0), none]) dX12_match_25 rfl (Nat.le_of_ble_eq_true rfl) rfl ?_
      refine T_iconst (pc := 26) (v := 0) dX12_match_26 (by decide) ?_
      refine T_istore (pc := 27) (ls2 := [some (jR v0), some (jI v1), some (jI v2), some (jI 0), some (jI 0)]) dX12_match_27 (Nat.le_of_ble_eq_true rfl) rfl ?_
      exact T.forget H ⟨rfl, rfl, rfl, rfl, rfl, trivial⟩
    · rw [if_pos hc] at H
      refine T_iconst (pc := 22) (v := (-1)) dX12_match_22 (by decide) ?_
      exact T_ireturn (pc := 23) rfl rfl dX12_match_23 H
def F_X12_match_29 (d : Nat) (v0 : Option Nm) (v1 : Int32) (v2 : Int32) (v3 : Int32) (v4 : Int32) (h : MH) (u : Nat) (Q : Int32 → MH → Prop) : Prop :=
  gR h v0 11 25 fun x1 =>
  aI .int h x1 v2 fun x2 =>
  if x2 ≤ v4 then
    gR h v0 11 20 fun x3 =>
    aI .int h x3 v1 fun x4 =>
    gR h v0 11 25 fun x5 =>
    aI .int h x5 v2 fun x6 =>
    if ((x4 >>> (x6 &&& 31)) &&& 1) = 1 then
      Q v3 h
    else
      gR h v0 11 21 fun x7 =>
      aI .boolean h x7 v1 fun x8 =>
      if x8 = 0 then
        Q (-5) h
      else
        Q (-3) h
  else
    gR h v0 11 20 fun x9 =>
    aI .int h x9 v1 fun x10 =>
    nm (v3 + ((x10 >>> (v4 &&& 31)) &&& 1)) fun x11 =>
    L_X12_match_29 d v0 v1 v2 x11 (v4 + 1) h u Q
set_option maxRecDepth 20000 in
theorem E_X12_match_29 {d : Nat} {v0 : Option Nm} {v1 : Int32} {v2 : Int32} {v3 : Int32} {v4 : Int32} {h : MH} {u : Nat} {Q : Int32 → MH → Prop} (H : F_X12_match_29 d v0 v1 v2 v3 v4 h u Q) : T u_X12_match (d + 1) 29 [some (jR v0), some (jI v1), some (jI v2), some (jI v3), some (jI v4)] [] h u (qI Q) := by
  unfold F_X12_match_29 at H
  refine T_iload (pc := 29) dX12_match_29 rfl ?_
  refine T_aload_n (pc := 31) dX12_match_31 rfl rfl ?_
  refine T_gR (pc := 32) fa_X12_66 dX12_match_32 (gR_mono (fun x1 H => ?_) H)
  refine T_iload_n (pc := 35) dX12_match_35 rfl rfl ?_
  refine T_aI (pc := 36) dX12_match_36 (aI_mono (fun x2 H => ?_) H)
  refine T_icmp_ge (pc := 37) (tgt := 60) dX12_match_37 (by decide) (fun hc => ?_) (fun hc => ?_)
  · rw [if_pos hc] at H
    refine T_aload_n (pc := 60) dX12_match_60 rfl rfl ?_
    refine T_gR (pc := 61) fa_X12_54 dX12_match_61 (gR_mono (fun x3 H => ?_) H)
    refine T_iload_n (pc := 64) dX12_match_64 rfl rfl ?_
    refine T_aI (pc := 65) dX12_match_65 (aI_mono (fun x4 H => ?_) H)
    refine T_aload_n (pc := 66) dX12_match_66 rfl rfl ?_
    refine T_gR (pc := 67) fa_X12_66 dX12_match_67 (gR_mono (fun x5 H => ?_) H)
    refine T_iload_n (pc := 70) dX12_match_70 rfl rfl ?_
    refine T_aI (pc := 71) dX12_match_71 (aI_mono (fun x6 H => ?_) H)
    refine T_ishr (pc := 72) dX12_match_72 ?_
    refine T_iconst (pc := 73) (v := 1) dX12_match_73 (by decide) ?_
    refine T_iand (pc := 74) dX12_match_74 ?_
    refine T_iconst (pc := 75) (v := 1) dX12_match_75 (by decide) ?_
    refine T_icmp_ne (pc := 76) (tgt := 83) dX12_match_76 (by decide) (fun hc => ?_) (fun hc => ?_)
    · rw [if_neg hc] at H
      refine T_aload_n (pc := 83) dX12_match_83 rfl rfl ?_
      refine T_gR (pc := 84) fa_X12_57 dX12_match_84 (gR_mono (fun x7 H => ?_) H)
      refine T_iload_n (pc := 87) dX12_match_87 rfl rfl ?_
      refine T_aZ (pc := 88) dX12_match_88 (aI_mono (fun x8 H => ?_) H)
      refine T_if_eq (pc := 89) (tgt := 97) dX12_match_89 (by decide) (fun hc => ?_) (fun hc => ?_)
      · rw [if_pos hc] at H
        refine T_bipush (pc := 97) (v := (-5)) dX12_match_97 (by decide) ?_
        exact T_ireturn (pc := 99) rfl rfl dX12_match_99 H
      · rw [if_neg hc] at H
        refine T_bipush (pc := 92) (v := (-3)) dX12_match_92 (by decide) ?_
        refine T_goto (pc := 94) (tgt := 99) dX12_match_94 (by decide) ?_
        exact T_ireturn (pc := 99) rfl rfl dX12_match_99 H
    · rw [if_pos hc] at H
      refine T_iload_n (pc := 79) dX12_match_79 rfl rfl ?_
      refine T_goto (pc := 80) (tgt := 99) dX12_match_80 (by decide) ?_
      exact T_ireturn (pc := 99) rfl rfl dX12_match_99 H
  · rw [if_neg hc] at H
    refine T_iload_n (pc := 40) dX12_match_40 rfl rfl ?_
    refine T_aload_n (pc := 41) dX12_match_41 rfl rfl ?_
    refine T_gR (pc := 42) fa_X12_54 dX12_match_42 (gR_mono (fun x9 H => ?_) H)
    refine T_iload_n (pc := 45) dX12_match_45 rfl rfl ?_
    refine T_aI (pc := 46) dX12_match_46 (aI_mono (fun x10 H => ?_) H)
    refine T_iload (pc := 47) dX12_match_47 rfl ?_
    refine T_ishr (pc := 49) dX12_match_49 ?_
    refine T_iconst (pc := 50) (v := 1) dX12_match_50 (by decide) ?_
    refine T_iand (pc := 51) dX12_match_51 ?_
    refine T_iadd (pc := 52) dX12_match_52 ?_
    refine T_istoreK (pc := 53) (i := 0) (I := .nop) (len := 1) (f := fun x11 => [some (jR v0), some (jI v1), some (jI v2), some (jI x11), some (jI v4)]) (fun x11 k => T_istore_n (pc := 53) dX12_match_53 rfl (Nat.le_of_ble_eq_true rfl) rfl k) (nm_mono (fun x11 H => ?_) H)
    refine T_iinc (pc := 54) (v := v4 + 1) (ls2 := [some (jR v0), some (jI v1), some (jI v2), some (jI x11), some (jI (v4 + 1))]) dX12_match_54 rfl rfl (Nat.le_of_ble_eq_true rfl) rfl ?_
    refine T_goto (pc := 57) (tgt := 29) dX12_match_57 (by decide) ?_
    exact T.forget H ⟨rfl, rfl, rfl, rfl, rfl, trivial⟩
theorem I_X12_match {d : Nat} {v0 : Option Nm} {v1 : Int32} {v2 : Int32} {h : MH} {u : Nat} {K : Int32 → MH → Nat → Prop} (u1 : Nat) (hu : u1 ≤ u) (H : F_X12_match d v0 v1 v2 h u1 (fun x h2 => K x h2 (u - u1))) : iI (d + 1) u_X12_match [jR v0, jI v1, jI v2] h u K := inv.of u1 hu (Ct.of (by decide +kernel) rfl (Nat.le_of_ble_eq_true rfl) rfl (E_X12_match H))
theorem dX12_push_0 : decode cX12_push 0 = .ok (.aload_n 0, 1) := by decide +kernel
theorem dX12_push_1 : decode cX12_push 1 = .ok (.getfield 90, 3) := by decide +kernel
theorem dX12_push_4 : decode cX12_push 4 = .ok (.aload_n 0, 1) := by decide +kernel
theorem dX12_push_5 : decode cX12_push 5 = .ok (.getfield 271, 3) := by decide +kernel
theorem dX12_push_8 : decode cX12_push 8 = .ok (.iload_n 1, 1) := by decide +kernel
theorem dX12_push_9 : decode cX12_push 9 = .ok (.iastore, 1) := by decide +kernel
theorem dX12_push_10 : decode cX12_push 10 = .ok (.aload_n 0, 1) := by decide +kernel
theorem dX12_push_11 : decode cX12_push 11 = .ok (.getfield 93, 3) := by decide +kernel
theorem dX12_push_14 : decode cX12_push 14 = .ok (.aload_n 0, 1) := by decide +kernel
theorem dX12_push_15 : decode cX12_push 15 = .ok (.getfield 271, 3) := by decide +kernel
theorem dX12_push_18 : decode cX12_push 18 = .ok (.iload_n 2, 1) := by decide +kernel
theorem dX12_push_19 : decode cX12_push 19 = .ok (.iastore, 1) := by decide +kernel
theorem dX12_push_20 : decode cX12_push 20 = .ok (.aload_n 0, 1) := by decide +kernel
theorem dX12_push_21 : decode cX12_push 21 = .ok (.getfield 96, 3) := by decide +kernel
theorem dX12_push_24 : decode cX12_push 24 = .ok (.aload_n 0, 1) := by decide +kernel
theorem dX12_push_25 : decode cX12_push 25 = .ok (.getfield 271, 3) := by decide +kernel
theorem dX12_push_28 : decode cX12_push 28 = .ok (.iconst 0, 1) := by decide +kernel
theorem dX12_push_29 : decode cX12_push 29 = .ok (.iastore, 1) := by decide +kernel
theorem dX12_push_30 : decode cX12_push 30 = .ok (.aload_n 0, 1) := by decide +kernel
theorem dX12_push_31 : decode cX12_push 31 = .ok (.getfield 99, 3) := by decide +kernel
theorem dX12_push_34 : decode cX12_push 34 = .ok (.aload_n 0, 1) := by decide +kernel
theorem dX12_push_35 : decode cX12_push 35 = .ok (.getfield 271, 3) := by decide +kernel
theorem dX12_push_38 : decode cX12_push 38 = .ok (.iconst (-1), 1) := by decide +kernel
theorem dX12_push_39 : decode cX12_push 39 = .ok (.iastore, 1) := by decide +kernel
theorem dX12_push_40 : decode cX12_push 40 = .ok (.aload_n 0, 1) := by decide +kernel
theorem dX12_push_41 : decode cX12_push 41 = .ok (.getfield 102, 3) := by decide +kernel
theorem dX12_push_44 : decode cX12_push 44 = .ok (.aload_n 0, 1) := by decide +kernel
theorem dX12_push_45 : decode cX12_push 45 = .ok (.getfield 271, 3) := by decide +kernel
theorem dX12_push_48 : decode cX12_push 48 = .ok (.aload_n 0, 1) := by decide +kernel
theorem dX12_push_49 : decode cX12_push 49 = .ok (.getfield 66, 3) := by decide +kernel
theorem dX12_push_52 : decode cX12_push 52 = .ok (.iload_n 1, 1) := by decide +kernel
theorem dX12_push_53 : decode cX12_push 53 = .ok (.iaload, 1) := by decide +kernel
theorem dX12_push_54 : decode cX12_push 54 = .ok (.iastore, 1) := by decide +kernel
theorem dX12_push_55 : decode cX12_push 55 = .ok (.aload_n 0, 1) := by decide +kernel
theorem dX12_push_56 : decode cX12_push 56 = .ok (.getfield 105, 3) := by decide +kernel
theorem dX12_push_59 : decode cX12_push 59 = .ok (.aload_n 0, 1) := by decide +kernel
theorem dX12_push_60 : decode cX12_push 60 = .ok (.getfield 271, 3) := by decide +kernel
theorem dX12_push_63 : decode cX12_push 63 = .ok (.iconst 1, 1) := by decide +kernel
theorem dX12_push_64 : decode cX12_push 64 = .ok (.iastore, 1) := by decide +kernel
theorem dX12_push_65 : decode cX12_push 65 = .ok (.aload_n 0, 1) := by decide +kernel
theorem dX12_push_66 : decode cX12_push 66 = .ok (.dup, 1) := by decide +kernel
theorem dX12_push_67 : decode cX12_push 67 = .ok (.getfield 271, 3) := by decide +kernel
theorem dX12_push_70 : decode cX12_push 70 = .ok (.iconst 1, 1) := by decide +kernel
theorem dX12_push_71 : decode cX12_push 71 = .ok (.iadd, 1) := by decide +kernel
theorem dX12_push_72 : decode cX12_push 72 = .ok (.putfield 271, 3) := by decide +kernel
theorem dX12_push_75 : decode cX12_push 75 = .ok (.return_, 1) := by decide +kernel
def F_X12_push (d : Nat) (v0 : Option Nm) (v1 : Int32) (v2 : Int32) (h : MH) (u : Nat) (Q : MH → Prop) : Prop :=
  gR h v0 11 36 fun x1 =>
  gI h v0 11 35 fun x2 =>
  sV .int h x1 x2 (jI v1) fun h =>
  gR h v0 11 37 fun x3 =>
  gI h v0 11 35 fun x4 =>
  sV .int h x3 x4 (jI v2) fun h =>
  gR h v0 11 38 fun x5 =>
  gI h v0 11 35 fun x6 =>
  sV .int h x5 x6 (jI 0) fun h =>
  gR h v0 11 39 fun x7 =>
  gI h v0 11 35 fun x8 =>
  sV .int h x7 x8 (jI (-1)) fun h =>
  gR h v0 11 40 fun x9 =>
  gI h v0 11 35 fun x10 =>
  gR h v0 11 25 fun x11 =>
  aI .int h x11 v1 fun x12 =>
  sV .int h x9 x10 (jI x12) fun h =>
  gR h v0 11 41 fun x13 =>
  gI h v0 11 35 fun x14 =>
  sV .int h x13 x14 (jI 1) fun h =>
  gI h v0 11 35 fun x15 =>
  pV h v0 11 35 (jI (x15 + 1)) fun h =>
  Q h
set_option maxRecDepth 20000 in
theorem E_X12_push {d : Nat} {v0 : Option Nm} {v1 : Int32} {v2 : Int32} {h : MH} {u : Nat} {Q : MH → Prop} (H : F_X12_push d v0 v1 v2 h u Q) : T u_X12_push d 0 [some (jR v0), some (jI v1), some (jI v2)] [] h u (qV Q) := by
  unfold F_X12_push at H
  refine T_aload_n (pc := 0) dX12_push_0 rfl rfl ?_
  refine T_gR (pc := 1) fa_X12_90 dX12_push_1 (gR_mono (fun x1 H => ?_) H)
  refine T_aload_n (pc := 4) dX12_push_4 rfl rfl ?_
  refine T_gI (pc := 5) fa_X12_271 dX12_push_5 (gI_mono (fun x2 H => ?_) H)
  refine T_iload_n (pc := 8) dX12_push_8 rfl rfl ?_
  refine T_sI (pc := 9) dX12_push_9 (sV_mono (fun h H => ?_) H)
  refine T_aload_n (pc := 10) dX12_push_10 rfl rfl ?_
  refine T_gR (pc := 11) fa_X12_93 dX12_push_11 (gR_mono (fun x3 H => ?_) H)
  refine T_aload_n (pc := 14) dX12_push_14 rfl rfl ?_
  refine T_gI (pc := 15) fa_X12_271 dX12_push_15 (gI_mono (fun x4 H => ?_) H)
  refine T_iload_n (pc := 18) dX12_push_18 rfl rfl ?_
  refine T_sI (pc := 19) dX12_push_19 (sV_mono (fun h H => ?_) H)
  refine T_aload_n (pc := 20) dX12_push_20 rfl rfl ?_
  refine T_gR (pc := 21) fa_X12_96 dX12_push_21 (gR_mono (fun x5 H => ?_) H)
  refine T_aload_n (pc := 24) dX12_push_24 rfl rfl ?_
  refine T_gI (pc := 25) fa_X12_271 dX12_push_25 (gI_mono (fun x6 H => ?_) H)
  refine T_iconst (pc := 28) (v := 0) dX12_push_28 (by decide) ?_
  refine T_sI (pc := 29) dX12_push_29 (sV_mono (fun h H => ?_) H)
  refine T_aload_n (pc := 30) dX12_push_30 rfl rfl ?_
  refine T_gR (pc := 31) fa_X12_99 dX12_push_31 (gR_mono (fun x7 H => ?_) H)
  refine T_aload_n (pc := 34) dX12_push_34 rfl rfl ?_
  refine T_gI (pc := 35) fa_X12_271 dX12_push_35 (gI_mono (fun x8 H => ?_) H)
  refine T_iconst (pc := 38) (v := (-1)) dX12_push_38 (by decide) ?_
  refine T_sI (pc := 39) dX12_push_39 (sV_mono (fun h H => ?_) H)
  refine T_aload_n (pc := 40) dX12_push_40 rfl rfl ?_
  refine T_gR (pc := 41) fa_X12_102 dX12_push_41 (gR_mono (fun x9 H => ?_) H)
  refine T_aload_n (pc := 44) dX12_push_44 rfl rfl ?_
  refine T_gI (pc := 45) fa_X12_271 dX12_push_45 (gI_mono (fun x10 H => ?_) H)
  refine T_aload_n (pc := 48) dX12_push_48 rfl rfl ?_
  refine T_gR (pc := 49) fa_X12_66 dX12_push_49 (gR_mono (fun x11 H => ?_) H)
  refine T_iload_n (pc := 52) dX12_push_52 rfl rfl ?_
  refine T_aI (pc := 53) dX12_push_53 (aI_mono (fun x12 H => ?_) H)
  refine T_sI (pc := 54) dX12_push_54 (sV_mono (fun h H => ?_) H)
  refine T_aload_n (pc := 55) dX12_push_55 rfl rfl ?_
  refine T_gR (pc := 56) fa_X12_105 dX12_push_56 (gR_mono (fun x13 H => ?_) H)
  refine T_aload_n (pc := 59) dX12_push_59 rfl rfl ?_
  refine T_gI (pc := 60) fa_X12_271 dX12_push_60 (gI_mono (fun x14 H => ?_) H)
  refine T_iconst (pc := 63) (v := 1) dX12_push_63 (by decide) ?_
  refine T_sI (pc := 64) dX12_push_64 (sV_mono (fun h H => ?_) H)
  refine T_aload_n (pc := 65) dX12_push_65 rfl rfl ?_
  refine T_dup (pc := 66) rfl dX12_push_66 ?_
  refine T_gI (pc := 67) fa_X12_271 dX12_push_67 (gI_mono (fun x15 H => ?_) H)
  refine T_iconst (pc := 70) (v := 1) dX12_push_70 (by decide) ?_
  refine T_iadd (pc := 71) dX12_push_71 ?_
  refine T_pV (pc := 72) fa_X12_271 dX12_push_72 trivial (pV_mono (fun h H => ?_) H)
  exact T_return (pc := 75) rfl dX12_push_75 H
theorem I_X12_push {d : Nat} {v0 : Option Nm} {v1 : Int32} {v2 : Int32} {h : MH} {u : Nat} {K : MH → Nat → Prop} (u1 : Nat) (hu : u1 ≤ u) (H : F_X12_push d v0 v1 v2 h u1 (fun h2 => K h2 (u - u1))) : iV d u_X12_push [jR v0, jI v1, jI v2] h u K := inv.of u1 hu (Ct.of (by decide +kernel) rfl (Nat.le_of_ble_eq_true rfl) rfl (E_X12_push H))
theorem dX12_sign_0 : decode cX12_sign 0 = .ok (.iload_n 0, 1) := by decide +kernel
theorem dX12_sign_1 : decode cX12_sign 1 = .ok (.iload_n 1, 1) := by decide +kernel
theorem dX12_sign_2 : decode cX12_sign 2 = .ok (.if_icmp .ge 7, 3) := by decide +kernel
theorem dX12_sign_5 : decode cX12_sign 5 = .ok (.iconst (-1), 1) := by decide +kernel
theorem dX12_sign_6 : decode cX12_sign 6 = .ok (.goto 13, 3) := by decide +kernel
theorem dX12_sign_9 : decode cX12_sign 9 = .ok (.iload_n 0, 1) := by decide +kernel
theorem dX12_sign_10 : decode cX12_sign 10 = .ok (.iload_n 1, 1) := by decide +kernel
theorem dX12_sign_11 : decode cX12_sign 11 = .ok (.if_icmp .le 7, 3) := by decide +kernel
theorem dX12_sign_14 : decode cX12_sign 14 = .ok (.iconst 1, 1) := by decide +kernel
theorem dX12_sign_15 : decode cX12_sign 15 = .ok (.goto 4, 3) := by decide +kernel
theorem dX12_sign_18 : decode cX12_sign 18 = .ok (.iconst 0, 1) := by decide +kernel
theorem dX12_sign_19 : decode cX12_sign 19 = .ok (.ireturn, 1) := by decide +kernel
def F_X12_sign (d : Nat) (v0 : Int32) (v1 : Int32) (h : MH) (u : Nat) (Q : Int32 → MH → Prop) : Prop :=
  if v1 ≤ v0 then
    if v0 ≤ v1 then
      Q 0 h
    else
      Q 1 h
  else
    Q (-1) h
set_option maxRecDepth 20000 in
theorem E_X12_sign {d : Nat} {v0 : Int32} {v1 : Int32} {h : MH} {u : Nat} {Q : Int32 → MH → Prop} (H : F_X12_sign d v0 v1 h u Q) : T u_X12_sign d 0 [some (jI v0), some (jI v1)] [] h u (qI Q) := by
  unfold F_X12_sign at H
  refine T_iload_n (pc := 0) dX12_sign_0 rfl rfl ?_
  refine T_iload_n (pc := 1) dX12_sign_1 rfl rfl ?_
  refine T_icmp_ge (pc := 2) (tgt := 9) dX12_sign_2 (by decide) (fun hc => ?_) (fun hc => ?_)
  · rw [if_pos hc] at H
    refine T_iload_n (pc := 9) dX12_sign_9 rfl rfl ?_
    refine T_iload_n (pc := 10) dX12_sign_10 rfl rfl ?_
    refine T_icmp_le (pc := 11) (tgt := 18) dX12_sign_11 (by decide) (fun hc => ?_) (fun hc => ?_)
    · rw [if_pos hc] at H
      refine T_iconst (pc := 18) (v := 0) dX12_sign_18 (by decide) ?_
      exact T_ireturn (pc := 19) rfl rfl dX12_sign_19 H
    · rw [if_neg hc] at H
      refine T_iconst (pc := 14) (v := 1) dX12_sign_14 (by decide) ?_
      refine T_goto (pc := 15) (tgt := 19) dX12_sign_15 (by decide) ?_
      exact T_ireturn (pc := 19) rfl rfl dX12_sign_19 H
  · rw [if_neg hc] at H
    refine T_iconst (pc := 5) (v := (-1)) dX12_sign_5 (by decide) ?_
    refine T_goto (pc := 6) (tgt := 19) dX12_sign_6 (by decide) ?_
    exact T_ireturn (pc := 19) rfl rfl dX12_sign_19 H
theorem I_X12_sign {d : Nat} {v0 : Int32} {v1 : Int32} {h : MH} {u : Nat} {K : Int32 → MH → Nat → Prop} (u1 : Nat) (hu : u1 ≤ u) (H : F_X12_sign d v0 v1 h u1 (fun x h2 => K x h2 (u - u1))) : iI d u_X12_sign [jI v0, jI v1] h u K := inv.of u1 hu (Ct.of (by decide +kernel) rfl (Nat.le_of_ble_eq_true rfl) rfl (E_X12_sign H))
theorem dX12_meet_0 : decode cX12_meet 0 = .ok (.iload_n 1, 1) := by decide +kernel
theorem dX12_meet_1 : decode cX12_meet 1 = .ok (.ifCond .lt 12, 3) := by decide +kernel
theorem dX12_meet_4 : decode cX12_meet 4 = .ok (.iload_n 2, 1) := by decide +kernel
theorem dX12_meet_5 : decode cX12_meet 5 = .ok (.ifCond .lt 8, 3) := by decide +kernel
theorem dX12_meet_8 : decode cX12_meet 8 = .ok (.iload_n 1, 1) := by decide +kernel
theorem dX12_meet_9 : decode cX12_meet 9 = .ok (.iload_n 2, 1) := by decide +kernel
theorem dX12_meet_10 : decode cX12_meet 10 = .ok (.if_icmp .ne 22, 3) := by decide +kernel
theorem dX12_meet_13 : decode cX12_meet 13 = .ok (.iload_n 1, 1) := by decide +kernel
theorem dX12_meet_14 : decode cX12_meet 14 = .ok (.iload_n 2, 1) := by decide +kernel
theorem dX12_meet_15 : decode cX12_meet 15 = .ok (.if_icmp .ne 7, 3) := by decide +kernel
theorem dX12_meet_18 : decode cX12_meet 18 = .ok (.iconst 0, 1) := by decide +kernel
theorem dX12_meet_19 : decode cX12_meet 19 = .ok (.goto 12, 3) := by decide +kernel
theorem dX12_meet_22 : decode cX12_meet 22 = .ok (.iload_n 1, 1) := by decide +kernel
theorem dX12_meet_23 : decode cX12_meet 23 = .ok (.ifCond .ge 7, 3) := by decide +kernel
theorem dX12_meet_26 : decode cX12_meet 26 = .ok (.iconst (-1), 1) := by decide +kernel
theorem dX12_meet_27 : decode cX12_meet 27 = .ok (.goto 4, 3) := by decide +kernel
theorem dX12_meet_30 : decode cX12_meet 30 = .ok (.iconst 1, 1) := by decide +kernel
theorem dX12_meet_31 : decode cX12_meet 31 = .ok (.ireturn, 1) := by decide +kernel
theorem dX12_meet_32 : decode cX12_meet 32 = .ok (.aload_n 0, 1) := by decide +kernel
theorem dX12_meet_33 : decode cX12_meet 33 = .ok (.getfield 66, 3) := by decide +kernel
theorem dX12_meet_36 : decode cX12_meet 36 = .ok (.iload_n 1, 1) := by decide +kernel
theorem dX12_meet_37 : decode cX12_meet 37 = .ok (.iaload, 1) := by decide +kernel
theorem dX12_meet_38 : decode cX12_meet 38 = .ok (.aload_n 0, 1) := by decide +kernel
theorem dX12_meet_39 : decode cX12_meet 39 = .ok (.getfield 66, 3) := by decide +kernel
theorem dX12_meet_42 : decode cX12_meet 42 = .ok (.iload_n 2, 1) := by decide +kernel
theorem dX12_meet_43 : decode cX12_meet 43 = .ok (.iaload, 1) := by decide +kernel
theorem dX12_meet_44 : decode cX12_meet 44 = .ok (.invokestatic 274, 3) := by decide +kernel
theorem dX12_meet_47 : decode cX12_meet 47 = .ok (.istore_n 3, 1) := by decide +kernel
theorem dX12_meet_48 : decode cX12_meet 48 = .ok (.iload_n 3, 1) := by decide +kernel
theorem dX12_meet_49 : decode cX12_meet 49 = .ok (.ifCond .ne 21, 3) := by decide +kernel
theorem dX12_meet_52 : decode cX12_meet 52 = .ok (.aload_n 0, 1) := by decide +kernel
theorem dX12_meet_53 : decode cX12_meet 53 = .ok (.getfield 69, 3) := by decide +kernel
theorem dX12_meet_56 : decode cX12_meet 56 = .ok (.iload_n 1, 1) := by decide +kernel
theorem dX12_meet_57 : decode cX12_meet 57 = .ok (.iaload, 1) := by decide +kernel
theorem dX12_meet_58 : decode cX12_meet 58 = .ok (.aload_n 0, 1) := by decide +kernel
theorem dX12_meet_59 : decode cX12_meet 59 = .ok (.getfield 69, 3) := by decide +kernel
theorem dX12_meet_62 : decode cX12_meet 62 = .ok (.iload_n 2, 1) := by decide +kernel
theorem dX12_meet_63 : decode cX12_meet 63 = .ok (.iaload, 1) := by decide +kernel
theorem dX12_meet_64 : decode cX12_meet 64 = .ok (.invokestatic 274, 3) := by decide +kernel
theorem dX12_meet_67 : decode cX12_meet 67 = .ok (.goto 4, 3) := by decide +kernel
theorem dX12_meet_70 : decode cX12_meet 70 = .ok (.iload_n 3, 1) := by decide +kernel
theorem dX12_meet_71 : decode cX12_meet 71 = .ok (.istore_n 3, 1) := by decide +kernel
theorem dX12_meet_72 : decode cX12_meet 72 = .ok (.iload_n 3, 1) := by decide +kernel
theorem dX12_meet_73 : decode cX12_meet 73 = .ok (.ifCond .eq 5, 3) := by decide +kernel
theorem dX12_meet_76 : decode cX12_meet 76 = .ok (.iload_n 3, 1) := by decide +kernel
theorem dX12_meet_77 : decode cX12_meet 77 = .ok (.ireturn, 1) := by decide +kernel
theorem dX12_meet_78 : decode cX12_meet 78 = .ok (.aload_n 0, 1) := by decide +kernel
theorem dX12_meet_79 : decode cX12_meet 79 = .ok (.iload_n 1, 1) := by decide +kernel
theorem dX12_meet_80 : decode cX12_meet 80 = .ok (.invokevirtual 261, 3) := by decide +kernel
theorem dX12_meet_83 : decode cX12_meet 83 = .ok (.ifCond .eq 19, 3) := by decide +kernel
theorem dX12_meet_86 : decode cX12_meet 86 = .ok (.aload_n 0, 1) := by decide +kernel
theorem dX12_meet_87 : decode cX12_meet 87 = .ok (.getfield 72, 3) := by decide +kernel
theorem dX12_meet_90 : decode cX12_meet 90 = .ok (.iload_n 1, 1) := by decide +kernel
theorem dX12_meet_91 : decode cX12_meet 91 = .ok (.iaload, 1) := by decide +kernel
theorem dX12_meet_92 : decode cX12_meet 92 = .ok (.aload_n 0, 1) := by decide +kernel
theorem dX12_meet_93 : decode cX12_meet 93 = .ok (.getfield 72, 3) := by decide +kernel
theorem dX12_meet_96 : decode cX12_meet 96 = .ok (.iload_n 2, 1) := by decide +kernel
theorem dX12_meet_97 : decode cX12_meet 97 = .ok (.iaload, 1) := by decide +kernel
theorem dX12_meet_98 : decode cX12_meet 98 = .ok (.invokestatic 274, 3) := by decide +kernel
theorem dX12_meet_101 : decode cX12_meet 101 = .ok (.ireturn, 1) := by decide +kernel
theorem dX12_meet_102 : decode cX12_meet 102 = .ok (.aload_n 0, 1) := by decide +kernel
theorem dX12_meet_103 : decode cX12_meet 103 = .ok (.iload_n 1, 1) := by decide +kernel
theorem dX12_meet_104 : decode cX12_meet 104 = .ok (.iload_n 2, 1) := by decide +kernel
theorem dX12_meet_105 : decode cX12_meet 105 = .ok (.invokevirtual 277, 3) := by decide +kernel
theorem dX12_meet_108 : decode cX12_meet 108 = .ok (.iconst 0, 1) := by decide +kernel
theorem dX12_meet_109 : decode cX12_meet 109 = .ok (.ireturn, 1) := by decide +kernel
def F_X12_meet_13 (d : Nat) (v1 : Int32) (v2 : Int32) (h : MH) (u : Nat) (Q : Int32 → MH → Prop) : Prop :=
  if v1 = v2 then
    Q 0 h
  else
    if 0 ≤ v1 then
      Q 1 h
    else
      Q (-1) h
set_option maxRecDepth 20000 in
theorem E_X12_meet_13 {d : Nat} {v1 : Int32} {v2 : Int32} {h : MH} {u : Nat} {Q : Int32 → MH → Prop} (H : F_X12_meet_13 d v1 v2 h u Q) : T u_X12_meet (d + 1) 13 [none, some (jI v1), some (jI v2), none] [] h u (qI Q) := by
  unfold F_X12_meet_13 at H
  refine T_iload_n (pc := 13) dX12_meet_13 rfl rfl ?_
  refine T_iload_n (pc := 14) dX12_meet_14 rfl rfl ?_
  refine T_icmp_ne (pc := 15) (tgt := 22) dX12_meet_15 (by decide) (fun hc => ?_) (fun hc => ?_)
  · rw [if_neg hc] at H
    refine T_iload_n (pc := 22) dX12_meet_22 rfl rfl ?_
    refine T_if_ge (pc := 23) (tgt := 30) dX12_meet_23 (by decide) (fun hc => ?_) (fun hc => ?_)
    · rw [if_pos hc] at H
      refine T_iconst (pc := 30) (v := 1) dX12_meet_30 (by decide) ?_
      exact T_ireturn (pc := 31) rfl rfl dX12_meet_31 H
    · rw [if_neg hc] at H
      refine T_iconst (pc := 26) (v := (-1)) dX12_meet_26 (by decide) ?_
      refine T_goto (pc := 27) (tgt := 31) dX12_meet_27 (by decide) ?_
      exact T_ireturn (pc := 31) rfl rfl dX12_meet_31 H
  · rw [if_pos hc] at H
    refine T_iconst (pc := 18) (v := 0) dX12_meet_18 (by decide) ?_
    refine T_goto (pc := 19) (tgt := 31) dX12_meet_19 (by decide) ?_
    exact T_ireturn (pc := 31) rfl rfl dX12_meet_31 H
def F_X12_meet_71 (d : Nat) (v0 : Option Nm) (v1 : Int32) (v2 : Int32) (s0 : Int32) (h : MH) (u : Nat) (Q : Int32 → MH → Prop) : Prop :=
  if s0 = 0 then
    rc h v0 11 ∧ iI d u_X12_isConstant [jR v0, jI v1] h u fun x1 h u =>
    if x1 = 0 then
      rc h v0 11 ∧ iV d u_X12_push [jR v0, jI v1, jI v2] h u fun h u =>
      Q 0 h
    else
      gR h v0 11 27 fun x3 =>
      aI .int h x3 v1 fun x4 =>
      gR h v0 11 27 fun x5 =>
      aI .int h x5 v2 fun x6 =>
      iI d u_X12_sign [jI x4, jI x6] h u fun x7 h u =>
      Q x7 h
  else
    Q s0 h
set_option maxRecDepth 20000 in
theorem E_X12_meet_71 {d : Nat} {v0 : Option Nm} {v1 : Int32} {v2 : Int32} {s0 : Int32} {h : MH} {u : Nat} {Q : Int32 → MH → Prop} (H : F_X12_meet_71 d v0 v1 v2 s0 h u Q) : T u_X12_meet (d + 1) 71 [some (jR v0), some (jI v1), some (jI v2), none] [jI s0] h u (qI Q) := by
  unfold F_X12_meet_71 at H
  refine T_istore_n (pc := 71) (ls2 := [some (jR v0), some (jI v1), some (jI v2), some (jI s0)]) dX12_meet_71 rfl (Nat.le_of_ble_eq_true rfl) rfl ?_
  refine T_iload_n (pc := 72) dX12_meet_72 rfl rfl ?_
  refine T_if_eq (pc := 73) (tgt := 78) dX12_meet_73 (by decide) (fun hc => ?_) (fun hc => ?_)
  · rw [if_pos hc] at H
    refine T_aload_n (pc := 78) dX12_meet_78 rfl rfl ?_
    refine T_iload_n (pc := 79) dX12_meet_79 rfl rfl ?_
    obtain ⟨H0, H⟩ := H
    refine T_iV (pc := 80) (ci := 11) (av := [jI v1]) (rest := []) (o := v0) dX12_meet_80 mf_X12_isConstant c_6_34 c_6_36 pr_X12_isConstant rfl rfl (Nat.le_of_ble_eq_true rfl) rfl H0 (iI_k (iI_mono (fun x1 h u H => ?_) H))
    refine T_if_eq (pc := 83) (tgt := 102) dX12_meet_83 (by decide) (fun hc => ?_) (fun hc => ?_)
    · rw [if_pos hc] at H
      refine T_aload_n (pc := 102) dX12_meet_102 rfl rfl ?_
      refine T_iload_n (pc := 103) dX12_meet_103 rfl rfl ?_
      refine T_iload_n (pc := 104) dX12_meet_104 rfl rfl ?_
      obtain ⟨H0, H⟩ := H
      refine T_iV (pc := 105) (ci := 11) (av := [jI v1, jI v2]) (rest := []) (o := v0) dX12_meet_105 mf_X12_push c_6_86 c_6_88 pr_X12_push rfl rfl (Nat.le_of_ble_eq_true rfl) rfl H0 (iV_k (iV_mono (fun h u H => ?_) H))
      refine T_iconst (pc := 108) (v := 0) dX12_meet_108 (by decide) ?_
      exact T_ireturn (pc := 109) rfl rfl dX12_meet_109 H
    · rw [if_neg hc] at H
      refine T_aload_n (pc := 86) dX12_meet_86 rfl rfl ?_
      refine T_gR (pc := 87) fa_X12_72 dX12_meet_87 (gR_mono (fun x3 H => ?_) H)
      refine T_iload_n (pc := 90) dX12_meet_90 rfl rfl ?_
      refine T_aI (pc := 91) dX12_meet_91 (aI_mono (fun x4 H => ?_) H)
      refine T_aload_n (pc := 92) dX12_meet_92 rfl rfl ?_
      refine T_gR (pc := 93) fa_X12_72 dX12_meet_93 (gR_mono (fun x5 H => ?_) H)
      refine T_iload_n (pc := 96) dX12_meet_96 rfl rfl ?_
      refine T_aI (pc := 97) dX12_meet_97 (aI_mono (fun x6 H => ?_) H)
      refine T_invS (pc := 98) (av := [jI x4, jI x6]) (rest := []) dX12_meet_98 mf_X12_sign c_6_83 c_6_84 rfl (Nat.le_of_ble_eq_true rfl) rfl (iI_k (iI_mono (fun x7 h u H => ?_) H))
      exact T_ireturn (pc := 101) rfl rfl dX12_meet_101 H
  · rw [if_neg hc] at H
    refine T_iload_n (pc := 76) dX12_meet_76 rfl rfl ?_
    exact T_ireturn (pc := 77) rfl rfl dX12_meet_77 H
def F_X12_meet (d : Nat) (v0 : Option Nm) (v1 : Int32) (v2 : Int32) (h : MH) (u : Nat) (Q : Int32 → MH → Prop) : Prop :=
  if v1 < 0 then
    F_X12_meet_13 d v1 v2 h u Q
  else
    if v2 < 0 then
      F_X12_meet_13 d v1 v2 h u Q
    else
      if v1 = v2 then
        F_X12_meet_13 d v1 v2 h u Q
      else
        gR h v0 11 25 fun x1 =>
        aI .int h x1 v1 fun x2 =>
        gR h v0 11 25 fun x3 =>
        aI .int h x3 v2 fun x4 =>
        iI d u_X12_sign [jI x2, jI x4] h u fun x5 h u =>
        if x5 = 0 then
          gR h v0 11 26 fun x6 =>
          aI .int h x6 v1 fun x7 =>
          gR h v0 11 26 fun x8 =>
          aI .int h x8 v2 fun x9 =>
          iI d u_X12_sign [jI x7, jI x9] h u fun x10 h u =>
          F_X12_meet_71 d v0 v1 v2 x10 h u Q
        else
          F_X12_meet_71 d v0 v1 v2 x5 h u Q
set_option maxRecDepth 20000 in
theorem E_X12_meet {d : Nat} {v0 : Option Nm} {v1 : Int32} {v2 : Int32} {h : MH} {u : Nat} {Q : Int32 → MH → Prop} (H : F_X12_meet d v0 v1 v2 h u Q) : T u_X12_meet (d + 1) 0 [some (jR v0), some (jI v1), some (jI v2), none] [] h u (qI Q) := by
  unfold F_X12_meet at H
  refine T_iload_n (pc := 0) dX12_meet_0 rfl rfl ?_
  refine T_if_lt (pc := 1) (tgt := 13) dX12_meet_1 (by decide) (fun hc => ?_) (fun hc => ?_)
  · rw [if_pos hc] at H
    exact T.forget (E_X12_meet_13 H) ⟨rfl, rfl, trivial⟩
  · rw [if_neg hc] at H
    refine T_iload_n (pc := 4) dX12_meet_4 rfl rfl ?_
    refine T_if_lt (pc := 5) (tgt := 13) dX12_meet_5 (by decide) (fun hc => ?_) (fun hc => ?_)
    · rw [if_pos hc] at H
      exact T.forget (E_X12_meet_13 H) ⟨rfl, rfl, trivial⟩
    · rw [if_neg hc] at H
      refine T_iload_n (pc := 8) dX12_meet_8 rfl rfl ?_
      refine T_iload_n (pc := 9) dX12_meet_9 rfl rfl ?_
      refine T_icmp_ne (pc := 10) (tgt := 32) dX12_meet_10 (by decide) (fun hc => ?_) (fun hc => ?_)
      · rw [if_neg hc] at H
        refine T_aload_n (pc := 32) dX12_meet_32 rfl rfl ?_
        refine T_gR (pc := 33) fa_X12_66 dX12_meet_33 (gR_mono (fun x1 H => ?_) H)
        refine T_iload_n (pc := 36) dX12_meet_36 rfl rfl ?_
        refine T_aI (pc := 37) dX12_meet_37 (aI_mono (fun x2 H => ?_) H)
        refine T_aload_n (pc := 38) dX12_meet_38 rfl rfl ?_
        refine T_gR (pc := 39) fa_X12_66 dX12_meet_39 (gR_mono (fun x3 H => ?_) H)
        refine T_iload_n (pc := 42) dX12_meet_42 rfl rfl ?_
        refine T_aI (pc := 43) dX12_meet_43 (aI_mono (fun x4 H => ?_) H)
        refine T_invS (pc := 44) (av := [jI x2, jI x4]) (rest := []) dX12_meet_44 mf_X12_sign c_6_83 c_6_84 rfl (Nat.le_of_ble_eq_true rfl) rfl (iI_k (iI_mono (fun x5 h u H => ?_) H))
        refine T_istore_n (pc := 47) (ls2 := [some (jR v0), some (jI v1), some (jI v2), some (jI x5)]) dX12_meet_47 rfl (Nat.le_of_ble_eq_true rfl) rfl ?_
        refine T_iload_n (pc := 48) dX12_meet_48 rfl rfl ?_
        refine T_if_ne (pc := 49) (tgt := 70) dX12_meet_49 (by decide) (fun hc => ?_) (fun hc => ?_)
        · rw [if_neg hc] at H
          refine T_iload_n (pc := 70) dX12_meet_70 rfl rfl ?_
          exact T.forget (E_X12_meet_71 H) ⟨rfl, rfl, rfl, trivial⟩
        · rw [if_pos hc] at H
          refine T_aload_n (pc := 52) dX12_meet_52 rfl rfl ?_
          refine T_gR (pc := 53) fa_X12_69 dX12_meet_53 (gR_mono (fun x6 H => ?_) H)
          refine T_iload_n (pc := 56) dX12_meet_56 rfl rfl ?_
          refine T_aI (pc := 57) dX12_meet_57 (aI_mono (fun x7 H => ?_) H)
          refine T_aload_n (pc := 58) dX12_meet_58 rfl rfl ?_
          refine T_gR (pc := 59) fa_X12_69 dX12_meet_59 (gR_mono (fun x8 H => ?_) H)
          refine T_iload_n (pc := 62) dX12_meet_62 rfl rfl ?_
          refine T_aI (pc := 63) dX12_meet_63 (aI_mono (fun x9 H => ?_) H)
          refine T_invS (pc := 64) (av := [jI x7, jI x9]) (rest := []) dX12_meet_64 mf_X12_sign c_6_83 c_6_84 rfl (Nat.le_of_ble_eq_true rfl) rfl (iI_k (iI_mono (fun x10 h u H => ?_) H))
          refine T_goto (pc := 67) (tgt := 71) dX12_meet_67 (by decide) ?_
          exact T.forget (E_X12_meet_71 H) ⟨rfl, rfl, rfl, trivial⟩
      · rw [if_pos hc] at H
        exact T.forget (E_X12_meet_13 H) ⟨rfl, rfl, trivial⟩
theorem I_X12_meet {d : Nat} {v0 : Option Nm} {v1 : Int32} {v2 : Int32} {h : MH} {u : Nat} {K : Int32 → MH → Nat → Prop} (u1 : Nat) (hu : u1 ≤ u) (H : F_X12_meet d v0 v1 v2 h u1 (fun x h2 => K x h2 (u - u1))) : iI (d + 1) u_X12_meet [jR v0, jI v1, jI v2] h u K := inv.of u1 hu (Ct.of (by decide +kernel) rfl (Nat.le_of_ble_eq_true rfl) rfl (E_X12_meet H))
theorem dX12_numbers_0 : decode cX12_numbers 0 = .ok (.iconst 0, 1) := by decide +kernel
theorem dX12_numbers_1 : decode cX12_numbers 1 = .ok (.istore_n 3, 1) := by decide +kernel
theorem dX12_numbers_2 : decode cX12_numbers 2 = .ok (.iload_n 3, 1) := by decide +kernel
theorem dX12_numbers_3 : decode cX12_numbers 3 = .ok (.aload_n 0, 1) := by decide +kernel
theorem dX12_numbers_4 : decode cX12_numbers 4 = .ok (.getfield 13, 3) := by decide +kernel
theorem dX12_numbers_7 : decode cX12_numbers 7 = .ok (.iload_n 1, 1) := by decide +kernel
theorem dX12_numbers_8 : decode cX12_numbers 8 = .ok (.iaload, 1) := by decide +kernel
theorem dX12_numbers_9 : decode cX12_numbers 9 = .ok (.if_icmp .ge 60, 3) := by decide +kernel
theorem dX12_numbers_12 : decode cX12_numbers 12 = .ok (.iload_n 3, 1) := by decide +kernel
theorem dX12_numbers_13 : decode cX12_numbers 13 = .ok (.aload_n 0, 1) := by decide +kernel
theorem dX12_numbers_14 : decode cX12_numbers 14 = .ok (.getfield 13, 3) := by decide +kernel
theorem dX12_numbers_17 : decode cX12_numbers 17 = .ok (.iload_n 2, 1) := by decide +kernel
theorem dX12_numbers_18 : decode cX12_numbers 18 = .ok (.iaload, 1) := by decide +kernel
theorem dX12_numbers_19 : decode cX12_numbers 19 = .ok (.if_icmp .ge 50, 3) := by decide +kernel
theorem dX12_numbers_22 : decode cX12_numbers 22 = .ok (.aload_n 0, 1) := by decide +kernel
theorem dX12_numbers_23 : decode cX12_numbers 23 = .ok (.getfield 7, 3) := by decide +kernel
theorem dX12_numbers_26 : decode cX12_numbers 26 = .ok (.iload_n 1, 1) := by decide +kernel
theorem dX12_numbers_27 : decode cX12_numbers 27 = .ok (.iaload, 1) := by decide +kernel
theorem dX12_numbers_28 : decode cX12_numbers 28 = .ok (.aload_n 0, 1) := by decide +kernel
theorem dX12_numbers_29 : decode cX12_numbers 29 = .ok (.getfield 20, 3) := by decide +kernel
theorem dX12_numbers_32 : decode cX12_numbers 32 = .ok (.bipush 20, 2) := by decide +kernel
theorem dX12_numbers_34 : decode cX12_numbers 34 = .ok (.iload_n 1, 1) := by decide +kernel
theorem dX12_numbers_35 : decode cX12_numbers 35 = .ok (.imul, 1) := by decide +kernel
theorem dX12_numbers_36 : decode cX12_numbers 36 = .ok (.iload_n 3, 1) := by decide +kernel
theorem dX12_numbers_37 : decode cX12_numbers 37 = .ok (.iadd, 1) := by decide +kernel
theorem dX12_numbers_38 : decode cX12_numbers 38 = .ok (.laload, 1) := by decide +kernel
theorem dX12_numbers_39 : decode cX12_numbers 39 = .ok (.aload_n 0, 1) := by decide +kernel
theorem dX12_numbers_40 : decode cX12_numbers 40 = .ok (.getfield 20, 3) := by decide +kernel
theorem dX12_numbers_43 : decode cX12_numbers 43 = .ok (.bipush 20, 2) := by decide +kernel
theorem dX12_numbers_45 : decode cX12_numbers 45 = .ok (.iload_n 2, 1) := by decide +kernel
theorem dX12_numbers_46 : decode cX12_numbers 46 = .ok (.imul, 1) := by decide +kernel
theorem dX12_numbers_47 : decode cX12_numbers 47 = .ok (.iload_n 3, 1) := by decide +kernel
theorem dX12_numbers_48 : decode cX12_numbers 48 = .ok (.iadd, 1) := by decide +kernel
theorem dX12_numbers_49 : decode cX12_numbers 49 = .ok (.laload, 1) := by decide +kernel
theorem dX12_numbers_50 : decode cX12_numbers 50 = .ok (.invokestatic 281, 3) := by decide +kernel
theorem dX12_numbers_53 : decode cX12_numbers 53 = .ok (.istore 4, 2) := by decide +kernel
theorem dX12_numbers_55 : decode cX12_numbers 55 = .ok (.iload 4, 2) := by decide +kernel
theorem dX12_numbers_57 : decode cX12_numbers 57 = .ok (.ifCond .eq 6, 3) := by decide +kernel
theorem dX12_numbers_60 : decode cX12_numbers 60 = .ok (.iload 4, 2) := by decide +kernel
theorem dX12_numbers_62 : decode cX12_numbers 62 = .ok (.ireturn, 1) := by decide +kernel
theorem dX12_numbers_63 : decode cX12_numbers 63 = .ok (.iinc 3 1, 3) := by decide +kernel
theorem dX12_numbers_66 : decode cX12_numbers 66 = .ok (.goto (-64), 3) := by decide +kernel
theorem dX12_numbers_69 : decode cX12_numbers 69 = .ok (.aload_n 0, 1) := by decide +kernel
theorem dX12_numbers_70 : decode cX12_numbers 70 = .ok (.getfield 13, 3) := by decide +kernel
theorem dX12_numbers_73 : decode cX12_numbers 73 = .ok (.iload_n 1, 1) := by decide +kernel
theorem dX12_numbers_74 : decode cX12_numbers 74 = .ok (.iaload, 1) := by decide +kernel
theorem dX12_numbers_75 : decode cX12_numbers 75 = .ok (.aload_n 0, 1) := by decide +kernel
theorem dX12_numbers_76 : decode cX12_numbers 76 = .ok (.getfield 13, 3) := by decide +kernel
theorem dX12_numbers_79 : decode cX12_numbers 79 = .ok (.iload_n 2, 1) := by decide +kernel
theorem dX12_numbers_80 : decode cX12_numbers 80 = .ok (.iaload, 1) := by decide +kernel
theorem dX12_numbers_81 : decode cX12_numbers 81 = .ok (.invokestatic 274, 3) := by decide +kernel
theorem dX12_numbers_84 : decode cX12_numbers 84 = .ok (.ireturn, 1) := by decide +kernel
def L_X12_numbers_2 (d : Nat) (v0 : Option Nm) (v1 : Int32) (v2 : Int32) (v3 : Int32) (h : MH) (u : Nat) (Q : Int32 → MH → Prop) : Prop := T u_X12_numbers (d + 1) 2 [some (jR v0), some (jI v1), some (jI v2), some (jI v3), none] [] h u (qI Q)
def F_X12_numbers (d : Nat) (v0 : Option Nm) (v1 : Int32) (v2 : Int32) (h : MH) (u : Nat) (Q : Int32 → MH → Prop) : Prop :=
  L_X12_numbers_2 d v0 v1 v2 0 h u Q
set_option maxRecDepth 20000 in
theorem E_X12_numbers {d : Nat} {v0 : Option Nm} {v1 : Int32} {v2 : Int32} {h : MH} {u : Nat} {Q : Int32 → MH → Prop} (H : F_X12_numbers d v0 v1 v2 h u Q) : T u_X12_numbers (d + 1) 0 [some (jR v0), some (jI v1), some (jI v2), none, none] [] h u (qI Q) := by
  unfold F_X12_numbers at H
  refine T_iconst (pc := 0) (v := 0) dX12_numbers_0 (by decide) ?_
  refine T_istore_n (pc := 1) (ls2 := [some (jR v0), some (jI v1), some (jI v2), some (jI 0), none]) dX12_numbers_1 rfl (Nat.le_of_ble_eq_true rfl) rfl ?_
  exact T.forget H ⟨rfl, rfl, rfl, rfl, trivial⟩
def F_X12_numbers_69 (d : Nat) (v0 : Option Nm) (v1 : Int32) (v2 : Int32) (h : MH) (u : Nat) (Q : Int32 → MH → Prop) : Prop :=
  gR h v0 11 5 fun x1 =>
  aI .int h x1 v1 fun x2 =>
  gR h v0 11 5 fun x3 =>
  aI .int h x3 v2 fun x4 =>
  iI d u_X12_sign [jI x2, jI x4] h u fun x5 h u =>
  Q x5 h
set_option maxRecDepth 20000 in
theorem E_X12_numbers_69 {d : Nat} {v0 : Option Nm} {v1 : Int32} {v2 : Int32} {h : MH} {u : Nat} {Q : Int32 → MH → Prop} (H : F_X12_numbers_69 d v0 v1 v2 h u Q) : T u_X12_numbers (d + 1) 69 [some (jR v0), some (jI v1), some (jI v2), none, none] [] h u (qI Q) := by
  unfold F_X12_numbers_69 at H
  refine T_aload_n (pc := 69) dX12_numbers_69 rfl rfl ?_
  refine T_gR (pc := 70) fa_X12_13 dX12_numbers_70 (gR_mono (fun x1 H => ?_) H)
  refine T_iload_n (pc := 73) dX12_numbers_73 rfl rfl ?_
  refine T_aI (pc := 74) dX12_numbers_74 (aI_mono (fun x2 H => ?_) H)
  refine T_aload_n (pc := 75) dX12_numbers_75 rfl rfl ?_
  refine T_gR (pc := 76) fa_X12_13 dX12_numbers_76 (gR_mono (fun x3 H => ?_) H)
  refine T_iload_n (pc := 79) dX12_numbers_79 rfl rfl ?_
  refine T_aI (pc := 80) dX12_numbers_80 (aI_mono (fun x4 H => ?_) H)
  refine T_invS (pc := 81) (av := [jI x2, jI x4]) (rest := []) dX12_numbers_81 mf_X12_sign c_6_83 c_6_84 rfl (Nat.le_of_ble_eq_true rfl) rfl (iI_k (iI_mono (fun x5 h u H => ?_) H))
  exact T_ireturn (pc := 84) rfl rfl dX12_numbers_84 H
def F_X12_numbers_2 (d : Nat) (v0 : Option Nm) (v1 : Int32) (v2 : Int32) (v3 : Int32) (h : MH) (u : Nat) (Q : Int32 → MH → Prop) : Prop :=
  gR h v0 11 5 fun x1 =>
  aI .int h x1 v1 fun x2 =>
  if x2 ≤ v3 then
    F_X12_numbers_69 d v0 v1 v2 h u Q
  else
    gR h v0 11 5 fun x3 =>
    aI .int h x3 v2 fun x4 =>
    if x4 ≤ v3 then
      F_X12_numbers_69 d v0 v1 v2 h u Q
    else
      gR h v0 11 4 fun x5 =>
      aI .int h x5 v1 fun x6 =>
      gR h v0 11 7 fun x7 =>
      aL h x7 ((20 * v1) + v3) fun x8 =>
      gR h v0 11 7 fun x9 =>
      aL h x9 ((20 * v2) + v3) fun x10 =>
      iI d u_X12_compared [jI x6, jL x8, jL x10] h u fun x11 h u =>
      if x11 = 0 then
        L_X12_numbers_2 d v0 v1 v2 (v3 + 1) h u Q
      else
        Q x11 h
set_option maxRecDepth 20000 in
theorem E_X12_numbers_2 {d : Nat} {v0 : Option Nm} {v1 : Int32} {v2 : Int32} {v3 : Int32} {h : MH} {u : Nat} {Q : Int32 → MH → Prop} (H : F_X12_numbers_2 d v0 v1 v2 v3 h u Q) : T u_X12_numbers (d + 1) 2 [some (jR v0), some (jI v1), some (jI v2), some (jI v3), none] [] h u (qI Q) := by
  unfold F_X12_numbers_2 at H
  refine T_iload_n (pc := 2) dX12_numbers_2 rfl rfl ?_
  refine T_aload_n (pc := 3) dX12_numbers_3 rfl rfl ?_
  refine T_gR (pc := 4) fa_X12_13 dX12_numbers_4 (gR_mono (fun x1 H => ?_) H)
  refine T_iload_n (pc := 7) dX12_numbers_7 rfl rfl ?_
  refine T_aI (pc := 8) dX12_numbers_8 (aI_mono (fun x2 H => ?_) H)
  refine T_icmp_ge (pc := 9) (tgt := 69) dX12_numbers_9 (by decide) (fun hc => ?_) (fun hc => ?_)
  · rw [if_pos hc] at H
    exact T.forget (E_X12_numbers_69 H) ⟨rfl, rfl, rfl, trivial⟩
  · rw [if_neg hc] at H
    refine T_iload_n (pc := 12) dX12_numbers_12 rfl rfl ?_
    refine T_aload_n (pc := 13) dX12_numbers_13 rfl rfl ?_
    refine T_gR (pc := 14) fa_X12_13 dX12_numbers_14 (gR_mono (fun x3 H => ?_) H)
    refine T_iload_n (pc := 17) dX12_numbers_17 rfl rfl ?_
    refine T_aI (pc := 18) dX12_numbers_18 (aI_mono (fun x4 H => ?_) H)
    refine T_icmp_ge (pc := 19) (tgt := 69) dX12_numbers_19 (by decide) (fun hc => ?_) (fun hc => ?_)
    · rw [if_pos hc] at H
      exact T.forget (E_X12_numbers_69 H) ⟨rfl, rfl, rfl, trivial⟩
    · rw [if_neg hc] at H
      refine T_aload_n (pc := 22) dX12_numbers_22 rfl rfl ?_
      refine T_gR (pc := 23) fa_X12_7 dX12_numbers_23 (gR_mono (fun x5 H => ?_) H)
      refine T_iload_n (pc := 26) dX12_numbers_26 rfl rfl ?_
      refine T_aI (pc := 27) dX12_numbers_27 (aI_mono (fun x6 H => ?_) H)
      refine T_aload_n (pc := 28) dX12_numbers_28 rfl rfl ?_
      refine T_gR (pc := 29) fa_X12_20 dX12_numbers_29 (gR_mono (fun x7 H => ?_) H)
      refine T_bipush (pc := 32) (v := 20) dX12_numbers_32 (by decide) ?_
      refine T_iload_n (pc := 34) dX12_numbers_34 rfl rfl ?_
      refine T_imul (pc := 35) dX12_numbers_35 ?_
      refine T_iload_n (pc := 36) dX12_numbers_36 rfl rfl ?_
      refine T_iadd (pc := 37) dX12_numbers_37 ?_
      refine T_aL (pc := 38) dX12_numbers_38 (aL_mono (fun x8 H => ?_) H)
      refine T_aload_n (pc := 39) dX12_numbers_39 rfl rfl ?_
      refine T_gR (pc := 40) fa_X12_20 dX12_numbers_40 (gR_mono (fun x9 H => ?_) H)
      refine T_bipush (pc := 43) (v := 20) dX12_numbers_43 (by decide) ?_
      refine T_iload_n (pc := 45) dX12_numbers_45 rfl rfl ?_
      refine T_imul (pc := 46) dX12_numbers_46 ?_
      refine T_iload_n (pc := 47) dX12_numbers_47 rfl rfl ?_
      refine T_iadd (pc := 48) dX12_numbers_48 ?_
      refine T_aL (pc := 49) dX12_numbers_49 (aL_mono (fun x10 H => ?_) H)
      refine T_invS (pc := 50) (av := [jI x6, jL x8, jL x10]) (rest := []) dX12_numbers_50 mf_X12_compared c_6_94 c_6_95 rfl (Nat.le_of_ble_eq_true rfl) rfl (iI_k (iI_mono (fun x11 h u H => ?_) H))
      refine T_istore (pc := 53) (ls2 := [some (jR v0), some (jI v1), some (jI v2), some (jI v3), some (jI x11)]) dX12_numbers_53 (Nat.le_of_ble_eq_true rfl) rfl ?_
      refine T_iload (pc := 55) dX12_numbers_55 rfl ?_
      refine T_if_eq (pc := 57) (tgt := 63) dX12_numbers_57 (by decide) (fun hc => ?_) (fun hc => ?_)
      · rw [if_pos hc] at H
        refine T_iinc (pc := 63) (v := v3 + 1) (ls2 := [some (jR v0), some (jI v1), some (jI v2), some (jI (v3 + 1)), some (jI x11)]) dX12_numbers_63 rfl rfl (Nat.le_of_ble_eq_true rfl) rfl ?_
        refine T_goto (pc := 66) (tgt := 2) dX12_numbers_66 (by decide) ?_
        exact T.forget H ⟨rfl, rfl, rfl, rfl, trivial⟩
      · rw [if_neg hc] at H
        refine T_iload (pc := 60) dX12_numbers_60 rfl ?_
        exact T_ireturn (pc := 62) rfl rfl dX12_numbers_62 H
theorem I_X12_numbers {d : Nat} {v0 : Option Nm} {v1 : Int32} {v2 : Int32} {h : MH} {u : Nat} {K : Int32 → MH → Nat → Prop} (u1 : Nat) (hu : u1 ≤ u) (H : F_X12_numbers d v0 v1 v2 h u1 (fun x h2 => K x h2 (u - u1))) : iI (d + 1) u_X12_numbers [jR v0, jI v1, jI v2] h u K := inv.of u1 hu (Ct.of (by decide +kernel) rfl (Nat.le_of_ble_eq_true rfl) rfl (E_X12_numbers H))
theorem dX12_step_0 : decode cX12_step 0 = .ok (.aload_n 0, 1) := by decide +kernel
theorem dX12_step_1 : decode cX12_step 1 = .ok (.getfield 271, 3) := by decide +kernel
theorem dX12_step_4 : decode cX12_step 4 = .ok (.iconst 1, 1) := by decide +kernel
theorem dX12_step_5 : decode cX12_step 5 = .ok (.isub, 1) := by decide +kernel
theorem dX12_step_6 : decode cX12_step 6 = .ok (.istore_n 1, 1) := by decide +kernel
theorem dX12_step_7 : decode cX12_step 7 = .ok (.aload_n 0, 1) := by decide +kernel
theorem dX12_step_8 : decode cX12_step 8 = .ok (.getfield 96, 3) := by decide +kernel
theorem dX12_step_11 : decode cX12_step 11 = .ok (.iload_n 1, 1) := by decide +kernel
theorem dX12_step_12 : decode cX12_step 12 = .ok (.iaload, 1) := by decide +kernel
theorem dX12_step_13 : decode cX12_step 13 = .ok (.istore_n 2, 1) := by decide +kernel
theorem dX12_step_14 : decode cX12_step 14 = .ok (.iload_n 2, 1) := by decide +kernel
theorem dX12_step_15 : decode cX12_step 15 = .ok (.aload_n 0, 1) := by decide +kernel
theorem dX12_step_16 : decode cX12_step 16 = .ok (.aload_n 0, 1) := by decide +kernel
theorem dX12_step_17 : decode cX12_step 17 = .ok (.getfield 90, 3) := by decide +kernel
theorem dX12_step_20 : decode cX12_step 20 = .ok (.iload_n 1, 1) := by decide +kernel
theorem dX12_step_21 : decode cX12_step 21 = .ok (.iaload, 1) := by decide +kernel
theorem dX12_step_22 : decode cX12_step 22 = .ok (.invokevirtual 264, 3) := by decide +kernel
theorem dX12_step_25 : decode cX12_step 25 = .ok (.if_icmp .ne 15, 3) := by decide +kernel
theorem dX12_step_28 : decode cX12_step 28 = .ok (.aload_n 0, 1) := by decide +kernel
theorem dX12_step_29 : decode cX12_step 29 = .ok (.dup, 1) := by decide +kernel
theorem dX12_step_30 : decode cX12_step 30 = .ok (.getfield 271, 3) := by decide +kernel
theorem dX12_step_33 : decode cX12_step 33 = .ok (.iconst 1, 1) := by decide +kernel
theorem dX12_step_34 : decode cX12_step 34 = .ok (.isub, 1) := by decide +kernel
theorem dX12_step_35 : decode cX12_step 35 = .ok (.putfield 271, 3) := by decide +kernel
theorem dX12_step_38 : decode cX12_step 38 = .ok (.iconst 0, 1) := by decide +kernel
theorem dX12_step_39 : decode cX12_step 39 = .ok (.ireturn, 1) := by decide +kernel
theorem dX12_step_40 : decode cX12_step 40 = .ok (.aload_n 0, 1) := by decide +kernel
theorem dX12_step_41 : decode cX12_step 41 = .ok (.getfield 84, 3) := by decide +kernel
theorem dX12_step_44 : decode cX12_step 44 = .ok (.bipush 6, 2) := by decide +kernel
theorem dX12_step_46 : decode cX12_step 46 = .ok (.aload_n 0, 1) := by decide +kernel
theorem dX12_step_47 : decode cX12_step 47 = .ok (.getfield 90, 3) := by decide +kernel
theorem dX12_step_50 : decode cX12_step 50 = .ok (.iload_n 1, 1) := by decide +kernel
theorem dX12_step_51 : decode cX12_step 51 = .ok (.iaload, 1) := by decide +kernel
theorem dX12_step_52 : decode cX12_step 52 = .ok (.imul, 1) := by decide +kernel
theorem dX12_step_53 : decode cX12_step 53 = .ok (.iload_n 2, 1) := by decide +kernel
theorem dX12_step_54 : decode cX12_step 54 = .ok (.iadd, 1) := by decide +kernel
theorem dX12_step_55 : decode cX12_step 55 = .ok (.laload, 1) := by decide +kernel
theorem dX12_step_56 : decode cX12_step 56 = .ok (.lstore_n 3, 1) := by decide +kernel
theorem dX12_step_57 : decode cX12_step 57 = .ok (.aload_n 0, 1) := by decide +kernel
theorem dX12_step_58 : decode cX12_step 58 = .ok (.getfield 84, 3) := by decide +kernel
theorem dX12_step_61 : decode cX12_step 61 = .ok (.bipush 6, 2) := by decide +kernel
theorem dX12_step_63 : decode cX12_step 63 = .ok (.aload_n 0, 1) := by decide +kernel
theorem dX12_step_64 : decode cX12_step 64 = .ok (.getfield 93, 3) := by decide +kernel
theorem dX12_step_67 : decode cX12_step 67 = .ok (.iload_n 1, 1) := by decide +kernel
theorem dX12_step_68 : decode cX12_step 68 = .ok (.iaload, 1) := by decide +kernel
theorem dX12_step_69 : decode cX12_step 69 = .ok (.imul, 1) := by decide +kernel
theorem dX12_step_70 : decode cX12_step 70 = .ok (.iload_n 2, 1) := by decide +kernel
theorem dX12_step_71 : decode cX12_step 71 = .ok (.iadd, 1) := by decide +kernel
theorem dX12_step_72 : decode cX12_step 72 = .ok (.laload, 1) := by decide +kernel
theorem dX12_step_73 : decode cX12_step 73 = .ok (.lstore 5, 2) := by decide +kernel
theorem dX12_step_75 : decode cX12_step 75 = .ok (.aload_n 0, 1) := by decide +kernel
theorem dX12_step_76 : decode cX12_step 76 = .ok (.aload_n 0, 1) := by decide +kernel
theorem dX12_step_77 : decode cX12_step 77 = .ok (.getfield 90, 3) := by decide +kernel
theorem dX12_step_80 : decode cX12_step 80 = .ok (.iload_n 1, 1) := by decide +kernel
theorem dX12_step_81 : decode cX12_step 81 = .ok (.iaload, 1) := by decide +kernel
theorem dX12_step_82 : decode cX12_step 82 = .ok (.iload_n 2, 1) := by decide +kernel
theorem dX12_step_83 : decode cX12_step 83 = .ok (.invokevirtual 256, 3) := by decide +kernel
theorem dX12_step_86 : decode cX12_step 86 = .ok (.istore 7, 2) := by decide +kernel
theorem dX12_step_88 : decode cX12_step 88 = .ok (.iload 7, 2) := by decide +kernel
theorem dX12_step_90 : decode cX12_step 90 = .ok (.bipush 9, 2) := by decide +kernel
theorem dX12_step_92 : decode cX12_step 92 = .ok (.if_icmp .ne 23, 3) := by decide +kernel
theorem dX12_step_95 : decode cX12_step 95 = .ok (.lload_n 3, 1) := by decide +kernel
theorem dX12_step_96 : decode cX12_step 96 = .ok (.lconst 0, 1) := by decide +kernel
theorem dX12_step_97 : decode cX12_step 97 = .ok (.lcmp, 1) := by decide +kernel
theorem dX12_step_98 : decode cX12_step 98 = .ok (.ifCond .lt 17, 3) := by decide +kernel
theorem dX12_step_101 : decode cX12_step 101 = .ok (.lload 5, 2) := by decide +kernel
theorem dX12_step_103 : decode cX12_step 103 = .ok (.lconst 0, 1) := by decide +kernel
theorem dX12_step_104 : decode cX12_step 104 = .ok (.lcmp, 1) := by decide +kernel
theorem dX12_step_105 : decode cX12_step 105 = .ok (.ifCond .lt 10, 3) := by decide +kernel
theorem dX12_step_108 : decode cX12_step 108 = .ok (.lload_n 3, 1) := by decide +kernel
theorem dX12_step_109 : decode cX12_step 109 = .ok (.lload 5, 2) := by decide +kernel
theorem dX12_step_111 : decode cX12_step 111 = .ok (.lcmp, 1) := by decide +kernel
theorem dX12_step_112 : decode cX12_step 112 = .ok (.ifCond .ne 84, 3) := by decide +kernel
theorem dX12_step_115 : decode cX12_step 115 = .ok (.aload_n 0, 1) := by decide +kernel
theorem dX12_step_116 : decode cX12_step 116 = .ok (.getfield 96, 3) := by decide +kernel
theorem dX12_step_119 : decode cX12_step 119 = .ok (.iload_n 1, 1) := by decide +kernel
theorem dX12_step_120 : decode cX12_step 120 = .ok (.dup2, 1) := by decide +kernel
theorem dX12_step_121 : decode cX12_step 121 = .ok (.iaload, 1) := by decide +kernel
theorem dX12_step_122 : decode cX12_step 122 = .ok (.iconst 1, 1) := by decide +kernel
theorem dX12_step_123 : decode cX12_step 123 = .ok (.iadd, 1) := by decide +kernel
theorem dX12_step_124 : decode cX12_step 124 = .ok (.iastore, 1) := by decide +kernel
theorem dX12_step_125 : decode cX12_step 125 = .ok (.iload 7, 2) := by decide +kernel
theorem dX12_step_127 : decode cX12_step 127 = .ok (.bipush 8, 2) := by decide +kernel
theorem dX12_step_129 : decode cX12_step 129 = .ok (.if_icmp .ge 14, 3) := by decide +kernel
theorem dX12_step_132 : decode cX12_step 132 = .ok (.iload 7, 2) := by decide +kernel
theorem dX12_step_134 : decode cX12_step 134 = .ok (.lload_n 3, 1) := by decide +kernel
theorem dX12_step_135 : decode cX12_step 135 = .ok (.lload 5, 2) := by decide +kernel
theorem dX12_step_137 : decode cX12_step 137 = .ok (.invokestatic 281, 3) := by decide +kernel
theorem dX12_step_140 : decode cX12_step 140 = .ok (.goto 55, 3) := by decide +kernel
theorem dX12_step_143 : decode cX12_step 143 = .ok (.iload 7, 2) := by decide +kernel
theorem dX12_step_145 : decode cX12_step 145 = .ok (.bipush 8, 2) := by decide +kernel
theorem dX12_step_147 : decode cX12_step 147 = .ok (.if_icmp .ne 15, 3) := by decide +kernel
theorem dX12_step_150 : decode cX12_step 150 = .ok (.aload_n 0, 1) := by decide +kernel
theorem dX12_step_151 : decode cX12_step 151 = .ok (.lload_n 3, 1) := by decide +kernel
theorem dX12_step_152 : decode cX12_step 152 = .ok (.l2i, 1) := by decide +kernel
theorem dX12_step_153 : decode cX12_step 153 = .ok (.lload 5, 2) := by decide +kernel
theorem dX12_step_155 : decode cX12_step 155 = .ok (.l2i, 1) := by decide +kernel
theorem dX12_step_156 : decode cX12_step 156 = .ok (.invokevirtual 285, 3) := by decide +kernel
theorem dX12_step_159 : decode cX12_step 159 = .ok (.goto 36, 3) := by decide +kernel
theorem dX12_step_162 : decode cX12_step 162 = .ok (.lload_n 3, 1) := by decide +kernel
theorem dX12_step_163 : decode cX12_step 163 = .ok (.lload 5, 2) := by decide +kernel
theorem dX12_step_165 : decode cX12_step 165 = .ok (.lcmp, 1) := by decide +kernel
theorem dX12_step_166 : decode cX12_step 166 = .ok (.ifCond .ne 7, 3) := by decide +kernel
theorem dX12_step_169 : decode cX12_step 169 = .ok (.iconst 0, 1) := by decide +kernel
theorem dX12_step_170 : decode cX12_step 170 = .ok (.goto 25, 3) := by decide +kernel
theorem dX12_step_173 : decode cX12_step 173 = .ok (.lload_n 3, 1) := by decide +kernel
theorem dX12_step_174 : decode cX12_step 174 = .ok (.lconst 0, 1) := by decide +kernel
theorem dX12_step_175 : decode cX12_step 175 = .ok (.lcmp, 1) := by decide +kernel
theorem dX12_step_176 : decode cX12_step 176 = .ok (.ifCond .ge 7, 3) := by decide +kernel
theorem dX12_step_179 : decode cX12_step 179 = .ok (.iconst (-1), 1) := by decide +kernel
theorem dX12_step_180 : decode cX12_step 180 = .ok (.goto 15, 3) := by decide +kernel
theorem dX12_step_183 : decode cX12_step 183 = .ok (.lload 5, 2) := by decide +kernel
theorem dX12_step_185 : decode cX12_step 185 = .ok (.lconst 0, 1) := by decide +kernel
theorem dX12_step_186 : decode cX12_step 186 = .ok (.lcmp, 1) := by decide +kernel
theorem dX12_step_187 : decode cX12_step 187 = .ok (.ifCond .ge 7, 3) := by decide +kernel
theorem dX12_step_190 : decode cX12_step 190 = .ok (.iconst 1, 1) := by decide +kernel
theorem dX12_step_191 : decode cX12_step 191 = .ok (.goto 4, 3) := by decide +kernel
theorem dX12_step_194 : decode cX12_step 194 = .ok (.iconst 0, 1) := by decide +kernel
theorem dX12_step_195 : decode cX12_step 195 = .ok (.ireturn, 1) := by decide +kernel
theorem dX12_step_196 : decode cX12_step 196 = .ok (.lload_n 3, 1) := by decide +kernel
theorem dX12_step_197 : decode cX12_step 197 = .ok (.l2i, 1) := by decide +kernel
theorem dX12_step_198 : decode cX12_step 198 = .ok (.istore 8, 2) := by decide +kernel
theorem dX12_step_200 : decode cX12_step 200 = .ok (.lload 5, 2) := by decide +kernel
theorem dX12_step_202 : decode cX12_step 202 = .ok (.l2i, 1) := by decide +kernel
theorem dX12_step_203 : decode cX12_step 203 = .ok (.istore 9, 2) := by decide +kernel
theorem dX12_step_205 : decode cX12_step 205 = .ok (.aload_n 0, 1) := by decide +kernel
theorem dX12_step_206 : decode cX12_step 206 = .ok (.getfield 7, 3) := by decide +kernel
theorem dX12_step_209 : decode cX12_step 209 = .ok (.iload 8, 2) := by decide +kernel
theorem dX12_step_211 : decode cX12_step 211 = .ok (.iaload, 1) := by decide +kernel
theorem dX12_step_212 : decode cX12_step 212 = .ok (.aload_n 0, 1) := by decide +kernel
theorem dX12_step_213 : decode cX12_step 213 = .ok (.getfield 7, 3) := by decide +kernel
theorem dX12_step_216 : decode cX12_step 216 = .ok (.iload 9, 2) := by decide +kernel
theorem dX12_step_218 : decode cX12_step 218 = .ok (.iaload, 1) := by decide +kernel
theorem dX12_step_219 : decode cX12_step 219 = .ok (.if_icmp .eq 21, 3) := by decide +kernel
theorem dX12_step_222 : decode cX12_step 222 = .ok (.aload_n 0, 1) := by decide +kernel
theorem dX12_step_223 : decode cX12_step 223 = .ok (.getfield 7, 3) := by decide +kernel
theorem dX12_step_226 : decode cX12_step 226 = .ok (.iload 8, 2) := by decide +kernel
theorem dX12_step_228 : decode cX12_step 228 = .ok (.iaload, 1) := by decide +kernel
theorem dX12_step_229 : decode cX12_step 229 = .ok (.aload_n 0, 1) := by decide +kernel
theorem dX12_step_230 : decode cX12_step 230 = .ok (.getfield 7, 3) := by decide +kernel
theorem dX12_step_233 : decode cX12_step 233 = .ok (.iload 9, 2) := by decide +kernel
theorem dX12_step_235 : decode cX12_step 235 = .ok (.iaload, 1) := by decide +kernel
theorem dX12_step_236 : decode cX12_step 236 = .ok (.invokestatic 274, 3) := by decide +kernel
theorem dX12_step_239 : decode cX12_step 239 = .ok (.ireturn, 1) := by decide +kernel
theorem dX12_step_240 : decode cX12_step 240 = .ok (.aload_n 0, 1) := by decide +kernel
theorem dX12_step_241 : decode cX12_step 241 = .ok (.getfield 7, 3) := by decide +kernel
theorem dX12_step_244 : decode cX12_step 244 = .ok (.iload 8, 2) := by decide +kernel
theorem dX12_step_246 : decode cX12_step 246 = .ok (.iaload, 1) := by decide +kernel
theorem dX12_step_247 : decode cX12_step 247 = .ok (.bipush 8, 2) := by decide +kernel
theorem dX12_step_249 : decode cX12_step 249 = .ok (.if_icmp .eq 22, 3) := by decide +kernel
theorem dX12_step_252 : decode cX12_step 252 = .ok (.aload_n 0, 1) := by decide +kernel
theorem dX12_step_253 : decode cX12_step 253 = .ok (.getfield 96, 3) := by decide +kernel
theorem dX12_step_256 : decode cX12_step 256 = .ok (.iload_n 1, 1) := by decide +kernel
theorem dX12_step_257 : decode cX12_step 257 = .ok (.dup2, 1) := by decide +kernel
theorem dX12_step_258 : decode cX12_step 258 = .ok (.iaload, 1) := by decide +kernel
theorem dX12_step_259 : decode cX12_step 259 = .ok (.iconst 1, 1) := by decide +kernel
theorem dX12_step_260 : decode cX12_step 260 = .ok (.iadd, 1) := by decide +kernel
theorem dX12_step_261 : decode cX12_step 261 = .ok (.iastore, 1) := by decide +kernel
theorem dX12_step_262 : decode cX12_step 262 = .ok (.aload_n 0, 1) := by decide +kernel
theorem dX12_step_263 : decode cX12_step 263 = .ok (.iload 8, 2) := by decide +kernel
theorem dX12_step_265 : decode cX12_step 265 = .ok (.iload 9, 2) := by decide +kernel
theorem dX12_step_267 : decode cX12_step 267 = .ok (.invokevirtual 288, 3) := by decide +kernel
theorem dX12_step_270 : decode cX12_step 270 = .ok (.ireturn, 1) := by decide +kernel
theorem dX12_step_271 : decode cX12_step 271 = .ok (.aload_n 0, 1) := by decide +kernel
theorem dX12_step_272 : decode cX12_step 272 = .ok (.getfield 99, 3) := by decide +kernel
theorem dX12_step_275 : decode cX12_step 275 = .ok (.iload_n 1, 1) := by decide +kernel
theorem dX12_step_276 : decode cX12_step 276 = .ok (.dup2, 1) := by decide +kernel
theorem dX12_step_277 : decode cX12_step 277 = .ok (.iaload, 1) := by decide +kernel
theorem dX12_step_278 : decode cX12_step 278 = .ok (.iconst 1, 1) := by decide +kernel
theorem dX12_step_279 : decode cX12_step 279 = .ok (.iadd, 1) := by decide +kernel
theorem dX12_step_280 : decode cX12_step 280 = .ok (.iastore, 1) := by decide +kernel
theorem dX12_step_281 : decode cX12_step 281 = .ok (.aload_n 0, 1) := by decide +kernel
theorem dX12_step_282 : decode cX12_step 282 = .ok (.getfield 99, 3) := by decide +kernel
theorem dX12_step_285 : decode cX12_step 285 = .ok (.iload_n 1, 1) := by decide +kernel
theorem dX12_step_286 : decode cX12_step 286 = .ok (.iaload, 1) := by decide +kernel
theorem dX12_step_287 : decode cX12_step 287 = .ok (.istore 10, 2) := by decide +kernel
theorem dX12_step_289 : decode cX12_step 289 = .ok (.iload 10, 2) := by decide +kernel
theorem dX12_step_291 : decode cX12_step 291 = .ok (.aload_n 0, 1) := by decide +kernel
theorem dX12_step_292 : decode cX12_step 292 = .ok (.getfield 13, 3) := by decide +kernel
theorem dX12_step_295 : decode cX12_step 295 = .ok (.iload 8, 2) := by decide +kernel
theorem dX12_step_297 : decode cX12_step 297 = .ok (.iaload, 1) := by decide +kernel
theorem dX12_step_298 : decode cX12_step 298 = .ok (.if_icmp .ge 48, 3) := by decide +kernel
theorem dX12_step_301 : decode cX12_step 301 = .ok (.iload 10, 2) := by decide +kernel
theorem dX12_step_303 : decode cX12_step 303 = .ok (.aload_n 0, 1) := by decide +kernel
theorem dX12_step_304 : decode cX12_step 304 = .ok (.getfield 13, 3) := by decide +kernel
theorem dX12_step_307 : decode cX12_step 307 = .ok (.iload 9, 2) := by decide +kernel
theorem dX12_step_309 : decode cX12_step 309 = .ok (.iaload, 1) := by decide +kernel
theorem dX12_step_310 : decode cX12_step 310 = .ok (.if_icmp .ge 36, 3) := by decide +kernel
theorem dX12_step_313 : decode cX12_step 313 = .ok (.aload_n 0, 1) := by decide +kernel
theorem dX12_step_314 : decode cX12_step 314 = .ok (.aload_n 0, 1) := by decide +kernel
theorem dX12_step_315 : decode cX12_step 315 = .ok (.getfield 20, 3) := by decide +kernel
theorem dX12_step_318 : decode cX12_step 318 = .ok (.bipush 20, 2) := by decide +kernel
theorem dX12_step_320 : decode cX12_step 320 = .ok (.iload 8, 2) := by decide +kernel
theorem dX12_step_322 : decode cX12_step 322 = .ok (.imul, 1) := by decide +kernel
theorem dX12_step_323 : decode cX12_step 323 = .ok (.iload 10, 2) := by decide +kernel
theorem dX12_step_325 : decode cX12_step 325 = .ok (.iadd, 1) := by decide +kernel
theorem dX12_step_326 : decode cX12_step 326 = .ok (.laload, 1) := by decide +kernel
theorem dX12_step_327 : decode cX12_step 327 = .ok (.l2i, 1) := by decide +kernel
theorem dX12_step_328 : decode cX12_step 328 = .ok (.aload_n 0, 1) := by decide +kernel
theorem dX12_step_329 : decode cX12_step 329 = .ok (.getfield 20, 3) := by decide +kernel
theorem dX12_step_332 : decode cX12_step 332 = .ok (.bipush 20, 2) := by decide +kernel
theorem dX12_step_334 : decode cX12_step 334 = .ok (.iload 9, 2) := by decide +kernel
theorem dX12_step_336 : decode cX12_step 336 = .ok (.imul, 1) := by decide +kernel
theorem dX12_step_337 : decode cX12_step 337 = .ok (.iload 10, 2) := by decide +kernel
theorem dX12_step_339 : decode cX12_step 339 = .ok (.iadd, 1) := by decide +kernel
theorem dX12_step_340 : decode cX12_step 340 = .ok (.laload, 1) := by decide +kernel
theorem dX12_step_341 : decode cX12_step 341 = .ok (.l2i, 1) := by decide +kernel
theorem dX12_step_342 : decode cX12_step 342 = .ok (.invokevirtual 285, 3) := by decide +kernel
theorem dX12_step_345 : decode cX12_step 345 = .ok (.ireturn, 1) := by decide +kernel
theorem dX12_step_346 : decode cX12_step 346 = .ok (.aload_n 0, 1) := by decide +kernel
theorem dX12_step_347 : decode cX12_step 347 = .ok (.getfield 99, 3) := by decide +kernel
theorem dX12_step_350 : decode cX12_step 350 = .ok (.iload_n 1, 1) := by decide +kernel
theorem dX12_step_351 : decode cX12_step 351 = .ok (.iconst (-1), 1) := by decide +kernel
theorem dX12_step_352 : decode cX12_step 352 = .ok (.iastore, 1) := by decide +kernel
theorem dX12_step_353 : decode cX12_step 353 = .ok (.aload_n 0, 1) := by decide +kernel
theorem dX12_step_354 : decode cX12_step 354 = .ok (.getfield 96, 3) := by decide +kernel
theorem dX12_step_357 : decode cX12_step 357 = .ok (.iload_n 1, 1) := by decide +kernel
theorem dX12_step_358 : decode cX12_step 358 = .ok (.dup2, 1) := by decide +kernel
theorem dX12_step_359 : decode cX12_step 359 = .ok (.iaload, 1) := by decide +kernel
theorem dX12_step_360 : decode cX12_step 360 = .ok (.iconst 1, 1) := by decide +kernel
theorem dX12_step_361 : decode cX12_step 361 = .ok (.iadd, 1) := by decide +kernel
theorem dX12_step_362 : decode cX12_step 362 = .ok (.iastore, 1) := by decide +kernel
theorem dX12_step_363 : decode cX12_step 363 = .ok (.aload_n 0, 1) := by decide +kernel
theorem dX12_step_364 : decode cX12_step 364 = .ok (.getfield 13, 3) := by decide +kernel
theorem dX12_step_367 : decode cX12_step 367 = .ok (.iload 8, 2) := by decide +kernel
theorem dX12_step_369 : decode cX12_step 369 = .ok (.iaload, 1) := by decide +kernel
theorem dX12_step_370 : decode cX12_step 370 = .ok (.aload_n 0, 1) := by decide +kernel
theorem dX12_step_371 : decode cX12_step 371 = .ok (.getfield 13, 3) := by decide +kernel
theorem dX12_step_374 : decode cX12_step 374 = .ok (.iload 9, 2) := by decide +kernel
theorem dX12_step_376 : decode cX12_step 376 = .ok (.iaload, 1) := by decide +kernel
theorem dX12_step_377 : decode cX12_step 377 = .ok (.invokestatic 274, 3) := by decide +kernel
theorem dX12_step_380 : decode cX12_step 380 = .ok (.ireturn, 1) := by decide +kernel
def F_X12_step_346 (d : Nat) (v0 : Option Nm) (v1 : Int32) (v8 : Int32) (v9 : Int32) (h : MH) (u : Nat) (Q : Int32 → MH → Prop) : Prop :=
  gR h v0 11 39 fun x1 =>
  sV .int h x1 v1 (jI (-1)) fun h =>
  gR h v0 11 38 fun x2 =>
  aI .int h x2 v1 fun x3 =>
  sV .int h x2 v1 (jI (x3 + 1)) fun h =>
  gR h v0 11 5 fun x4 =>
  aI .int h x4 v8 fun x5 =>
  gR h v0 11 5 fun x6 =>
  aI .int h x6 v9 fun x7 =>
  iI d u_X12_sign [jI x5, jI x7] h u fun x8 h u =>
  Q x8 h
set_option maxRecDepth 20000 in
theorem E_X12_step_346 {d : Nat} {v0 : Option Nm} {v1 : Int32} {v8 : Int32} {v9 : Int32} {h : MH} {u : Nat} {Q : Int32 → MH → Prop} (H : F_X12_step_346 d v0 v1 v8 v9 h u Q) : T u_X12_step (d + 1) 346 [some (jR v0), some (jI v1), none, none, none, none, none, none, some (jI v8), some (jI v9), none] [] h u (qI Q) := by
  unfold F_X12_step_346 at H
  refine T_aload_n (pc := 346) dX12_step_346 rfl rfl ?_
  refine T_gR (pc := 347) fa_X12_99 dX12_step_347 (gR_mono (fun x1 H => ?_) H)
  refine T_iload_n (pc := 350) dX12_step_350 rfl rfl ?_
  refine T_iconst (pc := 351) (v := (-1)) dX12_step_351 (by decide) ?_
  refine T_sI (pc := 352) dX12_step_352 (sV_mono (fun h H => ?_) H)
  refine T_aload_n (pc := 353) dX12_step_353 rfl rfl ?_
  refine T_gR (pc := 354) fa_X12_96 dX12_step_354 (gR_mono (fun x2 H => ?_) H)
  refine T_iload_n (pc := 357) dX12_step_357 rfl rfl ?_
  refine T_dup2 (pc := 358) rfl rfl dX12_step_358 ?_
  refine T_aI (pc := 359) dX12_step_359 (aI_mono (fun x3 H => ?_) H)
  refine T_iconst (pc := 360) (v := 1) dX12_step_360 (by decide) ?_
  refine T_iadd (pc := 361) dX12_step_361 ?_
  refine T_sI (pc := 362) dX12_step_362 (sV_mono (fun h H => ?_) H)
  refine T_aload_n (pc := 363) dX12_step_363 rfl rfl ?_
  refine T_gR (pc := 364) fa_X12_13 dX12_step_364 (gR_mono (fun x4 H => ?_) H)
  refine T_iload (pc := 367) dX12_step_367 rfl ?_
  refine T_aI (pc := 369) dX12_step_369 (aI_mono (fun x5 H => ?_) H)
  refine T_aload_n (pc := 370) dX12_step_370 rfl rfl ?_
  refine T_gR (pc := 371) fa_X12_13 dX12_step_371 (gR_mono (fun x6 H => ?_) H)
  refine T_iload (pc := 374) dX12_step_374 rfl ?_
  refine T_aI (pc := 376) dX12_step_376 (aI_mono (fun x7 H => ?_) H)
  refine T_invS (pc := 377) (av := [jI x5, jI x7]) (rest := []) dX12_step_377 mf_X12_sign c_6_83 c_6_84 rfl (Nat.le_of_ble_eq_true rfl) rfl (iI_k (iI_mono (fun x8 h u H => ?_) H))
  exact T_ireturn (pc := 380) rfl rfl dX12_step_380 H
def F_X12_step_115 (d : Nat) (v0 : Option Nm) (v1 : Int32) (v3 : Int64) (v5 : Int64) (v7 : Int32) (h : MH) (u : Nat) (Q : Int32 → MH → Prop) : Prop :=
  gR h v0 11 38 fun x1 =>
  aI .int h x1 v1 fun x2 =>
  sV .int h x1 v1 (jI (x2 + 1)) fun h =>
  if 8 ≤ v7 then
    if v7 = 8 then
      rc h v0 11 ∧ iI d u_X12_meet [jR v0, jI (v3.toInt32), jI (v5.toInt32)] h u fun x3 h u =>
      Q x3 h
    else
      if (lg_cmp v3 v5) = 0 then
        Q 0 h
      else
        if 0 ≤ (lg_cmp v3 0) then
          if 0 ≤ (lg_cmp v5 0) then
            Q 0 h
          else
            Q 1 h
        else
          Q (-1) h
  else
    iI d u_X12_compared [jI v7, jL v3, jL v5] h u fun x4 h u =>
    Q x4 h
set_option maxRecDepth 20000 in
theorem E_X12_step_115 {d : Nat} {v0 : Option Nm} {v1 : Int32} {v3 : Int64} {v5 : Int64} {v7 : Int32} {h : MH} {u : Nat} {Q : Int32 → MH → Prop} (H : F_X12_step_115 d v0 v1 v3 v5 v7 h u Q) : T u_X12_step (d + 1) 115 [some (jR v0), some (jI v1), none, some (jL v3), none, some (jL v5), none, some (jI v7), none, none, none] [] h u (qI Q) := by
  unfold F_X12_step_115 at H
  refine T_aload_n (pc := 115) dX12_step_115 rfl rfl ?_
  refine T_gR (pc := 116) fa_X12_96 dX12_step_116 (gR_mono (fun x1 H => ?_) H)
  refine T_iload_n (pc := 119) dX12_step_119 rfl rfl ?_
  refine T_dup2 (pc := 120) rfl rfl dX12_step_120 ?_
  refine T_aI (pc := 121) dX12_step_121 (aI_mono (fun x2 H => ?_) H)
  refine T_iconst (pc := 122) (v := 1) dX12_step_122 (by decide) ?_
  refine T_iadd (pc := 123) dX12_step_123 ?_
  refine T_sI (pc := 124) dX12_step_124 (sV_mono (fun h H => ?_) H)
  refine T_iload (pc := 125) dX12_step_125 rfl ?_
  refine T_bipush (pc := 127) (v := 8) dX12_step_127 (by decide) ?_
  refine T_icmp_ge (pc := 129) (tgt := 143) dX12_step_129 (by decide) (fun hc => ?_) (fun hc => ?_)
  · rw [if_pos hc] at H
    refine T_iload (pc := 143) dX12_step_143 rfl ?_
    refine T_bipush (pc := 145) (v := 8) dX12_step_145 (by decide) ?_
    refine T_icmp_ne (pc := 147) (tgt := 162) dX12_step_147 (by decide) (fun hc => ?_) (fun hc => ?_)
    · rw [if_neg hc] at H
      refine T_lload_n (pc := 162) dX12_step_162 rfl rfl ?_
      refine T_lload (pc := 163) dX12_step_163 rfl ?_
      refine T_lcmp (pc := 165) dX12_step_165 ?_
      refine T_if_ne (pc := 166) (tgt := 173) dX12_step_166 (by decide) (fun hc => ?_) (fun hc => ?_)
      · rw [if_neg hc] at H
        refine T_lload_n (pc := 173) dX12_step_173 rfl rfl ?_
        refine T_lconst (pc := 174) (v := 0) dX12_step_174 (by decide) ?_
        refine T_lcmp (pc := 175) dX12_step_175 ?_
        refine T_if_ge (pc := 176) (tgt := 183) dX12_step_176 (by decide) (fun hc => ?_) (fun hc => ?_)
        · rw [if_pos hc] at H
          refine T_lload (pc := 183) dX12_step_183 rfl ?_
          refine T_lconst (pc := 185) (v := 0) dX12_step_185 (by decide) ?_
          refine T_lcmp (pc := 186) dX12_step_186 ?_
          refine T_if_ge (pc := 187) (tgt := 194) dX12_step_187 (by decide) (fun hc => ?_) (fun hc => ?_)
          · rw [if_pos hc] at H
            refine T_iconst (pc := 194) (v := 0) dX12_step_194 (by decide) ?_
            exact T_ireturn (pc := 195) rfl rfl dX12_step_195 H
          · rw [if_neg hc] at H
            refine T_iconst (pc := 190) (v := 1) dX12_step_190 (by decide) ?_
            refine T_goto (pc := 191) (tgt := 195) dX12_step_191 (by decide) ?_
            exact T_ireturn (pc := 195) rfl rfl dX12_step_195 H
        · rw [if_neg hc] at H
          refine T_iconst (pc := 179) (v := (-1)) dX12_step_179 (by decide) ?_
          refine T_goto (pc := 180) (tgt := 195) dX12_step_180 (by decide) ?_
          exact T_ireturn (pc := 195) rfl rfl dX12_step_195 H
      · rw [if_pos hc] at H
        refine T_iconst (pc := 169) (v := 0) dX12_step_169 (by decide) ?_
        refine T_goto (pc := 170) (tgt := 195) dX12_step_170 (by decide) ?_
        exact T_ireturn (pc := 195) rfl rfl dX12_step_195 H
    · rw [if_pos hc] at H
      refine T_aload_n (pc := 150) dX12_step_150 rfl rfl ?_
      refine T_lload_n (pc := 151) dX12_step_151 rfl rfl ?_
      refine T_l2i (pc := 152) dX12_step_152 ?_
      refine T_lload (pc := 153) dX12_step_153 rfl ?_
      refine T_l2i (pc := 155) dX12_step_155 ?_
      obtain ⟨H0, H⟩ := H
      refine T_iV (pc := 156) (ci := 11) (av := [jI (v3.toInt32), jI (v5.toInt32)]) (rest := []) (o := v0) dX12_step_156 mf_X12_meet c_6_79 c_6_81 pr_X12_meet rfl rfl (Nat.le_of_ble_eq_true rfl) rfl H0 (iI_k (iI_mono (fun x3 h u H => ?_) H))
      refine T_goto (pc := 159) (tgt := 195) dX12_step_159 (by decide) ?_
      exact T_ireturn (pc := 195) rfl rfl dX12_step_195 H
  · rw [if_neg hc] at H
    refine T_iload (pc := 132) dX12_step_132 rfl ?_
    refine T_lload_n (pc := 134) dX12_step_134 rfl rfl ?_
    refine T_lload (pc := 135) dX12_step_135 rfl ?_
    refine T_invS (pc := 137) (av := [jI v7, jL v3, jL v5]) (rest := []) dX12_step_137 mf_X12_compared c_6_94 c_6_95 rfl (Nat.le_of_ble_eq_true rfl) rfl (iI_k (iI_mono (fun x4 h u H => ?_) H))
    refine T_goto (pc := 140) (tgt := 195) dX12_step_140 (by decide) ?_
    exact T_ireturn (pc := 195) rfl rfl dX12_step_195 H
def F_X12_step (d : Nat) (v0 : Option Nm) (h : MH) (u : Nat) (Q : Int32 → MH → Prop) : Prop :=
  gI h v0 11 35 fun x1 =>
  gR h v0 11 38 fun x2 =>
  aI .int h x2 (x1 - 1) fun x3 =>
  gR h v0 11 36 fun x4 =>
  aI .int h x4 (x1 - 1) fun x5 =>
  rc h v0 11 ∧ iI d u_X12_partsOf [jR v0, jI x5] h u fun x6 h u =>
  if x3 = x6 then
    gI h v0 11 35 fun x45 =>
    pV h v0 11 35 (jI (x45 - 1)) fun h =>
    Q 0 h
  else
    gR h v0 11 31 fun x7 =>
    gR h v0 11 36 fun x8 =>
    aI .int h x8 (x1 - 1) fun x9 =>
    aL h x7 ((6 * x9) + x3) fun x10 =>
    gR h v0 11 31 fun x11 =>
    gR h v0 11 37 fun x12 =>
    aI .int h x12 (x1 - 1) fun x13 =>
    aL h x11 ((6 * x13) + x3) fun x14 =>
    gR h v0 11 36 fun x15 =>
    aI .int h x15 (x1 - 1) fun x16 =>
    rc h v0 11 ∧ iI d u_X12_laneOf [jR v0, jI x16, jI x3] h u fun x17 h u =>
    if x17 = 9 then
      if (lg_cmp x10 0) < 0 then
        F_X12_step_115 d v0 (x1 - 1) x10 x14 x17 h u Q
      else
        if (lg_cmp x14 0) < 0 then
          F_X12_step_115 d v0 (x1 - 1) x10 x14 x17 h u Q
        else
          if (lg_cmp x10 x14) = 0 then
            F_X12_step_115 d v0 (x1 - 1) x10 x14 x17 h u Q
          else
            gR h v0 11 4 fun x18 =>
            aI .int h x18 (x10.toInt32) fun x19 =>
            gR h v0 11 4 fun x20 =>
            aI .int h x20 (x14.toInt32) fun x21 =>
            if x19 = x21 then
              gR h v0 11 4 fun x22 =>
              aI .int h x22 (x10.toInt32) fun x23 =>
              if x23 = 8 then
                gR h v0 11 39 fun x24 =>
                aI .int h x24 (x1 - 1) fun x25 =>
                sV .int h x24 (x1 - 1) (jI (x25 + 1)) fun h =>
                gR h v0 11 39 fun x26 =>
                aI .int h x26 (x1 - 1) fun x27 =>
                gR h v0 11 5 fun x28 =>
                aI .int h x28 (x10.toInt32) fun x29 =>
                if x29 ≤ x27 then
                  F_X12_step_346 d v0 (x1 - 1) (x10.toInt32) (x14.toInt32) h u Q
                else
                  gR h v0 11 5 fun x30 =>
                  aI .int h x30 (x14.toInt32) fun x31 =>
                  if x31 ≤ x27 then
                    F_X12_step_346 d v0 (x1 - 1) (x10.toInt32) (x14.toInt32) h u Q
                  else
                    gR h v0 11 7 fun x32 =>
                    aL h x32 ((20 * (x10.toInt32)) + x27) fun x33 =>
                    gR h v0 11 7 fun x34 =>
                    aL h x34 ((20 * (x14.toInt32)) + x27) fun x35 =>
                    rc h v0 11 ∧ iI d u_X12_meet [jR v0, jI (x33.toInt32), jI (x35.toInt32)] h u fun x36 h u =>
                    Q x36 h
              else
                gR h v0 11 38 fun x37 =>
                aI .int h x37 (x1 - 1) fun x38 =>
                sV .int h x37 (x1 - 1) (jI (x38 + 1)) fun h =>
                rc h v0 11 ∧ iI d u_X12_numbers [jR v0, jI (x10.toInt32), jI (x14.toInt32)] h u fun x39 h u =>
                Q x39 h
            else
              gR h v0 11 4 fun x40 =>
              aI .int h x40 (x10.toInt32) fun x41 =>
              gR h v0 11 4 fun x42 =>
              aI .int h x42 (x14.toInt32) fun x43 =>
              iI d u_X12_sign [jI x41, jI x43] h u fun x44 h u =>
              Q x44 h
    else
      F_X12_step_115 d v0 (x1 - 1) x10 x14 x17 h u Q
set_option maxRecDepth 20000 in
theorem E_X12_step {d : Nat} {v0 : Option Nm} {h : MH} {u : Nat} {Q : Int32 → MH → Prop} (H : F_X12_step d v0 h u Q) : T u_X12_step (d + 1) 0 [some (jR v0), none, none, none, none, none, none, none, none, none, none] [] h u (qI Q) := by
  unfold F_X12_step at H
  refine T_aload_n (pc := 0) dX12_step_0 rfl rfl ?_
  refine T_gI (pc := 1) fa_X12_271 dX12_step_1 (gI_mono (fun x1 H => ?_) H)
  refine T_iconst (pc := 4) (v := 1) dX12_step_4 (by decide) ?_
  refine T_isub (pc := 5) dX12_step_5 ?_
  refine T_istore_n (pc := 6) (ls2 := [some (jR v0), some (jI (x1 - 1)), none, none, none, none, none, none, none, none, none]) dX12_step_6 rfl (Nat.le_of_ble_eq_true rfl) rfl ?_
  refine T_aload_n (pc := 7) dX12_step_7 rfl rfl ?_
  refine T_gR (pc := 8) fa_X12_96 dX12_step_8 (gR_mono (fun x2 H => ?_) H)
  refine T_iload_n (pc := 11) dX12_step_11 rfl rfl ?_
  refine T_aI (pc := 12) dX12_step_12 (aI_mono (fun x3 H => ?_) H)
  refine T_istore_n (pc := 13) (ls2 := [some (jR v0), some (jI (x1 - 1)), some (jI x3), none, none, none, none, none, none, none, none]) dX12_step_13 rfl (Nat.le_of_ble_eq_true rfl) rfl ?_
  refine T_iload_n (pc := 14) dX12_step_14 rfl rfl ?_
  refine T_aload_n (pc := 15) dX12_step_15 rfl rfl ?_
  refine T_aload_n (pc := 16) dX12_step_16 rfl rfl ?_
  refine T_gR (pc := 17) fa_X12_90 dX12_step_17 (gR_mono (fun x4 H => ?_) H)
  refine T_iload_n (pc := 20) dX12_step_20 rfl rfl ?_
  refine T_aI (pc := 21) dX12_step_21 (aI_mono (fun x5 H => ?_) H)
  obtain ⟨H0, H⟩ := H
  refine T_iV (pc := 22) (ci := 11) (av := [jI x5]) (rest := [jI x3]) (o := v0) dX12_step_22 mf_X12_partsOf c_6_38 c_6_40 pr_X12_partsOf rfl rfl (Nat.le_of_ble_eq_true rfl) rfl H0 (iI_k (iI_mono (fun x6 h u H => ?_) H))
  refine T_icmp_ne (pc := 25) (tgt := 40) dX12_step_25 (by decide) (fun hc => ?_) (fun hc => ?_)
  · rw [if_neg hc] at H
    refine T_aload_n (pc := 40) dX12_step_40 rfl rfl ?_
    refine T_gR (pc := 41) fa_X12_84 dX12_step_41 (gR_mono (fun x7 H => ?_) H)
    refine T_bipush (pc := 44) (v := 6) dX12_step_44 (by decide) ?_
    refine T_aload_n (pc := 46) dX12_step_46 rfl rfl ?_
    refine T_gR (pc := 47) fa_X12_90 dX12_step_47 (gR_mono (fun x8 H => ?_) H)
    refine T_iload_n (pc := 50) dX12_step_50 rfl rfl ?_
    refine T_aI (pc := 51) dX12_step_51 (aI_mono (fun x9 H => ?_) H)
    refine T_imul (pc := 52) dX12_step_52 ?_
    refine T_iload_n (pc := 53) dX12_step_53 rfl rfl ?_
    refine T_iadd (pc := 54) dX12_step_54 ?_
    refine T_aL (pc := 55) dX12_step_55 (aL_mono (fun x10 H => ?_) H)
    refine T_lstore_n (pc := 56) (ls2 := [some (jR v0), some (jI (x1 - 1)), some (jI x3), some (jL x10), none, none, none, none, none, none, none]) dX12_step_56 rfl (Nat.le_of_ble_eq_true rfl) rfl ?_
    refine T_aload_n (pc := 57) dX12_step_57 rfl rfl ?_
    refine T_gR (pc := 58) fa_X12_84 dX12_step_58 (gR_mono (fun x11 H => ?_) H)
    refine T_bipush (pc := 61) (v := 6) dX12_step_61 (by decide) ?_
    refine T_aload_n (pc := 63) dX12_step_63 rfl rfl ?_
    refine T_gR (pc := 64) fa_X12_93 dX12_step_64 (gR_mono (fun x12 H => ?_) H)
    refine T_iload_n (pc := 67) dX12_step_67 rfl rfl ?_
    refine T_aI (pc := 68) dX12_step_68 (aI_mono (fun x13 H => ?_) H)
    refine T_imul (pc := 69) dX12_step_69 ?_
    refine T_iload_n (pc := 70) dX12_step_70 rfl rfl ?_
    refine T_iadd (pc := 71) dX12_step_71 ?_
    refine T_aL (pc := 72) dX12_step_72 (aL_mono (fun x14 H => ?_) H)
    refine T_lstore (pc := 73) (ls2 := [some (jR v0), some (jI (x1 - 1)), some (jI x3), some (jL x10), none, some (jL x14), none, none, none, none, none]) dX12_step_73 (Nat.le_of_ble_eq_true rfl) rfl ?_
    refine T_aload_n (pc := 75) dX12_step_75 rfl rfl ?_
    refine T_aload_n (pc := 76) dX12_step_76 rfl rfl ?_
    refine T_gR (pc := 77) fa_X12_90 dX12_step_77 (gR_mono (fun x15 H => ?_) H)
    refine T_iload_n (pc := 80) dX12_step_80 rfl rfl ?_
    refine T_aI (pc := 81) dX12_step_81 (aI_mono (fun x16 H => ?_) H)
    refine T_iload_n (pc := 82) dX12_step_82 rfl rfl ?_
    obtain ⟨H0, H⟩ := H
    refine T_iV (pc := 83) (ci := 11) (av := [jI x16, jI x3]) (rest := []) (o := v0) dX12_step_83 mf_X12_laneOf c_6_50 c_6_52 pr_X12_laneOf rfl rfl (Nat.le_of_ble_eq_true rfl) rfl H0 (iI_k (iI_mono (fun x17 h u H => ?_) H))
    refine T_istore (pc := 86) (ls2 := [some (jR v0), some (jI (x1 - 1)), some (jI x3), some (jL x10), none, some (jL x14), none, some (jI x17), none, none, none]) dX12_step_86 (Nat.le_of_ble_eq_true rfl) rfl ?_
    refine T_iload (pc := 88) dX12_step_88 rfl ?_
    refine T_bipush (pc := 90) (v := 9) dX12_step_90 (by decide) ?_
    refine T_icmp_ne (pc := 92) (tgt := 115) dX12_step_92 (by decide) (fun hc => ?_) (fun hc => ?_)
    · rw [if_neg hc] at H
      exact T.forget (E_X12_step_115 H) ⟨rfl, rfl, rfl, rfl, rfl, trivial⟩
    · rw [if_pos hc] at H
      refine T_lload_n (pc := 95) dX12_step_95 rfl rfl ?_
      refine T_lconst (pc := 96) (v := 0) dX12_step_96 (by decide) ?_
      refine T_lcmp (pc := 97) dX12_step_97 ?_
      refine T_if_lt (pc := 98) (tgt := 115) dX12_step_98 (by decide) (fun hc => ?_) (fun hc => ?_)
      · rw [if_pos hc] at H
        exact T.forget (E_X12_step_115 H) ⟨rfl, rfl, rfl, rfl, rfl, trivial⟩
      · rw [if_neg hc] at H
        refine T_lload (pc := 101) dX12_step_101 rfl ?_
        refine T_lconst (pc := 103) (v := 0) dX12_step_103 (by decide) ?_
        refine T_lcmp (pc := 104) dX12_step_104 ?_
        refine T_if_lt (pc := 105) (tgt := 115) dX12_step_105 (by decide) (fun hc => ?_) (fun hc => ?_)
        · rw [if_pos hc] at H
          exact T.forget (E_X12_step_115 H) ⟨rfl, rfl, rfl, rfl, rfl, trivial⟩
        · rw [if_neg hc] at H
          refine T_lload_n (pc := 108) dX12_step_108 rfl rfl ?_
          refine T_lload (pc := 109) dX12_step_109 rfl ?_
          refine T_lcmp (pc := 111) dX12_step_111 ?_
          refine T_if_ne (pc := 112) (tgt := 196) dX12_step_112 (by decide) (fun hc => ?_) (fun hc => ?_)
          · rw [if_neg hc] at H
            refine T_lload_n (pc := 196) dX12_step_196 rfl rfl ?_
            refine T_l2i (pc := 197) dX12_step_197 ?_
            refine T_istore (pc := 198) (ls2 := [some (jR v0), some (jI (x1 - 1)), some (jI x3), some (jL x10), none, some (jL x14), none, some (jI x17), some (jI (x10.toInt32)), none, none]) dX12_step_198 (Nat.le_of_ble_eq_true rfl) rfl ?_
            refine T_lload (pc := 200) dX12_step_200 rfl ?_
            refine T_l2i (pc := 202) dX12_step_202 ?_
            refine T_istore (pc := 203) (ls2 := [some (jR v0), some (jI (x1 - 1)), some (jI x3), some (jL x10), none, some (jL x14), none, some (jI x17), some (jI (x10.toInt32)), some (jI (x14.toInt32)), none]) dX12_step_203 (Nat.le_of_ble_eq_true rfl) rfl ?_
            refine T_aload_n (pc := 205) dX12_step_205 rfl rfl ?_
            refine T_gR (pc := 206) fa_X12_7 dX12_step_206 (gR_mono (fun x18 H => ?_) H)
            refine T_iload (pc := 209) dX12_step_209 rfl ?_
            refine T_aI (pc := 211) dX12_step_211 (aI_mono (fun x19 H => ?_) H)
            refine T_aload_n (pc := 212) dX12_step_212 rfl rfl ?_
            refine T_gR (pc := 213) fa_X12_7 dX12_step_213 (gR_mono (fun x20 H => ?_) H)
            refine T_iload (pc := 216) dX12_step_216 rfl ?_
            refine T_aI (pc := 218) dX12_step_218 (aI_mono (fun x21 H => ?_) H)
            refine T_icmp_eq (pc := 219) (tgt := 240) dX12_step_219 (by decide) (fun hc => ?_) (fun hc => ?_)
            · rw [if_pos hc] at H
              refine T_aload_n (pc := 240) dX12_step_240 rfl rfl ?_
              refine T_gR (pc := 241) fa_X12_7 dX12_step_241 (gR_mono (fun x22 H => ?_) H)
              refine T_iload (pc := 244) dX12_step_244 rfl ?_
              refine T_aI (pc := 246) dX12_step_246 (aI_mono (fun x23 H => ?_) H)
              refine T_bipush (pc := 247) (v := 8) dX12_step_247 (by decide) ?_
              refine T_icmp_eq (pc := 249) (tgt := 271) dX12_step_249 (by decide) (fun hc => ?_) (fun hc => ?_)
              · rw [if_pos hc] at H
                refine T_aload_n (pc := 271) dX12_step_271 rfl rfl ?_
                refine T_gR (pc := 272) fa_X12_99 dX12_step_272 (gR_mono (fun x24 H => ?_) H)
                refine T_iload_n (pc := 275) dX12_step_275 rfl rfl ?_
                refine T_dup2 (pc := 276) rfl rfl dX12_step_276 ?_
                refine T_aI (pc := 277) dX12_step_277 (aI_mono (fun x25 H => ?_) H)
                refine T_iconst (pc := 278) (v := 1) dX12_step_278 (by decide) ?_
                refine T_iadd (pc := 279) dX12_step_279 ?_
                refine T_sI (pc := 280) dX12_step_280 (sV_mono (fun h H => ?_) H)
                refine T_aload_n (pc := 281) dX12_step_281 rfl rfl ?_
                refine T_gR (pc := 282) fa_X12_99 dX12_step_282 (gR_mono (fun x26 H => ?_) H)
                refine T_iload_n (pc := 285) dX12_step_285 rfl rfl ?_
                refine T_aI (pc := 286) dX12_step_286 (aI_mono (fun x27 H => ?_) H)
                refine T_istore (pc := 287) (ls2 := [some (jR v0), some (jI (x1 - 1)), some (jI x3), some (jL x10), none, some (jL x14), none, some (jI x17), some (jI (x10.toInt32)), some (jI (x14.toInt32)), some (jI x27)]) dX12_step_287 (Nat.le_of_ble_eq_true rfl) rfl ?_
                refine T_iload (pc := 289) dX12_step_289 rfl ?_
                refine T_aload_n (pc := 291) dX12_step_291 rfl rfl ?_
                refine T_gR (pc := 292) fa_X12_13 dX12_step_292 (gR_mono (fun x28 H => ?_) H)
                refine T_iload (pc := 295) dX12_step_295 rfl ?_
                refine T_aI (pc := 297) dX12_step_297 (aI_mono (fun x29 H => ?_) H)
                refine T_icmp_ge (pc := 298) (tgt := 346) dX12_step_298 (by decide) (fun hc => ?_) (fun hc => ?_)
                · rw [if_pos hc] at H
                  exact T.forget (E_X12_step_346 H) ⟨rfl, rfl, rfl, rfl, trivial⟩
                · rw [if_neg hc] at H
                  refine T_iload (pc := 301) dX12_step_301 rfl ?_
                  refine T_aload_n (pc := 303) dX12_step_303 rfl rfl ?_
                  refine T_gR (pc := 304) fa_X12_13 dX12_step_304 (gR_mono (fun x30 H => ?_) H)
                  refine T_iload (pc := 307) dX12_step_307 rfl ?_
                  refine T_aI (pc := 309) dX12_step_309 (aI_mono (fun x31 H => ?_) H)
                  refine T_icmp_ge (pc := 310) (tgt := 346) dX12_step_310 (by decide) (fun hc => ?_) (fun hc => ?_)
                  · rw [if_pos hc] at H
                    exact T.forget (E_X12_step_346 H) ⟨rfl, rfl, rfl, rfl, trivial⟩
                  · rw [if_neg hc] at H
                    refine T_aload_n (pc := 313) dX12_step_313 rfl rfl ?_
                    refine T_aload_n (pc := 314) dX12_step_314 rfl rfl ?_
                    refine T_gR (pc := 315) fa_X12_20 dX12_step_315 (gR_mono (fun x32 H => ?_) H)
                    refine T_bipush (pc := 318) (v := 20) dX12_step_318 (by decide) ?_
                    refine T_iload (pc := 320) dX12_step_320 rfl ?_
                    refine T_imul (pc := 322) dX12_step_322 ?_
                    refine T_iload (pc := 323) dX12_step_323 rfl ?_
                    refine T_iadd (pc := 325) dX12_step_325 ?_
                    refine T_aL (pc := 326) dX12_step_326 (aL_mono (fun x33 H => ?_) H)
                    refine T_l2i (pc := 327) dX12_step_327 ?_
                    refine T_aload_n (pc := 328) dX12_step_328 rfl rfl ?_
                    refine T_gR (pc := 329) fa_X12_20 dX12_step_329 (gR_mono (fun x34 H => ?_) H)
                    refine T_bipush (pc := 332) (v := 20) dX12_step_332 (by decide) ?_
                    refine T_iload (pc := 334) dX12_step_334 rfl ?_
                    refine T_imul (pc := 336) dX12_step_336 ?_
                    refine T_iload (pc := 337) dX12_step_337 rfl ?_
                    refine T_iadd (pc := 339) dX12_step_339 ?_
                    refine T_aL (pc := 340) dX12_step_340 (aL_mono (fun x35 H => ?_) H)
                    refine T_l2i (pc := 341) dX12_step_341 ?_
                    obtain ⟨H0, H⟩ := H
                    refine T_iV (pc := 342) (ci := 11) (av := [jI (x33.toInt32), jI (x35.toInt32)]) (rest := []) (o := v0) dX12_step_342 mf_X12_meet c_6_79 c_6_81 pr_X12_meet rfl rfl (Nat.le_of_ble_eq_true rfl) rfl H0 (iI_k (iI_mono (fun x36 h u H => ?_) H))
                    exact T_ireturn (pc := 345) rfl rfl dX12_step_345 H
              · rw [if_neg hc] at H
                refine T_aload_n (pc := 252) dX12_step_252 rfl rfl ?_
                refine T_gR (pc := 253) fa_X12_96 dX12_step_253 (gR_mono (fun x37 H => ?_) H)
                refine T_iload_n (pc := 256) dX12_step_256 rfl rfl ?_
                refine T_dup2 (pc := 257) rfl rfl dX12_step_257 ?_
                refine T_aI (pc := 258) dX12_step_258 (aI_mono (fun x38 H => ?_) H)
                refine T_iconst (pc := 259) (v := 1) dX12_step_259 (by decide) ?_
                refine T_iadd (pc := 260) dX12_step_260 ?_
                refine T_sI (pc := 261) dX12_step_261 (sV_mono (fun h H => ?_) H)
                refine T_aload_n (pc := 262) dX12_step_262 rfl rfl ?_
                refine T_iload (pc := 263) dX12_step_263 rfl ?_
                refine T_iload (pc := 265) dX12_step_265 rfl ?_
                obtain ⟨H0, H⟩ := H
                refine T_iV (pc := 267) (ci := 11) (av := [jI (x10.toInt32), jI (x14.toInt32)]) (rest := []) (o := v0) dX12_step_267 mf_X12_numbers c_6_100 c_6_102 pr_X12_numbers rfl rfl (Nat.le_of_ble_eq_true rfl) rfl H0 (iI_k (iI_mono (fun x39 h u H => ?_) H))
                exact T_ireturn (pc := 270) rfl rfl dX12_step_270 H
            · rw [if_neg hc] at H
              refine T_aload_n (pc := 222) dX12_step_222 rfl rfl ?_
              refine T_gR (pc := 223) fa_X12_7 dX12_step_223 (gR_mono (fun x40 H => ?_) H)
              refine T_iload (pc := 226) dX12_step_226 rfl ?_
              refine T_aI (pc := 228) dX12_step_228 (aI_mono (fun x41 H => ?_) H)
              refine T_aload_n (pc := 229) dX12_step_229 rfl rfl ?_
              refine T_gR (pc := 230) fa_X12_7 dX12_step_230 (gR_mono (fun x42 H => ?_) H)
              refine T_iload (pc := 233) dX12_step_233 rfl ?_
              refine T_aI (pc := 235) dX12_step_235 (aI_mono (fun x43 H => ?_) H)
              refine T_invS (pc := 236) (av := [jI x41, jI x43]) (rest := []) dX12_step_236 mf_X12_sign c_6_83 c_6_84 rfl (Nat.le_of_ble_eq_true rfl) rfl (iI_k (iI_mono (fun x44 h u H => ?_) H))
              exact T_ireturn (pc := 239) rfl rfl dX12_step_239 H
          · rw [if_pos hc] at H
            exact T.forget (E_X12_step_115 H) ⟨rfl, rfl, rfl, rfl, rfl, trivial⟩
  · rw [if_pos hc] at H
    refine T_aload_n (pc := 28) dX12_step_28 rfl rfl ?_
    refine T_dup (pc := 29) rfl dX12_step_29 ?_
    refine T_gI (pc := 30) fa_X12_271 dX12_step_30 (gI_mono (fun x45 H => ?_) H)
    refine T_iconst (pc := 33) (v := 1) dX12_step_33 (by decide) ?_
    refine T_isub (pc := 34) dX12_step_34 ?_
    refine T_pV (pc := 35) fa_X12_271 dX12_step_35 trivial (pV_mono (fun h H => ?_) H)
    refine T_iconst (pc := 38) (v := 0) dX12_step_38 (by decide) ?_
    exact T_ireturn (pc := 39) rfl rfl dX12_step_39 H
theorem I_X12_step {d : Nat} {v0 : Option Nm} {h : MH} {u : Nat} {K : Int32 → MH → Nat → Prop} (u1 : Nat) (hu : u1 ≤ u) (H : F_X12_step d v0 h u1 (fun x h2 => K x h2 (u - u1))) : iI (d + 1) u_X12_step [jR v0] h u K := inv.of u1 hu (Ct.of (by decide +kernel) rfl (Nat.le_of_ble_eq_true rfl) rfl (E_X12_step H))
