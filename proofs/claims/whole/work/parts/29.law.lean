theorem dL_law_0 : decode cL_law 0 = .ok (.new 7, 3) := by decide +kernel
theorem dL_law_3 : decode cL_law 3 = .ok (.dup, 1) := by decide +kernel
theorem dL_law_4 : decode cL_law 4 = .ok (.invokespecial 9, 3) := by decide +kernel
theorem dL_law_7 : decode cL_law 7 = .ok (.astore_n 1, 1) := by decide +kernel
theorem dL_law_8 : decode cL_law 8 = .ok (.new 10, 3) := by decide +kernel
theorem dL_law_11 : decode cL_law 11 = .ok (.dup, 1) := by decide +kernel
theorem dL_law_12 : decode cL_law 12 = .ok (.invokespecial 12, 3) := by decide +kernel
theorem dL_law_15 : decode cL_law 15 = .ok (.astore_n 2, 1) := by decide +kernel
theorem dL_law_16 : decode cL_law 16 = .ok (.iconst 0, 1) := by decide +kernel
theorem dL_law_17 : decode cL_law 17 = .ok (.istore_n 3, 1) := by decide +kernel
theorem dL_law_18 : decode cL_law 18 = .ok (.iload_n 3, 1) := by decide +kernel
theorem dL_law_19 : decode cL_law 19 = .ok (.aload_n 0, 1) := by decide +kernel
theorem dL_law_20 : decode cL_law 20 = .ok (.arraylength, 1) := by decide +kernel
theorem dL_law_21 : decode cL_law 21 = .ok (.bipush 6, 2) := by decide +kernel
theorem dL_law_23 : decode cL_law 23 = .ok (.isub, 1) := by decide +kernel
theorem dL_law_24 : decode cL_law 24 = .ok (.if_icmp .gt 1353, 3) := by decide +kernel
theorem dL_law_27 : decode cL_law 27 = .ok (.aload_n 0, 1) := by decide +kernel
theorem dL_law_28 : decode cL_law 28 = .ok (.iload_n 3, 1) := by decide +kernel
theorem dL_law_29 : decode cL_law 29 = .ok (.iaload, 1) := by decide +kernel
theorem dL_law_30 : decode cL_law 30 = .ok (.bipush 63, 2) := by decide +kernel
theorem dL_law_32 : decode cL_law 32 = .ok (.iand, 1) := by decide +kernel
theorem dL_law_33 : decode cL_law 33 = .ok (.tableswitch 1338 0 32 #[147, 180, 263, 307, 350, 383, 416, 479, 502, 525, 548, 591, 644, 693, 726, 799, 858, 881, 914, 948, 982, 1015, 1074, 1107, 1140, 1173, 1197, 1220, 1243, 1266, 1289, 1302, 1315], 147) := by decide +kernel
theorem dL_law_180 : decode cL_law 180 = .ok (.aload_n 1, 1) := by decide +kernel
theorem dL_law_181 : decode cL_law 181 = .ok (.aload_n 0, 1) := by decide +kernel
theorem dL_law_182 : decode cL_law 182 = .ok (.iload_n 3, 1) := by decide +kernel
theorem dL_law_183 : decode cL_law 183 = .ok (.iconst 1, 1) := by decide +kernel
theorem dL_law_184 : decode cL_law 184 = .ok (.iadd, 1) := by decide +kernel
theorem dL_law_185 : decode cL_law 185 = .ok (.iaload, 1) := by decide +kernel
theorem dL_law_186 : decode cL_law 186 = .ok (.aload_n 0, 1) := by decide +kernel
theorem dL_law_187 : decode cL_law 187 = .ok (.iload_n 3, 1) := by decide +kernel
theorem dL_law_188 : decode cL_law 188 = .ok (.iconst 2, 1) := by decide +kernel
theorem dL_law_189 : decode cL_law 189 = .ok (.iadd, 1) := by decide +kernel
theorem dL_law_190 : decode cL_law 190 = .ok (.iaload, 1) := by decide +kernel
theorem dL_law_191 : decode cL_law 191 = .ok (.invokevirtual 13, 3) := by decide +kernel
theorem dL_law_194 : decode cL_law 194 = .ok (.aload_n 2, 1) := by decide +kernel
theorem dL_law_195 : decode cL_law 195 = .ok (.aload_n 0, 1) := by decide +kernel
theorem dL_law_196 : decode cL_law 196 = .ok (.iload_n 3, 1) := by decide +kernel
theorem dL_law_197 : decode cL_law 197 = .ok (.iconst 1, 1) := by decide +kernel
theorem dL_law_198 : decode cL_law 198 = .ok (.iadd, 1) := by decide +kernel
theorem dL_law_199 : decode cL_law 199 = .ok (.iaload, 1) := by decide +kernel
theorem dL_law_200 : decode cL_law 200 = .ok (.aload_n 0, 1) := by decide +kernel
theorem dL_law_201 : decode cL_law 201 = .ok (.iload_n 3, 1) := by decide +kernel
theorem dL_law_202 : decode cL_law 202 = .ok (.iconst 2, 1) := by decide +kernel
theorem dL_law_203 : decode cL_law 203 = .ok (.iadd, 1) := by decide +kernel
theorem dL_law_204 : decode cL_law 204 = .ok (.iaload, 1) := by decide +kernel
theorem dL_law_205 : decode cL_law 205 = .ok (.invokevirtual 17, 3) := by decide +kernel
theorem dL_law_208 : decode cL_law 208 = .ok (.if_icmp .eq 1163, 3) := by decide +kernel
theorem dL_law_211 : decode cL_law 211 = .ok (.iconst 0, 1) := by decide +kernel
theorem dL_law_212 : decode cL_law 212 = .ok (.ireturn, 1) := by decide +kernel
theorem dL_law_213 : decode cL_law 213 = .ok (.aload_n 1, 1) := by decide +kernel
theorem dL_law_214 : decode cL_law 214 = .ok (.aload_n 0, 1) := by decide +kernel
theorem dL_law_215 : decode cL_law 215 = .ok (.iload_n 3, 1) := by decide +kernel
theorem dL_law_216 : decode cL_law 216 = .ok (.iconst 1, 1) := by decide +kernel
theorem dL_law_217 : decode cL_law 217 = .ok (.iadd, 1) := by decide +kernel
theorem dL_law_218 : decode cL_law 218 = .ok (.iaload, 1) := by decide +kernel
theorem dL_law_219 : decode cL_law 219 = .ok (.aload_n 0, 1) := by decide +kernel
theorem dL_law_220 : decode cL_law 220 = .ok (.iload_n 3, 1) := by decide +kernel
theorem dL_law_221 : decode cL_law 221 = .ok (.iconst 2, 1) := by decide +kernel
theorem dL_law_222 : decode cL_law 222 = .ok (.iadd, 1) := by decide +kernel
theorem dL_law_223 : decode cL_law 223 = .ok (.iaload, 1) := by decide +kernel
theorem dL_law_224 : decode cL_law 224 = .ok (.aload_n 0, 1) := by decide +kernel
theorem dL_law_225 : decode cL_law 225 = .ok (.iload_n 3, 1) := by decide +kernel
theorem dL_law_226 : decode cL_law 226 = .ok (.iconst 3, 1) := by decide +kernel
theorem dL_law_227 : decode cL_law 227 = .ok (.iadd, 1) := by decide +kernel
theorem dL_law_228 : decode cL_law 228 = .ok (.iaload, 1) := by decide +kernel
theorem dL_law_229 : decode cL_law 229 = .ok (.aload_n 0, 1) := by decide +kernel
theorem dL_law_230 : decode cL_law 230 = .ok (.iload_n 3, 1) := by decide +kernel
theorem dL_law_231 : decode cL_law 231 = .ok (.iconst 4, 1) := by decide +kernel
theorem dL_law_232 : decode cL_law 232 = .ok (.iadd, 1) := by decide +kernel
theorem dL_law_233 : decode cL_law 233 = .ok (.iaload, 1) := by decide +kernel
theorem dL_law_234 : decode cL_law 234 = .ok (.i2l, 1) := by decide +kernel
theorem dL_law_235 : decode cL_law 235 = .ok (.bipush 32, 2) := by decide +kernel
theorem dL_law_237 : decode cL_law 237 = .ok (.lshl, 1) := by decide +kernel
theorem dL_law_238 : decode cL_law 238 = .ok (.aload_n 0, 1) := by decide +kernel
theorem dL_law_239 : decode cL_law 239 = .ok (.iload_n 3, 1) := by decide +kernel
theorem dL_law_240 : decode cL_law 240 = .ok (.iconst 5, 1) := by decide +kernel
theorem dL_law_241 : decode cL_law 241 = .ok (.iadd, 1) := by decide +kernel
theorem dL_law_242 : decode cL_law 242 = .ok (.iaload, 1) := by decide +kernel
theorem dL_law_243 : decode cL_law 243 = .ok (.i2l, 1) := by decide +kernel
theorem dL_law_244 : decode cL_law 244 = .ok (.ldc2_w 18, 3) := by decide +kernel
theorem dL_law_247 : decode cL_law 247 = .ok (.land, 1) := by decide +kernel
theorem dL_law_248 : decode cL_law 248 = .ok (.lor, 1) := by decide +kernel
theorem dL_law_249 : decode cL_law 249 = .ok (.invokevirtual 20, 3) := by decide +kernel
theorem dL_law_252 : decode cL_law 252 = .ok (.aload_n 2, 1) := by decide +kernel
theorem dL_law_253 : decode cL_law 253 = .ok (.aload_n 0, 1) := by decide +kernel
theorem dL_law_254 : decode cL_law 254 = .ok (.iload_n 3, 1) := by decide +kernel
theorem dL_law_255 : decode cL_law 255 = .ok (.iconst 1, 1) := by decide +kernel
theorem dL_law_256 : decode cL_law 256 = .ok (.iadd, 1) := by decide +kernel
theorem dL_law_257 : decode cL_law 257 = .ok (.iaload, 1) := by decide +kernel
theorem dL_law_258 : decode cL_law 258 = .ok (.aload_n 0, 1) := by decide +kernel
theorem dL_law_259 : decode cL_law 259 = .ok (.iload_n 3, 1) := by decide +kernel
theorem dL_law_260 : decode cL_law 260 = .ok (.iconst 2, 1) := by decide +kernel
theorem dL_law_261 : decode cL_law 261 = .ok (.iadd, 1) := by decide +kernel
theorem dL_law_262 : decode cL_law 262 = .ok (.iaload, 1) := by decide +kernel
theorem dL_law_263 : decode cL_law 263 = .ok (.aload_n 0, 1) := by decide +kernel
theorem dL_law_264 : decode cL_law 264 = .ok (.iload_n 3, 1) := by decide +kernel
theorem dL_law_265 : decode cL_law 265 = .ok (.iconst 3, 1) := by decide +kernel
theorem dL_law_266 : decode cL_law 266 = .ok (.iadd, 1) := by decide +kernel
theorem dL_law_267 : decode cL_law 267 = .ok (.iaload, 1) := by decide +kernel
theorem dL_law_268 : decode cL_law 268 = .ok (.aload_n 0, 1) := by decide +kernel
theorem dL_law_269 : decode cL_law 269 = .ok (.iload_n 3, 1) := by decide +kernel
theorem dL_law_270 : decode cL_law 270 = .ok (.iconst 4, 1) := by decide +kernel
theorem dL_law_271 : decode cL_law 271 = .ok (.iadd, 1) := by decide +kernel
theorem dL_law_272 : decode cL_law 272 = .ok (.iaload, 1) := by decide +kernel
theorem dL_law_273 : decode cL_law 273 = .ok (.i2l, 1) := by decide +kernel
theorem dL_law_274 : decode cL_law 274 = .ok (.bipush 32, 2) := by decide +kernel
theorem dL_law_276 : decode cL_law 276 = .ok (.lshl, 1) := by decide +kernel
theorem dL_law_277 : decode cL_law 277 = .ok (.aload_n 0, 1) := by decide +kernel
theorem dL_law_278 : decode cL_law 278 = .ok (.iload_n 3, 1) := by decide +kernel
theorem dL_law_279 : decode cL_law 279 = .ok (.iconst 5, 1) := by decide +kernel
theorem dL_law_280 : decode cL_law 280 = .ok (.iadd, 1) := by decide +kernel
theorem dL_law_281 : decode cL_law 281 = .ok (.iaload, 1) := by decide +kernel
theorem dL_law_282 : decode cL_law 282 = .ok (.i2l, 1) := by decide +kernel
theorem dL_law_283 : decode cL_law 283 = .ok (.ldc2_w 18, 3) := by decide +kernel
theorem dL_law_286 : decode cL_law 286 = .ok (.land, 1) := by decide +kernel
theorem dL_law_287 : decode cL_law 287 = .ok (.lor, 1) := by decide +kernel
theorem dL_law_288 : decode cL_law 288 = .ok (.invokevirtual 24, 3) := by decide +kernel
theorem dL_law_291 : decode cL_law 291 = .ok (.if_icmp .eq 1080, 3) := by decide +kernel
theorem dL_law_294 : decode cL_law 294 = .ok (.iconst 0, 1) := by decide +kernel
theorem dL_law_295 : decode cL_law 295 = .ok (.ireturn, 1) := by decide +kernel
theorem dL_law_296 : decode cL_law 296 = .ok (.aload_n 1, 1) := by decide +kernel
theorem dL_law_297 : decode cL_law 297 = .ok (.aload_n 0, 1) := by decide +kernel
theorem dL_law_298 : decode cL_law 298 = .ok (.iload_n 3, 1) := by decide +kernel
theorem dL_law_299 : decode cL_law 299 = .ok (.iconst 1, 1) := by decide +kernel
theorem dL_law_300 : decode cL_law 300 = .ok (.iadd, 1) := by decide +kernel
theorem dL_law_301 : decode cL_law 301 = .ok (.iaload, 1) := by decide +kernel
theorem dL_law_302 : decode cL_law 302 = .ok (.aload_n 0, 1) := by decide +kernel
theorem dL_law_303 : decode cL_law 303 = .ok (.iload_n 3, 1) := by decide +kernel
theorem dL_law_304 : decode cL_law 304 = .ok (.iconst 2, 1) := by decide +kernel
theorem dL_law_305 : decode cL_law 305 = .ok (.iadd, 1) := by decide +kernel
theorem dL_law_306 : decode cL_law 306 = .ok (.iaload, 1) := by decide +kernel
theorem dL_law_307 : decode cL_law 307 = .ok (.aload_n 0, 1) := by decide +kernel
theorem dL_law_308 : decode cL_law 308 = .ok (.iload_n 3, 1) := by decide +kernel
theorem dL_law_309 : decode cL_law 309 = .ok (.iconst 3, 1) := by decide +kernel
theorem dL_law_310 : decode cL_law 310 = .ok (.iadd, 1) := by decide +kernel
theorem dL_law_311 : decode cL_law 311 = .ok (.iaload, 1) := by decide +kernel
theorem dL_law_312 : decode cL_law 312 = .ok (.invokevirtual 25, 3) := by decide +kernel
theorem dL_law_315 : decode cL_law 315 = .ok (.aload_n 2, 1) := by decide +kernel
theorem dL_law_316 : decode cL_law 316 = .ok (.aload_n 0, 1) := by decide +kernel
theorem dL_law_317 : decode cL_law 317 = .ok (.iload_n 3, 1) := by decide +kernel
theorem dL_law_318 : decode cL_law 318 = .ok (.iconst 1, 1) := by decide +kernel
theorem dL_law_319 : decode cL_law 319 = .ok (.iadd, 1) := by decide +kernel
theorem dL_law_320 : decode cL_law 320 = .ok (.iaload, 1) := by decide +kernel
theorem dL_law_321 : decode cL_law 321 = .ok (.aload_n 0, 1) := by decide +kernel
theorem dL_law_322 : decode cL_law 322 = .ok (.iload_n 3, 1) := by decide +kernel
theorem dL_law_323 : decode cL_law 323 = .ok (.iconst 2, 1) := by decide +kernel
theorem dL_law_324 : decode cL_law 324 = .ok (.iadd, 1) := by decide +kernel
theorem dL_law_325 : decode cL_law 325 = .ok (.iaload, 1) := by decide +kernel
theorem dL_law_326 : decode cL_law 326 = .ok (.aload_n 0, 1) := by decide +kernel
theorem dL_law_327 : decode cL_law 327 = .ok (.iload_n 3, 1) := by decide +kernel
theorem dL_law_328 : decode cL_law 328 = .ok (.iconst 3, 1) := by decide +kernel
theorem dL_law_329 : decode cL_law 329 = .ok (.iadd, 1) := by decide +kernel
theorem dL_law_330 : decode cL_law 330 = .ok (.iaload, 1) := by decide +kernel
theorem dL_law_331 : decode cL_law 331 = .ok (.invokevirtual 29, 3) := by decide +kernel
theorem dL_law_334 : decode cL_law 334 = .ok (.lcmp, 1) := by decide +kernel
theorem dL_law_335 : decode cL_law 335 = .ok (.ifCond .eq 1036, 3) := by decide +kernel
theorem dL_law_338 : decode cL_law 338 = .ok (.iconst 0, 1) := by decide +kernel
theorem dL_law_339 : decode cL_law 339 = .ok (.ireturn, 1) := by decide +kernel
theorem dL_law_340 : decode cL_law 340 = .ok (.aload_n 1, 1) := by decide +kernel
theorem dL_law_341 : decode cL_law 341 = .ok (.aload_n 0, 1) := by decide +kernel
theorem dL_law_342 : decode cL_law 342 = .ok (.iload_n 3, 1) := by decide +kernel
theorem dL_law_343 : decode cL_law 343 = .ok (.iconst 1, 1) := by decide +kernel
theorem dL_law_344 : decode cL_law 344 = .ok (.iadd, 1) := by decide +kernel
theorem dL_law_345 : decode cL_law 345 = .ok (.iaload, 1) := by decide +kernel
theorem dL_law_346 : decode cL_law 346 = .ok (.aload_n 0, 1) := by decide +kernel
theorem dL_law_347 : decode cL_law 347 = .ok (.iload_n 3, 1) := by decide +kernel
theorem dL_law_348 : decode cL_law 348 = .ok (.iconst 2, 1) := by decide +kernel
theorem dL_law_349 : decode cL_law 349 = .ok (.iadd, 1) := by decide +kernel
theorem dL_law_350 : decode cL_law 350 = .ok (.iaload, 1) := by decide +kernel
theorem dL_law_351 : decode cL_law 351 = .ok (.aload_n 0, 1) := by decide +kernel
theorem dL_law_352 : decode cL_law 352 = .ok (.iload_n 3, 1) := by decide +kernel
theorem dL_law_353 : decode cL_law 353 = .ok (.iconst 3, 1) := by decide +kernel
theorem dL_law_354 : decode cL_law 354 = .ok (.iadd, 1) := by decide +kernel
theorem dL_law_355 : decode cL_law 355 = .ok (.iaload, 1) := by decide +kernel
theorem dL_law_356 : decode cL_law 356 = .ok (.invokevirtual 30, 3) := by decide +kernel
theorem dL_law_359 : decode cL_law 359 = .ok (.aload_n 2, 1) := by decide +kernel
theorem dL_law_360 : decode cL_law 360 = .ok (.aload_n 0, 1) := by decide +kernel
theorem dL_law_361 : decode cL_law 361 = .ok (.iload_n 3, 1) := by decide +kernel
theorem dL_law_362 : decode cL_law 362 = .ok (.iconst 1, 1) := by decide +kernel
theorem dL_law_363 : decode cL_law 363 = .ok (.iadd, 1) := by decide +kernel
theorem dL_law_364 : decode cL_law 364 = .ok (.iaload, 1) := by decide +kernel
theorem dL_law_365 : decode cL_law 365 = .ok (.aload_n 0, 1) := by decide +kernel
theorem dL_law_366 : decode cL_law 366 = .ok (.iload_n 3, 1) := by decide +kernel
theorem dL_law_367 : decode cL_law 367 = .ok (.iconst 2, 1) := by decide +kernel
theorem dL_law_368 : decode cL_law 368 = .ok (.iadd, 1) := by decide +kernel
theorem dL_law_369 : decode cL_law 369 = .ok (.iaload, 1) := by decide +kernel
theorem dL_law_370 : decode cL_law 370 = .ok (.aload_n 0, 1) := by decide +kernel
theorem dL_law_371 : decode cL_law 371 = .ok (.iload_n 3, 1) := by decide +kernel
theorem dL_law_372 : decode cL_law 372 = .ok (.iconst 3, 1) := by decide +kernel
theorem dL_law_373 : decode cL_law 373 = .ok (.iadd, 1) := by decide +kernel
theorem dL_law_374 : decode cL_law 374 = .ok (.iaload, 1) := by decide +kernel
theorem dL_law_375 : decode cL_law 375 = .ok (.invokevirtual 34, 3) := by decide +kernel
theorem dL_law_378 : decode cL_law 378 = .ok (.if_icmp .eq 993, 3) := by decide +kernel
theorem dL_law_381 : decode cL_law 381 = .ok (.iconst 0, 1) := by decide +kernel
theorem dL_law_382 : decode cL_law 382 = .ok (.ireturn, 1) := by decide +kernel
theorem dL_law_383 : decode cL_law 383 = .ok (.aload_n 1, 1) := by decide +kernel
theorem dL_law_384 : decode cL_law 384 = .ok (.aload_n 0, 1) := by decide +kernel
theorem dL_law_385 : decode cL_law 385 = .ok (.iload_n 3, 1) := by decide +kernel
theorem dL_law_386 : decode cL_law 386 = .ok (.iconst 1, 1) := by decide +kernel
theorem dL_law_387 : decode cL_law 387 = .ok (.iadd, 1) := by decide +kernel
theorem dL_law_388 : decode cL_law 388 = .ok (.iaload, 1) := by decide +kernel
theorem dL_law_389 : decode cL_law 389 = .ok (.aload_n 0, 1) := by decide +kernel
theorem dL_law_390 : decode cL_law 390 = .ok (.iload_n 3, 1) := by decide +kernel
theorem dL_law_391 : decode cL_law 391 = .ok (.iconst 2, 1) := by decide +kernel
theorem dL_law_392 : decode cL_law 392 = .ok (.iadd, 1) := by decide +kernel
theorem dL_law_393 : decode cL_law 393 = .ok (.iaload, 1) := by decide +kernel
theorem dL_law_394 : decode cL_law 394 = .ok (.invokevirtual 35, 3) := by decide +kernel
theorem dL_law_397 : decode cL_law 397 = .ok (.aload_n 2, 1) := by decide +kernel
theorem dL_law_398 : decode cL_law 398 = .ok (.aload_n 0, 1) := by decide +kernel
theorem dL_law_399 : decode cL_law 399 = .ok (.iload_n 3, 1) := by decide +kernel
theorem dL_law_400 : decode cL_law 400 = .ok (.iconst 1, 1) := by decide +kernel
theorem dL_law_401 : decode cL_law 401 = .ok (.iadd, 1) := by decide +kernel
theorem dL_law_402 : decode cL_law 402 = .ok (.iaload, 1) := by decide +kernel
theorem dL_law_403 : decode cL_law 403 = .ok (.aload_n 0, 1) := by decide +kernel
theorem dL_law_404 : decode cL_law 404 = .ok (.iload_n 3, 1) := by decide +kernel
theorem dL_law_405 : decode cL_law 405 = .ok (.iconst 2, 1) := by decide +kernel
theorem dL_law_406 : decode cL_law 406 = .ok (.iadd, 1) := by decide +kernel
theorem dL_law_407 : decode cL_law 407 = .ok (.iaload, 1) := by decide +kernel
theorem dL_law_408 : decode cL_law 408 = .ok (.invokevirtual 38, 3) := by decide +kernel
theorem dL_law_411 : decode cL_law 411 = .ok (.if_icmp .eq 960, 3) := by decide +kernel
theorem dL_law_414 : decode cL_law 414 = .ok (.iconst 0, 1) := by decide +kernel
theorem dL_law_415 : decode cL_law 415 = .ok (.ireturn, 1) := by decide +kernel
theorem dL_law_416 : decode cL_law 416 = .ok (.aload_n 1, 1) := by decide +kernel
theorem dL_law_417 : decode cL_law 417 = .ok (.aload_n 0, 1) := by decide +kernel
theorem dL_law_418 : decode cL_law 418 = .ok (.iload_n 3, 1) := by decide +kernel
theorem dL_law_419 : decode cL_law 419 = .ok (.iconst 1, 1) := by decide +kernel
theorem dL_law_420 : decode cL_law 420 = .ok (.iadd, 1) := by decide +kernel
theorem dL_law_421 : decode cL_law 421 = .ok (.iaload, 1) := by decide +kernel
theorem dL_law_422 : decode cL_law 422 = .ok (.aload_n 0, 1) := by decide +kernel
theorem dL_law_423 : decode cL_law 423 = .ok (.iload_n 3, 1) := by decide +kernel
theorem dL_law_424 : decode cL_law 424 = .ok (.iconst 2, 1) := by decide +kernel
theorem dL_law_425 : decode cL_law 425 = .ok (.iadd, 1) := by decide +kernel
theorem dL_law_426 : decode cL_law 426 = .ok (.iaload, 1) := by decide +kernel
theorem dL_law_427 : decode cL_law 427 = .ok (.invokevirtual 39, 3) := by decide +kernel
theorem dL_law_430 : decode cL_law 430 = .ok (.aload_n 2, 1) := by decide +kernel
theorem dL_law_431 : decode cL_law 431 = .ok (.aload_n 0, 1) := by decide +kernel
theorem dL_law_432 : decode cL_law 432 = .ok (.iload_n 3, 1) := by decide +kernel
theorem dL_law_433 : decode cL_law 433 = .ok (.iconst 1, 1) := by decide +kernel
theorem dL_law_434 : decode cL_law 434 = .ok (.iadd, 1) := by decide +kernel
theorem dL_law_435 : decode cL_law 435 = .ok (.iaload, 1) := by decide +kernel
theorem dL_law_436 : decode cL_law 436 = .ok (.aload_n 0, 1) := by decide +kernel
theorem dL_law_437 : decode cL_law 437 = .ok (.iload_n 3, 1) := by decide +kernel
theorem dL_law_438 : decode cL_law 438 = .ok (.iconst 2, 1) := by decide +kernel
theorem dL_law_439 : decode cL_law 439 = .ok (.iadd, 1) := by decide +kernel
theorem dL_law_440 : decode cL_law 440 = .ok (.iaload, 1) := by decide +kernel
theorem dL_law_441 : decode cL_law 441 = .ok (.invokevirtual 42, 3) := by decide +kernel
theorem dL_law_444 : decode cL_law 444 = .ok (.if_icmp .eq 927, 3) := by decide +kernel
theorem dL_law_447 : decode cL_law 447 = .ok (.iconst 0, 1) := by decide +kernel
theorem dL_law_448 : decode cL_law 448 = .ok (.ireturn, 1) := by decide +kernel
theorem dL_law_449 : decode cL_law 449 = .ok (.aload_n 1, 1) := by decide +kernel
theorem dL_law_450 : decode cL_law 450 = .ok (.aload_n 0, 1) := by decide +kernel
theorem dL_law_451 : decode cL_law 451 = .ok (.iload_n 3, 1) := by decide +kernel
theorem dL_law_452 : decode cL_law 452 = .ok (.iconst 1, 1) := by decide +kernel
theorem dL_law_453 : decode cL_law 453 = .ok (.iadd, 1) := by decide +kernel
theorem dL_law_454 : decode cL_law 454 = .ok (.iaload, 1) := by decide +kernel
theorem dL_law_455 : decode cL_law 455 = .ok (.aload_n 0, 1) := by decide +kernel
theorem dL_law_456 : decode cL_law 456 = .ok (.iload_n 3, 1) := by decide +kernel
theorem dL_law_457 : decode cL_law 457 = .ok (.iconst 2, 1) := by decide +kernel
theorem dL_law_458 : decode cL_law 458 = .ok (.iadd, 1) := by decide +kernel
theorem dL_law_459 : decode cL_law 459 = .ok (.iaload, 1) := by decide +kernel
theorem dL_law_460 : decode cL_law 460 = .ok (.aload_n 0, 1) := by decide +kernel
theorem dL_law_461 : decode cL_law 461 = .ok (.iload_n 3, 1) := by decide +kernel
theorem dL_law_462 : decode cL_law 462 = .ok (.iconst 3, 1) := by decide +kernel
theorem dL_law_463 : decode cL_law 463 = .ok (.iadd, 1) := by decide +kernel
theorem dL_law_464 : decode cL_law 464 = .ok (.iaload, 1) := by decide +kernel
theorem dL_law_465 : decode cL_law 465 = .ok (.aload_n 0, 1) := by decide +kernel
theorem dL_law_466 : decode cL_law 466 = .ok (.iload_n 3, 1) := by decide +kernel
theorem dL_law_467 : decode cL_law 467 = .ok (.iconst 4, 1) := by decide +kernel
theorem dL_law_468 : decode cL_law 468 = .ok (.iadd, 1) := by decide +kernel
theorem dL_law_469 : decode cL_law 469 = .ok (.iaload, 1) := by decide +kernel
theorem dL_law_470 : decode cL_law 470 = .ok (.aload_n 0, 1) := by decide +kernel
theorem dL_law_471 : decode cL_law 471 = .ok (.iload_n 3, 1) := by decide +kernel
theorem dL_law_472 : decode cL_law 472 = .ok (.iconst 5, 1) := by decide +kernel
theorem dL_law_473 : decode cL_law 473 = .ok (.iadd, 1) := by decide +kernel
theorem dL_law_474 : decode cL_law 474 = .ok (.iaload, 1) := by decide +kernel
theorem dL_law_475 : decode cL_law 475 = .ok (.invokevirtual 43, 3) := by decide +kernel
theorem dL_law_478 : decode cL_law 478 = .ok (.aload_n 2, 1) := by decide +kernel
theorem dL_law_479 : decode cL_law 479 = .ok (.aload_n 0, 1) := by decide +kernel
theorem dL_law_480 : decode cL_law 480 = .ok (.iload_n 3, 1) := by decide +kernel
theorem dL_law_481 : decode cL_law 481 = .ok (.iconst 1, 1) := by decide +kernel
theorem dL_law_482 : decode cL_law 482 = .ok (.iadd, 1) := by decide +kernel
theorem dL_law_483 : decode cL_law 483 = .ok (.iaload, 1) := by decide +kernel
theorem dL_law_484 : decode cL_law 484 = .ok (.aload_n 0, 1) := by decide +kernel
theorem dL_law_485 : decode cL_law 485 = .ok (.iload_n 3, 1) := by decide +kernel
theorem dL_law_486 : decode cL_law 486 = .ok (.iconst 2, 1) := by decide +kernel
theorem dL_law_487 : decode cL_law 487 = .ok (.iadd, 1) := by decide +kernel
theorem dL_law_488 : decode cL_law 488 = .ok (.iaload, 1) := by decide +kernel
theorem dL_law_489 : decode cL_law 489 = .ok (.aload_n 0, 1) := by decide +kernel
theorem dL_law_490 : decode cL_law 490 = .ok (.iload_n 3, 1) := by decide +kernel
theorem dL_law_491 : decode cL_law 491 = .ok (.iconst 3, 1) := by decide +kernel
theorem dL_law_492 : decode cL_law 492 = .ok (.iadd, 1) := by decide +kernel
theorem dL_law_493 : decode cL_law 493 = .ok (.iaload, 1) := by decide +kernel
theorem dL_law_494 : decode cL_law 494 = .ok (.aload_n 0, 1) := by decide +kernel
theorem dL_law_495 : decode cL_law 495 = .ok (.iload_n 3, 1) := by decide +kernel
theorem dL_law_496 : decode cL_law 496 = .ok (.iconst 4, 1) := by decide +kernel
theorem dL_law_497 : decode cL_law 497 = .ok (.iadd, 1) := by decide +kernel
theorem dL_law_498 : decode cL_law 498 = .ok (.iaload, 1) := by decide +kernel
theorem dL_law_499 : decode cL_law 499 = .ok (.aload_n 0, 1) := by decide +kernel
theorem dL_law_500 : decode cL_law 500 = .ok (.iload_n 3, 1) := by decide +kernel
theorem dL_law_501 : decode cL_law 501 = .ok (.iconst 5, 1) := by decide +kernel
theorem dL_law_502 : decode cL_law 502 = .ok (.iadd, 1) := by decide +kernel
theorem dL_law_503 : decode cL_law 503 = .ok (.iaload, 1) := by decide +kernel
theorem dL_law_504 : decode cL_law 504 = .ok (.invokevirtual 47, 3) := by decide +kernel
theorem dL_law_507 : decode cL_law 507 = .ok (.if_icmp .eq 864, 3) := by decide +kernel
theorem dL_law_510 : decode cL_law 510 = .ok (.iconst 0, 1) := by decide +kernel
theorem dL_law_511 : decode cL_law 511 = .ok (.ireturn, 1) := by decide +kernel
theorem dL_law_512 : decode cL_law 512 = .ok (.aload_n 1, 1) := by decide +kernel
theorem dL_law_513 : decode cL_law 513 = .ok (.aload_n 0, 1) := by decide +kernel
theorem dL_law_514 : decode cL_law 514 = .ok (.iload_n 3, 1) := by decide +kernel
theorem dL_law_515 : decode cL_law 515 = .ok (.iconst 1, 1) := by decide +kernel
theorem dL_law_516 : decode cL_law 516 = .ok (.iadd, 1) := by decide +kernel
theorem dL_law_517 : decode cL_law 517 = .ok (.iaload, 1) := by decide +kernel
theorem dL_law_518 : decode cL_law 518 = .ok (.invokevirtual 48, 3) := by decide +kernel
theorem dL_law_521 : decode cL_law 521 = .ok (.aload_n 2, 1) := by decide +kernel
theorem dL_law_522 : decode cL_law 522 = .ok (.aload_n 0, 1) := by decide +kernel
theorem dL_law_523 : decode cL_law 523 = .ok (.iload_n 3, 1) := by decide +kernel
theorem dL_law_524 : decode cL_law 524 = .ok (.iconst 1, 1) := by decide +kernel
theorem dL_law_525 : decode cL_law 525 = .ok (.iadd, 1) := by decide +kernel
theorem dL_law_526 : decode cL_law 526 = .ok (.iaload, 1) := by decide +kernel
theorem dL_law_527 : decode cL_law 527 = .ok (.invokevirtual 52, 3) := by decide +kernel
theorem dL_law_530 : decode cL_law 530 = .ok (.if_icmp .eq 841, 3) := by decide +kernel
theorem dL_law_533 : decode cL_law 533 = .ok (.iconst 0, 1) := by decide +kernel
theorem dL_law_534 : decode cL_law 534 = .ok (.ireturn, 1) := by decide +kernel
theorem dL_law_535 : decode cL_law 535 = .ok (.aload_n 1, 1) := by decide +kernel
theorem dL_law_536 : decode cL_law 536 = .ok (.aload_n 0, 1) := by decide +kernel
theorem dL_law_537 : decode cL_law 537 = .ok (.iload_n 3, 1) := by decide +kernel
theorem dL_law_538 : decode cL_law 538 = .ok (.iconst 1, 1) := by decide +kernel
theorem dL_law_539 : decode cL_law 539 = .ok (.iadd, 1) := by decide +kernel
theorem dL_law_540 : decode cL_law 540 = .ok (.iaload, 1) := by decide +kernel
theorem dL_law_541 : decode cL_law 541 = .ok (.invokevirtual 53, 3) := by decide +kernel
theorem dL_law_544 : decode cL_law 544 = .ok (.aload_n 2, 1) := by decide +kernel
theorem dL_law_545 : decode cL_law 545 = .ok (.aload_n 0, 1) := by decide +kernel
theorem dL_law_546 : decode cL_law 546 = .ok (.iload_n 3, 1) := by decide +kernel
theorem dL_law_547 : decode cL_law 547 = .ok (.iconst 1, 1) := by decide +kernel
theorem dL_law_548 : decode cL_law 548 = .ok (.iadd, 1) := by decide +kernel
theorem dL_law_549 : decode cL_law 549 = .ok (.iaload, 1) := by decide +kernel
theorem dL_law_550 : decode cL_law 550 = .ok (.invokevirtual 56, 3) := by decide +kernel
theorem dL_law_553 : decode cL_law 553 = .ok (.if_icmp .eq 818, 3) := by decide +kernel
theorem dL_law_556 : decode cL_law 556 = .ok (.iconst 0, 1) := by decide +kernel
theorem dL_law_557 : decode cL_law 557 = .ok (.ireturn, 1) := by decide +kernel
theorem dL_law_558 : decode cL_law 558 = .ok (.aload_n 1, 1) := by decide +kernel
theorem dL_law_559 : decode cL_law 559 = .ok (.aload_n 0, 1) := by decide +kernel
theorem dL_law_560 : decode cL_law 560 = .ok (.iload_n 3, 1) := by decide +kernel
theorem dL_law_561 : decode cL_law 561 = .ok (.iconst 1, 1) := by decide +kernel
theorem dL_law_562 : decode cL_law 562 = .ok (.iadd, 1) := by decide +kernel
theorem dL_law_563 : decode cL_law 563 = .ok (.iaload, 1) := by decide +kernel
theorem dL_law_564 : decode cL_law 564 = .ok (.invokevirtual 57, 3) := by decide +kernel
theorem dL_law_567 : decode cL_law 567 = .ok (.aload_n 2, 1) := by decide +kernel
theorem dL_law_568 : decode cL_law 568 = .ok (.aload_n 0, 1) := by decide +kernel
theorem dL_law_569 : decode cL_law 569 = .ok (.iload_n 3, 1) := by decide +kernel
theorem dL_law_570 : decode cL_law 570 = .ok (.iconst 1, 1) := by decide +kernel
theorem dL_law_571 : decode cL_law 571 = .ok (.iadd, 1) := by decide +kernel
theorem dL_law_572 : decode cL_law 572 = .ok (.iaload, 1) := by decide +kernel
theorem dL_law_573 : decode cL_law 573 = .ok (.invokevirtual 60, 3) := by decide +kernel
theorem dL_law_576 : decode cL_law 576 = .ok (.if_icmp .eq 795, 3) := by decide +kernel
theorem dL_law_579 : decode cL_law 579 = .ok (.iconst 0, 1) := by decide +kernel
theorem dL_law_580 : decode cL_law 580 = .ok (.ireturn, 1) := by decide +kernel
theorem dL_law_581 : decode cL_law 581 = .ok (.aload_n 1, 1) := by decide +kernel
theorem dL_law_582 : decode cL_law 582 = .ok (.aload_n 0, 1) := by decide +kernel
theorem dL_law_583 : decode cL_law 583 = .ok (.iload_n 3, 1) := by decide +kernel
theorem dL_law_584 : decode cL_law 584 = .ok (.iconst 1, 1) := by decide +kernel
theorem dL_law_585 : decode cL_law 585 = .ok (.iadd, 1) := by decide +kernel
theorem dL_law_586 : decode cL_law 586 = .ok (.iaload, 1) := by decide +kernel
theorem dL_law_587 : decode cL_law 587 = .ok (.aload_n 0, 1) := by decide +kernel
theorem dL_law_588 : decode cL_law 588 = .ok (.iload_n 3, 1) := by decide +kernel
theorem dL_law_589 : decode cL_law 589 = .ok (.iconst 2, 1) := by decide +kernel
theorem dL_law_590 : decode cL_law 590 = .ok (.iadd, 1) := by decide +kernel
theorem dL_law_591 : decode cL_law 591 = .ok (.iaload, 1) := by decide +kernel
theorem dL_law_592 : decode cL_law 592 = .ok (.aload_n 0, 1) := by decide +kernel
theorem dL_law_593 : decode cL_law 593 = .ok (.iload_n 3, 1) := by decide +kernel
theorem dL_law_594 : decode cL_law 594 = .ok (.iconst 3, 1) := by decide +kernel
theorem dL_law_595 : decode cL_law 595 = .ok (.iadd, 1) := by decide +kernel
theorem dL_law_596 : decode cL_law 596 = .ok (.iaload, 1) := by decide +kernel
theorem dL_law_597 : decode cL_law 597 = .ok (.invokevirtual 61, 3) := by decide +kernel
theorem dL_law_600 : decode cL_law 600 = .ok (.aload_n 2, 1) := by decide +kernel
theorem dL_law_601 : decode cL_law 601 = .ok (.aload_n 0, 1) := by decide +kernel
theorem dL_law_602 : decode cL_law 602 = .ok (.iload_n 3, 1) := by decide +kernel
theorem dL_law_603 : decode cL_law 603 = .ok (.iconst 1, 1) := by decide +kernel
theorem dL_law_604 : decode cL_law 604 = .ok (.iadd, 1) := by decide +kernel
theorem dL_law_605 : decode cL_law 605 = .ok (.iaload, 1) := by decide +kernel
theorem dL_law_606 : decode cL_law 606 = .ok (.aload_n 0, 1) := by decide +kernel
theorem dL_law_607 : decode cL_law 607 = .ok (.iload_n 3, 1) := by decide +kernel
theorem dL_law_608 : decode cL_law 608 = .ok (.iconst 2, 1) := by decide +kernel
theorem dL_law_609 : decode cL_law 609 = .ok (.iadd, 1) := by decide +kernel
theorem dL_law_610 : decode cL_law 610 = .ok (.iaload, 1) := by decide +kernel
theorem dL_law_611 : decode cL_law 611 = .ok (.aload_n 0, 1) := by decide +kernel
theorem dL_law_612 : decode cL_law 612 = .ok (.iload_n 3, 1) := by decide +kernel
theorem dL_law_613 : decode cL_law 613 = .ok (.iconst 3, 1) := by decide +kernel
theorem dL_law_614 : decode cL_law 614 = .ok (.iadd, 1) := by decide +kernel
theorem dL_law_615 : decode cL_law 615 = .ok (.iaload, 1) := by decide +kernel
theorem dL_law_616 : decode cL_law 616 = .ok (.invokevirtual 64, 3) := by decide +kernel
theorem dL_law_619 : decode cL_law 619 = .ok (.if_icmp .eq 752, 3) := by decide +kernel
theorem dL_law_622 : decode cL_law 622 = .ok (.iconst 0, 1) := by decide +kernel
theorem dL_law_623 : decode cL_law 623 = .ok (.ireturn, 1) := by decide +kernel
theorem dL_law_624 : decode cL_law 624 = .ok (.aload_n 1, 1) := by decide +kernel
theorem dL_law_625 : decode cL_law 625 = .ok (.aload_n 0, 1) := by decide +kernel
theorem dL_law_626 : decode cL_law 626 = .ok (.iload_n 3, 1) := by decide +kernel
theorem dL_law_627 : decode cL_law 627 = .ok (.iconst 1, 1) := by decide +kernel
theorem dL_law_628 : decode cL_law 628 = .ok (.iadd, 1) := by decide +kernel
theorem dL_law_629 : decode cL_law 629 = .ok (.iaload, 1) := by decide +kernel
theorem dL_law_630 : decode cL_law 630 = .ok (.aload_n 0, 1) := by decide +kernel
theorem dL_law_631 : decode cL_law 631 = .ok (.iload_n 3, 1) := by decide +kernel
theorem dL_law_632 : decode cL_law 632 = .ok (.iconst 2, 1) := by decide +kernel
theorem dL_law_633 : decode cL_law 633 = .ok (.iadd, 1) := by decide +kernel
theorem dL_law_634 : decode cL_law 634 = .ok (.iaload, 1) := by decide +kernel
theorem dL_law_635 : decode cL_law 635 = .ok (.aload_n 0, 1) := by decide +kernel
theorem dL_law_636 : decode cL_law 636 = .ok (.iload_n 3, 1) := by decide +kernel
theorem dL_law_637 : decode cL_law 637 = .ok (.iconst 3, 1) := by decide +kernel
theorem dL_law_638 : decode cL_law 638 = .ok (.iadd, 1) := by decide +kernel
theorem dL_law_639 : decode cL_law 639 = .ok (.iaload, 1) := by decide +kernel
theorem dL_law_640 : decode cL_law 640 = .ok (.aload_n 0, 1) := by decide +kernel
theorem dL_law_641 : decode cL_law 641 = .ok (.iload_n 3, 1) := by decide +kernel
theorem dL_law_642 : decode cL_law 642 = .ok (.iconst 4, 1) := by decide +kernel
theorem dL_law_643 : decode cL_law 643 = .ok (.iadd, 1) := by decide +kernel
theorem dL_law_644 : decode cL_law 644 = .ok (.iaload, 1) := by decide +kernel
theorem dL_law_645 : decode cL_law 645 = .ok (.invokevirtual 65, 3) := by decide +kernel
theorem dL_law_648 : decode cL_law 648 = .ok (.aload_n 2, 1) := by decide +kernel
theorem dL_law_649 : decode cL_law 649 = .ok (.aload_n 0, 1) := by decide +kernel
theorem dL_law_650 : decode cL_law 650 = .ok (.iload_n 3, 1) := by decide +kernel
theorem dL_law_651 : decode cL_law 651 = .ok (.iconst 1, 1) := by decide +kernel
theorem dL_law_652 : decode cL_law 652 = .ok (.iadd, 1) := by decide +kernel
theorem dL_law_653 : decode cL_law 653 = .ok (.iaload, 1) := by decide +kernel
theorem dL_law_654 : decode cL_law 654 = .ok (.aload_n 0, 1) := by decide +kernel
theorem dL_law_655 : decode cL_law 655 = .ok (.iload_n 3, 1) := by decide +kernel
theorem dL_law_656 : decode cL_law 656 = .ok (.iconst 2, 1) := by decide +kernel
theorem dL_law_657 : decode cL_law 657 = .ok (.iadd, 1) := by decide +kernel
theorem dL_law_658 : decode cL_law 658 = .ok (.iaload, 1) := by decide +kernel
theorem dL_law_659 : decode cL_law 659 = .ok (.aload_n 0, 1) := by decide +kernel
theorem dL_law_660 : decode cL_law 660 = .ok (.iload_n 3, 1) := by decide +kernel
theorem dL_law_661 : decode cL_law 661 = .ok (.iconst 3, 1) := by decide +kernel
theorem dL_law_662 : decode cL_law 662 = .ok (.iadd, 1) := by decide +kernel
theorem dL_law_663 : decode cL_law 663 = .ok (.iaload, 1) := by decide +kernel
theorem dL_law_664 : decode cL_law 664 = .ok (.aload_n 0, 1) := by decide +kernel
theorem dL_law_665 : decode cL_law 665 = .ok (.iload_n 3, 1) := by decide +kernel
theorem dL_law_666 : decode cL_law 666 = .ok (.iconst 4, 1) := by decide +kernel
theorem dL_law_667 : decode cL_law 667 = .ok (.iadd, 1) := by decide +kernel
theorem dL_law_668 : decode cL_law 668 = .ok (.iaload, 1) := by decide +kernel
theorem dL_law_669 : decode cL_law 669 = .ok (.invokevirtual 69, 3) := by decide +kernel
theorem dL_law_672 : decode cL_law 672 = .ok (.if_icmp .eq 699, 3) := by decide +kernel
theorem dL_law_675 : decode cL_law 675 = .ok (.iconst 0, 1) := by decide +kernel
theorem dL_law_676 : decode cL_law 676 = .ok (.ireturn, 1) := by decide +kernel
theorem dL_law_677 : decode cL_law 677 = .ok (.aload_n 1, 1) := by decide +kernel
theorem dL_law_678 : decode cL_law 678 = .ok (.aload_n 0, 1) := by decide +kernel
theorem dL_law_679 : decode cL_law 679 = .ok (.iload_n 3, 1) := by decide +kernel
theorem dL_law_680 : decode cL_law 680 = .ok (.iconst 1, 1) := by decide +kernel
theorem dL_law_681 : decode cL_law 681 = .ok (.iadd, 1) := by decide +kernel
theorem dL_law_682 : decode cL_law 682 = .ok (.iaload, 1) := by decide +kernel
theorem dL_law_683 : decode cL_law 683 = .ok (.aload_n 0, 1) := by decide +kernel
theorem dL_law_684 : decode cL_law 684 = .ok (.iload_n 3, 1) := by decide +kernel
theorem dL_law_685 : decode cL_law 685 = .ok (.iconst 2, 1) := by decide +kernel
theorem dL_law_686 : decode cL_law 686 = .ok (.iadd, 1) := by decide +kernel
theorem dL_law_687 : decode cL_law 687 = .ok (.iaload, 1) := by decide +kernel
theorem dL_law_688 : decode cL_law 688 = .ok (.ifCond .eq 7, 3) := by decide +kernel
theorem dL_law_691 : decode cL_law 691 = .ok (.iconst 1, 1) := by decide +kernel
theorem dL_law_692 : decode cL_law 692 = .ok (.goto 4, 3) := by decide +kernel
theorem dL_law_695 : decode cL_law 695 = .ok (.iconst 0, 1) := by decide +kernel
theorem dL_law_696 : decode cL_law 696 = .ok (.invokevirtual 70, 3) := by decide +kernel
theorem dL_law_699 : decode cL_law 699 = .ok (.aload_n 2, 1) := by decide +kernel
theorem dL_law_700 : decode cL_law 700 = .ok (.aload_n 0, 1) := by decide +kernel
theorem dL_law_701 : decode cL_law 701 = .ok (.iload_n 3, 1) := by decide +kernel
theorem dL_law_702 : decode cL_law 702 = .ok (.iconst 1, 1) := by decide +kernel
theorem dL_law_703 : decode cL_law 703 = .ok (.iadd, 1) := by decide +kernel
theorem dL_law_704 : decode cL_law 704 = .ok (.iaload, 1) := by decide +kernel
theorem dL_law_705 : decode cL_law 705 = .ok (.aload_n 0, 1) := by decide +kernel
theorem dL_law_706 : decode cL_law 706 = .ok (.iload_n 3, 1) := by decide +kernel
theorem dL_law_707 : decode cL_law 707 = .ok (.iconst 2, 1) := by decide +kernel
theorem dL_law_708 : decode cL_law 708 = .ok (.iadd, 1) := by decide +kernel
theorem dL_law_709 : decode cL_law 709 = .ok (.iaload, 1) := by decide +kernel
theorem dL_law_710 : decode cL_law 710 = .ok (.ifCond .eq 7, 3) := by decide +kernel
theorem dL_law_713 : decode cL_law 713 = .ok (.iconst 1, 1) := by decide +kernel
theorem dL_law_714 : decode cL_law 714 = .ok (.goto 4, 3) := by decide +kernel
theorem dL_law_717 : decode cL_law 717 = .ok (.iconst 0, 1) := by decide +kernel
theorem dL_law_718 : decode cL_law 718 = .ok (.invokevirtual 74, 3) := by decide +kernel
theorem dL_law_721 : decode cL_law 721 = .ok (.if_icmp .eq 650, 3) := by decide +kernel
theorem dL_law_724 : decode cL_law 724 = .ok (.iconst 0, 1) := by decide +kernel
theorem dL_law_725 : decode cL_law 725 = .ok (.ireturn, 1) := by decide +kernel
theorem dL_law_726 : decode cL_law 726 = .ok (.aload_n 1, 1) := by decide +kernel
theorem dL_law_727 : decode cL_law 727 = .ok (.aload_n 0, 1) := by decide +kernel
theorem dL_law_728 : decode cL_law 728 = .ok (.iload_n 3, 1) := by decide +kernel
theorem dL_law_729 : decode cL_law 729 = .ok (.iconst 1, 1) := by decide +kernel
theorem dL_law_730 : decode cL_law 730 = .ok (.iadd, 1) := by decide +kernel
theorem dL_law_731 : decode cL_law 731 = .ok (.iaload, 1) := by decide +kernel
theorem dL_law_732 : decode cL_law 732 = .ok (.aload_n 0, 1) := by decide +kernel
theorem dL_law_733 : decode cL_law 733 = .ok (.iload_n 3, 1) := by decide +kernel
theorem dL_law_734 : decode cL_law 734 = .ok (.iconst 2, 1) := by decide +kernel
theorem dL_law_735 : decode cL_law 735 = .ok (.iadd, 1) := by decide +kernel
theorem dL_law_736 : decode cL_law 736 = .ok (.iaload, 1) := by decide +kernel
theorem dL_law_737 : decode cL_law 737 = .ok (.invokevirtual 75, 3) := by decide +kernel
theorem dL_law_740 : decode cL_law 740 = .ok (.aload_n 2, 1) := by decide +kernel
theorem dL_law_741 : decode cL_law 741 = .ok (.aload_n 0, 1) := by decide +kernel
theorem dL_law_742 : decode cL_law 742 = .ok (.iload_n 3, 1) := by decide +kernel
theorem dL_law_743 : decode cL_law 743 = .ok (.iconst 1, 1) := by decide +kernel
theorem dL_law_744 : decode cL_law 744 = .ok (.iadd, 1) := by decide +kernel
theorem dL_law_745 : decode cL_law 745 = .ok (.iaload, 1) := by decide +kernel
theorem dL_law_746 : decode cL_law 746 = .ok (.aload_n 0, 1) := by decide +kernel
theorem dL_law_747 : decode cL_law 747 = .ok (.iload_n 3, 1) := by decide +kernel
theorem dL_law_748 : decode cL_law 748 = .ok (.iconst 2, 1) := by decide +kernel
theorem dL_law_749 : decode cL_law 749 = .ok (.iadd, 1) := by decide +kernel
theorem dL_law_750 : decode cL_law 750 = .ok (.iaload, 1) := by decide +kernel
theorem dL_law_751 : decode cL_law 751 = .ok (.invokevirtual 78, 3) := by decide +kernel
theorem dL_law_754 : decode cL_law 754 = .ok (.if_icmp .eq 617, 3) := by decide +kernel
theorem dL_law_757 : decode cL_law 757 = .ok (.iconst 0, 1) := by decide +kernel
theorem dL_law_758 : decode cL_law 758 = .ok (.ireturn, 1) := by decide +kernel
theorem dL_law_759 : decode cL_law 759 = .ok (.aload_n 1, 1) := by decide +kernel
theorem dL_law_760 : decode cL_law 760 = .ok (.aload_n 0, 1) := by decide +kernel
theorem dL_law_761 : decode cL_law 761 = .ok (.iload_n 3, 1) := by decide +kernel
theorem dL_law_762 : decode cL_law 762 = .ok (.iconst 1, 1) := by decide +kernel
theorem dL_law_763 : decode cL_law 763 = .ok (.iadd, 1) := by decide +kernel
theorem dL_law_764 : decode cL_law 764 = .ok (.iaload, 1) := by decide +kernel
theorem dL_law_765 : decode cL_law 765 = .ok (.aload_n 0, 1) := by decide +kernel
theorem dL_law_766 : decode cL_law 766 = .ok (.iload_n 3, 1) := by decide +kernel
theorem dL_law_767 : decode cL_law 767 = .ok (.iconst 2, 1) := by decide +kernel
theorem dL_law_768 : decode cL_law 768 = .ok (.iadd, 1) := by decide +kernel
theorem dL_law_769 : decode cL_law 769 = .ok (.iaload, 1) := by decide +kernel
theorem dL_law_770 : decode cL_law 770 = .ok (.aload_n 0, 1) := by decide +kernel
theorem dL_law_771 : decode cL_law 771 = .ok (.iload_n 3, 1) := by decide +kernel
theorem dL_law_772 : decode cL_law 772 = .ok (.iconst 3, 1) := by decide +kernel
theorem dL_law_773 : decode cL_law 773 = .ok (.iadd, 1) := by decide +kernel
theorem dL_law_774 : decode cL_law 774 = .ok (.iaload, 1) := by decide +kernel
theorem dL_law_775 : decode cL_law 775 = .ok (.i2l, 1) := by decide +kernel
theorem dL_law_776 : decode cL_law 776 = .ok (.bipush 32, 2) := by decide +kernel
theorem dL_law_778 : decode cL_law 778 = .ok (.lshl, 1) := by decide +kernel
theorem dL_law_779 : decode cL_law 779 = .ok (.aload_n 0, 1) := by decide +kernel
theorem dL_law_780 : decode cL_law 780 = .ok (.iload_n 3, 1) := by decide +kernel
theorem dL_law_781 : decode cL_law 781 = .ok (.iconst 4, 1) := by decide +kernel
theorem dL_law_782 : decode cL_law 782 = .ok (.iadd, 1) := by decide +kernel
theorem dL_law_783 : decode cL_law 783 = .ok (.iaload, 1) := by decide +kernel
theorem dL_law_784 : decode cL_law 784 = .ok (.i2l, 1) := by decide +kernel
theorem dL_law_785 : decode cL_law 785 = .ok (.ldc2_w 18, 3) := by decide +kernel
theorem dL_law_788 : decode cL_law 788 = .ok (.land, 1) := by decide +kernel
theorem dL_law_789 : decode cL_law 789 = .ok (.lor, 1) := by decide +kernel
theorem dL_law_790 : decode cL_law 790 = .ok (.invokevirtual 79, 3) := by decide +kernel
theorem dL_law_793 : decode cL_law 793 = .ok (.aload_n 2, 1) := by decide +kernel
theorem dL_law_794 : decode cL_law 794 = .ok (.aload_n 0, 1) := by decide +kernel
theorem dL_law_795 : decode cL_law 795 = .ok (.iload_n 3, 1) := by decide +kernel
theorem dL_law_796 : decode cL_law 796 = .ok (.iconst 1, 1) := by decide +kernel
theorem dL_law_797 : decode cL_law 797 = .ok (.iadd, 1) := by decide +kernel
theorem dL_law_798 : decode cL_law 798 = .ok (.iaload, 1) := by decide +kernel
theorem dL_law_799 : decode cL_law 799 = .ok (.aload_n 0, 1) := by decide +kernel
theorem dL_law_800 : decode cL_law 800 = .ok (.iload_n 3, 1) := by decide +kernel
theorem dL_law_801 : decode cL_law 801 = .ok (.iconst 2, 1) := by decide +kernel
theorem dL_law_802 : decode cL_law 802 = .ok (.iadd, 1) := by decide +kernel
theorem dL_law_803 : decode cL_law 803 = .ok (.iaload, 1) := by decide +kernel
theorem dL_law_804 : decode cL_law 804 = .ok (.aload_n 0, 1) := by decide +kernel
theorem dL_law_805 : decode cL_law 805 = .ok (.iload_n 3, 1) := by decide +kernel
theorem dL_law_806 : decode cL_law 806 = .ok (.iconst 3, 1) := by decide +kernel
theorem dL_law_807 : decode cL_law 807 = .ok (.iadd, 1) := by decide +kernel
theorem dL_law_808 : decode cL_law 808 = .ok (.iaload, 1) := by decide +kernel
theorem dL_law_809 : decode cL_law 809 = .ok (.i2l, 1) := by decide +kernel
theorem dL_law_810 : decode cL_law 810 = .ok (.bipush 32, 2) := by decide +kernel
theorem dL_law_812 : decode cL_law 812 = .ok (.lshl, 1) := by decide +kernel
theorem dL_law_813 : decode cL_law 813 = .ok (.aload_n 0, 1) := by decide +kernel
theorem dL_law_814 : decode cL_law 814 = .ok (.iload_n 3, 1) := by decide +kernel
theorem dL_law_815 : decode cL_law 815 = .ok (.iconst 4, 1) := by decide +kernel
theorem dL_law_816 : decode cL_law 816 = .ok (.iadd, 1) := by decide +kernel
theorem dL_law_817 : decode cL_law 817 = .ok (.iaload, 1) := by decide +kernel
theorem dL_law_818 : decode cL_law 818 = .ok (.i2l, 1) := by decide +kernel
theorem dL_law_819 : decode cL_law 819 = .ok (.ldc2_w 18, 3) := by decide +kernel
theorem dL_law_822 : decode cL_law 822 = .ok (.land, 1) := by decide +kernel
theorem dL_law_823 : decode cL_law 823 = .ok (.lor, 1) := by decide +kernel
theorem dL_law_824 : decode cL_law 824 = .ok (.invokevirtual 83, 3) := by decide +kernel
theorem dL_law_827 : decode cL_law 827 = .ok (.if_icmp .eq 544, 3) := by decide +kernel
theorem dL_law_830 : decode cL_law 830 = .ok (.iconst 0, 1) := by decide +kernel
theorem dL_law_831 : decode cL_law 831 = .ok (.ireturn, 1) := by decide +kernel
theorem dL_law_832 : decode cL_law 832 = .ok (.aload_n 1, 1) := by decide +kernel
theorem dL_law_833 : decode cL_law 833 = .ok (.aload_n 0, 1) := by decide +kernel
theorem dL_law_834 : decode cL_law 834 = .ok (.iload_n 3, 1) := by decide +kernel
theorem dL_law_835 : decode cL_law 835 = .ok (.iconst 1, 1) := by decide +kernel
theorem dL_law_836 : decode cL_law 836 = .ok (.iadd, 1) := by decide +kernel
theorem dL_law_837 : decode cL_law 837 = .ok (.iaload, 1) := by decide +kernel
theorem dL_law_838 : decode cL_law 838 = .ok (.aload_n 0, 1) := by decide +kernel
theorem dL_law_839 : decode cL_law 839 = .ok (.iload_n 3, 1) := by decide +kernel
theorem dL_law_840 : decode cL_law 840 = .ok (.iconst 2, 1) := by decide +kernel
theorem dL_law_841 : decode cL_law 841 = .ok (.iadd, 1) := by decide +kernel
theorem dL_law_842 : decode cL_law 842 = .ok (.iaload, 1) := by decide +kernel
theorem dL_law_843 : decode cL_law 843 = .ok (.aload_n 0, 1) := by decide +kernel
theorem dL_law_844 : decode cL_law 844 = .ok (.iload_n 3, 1) := by decide +kernel
theorem dL_law_845 : decode cL_law 845 = .ok (.iconst 3, 1) := by decide +kernel
theorem dL_law_846 : decode cL_law 846 = .ok (.iadd, 1) := by decide +kernel
theorem dL_law_847 : decode cL_law 847 = .ok (.iaload, 1) := by decide +kernel
theorem dL_law_848 : decode cL_law 848 = .ok (.ifCond .eq 7, 3) := by decide +kernel
theorem dL_law_851 : decode cL_law 851 = .ok (.iconst 1, 1) := by decide +kernel
theorem dL_law_852 : decode cL_law 852 = .ok (.goto 4, 3) := by decide +kernel
theorem dL_law_855 : decode cL_law 855 = .ok (.iconst 0, 1) := by decide +kernel
theorem dL_law_856 : decode cL_law 856 = .ok (.invokevirtual 84, 3) := by decide +kernel
theorem dL_law_859 : decode cL_law 859 = .ok (.aload_n 2, 1) := by decide +kernel
theorem dL_law_860 : decode cL_law 860 = .ok (.aload_n 0, 1) := by decide +kernel
theorem dL_law_861 : decode cL_law 861 = .ok (.iload_n 3, 1) := by decide +kernel
theorem dL_law_862 : decode cL_law 862 = .ok (.iconst 1, 1) := by decide +kernel
theorem dL_law_863 : decode cL_law 863 = .ok (.iadd, 1) := by decide +kernel
theorem dL_law_864 : decode cL_law 864 = .ok (.iaload, 1) := by decide +kernel
theorem dL_law_865 : decode cL_law 865 = .ok (.aload_n 0, 1) := by decide +kernel
theorem dL_law_866 : decode cL_law 866 = .ok (.iload_n 3, 1) := by decide +kernel
theorem dL_law_867 : decode cL_law 867 = .ok (.iconst 2, 1) := by decide +kernel
theorem dL_law_868 : decode cL_law 868 = .ok (.iadd, 1) := by decide +kernel
theorem dL_law_869 : decode cL_law 869 = .ok (.iaload, 1) := by decide +kernel
theorem dL_law_870 : decode cL_law 870 = .ok (.aload_n 0, 1) := by decide +kernel
theorem dL_law_871 : decode cL_law 871 = .ok (.iload_n 3, 1) := by decide +kernel
theorem dL_law_872 : decode cL_law 872 = .ok (.iconst 3, 1) := by decide +kernel
theorem dL_law_873 : decode cL_law 873 = .ok (.iadd, 1) := by decide +kernel
theorem dL_law_874 : decode cL_law 874 = .ok (.iaload, 1) := by decide +kernel
theorem dL_law_875 : decode cL_law 875 = .ok (.ifCond .eq 7, 3) := by decide +kernel
theorem dL_law_878 : decode cL_law 878 = .ok (.iconst 1, 1) := by decide +kernel
theorem dL_law_879 : decode cL_law 879 = .ok (.goto 4, 3) := by decide +kernel
theorem dL_law_882 : decode cL_law 882 = .ok (.iconst 0, 1) := by decide +kernel
theorem dL_law_883 : decode cL_law 883 = .ok (.invokevirtual 88, 3) := by decide +kernel
theorem dL_law_886 : decode cL_law 886 = .ok (.if_icmp .eq 485, 3) := by decide +kernel
theorem dL_law_889 : decode cL_law 889 = .ok (.iconst 0, 1) := by decide +kernel
theorem dL_law_890 : decode cL_law 890 = .ok (.ireturn, 1) := by decide +kernel
theorem dL_law_891 : decode cL_law 891 = .ok (.aload_n 1, 1) := by decide +kernel
theorem dL_law_892 : decode cL_law 892 = .ok (.aload_n 0, 1) := by decide +kernel
theorem dL_law_893 : decode cL_law 893 = .ok (.iload_n 3, 1) := by decide +kernel
theorem dL_law_894 : decode cL_law 894 = .ok (.iconst 1, 1) := by decide +kernel
theorem dL_law_895 : decode cL_law 895 = .ok (.iadd, 1) := by decide +kernel
theorem dL_law_896 : decode cL_law 896 = .ok (.iaload, 1) := by decide +kernel
theorem dL_law_897 : decode cL_law 897 = .ok (.invokevirtual 89, 3) := by decide +kernel
theorem dL_law_900 : decode cL_law 900 = .ok (.aload_n 2, 1) := by decide +kernel
theorem dL_law_901 : decode cL_law 901 = .ok (.aload_n 0, 1) := by decide +kernel
theorem dL_law_902 : decode cL_law 902 = .ok (.iload_n 3, 1) := by decide +kernel
theorem dL_law_903 : decode cL_law 903 = .ok (.iconst 1, 1) := by decide +kernel
theorem dL_law_904 : decode cL_law 904 = .ok (.iadd, 1) := by decide +kernel
theorem dL_law_905 : decode cL_law 905 = .ok (.iaload, 1) := by decide +kernel
theorem dL_law_906 : decode cL_law 906 = .ok (.invokevirtual 92, 3) := by decide +kernel
theorem dL_law_909 : decode cL_law 909 = .ok (.if_icmp .eq 462, 3) := by decide +kernel
theorem dL_law_912 : decode cL_law 912 = .ok (.iconst 0, 1) := by decide +kernel
theorem dL_law_913 : decode cL_law 913 = .ok (.ireturn, 1) := by decide +kernel
theorem dL_law_914 : decode cL_law 914 = .ok (.aload_n 1, 1) := by decide +kernel
theorem dL_law_915 : decode cL_law 915 = .ok (.aload_n 0, 1) := by decide +kernel
theorem dL_law_916 : decode cL_law 916 = .ok (.iload_n 3, 1) := by decide +kernel
theorem dL_law_917 : decode cL_law 917 = .ok (.iconst 1, 1) := by decide +kernel
theorem dL_law_918 : decode cL_law 918 = .ok (.iadd, 1) := by decide +kernel
theorem dL_law_919 : decode cL_law 919 = .ok (.iaload, 1) := by decide +kernel
theorem dL_law_920 : decode cL_law 920 = .ok (.aload_n 0, 1) := by decide +kernel
theorem dL_law_921 : decode cL_law 921 = .ok (.iload_n 3, 1) := by decide +kernel
theorem dL_law_922 : decode cL_law 922 = .ok (.iconst 2, 1) := by decide +kernel
theorem dL_law_923 : decode cL_law 923 = .ok (.iadd, 1) := by decide +kernel
theorem dL_law_924 : decode cL_law 924 = .ok (.iaload, 1) := by decide +kernel
theorem dL_law_925 : decode cL_law 925 = .ok (.invokevirtual 93, 3) := by decide +kernel
theorem dL_law_928 : decode cL_law 928 = .ok (.aload_n 2, 1) := by decide +kernel
theorem dL_law_929 : decode cL_law 929 = .ok (.aload_n 0, 1) := by decide +kernel
theorem dL_law_930 : decode cL_law 930 = .ok (.iload_n 3, 1) := by decide +kernel
theorem dL_law_931 : decode cL_law 931 = .ok (.iconst 1, 1) := by decide +kernel
theorem dL_law_932 : decode cL_law 932 = .ok (.iadd, 1) := by decide +kernel
theorem dL_law_933 : decode cL_law 933 = .ok (.iaload, 1) := by decide +kernel
theorem dL_law_934 : decode cL_law 934 = .ok (.aload_n 0, 1) := by decide +kernel
theorem dL_law_935 : decode cL_law 935 = .ok (.iload_n 3, 1) := by decide +kernel
theorem dL_law_936 : decode cL_law 936 = .ok (.iconst 2, 1) := by decide +kernel
theorem dL_law_937 : decode cL_law 937 = .ok (.iadd, 1) := by decide +kernel
theorem dL_law_938 : decode cL_law 938 = .ok (.iaload, 1) := by decide +kernel
theorem dL_law_939 : decode cL_law 939 = .ok (.invokevirtual 96, 3) := by decide +kernel
theorem dL_law_942 : decode cL_law 942 = .ok (.if_icmp .eq 429, 3) := by decide +kernel
theorem dL_law_945 : decode cL_law 945 = .ok (.iconst 0, 1) := by decide +kernel
theorem dL_law_946 : decode cL_law 946 = .ok (.ireturn, 1) := by decide +kernel
theorem dL_law_947 : decode cL_law 947 = .ok (.aload_n 1, 1) := by decide +kernel
theorem dL_law_948 : decode cL_law 948 = .ok (.aload_n 0, 1) := by decide +kernel
theorem dL_law_949 : decode cL_law 949 = .ok (.iload_n 3, 1) := by decide +kernel
theorem dL_law_950 : decode cL_law 950 = .ok (.iconst 1, 1) := by decide +kernel
theorem dL_law_951 : decode cL_law 951 = .ok (.iadd, 1) := by decide +kernel
theorem dL_law_952 : decode cL_law 952 = .ok (.iaload, 1) := by decide +kernel
theorem dL_law_953 : decode cL_law 953 = .ok (.aload_n 0, 1) := by decide +kernel
theorem dL_law_954 : decode cL_law 954 = .ok (.iload_n 3, 1) := by decide +kernel
theorem dL_law_955 : decode cL_law 955 = .ok (.iconst 2, 1) := by decide +kernel
theorem dL_law_956 : decode cL_law 956 = .ok (.iadd, 1) := by decide +kernel
theorem dL_law_957 : decode cL_law 957 = .ok (.iaload, 1) := by decide +kernel
theorem dL_law_958 : decode cL_law 958 = .ok (.invokevirtual 97, 3) := by decide +kernel
theorem dL_law_961 : decode cL_law 961 = .ok (.aload_n 2, 1) := by decide +kernel
theorem dL_law_962 : decode cL_law 962 = .ok (.aload_n 0, 1) := by decide +kernel
theorem dL_law_963 : decode cL_law 963 = .ok (.iload_n 3, 1) := by decide +kernel
theorem dL_law_964 : decode cL_law 964 = .ok (.iconst 1, 1) := by decide +kernel
theorem dL_law_965 : decode cL_law 965 = .ok (.iadd, 1) := by decide +kernel
theorem dL_law_966 : decode cL_law 966 = .ok (.iaload, 1) := by decide +kernel
theorem dL_law_967 : decode cL_law 967 = .ok (.aload_n 0, 1) := by decide +kernel
theorem dL_law_968 : decode cL_law 968 = .ok (.iload_n 3, 1) := by decide +kernel
theorem dL_law_969 : decode cL_law 969 = .ok (.iconst 2, 1) := by decide +kernel
theorem dL_law_970 : decode cL_law 970 = .ok (.iadd, 1) := by decide +kernel
theorem dL_law_971 : decode cL_law 971 = .ok (.iaload, 1) := by decide +kernel
theorem dL_law_972 : decode cL_law 972 = .ok (.invokevirtual 101, 3) := by decide +kernel
theorem dL_law_975 : decode cL_law 975 = .ok (.lcmp, 1) := by decide +kernel
theorem dL_law_976 : decode cL_law 976 = .ok (.ifCond .eq 395, 3) := by decide +kernel
theorem dL_law_979 : decode cL_law 979 = .ok (.iconst 0, 1) := by decide +kernel
theorem dL_law_980 : decode cL_law 980 = .ok (.ireturn, 1) := by decide +kernel
theorem dL_law_981 : decode cL_law 981 = .ok (.aload_n 1, 1) := by decide +kernel
theorem dL_law_982 : decode cL_law 982 = .ok (.aload_n 0, 1) := by decide +kernel
theorem dL_law_983 : decode cL_law 983 = .ok (.iload_n 3, 1) := by decide +kernel
theorem dL_law_984 : decode cL_law 984 = .ok (.iconst 1, 1) := by decide +kernel
theorem dL_law_985 : decode cL_law 985 = .ok (.iadd, 1) := by decide +kernel
theorem dL_law_986 : decode cL_law 986 = .ok (.iaload, 1) := by decide +kernel
theorem dL_law_987 : decode cL_law 987 = .ok (.aload_n 0, 1) := by decide +kernel
theorem dL_law_988 : decode cL_law 988 = .ok (.iload_n 3, 1) := by decide +kernel
theorem dL_law_989 : decode cL_law 989 = .ok (.iconst 2, 1) := by decide +kernel
theorem dL_law_990 : decode cL_law 990 = .ok (.iadd, 1) := by decide +kernel
theorem dL_law_991 : decode cL_law 991 = .ok (.iaload, 1) := by decide +kernel
theorem dL_law_992 : decode cL_law 992 = .ok (.invokevirtual 102, 3) := by decide +kernel
theorem dL_law_995 : decode cL_law 995 = .ok (.aload_n 2, 1) := by decide +kernel
theorem dL_law_996 : decode cL_law 996 = .ok (.aload_n 0, 1) := by decide +kernel
theorem dL_law_997 : decode cL_law 997 = .ok (.iload_n 3, 1) := by decide +kernel
theorem dL_law_998 : decode cL_law 998 = .ok (.iconst 1, 1) := by decide +kernel
theorem dL_law_999 : decode cL_law 999 = .ok (.iadd, 1) := by decide +kernel
theorem dL_law_1000 : decode cL_law 1000 = .ok (.iaload, 1) := by decide +kernel
theorem dL_law_1001 : decode cL_law 1001 = .ok (.aload_n 0, 1) := by decide +kernel
theorem dL_law_1002 : decode cL_law 1002 = .ok (.iload_n 3, 1) := by decide +kernel
theorem dL_law_1003 : decode cL_law 1003 = .ok (.iconst 2, 1) := by decide +kernel
theorem dL_law_1004 : decode cL_law 1004 = .ok (.iadd, 1) := by decide +kernel
theorem dL_law_1005 : decode cL_law 1005 = .ok (.iaload, 1) := by decide +kernel
theorem dL_law_1006 : decode cL_law 1006 = .ok (.invokevirtual 105, 3) := by decide +kernel
theorem dL_law_1009 : decode cL_law 1009 = .ok (.lcmp, 1) := by decide +kernel
theorem dL_law_1010 : decode cL_law 1010 = .ok (.ifCond .eq 361, 3) := by decide +kernel
theorem dL_law_1013 : decode cL_law 1013 = .ok (.iconst 0, 1) := by decide +kernel
theorem dL_law_1014 : decode cL_law 1014 = .ok (.ireturn, 1) := by decide +kernel
theorem dL_law_1015 : decode cL_law 1015 = .ok (.aload_n 1, 1) := by decide +kernel
theorem dL_law_1016 : decode cL_law 1016 = .ok (.aload_n 0, 1) := by decide +kernel
theorem dL_law_1017 : decode cL_law 1017 = .ok (.iload_n 3, 1) := by decide +kernel
theorem dL_law_1018 : decode cL_law 1018 = .ok (.iconst 1, 1) := by decide +kernel
theorem dL_law_1019 : decode cL_law 1019 = .ok (.iadd, 1) := by decide +kernel
theorem dL_law_1020 : decode cL_law 1020 = .ok (.iaload, 1) := by decide +kernel
theorem dL_law_1021 : decode cL_law 1021 = .ok (.aload_n 0, 1) := by decide +kernel
theorem dL_law_1022 : decode cL_law 1022 = .ok (.iload_n 3, 1) := by decide +kernel
theorem dL_law_1023 : decode cL_law 1023 = .ok (.iconst 2, 1) := by decide +kernel
theorem dL_law_1024 : decode cL_law 1024 = .ok (.iadd, 1) := by decide +kernel
theorem dL_law_1025 : decode cL_law 1025 = .ok (.iaload, 1) := by decide +kernel
theorem dL_law_1026 : decode cL_law 1026 = .ok (.invokevirtual 106, 3) := by decide +kernel
theorem dL_law_1029 : decode cL_law 1029 = .ok (.aload_n 2, 1) := by decide +kernel
theorem dL_law_1030 : decode cL_law 1030 = .ok (.aload_n 0, 1) := by decide +kernel
theorem dL_law_1031 : decode cL_law 1031 = .ok (.iload_n 3, 1) := by decide +kernel
theorem dL_law_1032 : decode cL_law 1032 = .ok (.iconst 1, 1) := by decide +kernel
theorem dL_law_1033 : decode cL_law 1033 = .ok (.iadd, 1) := by decide +kernel
theorem dL_law_1034 : decode cL_law 1034 = .ok (.iaload, 1) := by decide +kernel
theorem dL_law_1035 : decode cL_law 1035 = .ok (.aload_n 0, 1) := by decide +kernel
theorem dL_law_1036 : decode cL_law 1036 = .ok (.iload_n 3, 1) := by decide +kernel
theorem dL_law_1037 : decode cL_law 1037 = .ok (.iconst 2, 1) := by decide +kernel
theorem dL_law_1038 : decode cL_law 1038 = .ok (.iadd, 1) := by decide +kernel
theorem dL_law_1039 : decode cL_law 1039 = .ok (.iaload, 1) := by decide +kernel
theorem dL_law_1040 : decode cL_law 1040 = .ok (.invokevirtual 109, 3) := by decide +kernel
theorem dL_law_1043 : decode cL_law 1043 = .ok (.if_icmp .eq 328, 3) := by decide +kernel
theorem dL_law_1046 : decode cL_law 1046 = .ok (.iconst 0, 1) := by decide +kernel
theorem dL_law_1047 : decode cL_law 1047 = .ok (.ireturn, 1) := by decide +kernel
theorem dL_law_1048 : decode cL_law 1048 = .ok (.aload_n 1, 1) := by decide +kernel
theorem dL_law_1049 : decode cL_law 1049 = .ok (.aload_n 0, 1) := by decide +kernel
theorem dL_law_1050 : decode cL_law 1050 = .ok (.iload_n 3, 1) := by decide +kernel
theorem dL_law_1051 : decode cL_law 1051 = .ok (.iconst 1, 1) := by decide +kernel
theorem dL_law_1052 : decode cL_law 1052 = .ok (.iadd, 1) := by decide +kernel
theorem dL_law_1053 : decode cL_law 1053 = .ok (.iaload, 1) := by decide +kernel
theorem dL_law_1054 : decode cL_law 1054 = .ok (.aload_n 0, 1) := by decide +kernel
theorem dL_law_1055 : decode cL_law 1055 = .ok (.iload_n 3, 1) := by decide +kernel
theorem dL_law_1056 : decode cL_law 1056 = .ok (.iconst 2, 1) := by decide +kernel
theorem dL_law_1057 : decode cL_law 1057 = .ok (.iadd, 1) := by decide +kernel
theorem dL_law_1058 : decode cL_law 1058 = .ok (.iaload, 1) := by decide +kernel
theorem dL_law_1059 : decode cL_law 1059 = .ok (.aload_n 0, 1) := by decide +kernel
theorem dL_law_1060 : decode cL_law 1060 = .ok (.iload_n 3, 1) := by decide +kernel
theorem dL_law_1061 : decode cL_law 1061 = .ok (.iconst 3, 1) := by decide +kernel
theorem dL_law_1062 : decode cL_law 1062 = .ok (.iadd, 1) := by decide +kernel
theorem dL_law_1063 : decode cL_law 1063 = .ok (.iaload, 1) := by decide +kernel
theorem dL_law_1064 : decode cL_law 1064 = .ok (.ifCond .eq 7, 3) := by decide +kernel
theorem dL_law_1067 : decode cL_law 1067 = .ok (.iconst 1, 1) := by decide +kernel
theorem dL_law_1068 : decode cL_law 1068 = .ok (.goto 4, 3) := by decide +kernel
theorem dL_law_1071 : decode cL_law 1071 = .ok (.iconst 0, 1) := by decide +kernel
theorem dL_law_1072 : decode cL_law 1072 = .ok (.invokevirtual 110, 3) := by decide +kernel
theorem dL_law_1075 : decode cL_law 1075 = .ok (.aload_n 2, 1) := by decide +kernel
theorem dL_law_1076 : decode cL_law 1076 = .ok (.aload_n 0, 1) := by decide +kernel
theorem dL_law_1077 : decode cL_law 1077 = .ok (.iload_n 3, 1) := by decide +kernel
theorem dL_law_1078 : decode cL_law 1078 = .ok (.iconst 1, 1) := by decide +kernel
theorem dL_law_1079 : decode cL_law 1079 = .ok (.iadd, 1) := by decide +kernel
theorem dL_law_1080 : decode cL_law 1080 = .ok (.iaload, 1) := by decide +kernel
theorem dL_law_1081 : decode cL_law 1081 = .ok (.aload_n 0, 1) := by decide +kernel
theorem dL_law_1082 : decode cL_law 1082 = .ok (.iload_n 3, 1) := by decide +kernel
theorem dL_law_1083 : decode cL_law 1083 = .ok (.iconst 2, 1) := by decide +kernel
theorem dL_law_1084 : decode cL_law 1084 = .ok (.iadd, 1) := by decide +kernel
theorem dL_law_1085 : decode cL_law 1085 = .ok (.iaload, 1) := by decide +kernel
theorem dL_law_1086 : decode cL_law 1086 = .ok (.aload_n 0, 1) := by decide +kernel
theorem dL_law_1087 : decode cL_law 1087 = .ok (.iload_n 3, 1) := by decide +kernel
theorem dL_law_1088 : decode cL_law 1088 = .ok (.iconst 3, 1) := by decide +kernel
theorem dL_law_1089 : decode cL_law 1089 = .ok (.iadd, 1) := by decide +kernel
theorem dL_law_1090 : decode cL_law 1090 = .ok (.iaload, 1) := by decide +kernel
theorem dL_law_1091 : decode cL_law 1091 = .ok (.ifCond .eq 7, 3) := by decide +kernel
theorem dL_law_1094 : decode cL_law 1094 = .ok (.iconst 1, 1) := by decide +kernel
theorem dL_law_1095 : decode cL_law 1095 = .ok (.goto 4, 3) := by decide +kernel
theorem dL_law_1098 : decode cL_law 1098 = .ok (.iconst 0, 1) := by decide +kernel
theorem dL_law_1099 : decode cL_law 1099 = .ok (.invokevirtual 113, 3) := by decide +kernel
theorem dL_law_1102 : decode cL_law 1102 = .ok (.if_icmp .eq 269, 3) := by decide +kernel
theorem dL_law_1105 : decode cL_law 1105 = .ok (.iconst 0, 1) := by decide +kernel
theorem dL_law_1106 : decode cL_law 1106 = .ok (.ireturn, 1) := by decide +kernel
theorem dL_law_1107 : decode cL_law 1107 = .ok (.aload_n 1, 1) := by decide +kernel
theorem dL_law_1108 : decode cL_law 1108 = .ok (.aload_n 0, 1) := by decide +kernel
theorem dL_law_1109 : decode cL_law 1109 = .ok (.iload_n 3, 1) := by decide +kernel
theorem dL_law_1110 : decode cL_law 1110 = .ok (.iconst 1, 1) := by decide +kernel
theorem dL_law_1111 : decode cL_law 1111 = .ok (.iadd, 1) := by decide +kernel
theorem dL_law_1112 : decode cL_law 1112 = .ok (.iaload, 1) := by decide +kernel
theorem dL_law_1113 : decode cL_law 1113 = .ok (.aload_n 0, 1) := by decide +kernel
theorem dL_law_1114 : decode cL_law 1114 = .ok (.iload_n 3, 1) := by decide +kernel
theorem dL_law_1115 : decode cL_law 1115 = .ok (.iconst 2, 1) := by decide +kernel
theorem dL_law_1116 : decode cL_law 1116 = .ok (.iadd, 1) := by decide +kernel
theorem dL_law_1117 : decode cL_law 1117 = .ok (.iaload, 1) := by decide +kernel
theorem dL_law_1118 : decode cL_law 1118 = .ok (.invokevirtual 114, 3) := by decide +kernel
theorem dL_law_1121 : decode cL_law 1121 = .ok (.aload_n 2, 1) := by decide +kernel
theorem dL_law_1122 : decode cL_law 1122 = .ok (.aload_n 0, 1) := by decide +kernel
theorem dL_law_1123 : decode cL_law 1123 = .ok (.iload_n 3, 1) := by decide +kernel
theorem dL_law_1124 : decode cL_law 1124 = .ok (.iconst 1, 1) := by decide +kernel
theorem dL_law_1125 : decode cL_law 1125 = .ok (.iadd, 1) := by decide +kernel
theorem dL_law_1126 : decode cL_law 1126 = .ok (.iaload, 1) := by decide +kernel
theorem dL_law_1127 : decode cL_law 1127 = .ok (.aload_n 0, 1) := by decide +kernel
theorem dL_law_1128 : decode cL_law 1128 = .ok (.iload_n 3, 1) := by decide +kernel
theorem dL_law_1129 : decode cL_law 1129 = .ok (.iconst 2, 1) := by decide +kernel
theorem dL_law_1130 : decode cL_law 1130 = .ok (.iadd, 1) := by decide +kernel
theorem dL_law_1131 : decode cL_law 1131 = .ok (.iaload, 1) := by decide +kernel
theorem dL_law_1132 : decode cL_law 1132 = .ok (.invokevirtual 117, 3) := by decide +kernel
theorem dL_law_1135 : decode cL_law 1135 = .ok (.if_icmp .eq 236, 3) := by decide +kernel
theorem dL_law_1138 : decode cL_law 1138 = .ok (.iconst 0, 1) := by decide +kernel
theorem dL_law_1139 : decode cL_law 1139 = .ok (.ireturn, 1) := by decide +kernel
theorem dL_law_1140 : decode cL_law 1140 = .ok (.aload_n 1, 1) := by decide +kernel
theorem dL_law_1141 : decode cL_law 1141 = .ok (.aload_n 0, 1) := by decide +kernel
theorem dL_law_1142 : decode cL_law 1142 = .ok (.iload_n 3, 1) := by decide +kernel
theorem dL_law_1143 : decode cL_law 1143 = .ok (.iconst 1, 1) := by decide +kernel
theorem dL_law_1144 : decode cL_law 1144 = .ok (.iadd, 1) := by decide +kernel
theorem dL_law_1145 : decode cL_law 1145 = .ok (.iaload, 1) := by decide +kernel
theorem dL_law_1146 : decode cL_law 1146 = .ok (.aload_n 0, 1) := by decide +kernel
theorem dL_law_1147 : decode cL_law 1147 = .ok (.iload_n 3, 1) := by decide +kernel
theorem dL_law_1148 : decode cL_law 1148 = .ok (.iconst 2, 1) := by decide +kernel
theorem dL_law_1149 : decode cL_law 1149 = .ok (.iadd, 1) := by decide +kernel
theorem dL_law_1150 : decode cL_law 1150 = .ok (.iaload, 1) := by decide +kernel
theorem dL_law_1151 : decode cL_law 1151 = .ok (.invokevirtual 118, 3) := by decide +kernel
theorem dL_law_1154 : decode cL_law 1154 = .ok (.aload_n 2, 1) := by decide +kernel
theorem dL_law_1155 : decode cL_law 1155 = .ok (.aload_n 0, 1) := by decide +kernel
theorem dL_law_1156 : decode cL_law 1156 = .ok (.iload_n 3, 1) := by decide +kernel
theorem dL_law_1157 : decode cL_law 1157 = .ok (.iconst 1, 1) := by decide +kernel
theorem dL_law_1158 : decode cL_law 1158 = .ok (.iadd, 1) := by decide +kernel
theorem dL_law_1159 : decode cL_law 1159 = .ok (.iaload, 1) := by decide +kernel
theorem dL_law_1160 : decode cL_law 1160 = .ok (.aload_n 0, 1) := by decide +kernel
theorem dL_law_1161 : decode cL_law 1161 = .ok (.iload_n 3, 1) := by decide +kernel
theorem dL_law_1162 : decode cL_law 1162 = .ok (.iconst 2, 1) := by decide +kernel
theorem dL_law_1163 : decode cL_law 1163 = .ok (.iadd, 1) := by decide +kernel
theorem dL_law_1164 : decode cL_law 1164 = .ok (.iaload, 1) := by decide +kernel
theorem dL_law_1165 : decode cL_law 1165 = .ok (.invokevirtual 121, 3) := by decide +kernel
theorem dL_law_1168 : decode cL_law 1168 = .ok (.if_icmp .eq 203, 3) := by decide +kernel
theorem dL_law_1171 : decode cL_law 1171 = .ok (.iconst 0, 1) := by decide +kernel
theorem dL_law_1172 : decode cL_law 1172 = .ok (.ireturn, 1) := by decide +kernel
theorem dL_law_1173 : decode cL_law 1173 = .ok (.aload_n 1, 1) := by decide +kernel
theorem dL_law_1174 : decode cL_law 1174 = .ok (.aload_n 0, 1) := by decide +kernel
theorem dL_law_1175 : decode cL_law 1175 = .ok (.iload_n 3, 1) := by decide +kernel
theorem dL_law_1176 : decode cL_law 1176 = .ok (.iconst 1, 1) := by decide +kernel
theorem dL_law_1177 : decode cL_law 1177 = .ok (.iadd, 1) := by decide +kernel
theorem dL_law_1178 : decode cL_law 1178 = .ok (.iaload, 1) := by decide +kernel
theorem dL_law_1179 : decode cL_law 1179 = .ok (.aload_n 0, 1) := by decide +kernel
theorem dL_law_1180 : decode cL_law 1180 = .ok (.iload_n 3, 1) := by decide +kernel
theorem dL_law_1181 : decode cL_law 1181 = .ok (.iconst 2, 1) := by decide +kernel
theorem dL_law_1182 : decode cL_law 1182 = .ok (.iadd, 1) := by decide +kernel
theorem dL_law_1183 : decode cL_law 1183 = .ok (.iaload, 1) := by decide +kernel
theorem dL_law_1184 : decode cL_law 1184 = .ok (.invokevirtual 122, 3) := by decide +kernel
theorem dL_law_1187 : decode cL_law 1187 = .ok (.aload_n 2, 1) := by decide +kernel
theorem dL_law_1188 : decode cL_law 1188 = .ok (.aload_n 0, 1) := by decide +kernel
theorem dL_law_1189 : decode cL_law 1189 = .ok (.iload_n 3, 1) := by decide +kernel
theorem dL_law_1190 : decode cL_law 1190 = .ok (.iconst 1, 1) := by decide +kernel
theorem dL_law_1191 : decode cL_law 1191 = .ok (.iadd, 1) := by decide +kernel
theorem dL_law_1192 : decode cL_law 1192 = .ok (.iaload, 1) := by decide +kernel
theorem dL_law_1193 : decode cL_law 1193 = .ok (.aload_n 0, 1) := by decide +kernel
theorem dL_law_1194 : decode cL_law 1194 = .ok (.iload_n 3, 1) := by decide +kernel
theorem dL_law_1195 : decode cL_law 1195 = .ok (.iconst 2, 1) := by decide +kernel
theorem dL_law_1196 : decode cL_law 1196 = .ok (.iadd, 1) := by decide +kernel
theorem dL_law_1197 : decode cL_law 1197 = .ok (.iaload, 1) := by decide +kernel
theorem dL_law_1198 : decode cL_law 1198 = .ok (.invokevirtual 125, 3) := by decide +kernel
theorem dL_law_1201 : decode cL_law 1201 = .ok (.if_icmp .eq 170, 3) := by decide +kernel
theorem dL_law_1204 : decode cL_law 1204 = .ok (.iconst 0, 1) := by decide +kernel
theorem dL_law_1205 : decode cL_law 1205 = .ok (.ireturn, 1) := by decide +kernel
theorem dL_law_1206 : decode cL_law 1206 = .ok (.aload_n 1, 1) := by decide +kernel
theorem dL_law_1207 : decode cL_law 1207 = .ok (.aload_n 0, 1) := by decide +kernel
theorem dL_law_1208 : decode cL_law 1208 = .ok (.iload_n 3, 1) := by decide +kernel
theorem dL_law_1209 : decode cL_law 1209 = .ok (.iconst 1, 1) := by decide +kernel
theorem dL_law_1210 : decode cL_law 1210 = .ok (.iadd, 1) := by decide +kernel
theorem dL_law_1211 : decode cL_law 1211 = .ok (.iaload, 1) := by decide +kernel
theorem dL_law_1212 : decode cL_law 1212 = .ok (.invokevirtual 126, 3) := by decide +kernel
theorem dL_law_1215 : decode cL_law 1215 = .ok (.aload_n 2, 1) := by decide +kernel
theorem dL_law_1216 : decode cL_law 1216 = .ok (.aload_n 0, 1) := by decide +kernel
theorem dL_law_1217 : decode cL_law 1217 = .ok (.iload_n 3, 1) := by decide +kernel
theorem dL_law_1218 : decode cL_law 1218 = .ok (.iconst 1, 1) := by decide +kernel
theorem dL_law_1219 : decode cL_law 1219 = .ok (.iadd, 1) := by decide +kernel
theorem dL_law_1220 : decode cL_law 1220 = .ok (.iaload, 1) := by decide +kernel
theorem dL_law_1221 : decode cL_law 1221 = .ok (.invokevirtual 130, 3) := by decide +kernel
theorem dL_law_1224 : decode cL_law 1224 = .ok (.lcmp, 1) := by decide +kernel
theorem dL_law_1225 : decode cL_law 1225 = .ok (.ifCond .eq 146, 3) := by decide +kernel
theorem dL_law_1228 : decode cL_law 1228 = .ok (.iconst 0, 1) := by decide +kernel
theorem dL_law_1229 : decode cL_law 1229 = .ok (.ireturn, 1) := by decide +kernel
theorem dL_law_1230 : decode cL_law 1230 = .ok (.aload_n 1, 1) := by decide +kernel
theorem dL_law_1231 : decode cL_law 1231 = .ok (.aload_n 0, 1) := by decide +kernel
theorem dL_law_1232 : decode cL_law 1232 = .ok (.iload_n 3, 1) := by decide +kernel
theorem dL_law_1233 : decode cL_law 1233 = .ok (.iconst 1, 1) := by decide +kernel
theorem dL_law_1234 : decode cL_law 1234 = .ok (.iadd, 1) := by decide +kernel
theorem dL_law_1235 : decode cL_law 1235 = .ok (.iaload, 1) := by decide +kernel
theorem dL_law_1236 : decode cL_law 1236 = .ok (.invokevirtual 131, 3) := by decide +kernel
theorem dL_law_1239 : decode cL_law 1239 = .ok (.aload_n 2, 1) := by decide +kernel
theorem dL_law_1240 : decode cL_law 1240 = .ok (.aload_n 0, 1) := by decide +kernel
theorem dL_law_1241 : decode cL_law 1241 = .ok (.iload_n 3, 1) := by decide +kernel
theorem dL_law_1242 : decode cL_law 1242 = .ok (.iconst 1, 1) := by decide +kernel
theorem dL_law_1243 : decode cL_law 1243 = .ok (.iadd, 1) := by decide +kernel
theorem dL_law_1244 : decode cL_law 1244 = .ok (.iaload, 1) := by decide +kernel
theorem dL_law_1245 : decode cL_law 1245 = .ok (.invokevirtual 134, 3) := by decide +kernel
theorem dL_law_1248 : decode cL_law 1248 = .ok (.if_icmp .eq 123, 3) := by decide +kernel
theorem dL_law_1251 : decode cL_law 1251 = .ok (.iconst 0, 1) := by decide +kernel
theorem dL_law_1252 : decode cL_law 1252 = .ok (.ireturn, 1) := by decide +kernel
theorem dL_law_1253 : decode cL_law 1253 = .ok (.aload_n 1, 1) := by decide +kernel
theorem dL_law_1254 : decode cL_law 1254 = .ok (.aload_n 0, 1) := by decide +kernel
theorem dL_law_1255 : decode cL_law 1255 = .ok (.iload_n 3, 1) := by decide +kernel
theorem dL_law_1256 : decode cL_law 1256 = .ok (.iconst 1, 1) := by decide +kernel
theorem dL_law_1257 : decode cL_law 1257 = .ok (.iadd, 1) := by decide +kernel
theorem dL_law_1258 : decode cL_law 1258 = .ok (.iaload, 1) := by decide +kernel
theorem dL_law_1259 : decode cL_law 1259 = .ok (.invokevirtual 135, 3) := by decide +kernel
theorem dL_law_1262 : decode cL_law 1262 = .ok (.aload_n 2, 1) := by decide +kernel
theorem dL_law_1263 : decode cL_law 1263 = .ok (.aload_n 0, 1) := by decide +kernel
theorem dL_law_1264 : decode cL_law 1264 = .ok (.iload_n 3, 1) := by decide +kernel
theorem dL_law_1265 : decode cL_law 1265 = .ok (.iconst 1, 1) := by decide +kernel
theorem dL_law_1266 : decode cL_law 1266 = .ok (.iadd, 1) := by decide +kernel
theorem dL_law_1267 : decode cL_law 1267 = .ok (.iaload, 1) := by decide +kernel
theorem dL_law_1268 : decode cL_law 1268 = .ok (.invokevirtual 138, 3) := by decide +kernel
theorem dL_law_1271 : decode cL_law 1271 = .ok (.if_icmp .eq 100, 3) := by decide +kernel
theorem dL_law_1274 : decode cL_law 1274 = .ok (.iconst 0, 1) := by decide +kernel
theorem dL_law_1275 : decode cL_law 1275 = .ok (.ireturn, 1) := by decide +kernel
theorem dL_law_1276 : decode cL_law 1276 = .ok (.aload_n 1, 1) := by decide +kernel
theorem dL_law_1277 : decode cL_law 1277 = .ok (.aload_n 0, 1) := by decide +kernel
theorem dL_law_1278 : decode cL_law 1278 = .ok (.iload_n 3, 1) := by decide +kernel
theorem dL_law_1279 : decode cL_law 1279 = .ok (.iconst 1, 1) := by decide +kernel
theorem dL_law_1280 : decode cL_law 1280 = .ok (.iadd, 1) := by decide +kernel
theorem dL_law_1281 : decode cL_law 1281 = .ok (.iaload, 1) := by decide +kernel
theorem dL_law_1282 : decode cL_law 1282 = .ok (.invokevirtual 139, 3) := by decide +kernel
theorem dL_law_1285 : decode cL_law 1285 = .ok (.aload_n 2, 1) := by decide +kernel
theorem dL_law_1286 : decode cL_law 1286 = .ok (.aload_n 0, 1) := by decide +kernel
theorem dL_law_1287 : decode cL_law 1287 = .ok (.iload_n 3, 1) := by decide +kernel
theorem dL_law_1288 : decode cL_law 1288 = .ok (.iconst 1, 1) := by decide +kernel
theorem dL_law_1289 : decode cL_law 1289 = .ok (.iadd, 1) := by decide +kernel
theorem dL_law_1290 : decode cL_law 1290 = .ok (.iaload, 1) := by decide +kernel
theorem dL_law_1291 : decode cL_law 1291 = .ok (.invokevirtual 142, 3) := by decide +kernel
theorem dL_law_1294 : decode cL_law 1294 = .ok (.if_icmp .eq 77, 3) := by decide +kernel
theorem dL_law_1297 : decode cL_law 1297 = .ok (.iconst 0, 1) := by decide +kernel
theorem dL_law_1298 : decode cL_law 1298 = .ok (.ireturn, 1) := by decide +kernel
theorem dL_law_1299 : decode cL_law 1299 = .ok (.aload_n 1, 1) := by decide +kernel
theorem dL_law_1300 : decode cL_law 1300 = .ok (.aload_n 0, 1) := by decide +kernel
theorem dL_law_1301 : decode cL_law 1301 = .ok (.iload_n 3, 1) := by decide +kernel
theorem dL_law_1302 : decode cL_law 1302 = .ok (.iconst 1, 1) := by decide +kernel
theorem dL_law_1303 : decode cL_law 1303 = .ok (.iadd, 1) := by decide +kernel
theorem dL_law_1304 : decode cL_law 1304 = .ok (.iaload, 1) := by decide +kernel
theorem dL_law_1305 : decode cL_law 1305 = .ok (.invokevirtual 143, 3) := by decide +kernel
theorem dL_law_1308 : decode cL_law 1308 = .ok (.aload_n 2, 1) := by decide +kernel
theorem dL_law_1309 : decode cL_law 1309 = .ok (.aload_n 0, 1) := by decide +kernel
theorem dL_law_1310 : decode cL_law 1310 = .ok (.iload_n 3, 1) := by decide +kernel
theorem dL_law_1311 : decode cL_law 1311 = .ok (.iconst 1, 1) := by decide +kernel
theorem dL_law_1312 : decode cL_law 1312 = .ok (.iadd, 1) := by decide +kernel
theorem dL_law_1313 : decode cL_law 1313 = .ok (.iaload, 1) := by decide +kernel
theorem dL_law_1314 : decode cL_law 1314 = .ok (.invokevirtual 146, 3) := by decide +kernel
theorem dL_law_1317 : decode cL_law 1317 = .ok (.if_icmp .eq 54, 3) := by decide +kernel
theorem dL_law_1320 : decode cL_law 1320 = .ok (.iconst 0, 1) := by decide +kernel
theorem dL_law_1321 : decode cL_law 1321 = .ok (.ireturn, 1) := by decide +kernel
theorem dL_law_1322 : decode cL_law 1322 = .ok (.aload_n 1, 1) := by decide +kernel
theorem dL_law_1323 : decode cL_law 1323 = .ok (.invokevirtual 147, 3) := by decide +kernel
theorem dL_law_1326 : decode cL_law 1326 = .ok (.aload_n 2, 1) := by decide +kernel
theorem dL_law_1327 : decode cL_law 1327 = .ok (.invokevirtual 151, 3) := by decide +kernel
theorem dL_law_1330 : decode cL_law 1330 = .ok (.if_icmp .eq 41, 3) := by decide +kernel
theorem dL_law_1333 : decode cL_law 1333 = .ok (.iconst 0, 1) := by decide +kernel
theorem dL_law_1334 : decode cL_law 1334 = .ok (.ireturn, 1) := by decide +kernel
theorem dL_law_1335 : decode cL_law 1335 = .ok (.aload_n 1, 1) := by decide +kernel
theorem dL_law_1336 : decode cL_law 1336 = .ok (.invokevirtual 152, 3) := by decide +kernel
theorem dL_law_1339 : decode cL_law 1339 = .ok (.aload_n 2, 1) := by decide +kernel
theorem dL_law_1340 : decode cL_law 1340 = .ok (.invokevirtual 155, 3) := by decide +kernel
theorem dL_law_1343 : decode cL_law 1343 = .ok (.if_icmp .eq 28, 3) := by decide +kernel
theorem dL_law_1346 : decode cL_law 1346 = .ok (.iconst 0, 1) := by decide +kernel
theorem dL_law_1347 : decode cL_law 1347 = .ok (.ireturn, 1) := by decide +kernel
theorem dL_law_1348 : decode cL_law 1348 = .ok (.aload_n 1, 1) := by decide +kernel
theorem dL_law_1349 : decode cL_law 1349 = .ok (.aload_n 0, 1) := by decide +kernel
theorem dL_law_1350 : decode cL_law 1350 = .ok (.iload_n 3, 1) := by decide +kernel
theorem dL_law_1351 : decode cL_law 1351 = .ok (.iconst 1, 1) := by decide +kernel
theorem dL_law_1352 : decode cL_law 1352 = .ok (.iadd, 1) := by decide +kernel
theorem dL_law_1353 : decode cL_law 1353 = .ok (.iaload, 1) := by decide +kernel
theorem dL_law_1354 : decode cL_law 1354 = .ok (.invokevirtual 156, 3) := by decide +kernel
theorem dL_law_1357 : decode cL_law 1357 = .ok (.aload_n 2, 1) := by decide +kernel
theorem dL_law_1358 : decode cL_law 1358 = .ok (.aload_n 0, 1) := by decide +kernel
theorem dL_law_1359 : decode cL_law 1359 = .ok (.iload_n 3, 1) := by decide +kernel
theorem dL_law_1360 : decode cL_law 1360 = .ok (.iconst 1, 1) := by decide +kernel
theorem dL_law_1361 : decode cL_law 1361 = .ok (.iadd, 1) := by decide +kernel
theorem dL_law_1362 : decode cL_law 1362 = .ok (.iaload, 1) := by decide +kernel
theorem dL_law_1363 : decode cL_law 1363 = .ok (.invokevirtual 159, 3) := by decide +kernel
theorem dL_law_1366 : decode cL_law 1366 = .ok (.if_icmp .eq 5, 3) := by decide +kernel
theorem dL_law_1369 : decode cL_law 1369 = .ok (.iconst 0, 1) := by decide +kernel
theorem dL_law_1370 : decode cL_law 1370 = .ok (.ireturn, 1) := by decide +kernel
theorem dL_law_1371 : decode cL_law 1371 = .ok (.iinc 3 6, 3) := by decide +kernel
theorem dL_law_1374 : decode cL_law 1374 = .ok (.goto (-1356), 3) := by decide +kernel
theorem dL_law_1377 : decode cL_law 1377 = .ok (.iconst 1, 1) := by decide +kernel
theorem dL_law_1378 : decode cL_law 1378 = .ok (.ireturn, 1) := by decide +kernel
def L_L_law_18 (L : Nat) (xs : Nat → Int32) (d : Nat) (v1 : Option Nm) (v2 : Option Nm) (v3 : Int32) (h : MH) (u : Nat) (Q : Int32 → MH → Prop) : Prop := T (uL L xs) (d + 6) 18 [some (jR (some scr)), some (jR v1), some (jR v2), some (jI v3)] [] h u (qI Q)
def F_L_law (L : Nat) (xs : Nat → Int32) (d : Nat)  (h : MH) (u : Nat) (Q : Int32 → MH → Prop) : Prop :=
  nO h u 10 [jR none, jR none, jR none, jR none, jR none, jR none, jR none, jR none, jI 0, jI 0, jI 0, jI 0, jI 0, jI 0] fun x1 h u =>
  iV (d + 5) u_X11_init [jR (some x1)] h u fun h u =>
  nO h u 11 [jI 0, jI 0, jI 0, jI 0, jR none, jR none, jR none, jR none, jR none, jI 0, jR none, jR none, jR none, jR none, jR none, jR none, jR none, jR none, jR none, jI 0, jR none, jR none, jR none, jR none, jI 0, jR none, jR none, jR none, jR none, jR none, jR none, jR none, jR none, jI 0, jI 0, jI 0, jR none, jR none, jR none, jR none, jR none, jR none, jR none, jI 0, jR none, jI 0] fun x3 h u =>
  iV (d + 5) u_X12_init [jR (some x3)] h u fun h u =>
  L_L_law_18 L xs d (some x1) (some x3) 0 h u Q
set_option maxRecDepth 20000 in
theorem E_L_law {L : Nat} {xs : Nat → Int32} {d : Nat}  {h : MH} {u : Nat} {Q : Int32 → MH → Prop} (H : F_L_law L xs d  h u Q) : T (uL L xs) (d + 6) 0 [some (jR (some scr)), none, none, none] [] h u (qI Q) := by
  unfold F_L_law at H
  refine T_nO (pc := 0) nf_L_7 dL_law_0 (nO_mono (fun x1 h u H => ?_) H)
  refine T_dup (pc := 3) rfl dL_law_3 ?_
  refine T_invI (pc := 4) (av := []) (rest := [jR (some x1)]) dL_law_4 mf_X11_init rfl rfl c_1_21 c_1_22 rfl (Nat.le_of_ble_eq_true rfl) rfl (iV_k (iV_mono (fun h u H => ?_) H))
  refine T_astore_n (pc := 7) (ls2 := [some (jR (some scr)), some (jR (some x1)), none, none]) dL_law_7 rfl (Nat.le_of_ble_eq_true rfl) rfl ?_
  refine T_nO (pc := 8) nf_L_10 dL_law_8 (nO_mono (fun x3 h u H => ?_) H)
  refine T_dup (pc := 11) rfl dL_law_11 ?_
  refine T_invI (pc := 12) (av := []) (rest := [jR (some x3)]) dL_law_12 mf_X12_init rfl rfl c_4_179 c_4_180 rfl (Nat.le_of_ble_eq_true rfl) rfl (iV_k (iV_mono (fun h u H => ?_) H))
  refine T_astore_n (pc := 15) (ls2 := [some (jR (some scr)), some (jR (some x1)), some (jR (some x3)), none]) dL_law_15 rfl (Nat.le_of_ble_eq_true rfl) rfl ?_
  refine T_iconst (pc := 16) (v := 0) dL_law_16 (by decide) ?_
  refine T_istore_n (pc := 17) (ls2 := [some (jR (some scr)), some (jR (some x1)), some (jR (some x3)), some (jI 0)]) dL_law_17 rfl (Nat.le_of_ble_eq_true rfl) rfl ?_
  exact T.forget H ⟨rfl, rfl, rfl, rfl, trivial⟩
def F_L_law_512 (L : Nat) (xs : Nat → Int32) (d : Nat) (v1 : Option Nm) (v2 : Option Nm) (v3 : Int32) (h : MH) (u : Nat) (Q : Int32 → MH → Prop) : Prop :=
  vp_in (v3 + 1) L ∧
  rc h v1 10 ∧ iI (d + 5) u_X11_twin [jR v1, jI (xs (v3 + 1).toNatClampNeg)] h u fun x2 h u =>
  vp_in (v3 + 1) L ∧
  rc h v2 11 ∧ F_X12_twin (d + 3) v2 (xs (v3 + 1).toNatClampNeg) h 0 fun x4 h =>
  if x2 = x4 then
    L_L_law_18 L xs d v1 v2 (v3 + 6) h u Q
  else
    nz 0 ∧ Q 0 h
set_option maxRecDepth 20000 in
theorem E_L_law_512 {L : Nat} {xs : Nat → Int32} {d : Nat} {v1 : Option Nm} {v2 : Option Nm} {v3 : Int32} {h : MH} {u : Nat} {Q : Int32 → MH → Prop} (H : F_L_law_512 L xs d v1 v2 v3 h u Q) : T (uL L xs) (d + 6) 512 [some (jR (some scr)), some (jR v1), some (jR v2), some (jI v3)] [] h u (qI Q) := by
  unfold F_L_law_512 at H
  refine T_aload_n (pc := 512) dL_law_512 rfl rfl ?_
  refine T_aload_n (pc := 513) dL_law_513 rfl rfl ?_
  refine T_iload_n (pc := 514) dL_law_514 rfl rfl ?_
  refine T_iconst (pc := 515) (v := 1) dL_law_515 (by decide) ?_
  refine T_iadd (pc := 516) dL_law_516 ?_
  obtain ⟨H0, H⟩ := H
  refine T_sld (pc := 517) rfl dL_law_517 H0 ?_
  obtain ⟨H0, H⟩ := H
  refine T_iV (pc := 518) (ci := 10) (av := [jI (xs (v3 + 1).toNatClampNeg)]) (rest := []) (o := v1) dL_law_518 mf_X11_twin c_2_97 c_2_98 c_2_99 rfl rfl (Nat.le_of_ble_eq_true rfl) rfl H0 (iI_k (iI_mono (fun x2 h u H => ?_) H))
  refine T_aload_n (pc := 521) dL_law_521 rfl rfl ?_
  refine T_aload_n (pc := 522) dL_law_522 rfl rfl ?_
  refine T_iload_n (pc := 523) dL_law_523 rfl rfl ?_
  refine T_iconst (pc := 524) (v := 1) dL_law_524 (by decide) ?_
  refine T_iadd (pc := 525) dL_law_525 ?_
  obtain ⟨H0, H⟩ := H
  refine T_sld (pc := 526) rfl dL_law_526 H0 ?_
  obtain ⟨H0, H⟩ := H
  refine T_iV (pc := 527) (ci := 11) (av := [jI (xs (v3 + 1).toNatClampNeg)]) (rest := [jI x2]) (o := v2) dL_law_527 mf_X12_twin c_5_174 c_5_175 c_5_176 rfl rfl (Nat.le_of_ble_eq_true rfl) rfl H0 (iI_k (iI_m0 (fun x4 h H => ?_) (J_X12_twin (d := (d + 3)) H)))
  refine T_icmp_eq (pc := 530) (tgt := 1371) dL_law_530 (by decide) (fun hc => ?_) (fun hc => ?_)
  · rw [if_pos hc] at H
    refine T_iinc (pc := 1371) (v := v3 + 6) (ls2 := [some (jR (some scr)), some (jR v1), some (jR v2), some (jI (v3 + 6))]) dL_law_1371 rfl rfl (Nat.le_of_ble_eq_true rfl) rfl ?_
    refine T_goto (pc := 1374) (tgt := 18) dL_law_1374 (by decide) ?_
    exact T.forget H ⟨rfl, rfl, rfl, rfl, trivial⟩
  · rw [if_neg hc] at H
    refine T_iconst (pc := 533) (v := 0) dL_law_533 (by decide) ?_
    exact T_ireturn (pc := 534) rfl (nz_nar H.1) dL_law_534 H.2
def F_L_law_914 (L : Nat) (xs : Nat → Int32) (d : Nat) (v1 : Option Nm) (v2 : Option Nm) (v3 : Int32) (h : MH) (u : Nat) (Q : Int32 → MH → Prop) : Prop :=
  vp_in (v3 + 1) L ∧
  vp_in (v3 + 2) L ∧
  rc h v1 10 ∧ iI (d + 5) u_X11_named [jR v1, jI (xs (v3 + 1).toNatClampNeg), jI (xs (v3 + 2).toNatClampNeg)] h u fun x3 h u =>
  vp_in (v3 + 1) L ∧
  vp_in (v3 + 2) L ∧
  rc h v2 11 ∧ F_X12_named (d + 2) v2 (xs (v3 + 1).toNatClampNeg) (xs (v3 + 2).toNatClampNeg) h 0 fun x6 h =>
  if x3 = x6 then
    L_L_law_18 L xs d v1 v2 (v3 + 6) h u Q
  else
    nz 0 ∧ Q 0 h
set_option maxRecDepth 20000 in
theorem E_L_law_914 {L : Nat} {xs : Nat → Int32} {d : Nat} {v1 : Option Nm} {v2 : Option Nm} {v3 : Int32} {h : MH} {u : Nat} {Q : Int32 → MH → Prop} (H : F_L_law_914 L xs d v1 v2 v3 h u Q) : T (uL L xs) (d + 6) 914 [some (jR (some scr)), some (jR v1), some (jR v2), some (jI v3)] [] h u (qI Q) := by
  unfold F_L_law_914 at H
  refine T_aload_n (pc := 914) dL_law_914 rfl rfl ?_
  refine T_aload_n (pc := 915) dL_law_915 rfl rfl ?_
  refine T_iload_n (pc := 916) dL_law_916 rfl rfl ?_
  refine T_iconst (pc := 917) (v := 1) dL_law_917 (by decide) ?_
  refine T_iadd (pc := 918) dL_law_918 ?_
  obtain ⟨H0, H⟩ := H
  refine T_sld (pc := 919) rfl dL_law_919 H0 ?_
  refine T_aload_n (pc := 920) dL_law_920 rfl rfl ?_
  refine T_iload_n (pc := 921) dL_law_921 rfl rfl ?_
  refine T_iconst (pc := 922) (v := 2) dL_law_922 (by decide) ?_
  refine T_iadd (pc := 923) dL_law_923 ?_
  obtain ⟨H0, H⟩ := H
  refine T_sld (pc := 924) rfl dL_law_924 H0 ?_
  obtain ⟨H0, H⟩ := H
  refine T_iV (pc := 925) (ci := 10) (av := [jI (xs (v3 + 1).toNatClampNeg), jI (xs (v3 + 2).toNatClampNeg)]) (rest := []) (o := v1) dL_law_925 mf_X11_named c_3_220 c_3_221 c_3_222 rfl rfl (Nat.le_of_ble_eq_true rfl) rfl H0 (iI_k (iI_mono (fun x3 h u H => ?_) H))
  refine T_aload_n (pc := 928) dL_law_928 rfl rfl ?_
  refine T_aload_n (pc := 929) dL_law_929 rfl rfl ?_
  refine T_iload_n (pc := 930) dL_law_930 rfl rfl ?_
  refine T_iconst (pc := 931) (v := 1) dL_law_931 (by decide) ?_
  refine T_iadd (pc := 932) dL_law_932 ?_
  obtain ⟨H0, H⟩ := H
  refine T_sld (pc := 933) rfl dL_law_933 H0 ?_
  refine T_aload_n (pc := 934) dL_law_934 rfl rfl ?_
  refine T_iload_n (pc := 935) dL_law_935 rfl rfl ?_
  refine T_iconst (pc := 936) (v := 2) dL_law_936 (by decide) ?_
  refine T_iadd (pc := 937) dL_law_937 ?_
  obtain ⟨H0, H⟩ := H
  refine T_sld (pc := 938) rfl dL_law_938 H0 ?_
  obtain ⟨H0, H⟩ := H
  refine T_iV (pc := 939) (ci := 11) (av := [jI (xs (v3 + 1).toNatClampNeg), jI (xs (v3 + 2).toNatClampNeg)]) (rest := [jI x3]) (o := v2) dL_law_939 mf_X12_named c_6_26 c_6_27 c_6_28 rfl rfl (Nat.le_of_ble_eq_true rfl) rfl H0 (iI_k (iI_m0 (fun x6 h H => ?_) (J_X12_named (d := (d + 2)) H)))
  refine T_icmp_eq (pc := 942) (tgt := 1371) dL_law_942 (by decide) (fun hc => ?_) (fun hc => ?_)
  · rw [if_pos hc] at H
    refine T_iinc (pc := 1371) (v := v3 + 6) (ls2 := [some (jR (some scr)), some (jR v1), some (jR v2), some (jI (v3 + 6))]) dL_law_1371 rfl rfl (Nat.le_of_ble_eq_true rfl) rfl ?_
    refine T_goto (pc := 1374) (tgt := 18) dL_law_1374 (by decide) ?_
    exact T.forget H ⟨rfl, rfl, rfl, rfl, trivial⟩
  · rw [if_neg hc] at H
    refine T_iconst (pc := 945) (v := 0) dL_law_945 (by decide) ?_
    exact T_ireturn (pc := 946) rfl (nz_nar H.1) dL_law_946 H.2
def F_L_law_1299 (L : Nat) (xs : Nat → Int32) (d : Nat) (v1 : Option Nm) (v2 : Option Nm) (v3 : Int32) (h : MH) (u : Nat) (Q : Int32 → MH → Prop) : Prop :=
  vp_in (v3 + 1) L ∧
  rc h v1 10 ∧ iI (d + 5) u_X11_carry [jR v1, jI (xs (v3 + 1).toNatClampNeg)] h u fun x2 h u =>
  vp_in (v3 + 1) L ∧
  rc h v2 11 ∧ F_X12_carry d v2 (xs (v3 + 1).toNatClampNeg) h 0 fun x4 h =>
  if x2 = x4 then
    L_L_law_18 L xs d v1 v2 (v3 + 6) h u Q
  else
    nz 0 ∧ Q 0 h
set_option maxRecDepth 20000 in
theorem E_L_law_1299 {L : Nat} {xs : Nat → Int32} {d : Nat} {v1 : Option Nm} {v2 : Option Nm} {v3 : Int32} {h : MH} {u : Nat} {Q : Int32 → MH → Prop} (H : F_L_law_1299 L xs d v1 v2 v3 h u Q) : T (uL L xs) (d + 6) 1299 [some (jR (some scr)), some (jR v1), some (jR v2), some (jI v3)] [] h u (qI Q) := by
  unfold F_L_law_1299 at H
  refine T_aload_n (pc := 1299) dL_law_1299 rfl rfl ?_
  refine T_aload_n (pc := 1300) dL_law_1300 rfl rfl ?_
  refine T_iload_n (pc := 1301) dL_law_1301 rfl rfl ?_
  refine T_iconst (pc := 1302) (v := 1) dL_law_1302 (by decide) ?_
  refine T_iadd (pc := 1303) dL_law_1303 ?_
  obtain ⟨H0, H⟩ := H
  refine T_sld (pc := 1304) rfl dL_law_1304 H0 ?_
  obtain ⟨H0, H⟩ := H
  refine T_iV (pc := 1305) (ci := 10) (av := [jI (xs (v3 + 1).toNatClampNeg)]) (rest := []) (o := v1) dL_law_1305 mf_X11_carry c_4_154 c_4_155 c_4_156 rfl rfl (Nat.le_of_ble_eq_true rfl) rfl H0 (iI_k (iI_mono (fun x2 h u H => ?_) H))
  refine T_aload_n (pc := 1308) dL_law_1308 rfl rfl ?_
  refine T_aload_n (pc := 1309) dL_law_1309 rfl rfl ?_
  refine T_iload_n (pc := 1310) dL_law_1310 rfl rfl ?_
  refine T_iconst (pc := 1311) (v := 1) dL_law_1311 (by decide) ?_
  refine T_iadd (pc := 1312) dL_law_1312 ?_
  obtain ⟨H0, H⟩ := H
  refine T_sld (pc := 1313) rfl dL_law_1313 H0 ?_
  obtain ⟨H0, H⟩ := H
  refine T_iV (pc := 1314) (ci := 11) (av := [jI (xs (v3 + 1).toNatClampNeg)]) (rest := [jI x2]) (o := v2) dL_law_1314 mf_X12_carry c_6_181 c_6_182 c_6_183 rfl rfl (Nat.le_of_ble_eq_true rfl) rfl H0 (iI_k (iI_m0 (fun x4 h H => ?_) (J_X12_carry (d := d) H)))
  refine T_icmp_eq (pc := 1317) (tgt := 1371) dL_law_1317 (by decide) (fun hc => ?_) (fun hc => ?_)
  · rw [if_pos hc] at H
    refine T_iinc (pc := 1371) (v := v3 + 6) (ls2 := [some (jR (some scr)), some (jR v1), some (jR v2), some (jI (v3 + 6))]) dL_law_1371 rfl rfl (Nat.le_of_ble_eq_true rfl) rfl ?_
    refine T_goto (pc := 1374) (tgt := 18) dL_law_1374 (by decide) ?_
    exact T.forget H ⟨rfl, rfl, rfl, rfl, trivial⟩
  · rw [if_neg hc] at H
    refine T_iconst (pc := 1320) (v := 0) dL_law_1320 (by decide) ?_
    exact T_ireturn (pc := 1321) rfl (nz_nar H.1) dL_law_1321 H.2
def F_L_law_1173 (L : Nat) (xs : Nat → Int32) (d : Nat) (v1 : Option Nm) (v2 : Option Nm) (v3 : Int32) (h : MH) (u : Nat) (Q : Int32 → MH → Prop) : Prop :=
  vp_in (v3 + 1) L ∧
  vp_in (v3 + 2) L ∧
  rc h v1 10 ∧ F_X11_order (d + 4) v1 (xs (v3 + 1).toNatClampNeg) (xs (v3 + 2).toNatClampNeg) h 0 fun x3 h =>
  vp_in (v3 + 1) L ∧
  vp_in (v3 + 2) L ∧
  rc h v2 11 ∧ F_X12_order d v2 (xs (v3 + 1).toNatClampNeg) (xs (v3 + 2).toNatClampNeg) h 0 fun x6 h =>
  if x3 = x6 then
    L_L_law_18 L xs d v1 v2 (v3 + 6) h u Q
  else
    nz 0 ∧ Q 0 h
set_option maxRecDepth 20000 in
theorem E_L_law_1173 {L : Nat} {xs : Nat → Int32} {d : Nat} {v1 : Option Nm} {v2 : Option Nm} {v3 : Int32} {h : MH} {u : Nat} {Q : Int32 → MH → Prop} (H : F_L_law_1173 L xs d v1 v2 v3 h u Q) : T (uL L xs) (d + 6) 1173 [some (jR (some scr)), some (jR v1), some (jR v2), some (jI v3)] [] h u (qI Q) := by
  unfold F_L_law_1173 at H
  refine T_aload_n (pc := 1173) dL_law_1173 rfl rfl ?_
  refine T_aload_n (pc := 1174) dL_law_1174 rfl rfl ?_
  refine T_iload_n (pc := 1175) dL_law_1175 rfl rfl ?_
  refine T_iconst (pc := 1176) (v := 1) dL_law_1176 (by decide) ?_
  refine T_iadd (pc := 1177) dL_law_1177 ?_
  obtain ⟨H0, H⟩ := H
  refine T_sld (pc := 1178) rfl dL_law_1178 H0 ?_
  refine T_aload_n (pc := 1179) dL_law_1179 rfl rfl ?_
  refine T_iload_n (pc := 1180) dL_law_1180 rfl rfl ?_
  refine T_iconst (pc := 1181) (v := 2) dL_law_1181 (by decide) ?_
  refine T_iadd (pc := 1182) dL_law_1182 ?_
  obtain ⟨H0, H⟩ := H
  refine T_sld (pc := 1183) rfl dL_law_1183 H0 ?_
  obtain ⟨H0, H⟩ := H
  refine T_iV (pc := 1184) (ci := 10) (av := [jI (xs (v3 + 1).toNatClampNeg), jI (xs (v3 + 2).toNatClampNeg)]) (rest := []) (o := v1) dL_law_1184 mf_X11_order c_4_53 c_4_54 c_4_55 rfl rfl (Nat.le_of_ble_eq_true rfl) rfl H0 (iI_k (iI_m0 (fun x3 h H => ?_) (J_X11_order (d := (d + 4)) H)))
  refine T_aload_n (pc := 1187) dL_law_1187 rfl rfl ?_
  refine T_aload_n (pc := 1188) dL_law_1188 rfl rfl ?_
  refine T_iload_n (pc := 1189) dL_law_1189 rfl rfl ?_
  refine T_iconst (pc := 1190) (v := 1) dL_law_1190 (by decide) ?_
  refine T_iadd (pc := 1191) dL_law_1191 ?_
  obtain ⟨H0, H⟩ := H
  refine T_sld (pc := 1192) rfl dL_law_1192 H0 ?_
  refine T_aload_n (pc := 1193) dL_law_1193 rfl rfl ?_
  refine T_iload_n (pc := 1194) dL_law_1194 rfl rfl ?_
  refine T_iconst (pc := 1195) (v := 2) dL_law_1195 (by decide) ?_
  refine T_iadd (pc := 1196) dL_law_1196 ?_
  obtain ⟨H0, H⟩ := H
  refine T_sld (pc := 1197) rfl dL_law_1197 H0 ?_
  obtain ⟨H0, H⟩ := H
  refine T_iV (pc := 1198) (ci := 11) (av := [jI (xs (v3 + 1).toNatClampNeg), jI (xs (v3 + 2).toNatClampNeg)]) (rest := [jI x3]) (o := v2) dL_law_1198 mf_X12_order c_6_104 c_6_105 c_6_106 rfl rfl (Nat.le_of_ble_eq_true rfl) rfl H0 (iI_k (iI_m0 (fun x6 h H => ?_) (J_X12_order (d := d) H)))
  refine T_icmp_eq (pc := 1201) (tgt := 1371) dL_law_1201 (by decide) (fun hc => ?_) (fun hc => ?_)
  · rw [if_pos hc] at H
    refine T_iinc (pc := 1371) (v := v3 + 6) (ls2 := [some (jR (some scr)), some (jR v1), some (jR v2), some (jI (v3 + 6))]) dL_law_1371 rfl rfl (Nat.le_of_ble_eq_true rfl) rfl ?_
    refine T_goto (pc := 1374) (tgt := 18) dL_law_1374 (by decide) ?_
    exact T.forget H ⟨rfl, rfl, rfl, rfl, trivial⟩
  · rw [if_neg hc] at H
    refine T_iconst (pc := 1204) (v := 0) dL_law_1204 (by decide) ?_
    exact T_ireturn (pc := 1205) rfl (nz_nar H.1) dL_law_1205 H.2
def F_L_law_535 (L : Nat) (xs : Nat → Int32) (d : Nat) (v1 : Option Nm) (v2 : Option Nm) (v3 : Int32) (h : MH) (u : Nat) (Q : Int32 → MH → Prop) : Prop :=
  vp_in (v3 + 1) L ∧
  rc h v1 10 ∧ iI (d + 5) u_X11_record [jR v1, jI (xs (v3 + 1).toNatClampNeg)] h u fun x2 h u =>
  vp_in (v3 + 1) L ∧
  rc h v2 11 ∧ F_X12_record (d + 4) v2 (xs (v3 + 1).toNatClampNeg) h 0 fun x4 h =>
  if x2 = x4 then
    L_L_law_18 L xs d v1 v2 (v3 + 6) h u Q
  else
    nz 0 ∧ Q 0 h
set_option maxRecDepth 20000 in
theorem E_L_law_535 {L : Nat} {xs : Nat → Int32} {d : Nat} {v1 : Option Nm} {v2 : Option Nm} {v3 : Int32} {h : MH} {u : Nat} {Q : Int32 → MH → Prop} (H : F_L_law_535 L xs d v1 v2 v3 h u Q) : T (uL L xs) (d + 6) 535 [some (jR (some scr)), some (jR v1), some (jR v2), some (jI v3)] [] h u (qI Q) := by
  unfold F_L_law_535 at H
  refine T_aload_n (pc := 535) dL_law_535 rfl rfl ?_
  refine T_aload_n (pc := 536) dL_law_536 rfl rfl ?_
  refine T_iload_n (pc := 537) dL_law_537 rfl rfl ?_
  refine T_iconst (pc := 538) (v := 1) dL_law_538 (by decide) ?_
  refine T_iadd (pc := 539) dL_law_539 ?_
  obtain ⟨H0, H⟩ := H
  refine T_sld (pc := 540) rfl dL_law_540 H0 ?_
  obtain ⟨H0, H⟩ := H
  refine T_iV (pc := 541) (ci := 10) (av := [jI (xs (v3 + 1).toNatClampNeg)]) (rest := []) (o := v1) dL_law_541 mf_X11_record c_2_111 c_2_112 c_2_113 rfl rfl (Nat.le_of_ble_eq_true rfl) rfl H0 (iI_k (iI_mono (fun x2 h u H => ?_) H))
  refine T_aload_n (pc := 544) dL_law_544 rfl rfl ?_
  refine T_aload_n (pc := 545) dL_law_545 rfl rfl ?_
  refine T_iload_n (pc := 546) dL_law_546 rfl rfl ?_
  refine T_iconst (pc := 547) (v := 1) dL_law_547 (by decide) ?_
  refine T_iadd (pc := 548) dL_law_548 ?_
  obtain ⟨H0, H⟩ := H
  refine T_sld (pc := 549) rfl dL_law_549 H0 ?_
  obtain ⟨H0, H⟩ := H
  refine T_iV (pc := 550) (ci := 11) (av := [jI (xs (v3 + 1).toNatClampNeg)]) (rest := [jI x2]) (o := v2) dL_law_550 mf_X12_record c_5_182 c_5_183 c_5_184 rfl rfl (Nat.le_of_ble_eq_true rfl) rfl H0 (iI_k (iI_m0 (fun x4 h H => ?_) (J_X12_record (d := (d + 4)) H)))
  refine T_icmp_eq (pc := 553) (tgt := 1371) dL_law_553 (by decide) (fun hc => ?_) (fun hc => ?_)
  · rw [if_pos hc] at H
    refine T_iinc (pc := 1371) (v := v3 + 6) (ls2 := [some (jR (some scr)), some (jR v1), some (jR v2), some (jI (v3 + 6))]) dL_law_1371 rfl rfl (Nat.le_of_ble_eq_true rfl) rfl ?_
    refine T_goto (pc := 1374) (tgt := 18) dL_law_1374 (by decide) ?_
    exact T.forget H ⟨rfl, rfl, rfl, rfl, trivial⟩
  · rw [if_neg hc] at H
    refine T_iconst (pc := 556) (v := 0) dL_law_556 (by decide) ?_
    exact T_ireturn (pc := 557) rfl (nz_nar H.1) dL_law_557 H.2
def F_L_law_1099 (L : Nat) (xs : Nat → Int32) (d : Nat) (v1 : Option Nm) (v2 : Option Nm) (v3 : Int32) (s0 : Int32) (s1 : Option Nm) (s2 : Int32) (s3 : Int32) (s4 : Int32) (h : MH) (u : Nat) (Q : Int32 → MH → Prop) : Prop :=
  rc h s1 11 ∧ F_X12_array (d + 3) s1 s2 s3 s4 h 0 fun x1 h =>
  if s0 = x1 then
    L_L_law_18 L xs d v1 v2 (v3 + 6) h u Q
  else
    nz 0 ∧ Q 0 h
set_option maxRecDepth 20000 in
theorem E_L_law_1099 {L : Nat} {xs : Nat → Int32} {d : Nat} {v1 : Option Nm} {v2 : Option Nm} {v3 : Int32} {s0 : Int32} {s1 : Option Nm} {s2 : Int32} {s3 : Int32} {s4 : Int32} {h : MH} {u : Nat} {Q : Int32 → MH → Prop} (H : F_L_law_1099 L xs d v1 v2 v3 s0 s1 s2 s3 s4 h u Q) : T (uL L xs) (d + 6) 1099 [some (jR (some scr)), some (jR v1), some (jR v2), some (jI v3)] [jI s4, jI s3, jI s2, jR s1, jI s0] h u (qI Q) := by
  unfold F_L_law_1099 at H
  obtain ⟨H0, H⟩ := H
  refine T_iV (pc := 1099) (ci := 11) (av := [jI s2, jI s3, jI s4]) (rest := [jI s0]) (o := s1) dL_law_1099 mf_X12_array c_6_63 c_6_64 c_6_65 rfl rfl (Nat.le_of_ble_eq_true rfl) rfl H0 (iI_k (iI_m0 (fun x1 h H => ?_) (J_X12_array (d := (d + 3)) H)))
  refine T_icmp_eq (pc := 1102) (tgt := 1371) dL_law_1102 (by decide) (fun hc => ?_) (fun hc => ?_)
  · rw [if_pos hc] at H
    refine T_iinc (pc := 1371) (v := v3 + 6) (ls2 := [some (jR (some scr)), some (jR v1), some (jR v2), some (jI (v3 + 6))]) dL_law_1371 rfl rfl (Nat.le_of_ble_eq_true rfl) rfl ?_
    refine T_goto (pc := 1374) (tgt := 18) dL_law_1374 (by decide) ?_
    exact T.forget H ⟨rfl, rfl, rfl, rfl, trivial⟩
  · rw [if_neg hc] at H
    refine T_iconst (pc := 1105) (v := 0) dL_law_1105 (by decide) ?_
    exact T_ireturn (pc := 1106) rfl (nz_nar H.1) dL_law_1106 H.2
def F_L_law_1072 (L : Nat) (xs : Nat → Int32) (d : Nat) (v1 : Option Nm) (v2 : Option Nm) (v3 : Int32) (s0 : Option Nm) (s1 : Int32) (s2 : Int32) (s3 : Int32) (h : MH) (u : Nat) (Q : Int32 → MH → Prop) : Prop :=
  rc h s0 10 ∧ iI (d + 5) u_X11_array [jR s0, jI s1, jI s2, jI s3] h u fun x1 h u =>
  vp_in (v3 + 1) L ∧
  vp_in (v3 + 2) L ∧
  vp_in (v3 + 3) L ∧
  if (xs (v3 + 3).toNatClampNeg) = 0 then
    F_L_law_1099 L xs d v1 v2 v3 x1 v2 (xs (v3 + 1).toNatClampNeg) (xs (v3 + 2).toNatClampNeg) 0 h u Q
  else
    F_L_law_1099 L xs d v1 v2 v3 x1 v2 (xs (v3 + 1).toNatClampNeg) (xs (v3 + 2).toNatClampNeg) 1 h u Q
set_option maxRecDepth 20000 in
theorem E_L_law_1072 {L : Nat} {xs : Nat → Int32} {d : Nat} {v1 : Option Nm} {v2 : Option Nm} {v3 : Int32} {s0 : Option Nm} {s1 : Int32} {s2 : Int32} {s3 : Int32} {h : MH} {u : Nat} {Q : Int32 → MH → Prop} (H : F_L_law_1072 L xs d v1 v2 v3 s0 s1 s2 s3 h u Q) : T (uL L xs) (d + 6) 1072 [some (jR (some scr)), some (jR v1), some (jR v2), some (jI v3)] [jI s3, jI s2, jI s1, jR s0] h u (qI Q) := by
  unfold F_L_law_1072 at H
  obtain ⟨H0, H⟩ := H
  refine T_iV (pc := 1072) (ci := 10) (av := [jI s1, jI s2, jI s3]) (rest := []) (o := s0) dL_law_1072 mf_X11_array c_4_5 c_4_6 c_4_7 rfl rfl (Nat.le_of_ble_eq_true rfl) rfl H0 (iI_k (iI_mono (fun x1 h u H => ?_) H))
  refine T_aload_n (pc := 1075) dL_law_1075 rfl rfl ?_
  refine T_aload_n (pc := 1076) dL_law_1076 rfl rfl ?_
  refine T_iload_n (pc := 1077) dL_law_1077 rfl rfl ?_
  refine T_iconst (pc := 1078) (v := 1) dL_law_1078 (by decide) ?_
  refine T_iadd (pc := 1079) dL_law_1079 ?_
  obtain ⟨H0, H⟩ := H
  refine T_sld (pc := 1080) rfl dL_law_1080 H0 ?_
  refine T_aload_n (pc := 1081) dL_law_1081 rfl rfl ?_
  refine T_iload_n (pc := 1082) dL_law_1082 rfl rfl ?_
  refine T_iconst (pc := 1083) (v := 2) dL_law_1083 (by decide) ?_
  refine T_iadd (pc := 1084) dL_law_1084 ?_
  obtain ⟨H0, H⟩ := H
  refine T_sld (pc := 1085) rfl dL_law_1085 H0 ?_
  refine T_aload_n (pc := 1086) dL_law_1086 rfl rfl ?_
  refine T_iload_n (pc := 1087) dL_law_1087 rfl rfl ?_
  refine T_iconst (pc := 1088) (v := 3) dL_law_1088 (by decide) ?_
  refine T_iadd (pc := 1089) dL_law_1089 ?_
  obtain ⟨H0, H⟩ := H
  refine T_sld (pc := 1090) rfl dL_law_1090 H0 ?_
  refine T_if_eq (pc := 1091) (tgt := 1098) dL_law_1091 (by decide) (fun hc => ?_) (fun hc => ?_)
  · rw [if_pos hc] at H
    refine T_iconst (pc := 1098) (v := 0) dL_law_1098 (by decide) ?_
    exact T.forget (E_L_law_1099 H) ⟨rfl, rfl, rfl, rfl, trivial⟩
  · rw [if_neg hc] at H
    refine T_iconst (pc := 1094) (v := 1) dL_law_1094 (by decide) ?_
    refine T_goto (pc := 1095) (tgt := 1099) dL_law_1095 (by decide) ?_
    exact T.forget (E_L_law_1099 H) ⟨rfl, rfl, rfl, rfl, trivial⟩
def F_L_law_1048 (L : Nat) (xs : Nat → Int32) (d : Nat) (v1 : Option Nm) (v2 : Option Nm) (v3 : Int32) (h : MH) (u : Nat) (Q : Int32 → MH → Prop) : Prop :=
  vp_in (v3 + 1) L ∧
  vp_in (v3 + 2) L ∧
  vp_in (v3 + 3) L ∧
  if (xs (v3 + 3).toNatClampNeg) = 0 then
    F_L_law_1072 L xs d v1 v2 v3 v1 (xs (v3 + 1).toNatClampNeg) (xs (v3 + 2).toNatClampNeg) 0 h u Q
  else
    F_L_law_1072 L xs d v1 v2 v3 v1 (xs (v3 + 1).toNatClampNeg) (xs (v3 + 2).toNatClampNeg) 1 h u Q
set_option maxRecDepth 20000 in
theorem E_L_law_1048 {L : Nat} {xs : Nat → Int32} {d : Nat} {v1 : Option Nm} {v2 : Option Nm} {v3 : Int32} {h : MH} {u : Nat} {Q : Int32 → MH → Prop} (H : F_L_law_1048 L xs d v1 v2 v3 h u Q) : T (uL L xs) (d + 6) 1048 [some (jR (some scr)), some (jR v1), some (jR v2), some (jI v3)] [] h u (qI Q) := by
  unfold F_L_law_1048 at H
  refine T_aload_n (pc := 1048) dL_law_1048 rfl rfl ?_
  refine T_aload_n (pc := 1049) dL_law_1049 rfl rfl ?_
  refine T_iload_n (pc := 1050) dL_law_1050 rfl rfl ?_
  refine T_iconst (pc := 1051) (v := 1) dL_law_1051 (by decide) ?_
  refine T_iadd (pc := 1052) dL_law_1052 ?_
  obtain ⟨H0, H⟩ := H
  refine T_sld (pc := 1053) rfl dL_law_1053 H0 ?_
  refine T_aload_n (pc := 1054) dL_law_1054 rfl rfl ?_
  refine T_iload_n (pc := 1055) dL_law_1055 rfl rfl ?_
  refine T_iconst (pc := 1056) (v := 2) dL_law_1056 (by decide) ?_
  refine T_iadd (pc := 1057) dL_law_1057 ?_
  obtain ⟨H0, H⟩ := H
  refine T_sld (pc := 1058) rfl dL_law_1058 H0 ?_
  refine T_aload_n (pc := 1059) dL_law_1059 rfl rfl ?_
  refine T_iload_n (pc := 1060) dL_law_1060 rfl rfl ?_
  refine T_iconst (pc := 1061) (v := 3) dL_law_1061 (by decide) ?_
  refine T_iadd (pc := 1062) dL_law_1062 ?_
  obtain ⟨H0, H⟩ := H
  refine T_sld (pc := 1063) rfl dL_law_1063 H0 ?_
  refine T_if_eq (pc := 1064) (tgt := 1071) dL_law_1064 (by decide) (fun hc => ?_) (fun hc => ?_)
  · rw [if_pos hc] at H
    refine T_iconst (pc := 1071) (v := 0) dL_law_1071 (by decide) ?_
    exact T.forget (E_L_law_1072 H) ⟨rfl, rfl, rfl, rfl, trivial⟩
  · rw [if_neg hc] at H
    refine T_iconst (pc := 1067) (v := 1) dL_law_1067 (by decide) ?_
    refine T_goto (pc := 1068) (tgt := 1072) dL_law_1068 (by decide) ?_
    exact T.forget (E_L_law_1072 H) ⟨rfl, rfl, rfl, rfl, trivial⟩
def F_L_law_416 (L : Nat) (xs : Nat → Int32) (d : Nat) (v1 : Option Nm) (v2 : Option Nm) (v3 : Int32) (h : MH) (u : Nat) (Q : Int32 → MH → Prop) : Prop :=
  vp_in (v3 + 1) L ∧
  vp_in (v3 + 2) L ∧
  rc h v1 10 ∧ F_X11_length (d + 4) v1 (xs (v3 + 1).toNatClampNeg) (xs (v3 + 2).toNatClampNeg) h 0 fun x3 h =>
  vp_in (v3 + 1) L ∧
  vp_in (v3 + 2) L ∧
  rc h v2 11 ∧ F_X12_length (d + 3) v2 (xs (v3 + 1).toNatClampNeg) (xs (v3 + 2).toNatClampNeg) h 0 fun x6 h =>
  if x3 = x6 then
    L_L_law_18 L xs d v1 v2 (v3 + 6) h u Q
  else
    nz 0 ∧ Q 0 h
set_option maxRecDepth 20000 in
theorem E_L_law_416 {L : Nat} {xs : Nat → Int32} {d : Nat} {v1 : Option Nm} {v2 : Option Nm} {v3 : Int32} {h : MH} {u : Nat} {Q : Int32 → MH → Prop} (H : F_L_law_416 L xs d v1 v2 v3 h u Q) : T (uL L xs) (d + 6) 416 [some (jR (some scr)), some (jR v1), some (jR v2), some (jI v3)] [] h u (qI Q) := by
  unfold F_L_law_416 at H
  refine T_aload_n (pc := 416) dL_law_416 rfl rfl ?_
  refine T_aload_n (pc := 417) dL_law_417 rfl rfl ?_
  refine T_iload_n (pc := 418) dL_law_418 rfl rfl ?_
  refine T_iconst (pc := 419) (v := 1) dL_law_419 (by decide) ?_
  refine T_iadd (pc := 420) dL_law_420 ?_
  obtain ⟨H0, H⟩ := H
  refine T_sld (pc := 421) rfl dL_law_421 H0 ?_
  refine T_aload_n (pc := 422) dL_law_422 rfl rfl ?_
  refine T_iload_n (pc := 423) dL_law_423 rfl rfl ?_
  refine T_iconst (pc := 424) (v := 2) dL_law_424 (by decide) ?_
  refine T_iadd (pc := 425) dL_law_425 ?_
  obtain ⟨H0, H⟩ := H
  refine T_sld (pc := 426) rfl dL_law_426 H0 ?_
  obtain ⟨H0, H⟩ := H
  refine T_iV (pc := 427) (ci := 10) (av := [jI (xs (v3 + 1).toNatClampNeg), jI (xs (v3 + 2).toNatClampNeg)]) (rest := []) (o := v1) dL_law_427 mf_X11_length c_2_79 c_2_80 c_2_81 rfl rfl (Nat.le_of_ble_eq_true rfl) rfl H0 (iI_k (iI_m0 (fun x3 h H => ?_) (J_X11_length (d := (d + 4)) H)))
  refine T_aload_n (pc := 430) dL_law_430 rfl rfl ?_
  refine T_aload_n (pc := 431) dL_law_431 rfl rfl ?_
  refine T_iload_n (pc := 432) dL_law_432 rfl rfl ?_
  refine T_iconst (pc := 433) (v := 1) dL_law_433 (by decide) ?_
  refine T_iadd (pc := 434) dL_law_434 ?_
  obtain ⟨H0, H⟩ := H
  refine T_sld (pc := 435) rfl dL_law_435 H0 ?_
  refine T_aload_n (pc := 436) dL_law_436 rfl rfl ?_
  refine T_iload_n (pc := 437) dL_law_437 rfl rfl ?_
  refine T_iconst (pc := 438) (v := 2) dL_law_438 (by decide) ?_
  refine T_iadd (pc := 439) dL_law_439 ?_
  obtain ⟨H0, H⟩ := H
  refine T_sld (pc := 440) rfl dL_law_440 H0 ?_
  obtain ⟨H0, H⟩ := H
  refine T_iV (pc := 441) (ci := 11) (av := [jI (xs (v3 + 1).toNatClampNeg), jI (xs (v3 + 2).toNatClampNeg)]) (rest := [jI x3]) (o := v2) dL_law_441 mf_X12_length c_5_163 c_5_164 c_5_165 rfl rfl (Nat.le_of_ble_eq_true rfl) rfl H0 (iI_k (iI_m0 (fun x6 h H => ?_) (J_X12_length (d := (d + 3)) H)))
  refine T_icmp_eq (pc := 444) (tgt := 1371) dL_law_444 (by decide) (fun hc => ?_) (fun hc => ?_)
  · rw [if_pos hc] at H
    refine T_iinc (pc := 1371) (v := v3 + 6) (ls2 := [some (jR (some scr)), some (jR v1), some (jR v2), some (jI (v3 + 6))]) dL_law_1371 rfl rfl (Nat.le_of_ble_eq_true rfl) rfl ?_
    refine T_goto (pc := 1374) (tgt := 18) dL_law_1374 (by decide) ?_
    exact T.forget H ⟨rfl, rfl, rfl, rfl, trivial⟩
  · rw [if_neg hc] at H
    refine T_iconst (pc := 447) (v := 0) dL_law_447 (by decide) ?_
    exact T_ireturn (pc := 448) rfl (nz_nar H.1) dL_law_448 H.2
def F_L_law_718 (L : Nat) (xs : Nat → Int32) (d : Nat) (v1 : Option Nm) (v2 : Option Nm) (v3 : Int32) (s0 : Int32) (s1 : Option Nm) (s2 : Int32) (s3 : Int32) (h : MH) (u : Nat) (Q : Int32 → MH → Prop) : Prop :=
  rc h s1 11 ∧ F_X12_family (d + 5) s1 s2 s3 h 0 fun x1 h =>
  if s0 = x1 then
    L_L_law_18 L xs d v1 v2 (v3 + 6) h u Q
  else
    nz 0 ∧ Q 0 h
set_option maxRecDepth 20000 in
theorem E_L_law_718 {L : Nat} {xs : Nat → Int32} {d : Nat} {v1 : Option Nm} {v2 : Option Nm} {v3 : Int32} {s0 : Int32} {s1 : Option Nm} {s2 : Int32} {s3 : Int32} {h : MH} {u : Nat} {Q : Int32 → MH → Prop} (H : F_L_law_718 L xs d v1 v2 v3 s0 s1 s2 s3 h u Q) : T (uL L xs) (d + 6) 718 [some (jR (some scr)), some (jR v1), some (jR v2), some (jI v3)] [jI s3, jI s2, jR s1, jI s0] h u (qI Q) := by
  unfold F_L_law_718 at H
  obtain ⟨H0, H⟩ := H
  refine T_iV (pc := 718) (ci := 11) (av := [jI s2, jI s3]) (rest := [jI s0]) (o := s1) dL_law_718 mf_X12_family c_5_222 c_5_223 c_5_224 rfl rfl (Nat.le_of_ble_eq_true rfl) rfl H0 (iI_k (iI_m0 (fun x1 h H => ?_) (J_X12_family (d := (d + 5)) H)))
  refine T_icmp_eq (pc := 721) (tgt := 1371) dL_law_721 (by decide) (fun hc => ?_) (fun hc => ?_)
  · rw [if_pos hc] at H
    refine T_iinc (pc := 1371) (v := v3 + 6) (ls2 := [some (jR (some scr)), some (jR v1), some (jR v2), some (jI (v3 + 6))]) dL_law_1371 rfl rfl (Nat.le_of_ble_eq_true rfl) rfl ?_
    refine T_goto (pc := 1374) (tgt := 18) dL_law_1374 (by decide) ?_
    exact T.forget H ⟨rfl, rfl, rfl, rfl, trivial⟩
  · rw [if_neg hc] at H
    refine T_iconst (pc := 724) (v := 0) dL_law_724 (by decide) ?_
    exact T_ireturn (pc := 725) rfl (nz_nar H.1) dL_law_725 H.2
def F_L_law_696 (L : Nat) (xs : Nat → Int32) (d : Nat) (v1 : Option Nm) (v2 : Option Nm) (v3 : Int32) (s0 : Option Nm) (s1 : Int32) (s2 : Int32) (h : MH) (u : Nat) (Q : Int32 → MH → Prop) : Prop :=
  rc h s0 10 ∧ F_X11_family (d + 5) s0 s1 s2 h 0 fun x1 h =>
  vp_in (v3 + 1) L ∧
  vp_in (v3 + 2) L ∧
  if (xs (v3 + 2).toNatClampNeg) = 0 then
    F_L_law_718 L xs d v1 v2 v3 x1 v2 (xs (v3 + 1).toNatClampNeg) 0 h u Q
  else
    F_L_law_718 L xs d v1 v2 v3 x1 v2 (xs (v3 + 1).toNatClampNeg) 1 h u Q
set_option maxRecDepth 20000 in
theorem E_L_law_696 {L : Nat} {xs : Nat → Int32} {d : Nat} {v1 : Option Nm} {v2 : Option Nm} {v3 : Int32} {s0 : Option Nm} {s1 : Int32} {s2 : Int32} {h : MH} {u : Nat} {Q : Int32 → MH → Prop} (H : F_L_law_696 L xs d v1 v2 v3 s0 s1 s2 h u Q) : T (uL L xs) (d + 6) 696 [some (jR (some scr)), some (jR v1), some (jR v2), some (jI v3)] [jI s2, jI s1, jR s0] h u (qI Q) := by
  unfold F_L_law_696 at H
  obtain ⟨H0, H⟩ := H
  refine T_iV (pc := 696) (ci := 10) (av := [jI s1, jI s2]) (rest := []) (o := s0) dL_law_696 mf_X11_family c_3_106 c_3_107 c_3_108 rfl rfl (Nat.le_of_ble_eq_true rfl) rfl H0 (iI_k (iI_m0 (fun x1 h H => ?_) (J_X11_family (d := (d + 5)) H)))
  refine T_aload_n (pc := 699) dL_law_699 rfl rfl ?_
  refine T_aload_n (pc := 700) dL_law_700 rfl rfl ?_
  refine T_iload_n (pc := 701) dL_law_701 rfl rfl ?_
  refine T_iconst (pc := 702) (v := 1) dL_law_702 (by decide) ?_
  refine T_iadd (pc := 703) dL_law_703 ?_
  obtain ⟨H0, H⟩ := H
  refine T_sld (pc := 704) rfl dL_law_704 H0 ?_
  refine T_aload_n (pc := 705) dL_law_705 rfl rfl ?_
  refine T_iload_n (pc := 706) dL_law_706 rfl rfl ?_
  refine T_iconst (pc := 707) (v := 2) dL_law_707 (by decide) ?_
  refine T_iadd (pc := 708) dL_law_708 ?_
  obtain ⟨H0, H⟩ := H
  refine T_sld (pc := 709) rfl dL_law_709 H0 ?_
  refine T_if_eq (pc := 710) (tgt := 717) dL_law_710 (by decide) (fun hc => ?_) (fun hc => ?_)
  · rw [if_pos hc] at H
    refine T_iconst (pc := 717) (v := 0) dL_law_717 (by decide) ?_
    exact T.forget (E_L_law_718 H) ⟨rfl, rfl, rfl, rfl, trivial⟩
  · rw [if_neg hc] at H
    refine T_iconst (pc := 713) (v := 1) dL_law_713 (by decide) ?_
    refine T_goto (pc := 714) (tgt := 718) dL_law_714 (by decide) ?_
    exact T.forget (E_L_law_718 H) ⟨rfl, rfl, rfl, rfl, trivial⟩
def F_L_law_677 (L : Nat) (xs : Nat → Int32) (d : Nat) (v1 : Option Nm) (v2 : Option Nm) (v3 : Int32) (h : MH) (u : Nat) (Q : Int32 → MH → Prop) : Prop :=
  vp_in (v3 + 1) L ∧
  vp_in (v3 + 2) L ∧
  if (xs (v3 + 2).toNatClampNeg) = 0 then
    F_L_law_696 L xs d v1 v2 v3 v1 (xs (v3 + 1).toNatClampNeg) 0 h u Q
  else
    F_L_law_696 L xs d v1 v2 v3 v1 (xs (v3 + 1).toNatClampNeg) 1 h u Q
set_option maxRecDepth 20000 in
theorem E_L_law_677 {L : Nat} {xs : Nat → Int32} {d : Nat} {v1 : Option Nm} {v2 : Option Nm} {v3 : Int32} {h : MH} {u : Nat} {Q : Int32 → MH → Prop} (H : F_L_law_677 L xs d v1 v2 v3 h u Q) : T (uL L xs) (d + 6) 677 [some (jR (some scr)), some (jR v1), some (jR v2), some (jI v3)] [] h u (qI Q) := by
  unfold F_L_law_677 at H
  refine T_aload_n (pc := 677) dL_law_677 rfl rfl ?_
  refine T_aload_n (pc := 678) dL_law_678 rfl rfl ?_
  refine T_iload_n (pc := 679) dL_law_679 rfl rfl ?_
  refine T_iconst (pc := 680) (v := 1) dL_law_680 (by decide) ?_
  refine T_iadd (pc := 681) dL_law_681 ?_
  obtain ⟨H0, H⟩ := H
  refine T_sld (pc := 682) rfl dL_law_682 H0 ?_
  refine T_aload_n (pc := 683) dL_law_683 rfl rfl ?_
  refine T_iload_n (pc := 684) dL_law_684 rfl rfl ?_
  refine T_iconst (pc := 685) (v := 2) dL_law_685 (by decide) ?_
  refine T_iadd (pc := 686) dL_law_686 ?_
  obtain ⟨H0, H⟩ := H
  refine T_sld (pc := 687) rfl dL_law_687 H0 ?_
  refine T_if_eq (pc := 688) (tgt := 695) dL_law_688 (by decide) (fun hc => ?_) (fun hc => ?_)
  · rw [if_pos hc] at H
    refine T_iconst (pc := 695) (v := 0) dL_law_695 (by decide) ?_
    exact T.forget (E_L_law_696 H) ⟨rfl, rfl, rfl, rfl, trivial⟩
  · rw [if_neg hc] at H
    refine T_iconst (pc := 691) (v := 1) dL_law_691 (by decide) ?_
    refine T_goto (pc := 692) (tgt := 696) dL_law_692 (by decide) ?_
    exact T.forget (E_L_law_696 H) ⟨rfl, rfl, rfl, rfl, trivial⟩
def F_L_law_296 (L : Nat) (xs : Nat → Int32) (d : Nat) (v1 : Option Nm) (v2 : Option Nm) (v3 : Int32) (h : MH) (u : Nat) (Q : Int32 → MH → Prop) : Prop :=
  vp_in (v3 + 1) L ∧
  vp_in (v3 + 2) L ∧
  vp_in (v3 + 3) L ∧
  rc h v1 10 ∧ F_X11_get d v1 (xs (v3 + 1).toNatClampNeg) (xs (v3 + 2).toNatClampNeg) (xs (v3 + 3).toNatClampNeg) h 0 fun x4 h =>
  vp_in (v3 + 1) L ∧
  vp_in (v3 + 2) L ∧
  vp_in (v3 + 3) L ∧
  rc h v2 11 ∧ F_X12_get (d + 2) v2 (xs (v3 + 1).toNatClampNeg) (xs (v3 + 2).toNatClampNeg) (xs (v3 + 3).toNatClampNeg) h 0 fun x8 h =>
  if (lg_cmp x4 x8) = 0 then
    L_L_law_18 L xs d v1 v2 (v3 + 6) h u Q
  else
    nz 0 ∧ Q 0 h
set_option maxRecDepth 20000 in
theorem E_L_law_296 {L : Nat} {xs : Nat → Int32} {d : Nat} {v1 : Option Nm} {v2 : Option Nm} {v3 : Int32} {h : MH} {u : Nat} {Q : Int32 → MH → Prop} (H : F_L_law_296 L xs d v1 v2 v3 h u Q) : T (uL L xs) (d + 6) 296 [some (jR (some scr)), some (jR v1), some (jR v2), some (jI v3)] [] h u (qI Q) := by
  unfold F_L_law_296 at H
  refine T_aload_n (pc := 296) dL_law_296 rfl rfl ?_
  refine T_aload_n (pc := 297) dL_law_297 rfl rfl ?_
  refine T_iload_n (pc := 298) dL_law_298 rfl rfl ?_
  refine T_iconst (pc := 299) (v := 1) dL_law_299 (by decide) ?_
  refine T_iadd (pc := 300) dL_law_300 ?_
  obtain ⟨H0, H⟩ := H
  refine T_sld (pc := 301) rfl dL_law_301 H0 ?_
  refine T_aload_n (pc := 302) dL_law_302 rfl rfl ?_
  refine T_iload_n (pc := 303) dL_law_303 rfl rfl ?_
  refine T_iconst (pc := 304) (v := 2) dL_law_304 (by decide) ?_
  refine T_iadd (pc := 305) dL_law_305 ?_
  obtain ⟨H0, H⟩ := H
  refine T_sld (pc := 306) rfl dL_law_306 H0 ?_
  refine T_aload_n (pc := 307) dL_law_307 rfl rfl ?_
  refine T_iload_n (pc := 308) dL_law_308 rfl rfl ?_
  refine T_iconst (pc := 309) (v := 3) dL_law_309 (by decide) ?_
  refine T_iadd (pc := 310) dL_law_310 ?_
  obtain ⟨H0, H⟩ := H
  refine T_sld (pc := 311) rfl dL_law_311 H0 ?_
  obtain ⟨H0, H⟩ := H
  refine T_iV (pc := 312) (ci := 10) (av := [jI (xs (v3 + 1).toNatClampNeg), jI (xs (v3 + 2).toNatClampNeg), jI (xs (v3 + 3).toNatClampNeg)]) (rest := []) (o := v1) dL_law_312 mf_X11_get c_2_50 c_2_51 c_2_52 rfl rfl (Nat.le_of_ble_eq_true rfl) rfl H0 (iL_k (iL_m0 (fun x4 h H => ?_) (J_X11_get (d := d) H)))
  refine T_aload_n (pc := 315) dL_law_315 rfl rfl ?_
  refine T_aload_n (pc := 316) dL_law_316 rfl rfl ?_
  refine T_iload_n (pc := 317) dL_law_317 rfl rfl ?_
  refine T_iconst (pc := 318) (v := 1) dL_law_318 (by decide) ?_
  refine T_iadd (pc := 319) dL_law_319 ?_
  obtain ⟨H0, H⟩ := H
  refine T_sld (pc := 320) rfl dL_law_320 H0 ?_
  refine T_aload_n (pc := 321) dL_law_321 rfl rfl ?_
  refine T_iload_n (pc := 322) dL_law_322 rfl rfl ?_
  refine T_iconst (pc := 323) (v := 2) dL_law_323 (by decide) ?_
  refine T_iadd (pc := 324) dL_law_324 ?_
  obtain ⟨H0, H⟩ := H
  refine T_sld (pc := 325) rfl dL_law_325 H0 ?_
  refine T_aload_n (pc := 326) dL_law_326 rfl rfl ?_
  refine T_iload_n (pc := 327) dL_law_327 rfl rfl ?_
  refine T_iconst (pc := 328) (v := 3) dL_law_328 (by decide) ?_
  refine T_iadd (pc := 329) dL_law_329 ?_
  obtain ⟨H0, H⟩ := H
  refine T_sld (pc := 330) rfl dL_law_330 H0 ?_
  obtain ⟨H0, H⟩ := H
  refine T_iV (pc := 331) (ci := 11) (av := [jI (xs (v3 + 1).toNatClampNeg), jI (xs (v3 + 2).toNatClampNeg), jI (xs (v3 + 3).toNatClampNeg)]) (rest := [jL x4]) (o := v2) dL_law_331 mf_X12_get c_5_139 c_5_140 c_5_141 rfl rfl (Nat.le_of_ble_eq_true rfl) rfl H0 (iL_k (iL_m0 (fun x8 h H => ?_) (J_X12_get (d := (d + 2)) H)))
  refine T_lcmp (pc := 334) dL_law_334 ?_
  refine T_if_eq (pc := 335) (tgt := 1371) dL_law_335 (by decide) (fun hc => ?_) (fun hc => ?_)
  · rw [if_pos hc] at H
    refine T_iinc (pc := 1371) (v := v3 + 6) (ls2 := [some (jR (some scr)), some (jR v1), some (jR v2), some (jI (v3 + 6))]) dL_law_1371 rfl rfl (Nat.le_of_ble_eq_true rfl) rfl ?_
    refine T_goto (pc := 1374) (tgt := 18) dL_law_1374 (by decide) ?_
    exact T.forget H ⟨rfl, rfl, rfl, rfl, trivial⟩
  · rw [if_neg hc] at H
    refine T_iconst (pc := 338) (v := 0) dL_law_338 (by decide) ?_
    exact T_ireturn (pc := 339) rfl (nz_nar H.1) dL_law_339 H.2
def F_L_law_1322 (L : Nat) (xs : Nat → Int32) (d : Nat) (v1 : Option Nm) (v2 : Option Nm) (v3 : Int32) (h : MH) (u : Nat) (Q : Int32 → MH → Prop) : Prop :=
  rc h v1 10 ∧ F_X11_trace (d + 5) v1 h 0 fun x1 h =>
  rc h v2 11 ∧ F_X12_trace (d + 5) v2 h 0 fun x2 h =>
  if x1 = x2 then
    L_L_law_18 L xs d v1 v2 (v3 + 6) h u Q
  else
    nz 0 ∧ Q 0 h
set_option maxRecDepth 20000 in
theorem E_L_law_1322 {L : Nat} {xs : Nat → Int32} {d : Nat} {v1 : Option Nm} {v2 : Option Nm} {v3 : Int32} {h : MH} {u : Nat} {Q : Int32 → MH → Prop} (H : F_L_law_1322 L xs d v1 v2 v3 h u Q) : T (uL L xs) (d + 6) 1322 [some (jR (some scr)), some (jR v1), some (jR v2), some (jI v3)] [] h u (qI Q) := by
  unfold F_L_law_1322 at H
  refine T_aload_n (pc := 1322) dL_law_1322 rfl rfl ?_
  obtain ⟨H0, H⟩ := H
  refine T_iV (pc := 1323) (ci := 10) (av := []) (rest := []) (o := v1) dL_law_1323 mf_X11_trace c_4_165 c_4_166 c_4_167 rfl rfl (Nat.le_of_ble_eq_true rfl) rfl H0 (iI_k (iI_m0 (fun x1 h H => ?_) (J_X11_trace (d := (d + 5)) H)))
  refine T_aload_n (pc := 1326) dL_law_1326 rfl rfl ?_
  obtain ⟨H0, H⟩ := H
  refine T_iV (pc := 1327) (ci := 11) (av := []) (rest := [jI x1]) (o := v2) dL_law_1327 mf_X12_trace c_6_185 c_6_186 c_6_187 rfl rfl (Nat.le_of_ble_eq_true rfl) rfl H0 (iI_k (iI_m0 (fun x2 h H => ?_) (J_X12_trace (d := (d + 5)) H)))
  refine T_icmp_eq (pc := 1330) (tgt := 1371) dL_law_1330 (by decide) (fun hc => ?_) (fun hc => ?_)
  · rw [if_pos hc] at H
    refine T_iinc (pc := 1371) (v := v3 + 6) (ls2 := [some (jR (some scr)), some (jR v1), some (jR v2), some (jI (v3 + 6))]) dL_law_1371 rfl rfl (Nat.le_of_ble_eq_true rfl) rfl ?_
    refine T_goto (pc := 1374) (tgt := 18) dL_law_1374 (by decide) ?_
    exact T.forget H ⟨rfl, rfl, rfl, rfl, trivial⟩
  · rw [if_neg hc] at H
    refine T_iconst (pc := 1333) (v := 0) dL_law_1333 (by decide) ?_
    exact T_ireturn (pc := 1334) rfl (nz_nar H.1) dL_law_1334 H.2
def F_L_law_558 (L : Nat) (xs : Nat → Int32) (d : Nat) (v1 : Option Nm) (v2 : Option Nm) (v3 : Int32) (h : MH) (u : Nat) (Q : Int32 → MH → Prop) : Prop :=
  vp_in (v3 + 1) L ∧
  rc h v1 10 ∧ iI (d + 5) u_X11_constants [jR v1, jI (xs (v3 + 1).toNatClampNeg)] h u fun x2 h u =>
  vp_in (v3 + 1) L ∧
  rc h v2 11 ∧ F_X12_constants (d + 4) v2 (xs (v3 + 1).toNatClampNeg) h 0 fun x4 h =>
  if x2 = x4 then
    L_L_law_18 L xs d v1 v2 (v3 + 6) h u Q
  else
    nz 0 ∧ Q 0 h
set_option maxRecDepth 20000 in
theorem E_L_law_558 {L : Nat} {xs : Nat → Int32} {d : Nat} {v1 : Option Nm} {v2 : Option Nm} {v3 : Int32} {h : MH} {u : Nat} {Q : Int32 → MH → Prop} (H : F_L_law_558 L xs d v1 v2 v3 h u Q) : T (uL L xs) (d + 6) 558 [some (jR (some scr)), some (jR v1), some (jR v2), some (jI v3)] [] h u (qI Q) := by
  unfold F_L_law_558 at H
  refine T_aload_n (pc := 558) dL_law_558 rfl rfl ?_
  refine T_aload_n (pc := 559) dL_law_559 rfl rfl ?_
  refine T_iload_n (pc := 560) dL_law_560 rfl rfl ?_
  refine T_iconst (pc := 561) (v := 1) dL_law_561 (by decide) ?_
  refine T_iadd (pc := 562) dL_law_562 ?_
  obtain ⟨H0, H⟩ := H
  refine T_sld (pc := 563) rfl dL_law_563 H0 ?_
  obtain ⟨H0, H⟩ := H
  refine T_iV (pc := 564) (ci := 10) (av := [jI (xs (v3 + 1).toNatClampNeg)]) (rest := []) (o := v1) dL_law_564 mf_X11_constants c_2_191 c_2_192 c_2_193 rfl rfl (Nat.le_of_ble_eq_true rfl) rfl H0 (iI_k (iI_mono (fun x2 h u H => ?_) H))
  refine T_aload_n (pc := 567) dL_law_567 rfl rfl ?_
  refine T_aload_n (pc := 568) dL_law_568 rfl rfl ?_
  refine T_iload_n (pc := 569) dL_law_569 rfl rfl ?_
  refine T_iconst (pc := 570) (v := 1) dL_law_570 (by decide) ?_
  refine T_iadd (pc := 571) dL_law_571 ?_
  obtain ⟨H0, H⟩ := H
  refine T_sld (pc := 572) rfl dL_law_572 H0 ?_
  obtain ⟨H0, H⟩ := H
  refine T_iV (pc := 573) (ci := 11) (av := [jI (xs (v3 + 1).toNatClampNeg)]) (rest := [jI x2]) (o := v2) dL_law_573 mf_X12_constants c_5_190 c_5_191 c_5_192 rfl rfl (Nat.le_of_ble_eq_true rfl) rfl H0 (iI_k (iI_m0 (fun x4 h H => ?_) (J_X12_constants (d := (d + 4)) H)))
  refine T_icmp_eq (pc := 576) (tgt := 1371) dL_law_576 (by decide) (fun hc => ?_) (fun hc => ?_)
  · rw [if_pos hc] at H
    refine T_iinc (pc := 1371) (v := v3 + 6) (ls2 := [some (jR (some scr)), some (jR v1), some (jR v2), some (jI (v3 + 6))]) dL_law_1371 rfl rfl (Nat.le_of_ble_eq_true rfl) rfl ?_
    refine T_goto (pc := 1374) (tgt := 18) dL_law_1374 (by decide) ?_
    exact T.forget H ⟨rfl, rfl, rfl, rfl, trivial⟩
  · rw [if_neg hc] at H
    refine T_iconst (pc := 579) (v := 0) dL_law_579 (by decide) ?_
    exact T_ireturn (pc := 580) rfl (nz_nar H.1) dL_law_580 H.2
def F_L_law_947 (L : Nat) (xs : Nat → Int32) (d : Nat) (v1 : Option Nm) (v2 : Option Nm) (v3 : Int32) (h : MH) (u : Nat) (Q : Int32 → MH → Prop) : Prop :=
  vp_in (v3 + 1) L ∧
  vp_in (v3 + 2) L ∧
  rc h v1 10 ∧ F_X11_part (d + 3) v1 (xs (v3 + 1).toNatClampNeg) (xs (v3 + 2).toNatClampNeg) h 0 fun x3 h =>
  vp_in (v3 + 1) L ∧
  vp_in (v3 + 2) L ∧
  rc h v2 11 ∧ F_X12_part (d + 2) v2 (xs (v3 + 1).toNatClampNeg) (xs (v3 + 2).toNatClampNeg) h 0 fun x6 h =>
  if (lg_cmp x3 x6) = 0 then
    L_L_law_18 L xs d v1 v2 (v3 + 6) h u Q
  else
    nz 0 ∧ Q 0 h
set_option maxRecDepth 20000 in
theorem E_L_law_947 {L : Nat} {xs : Nat → Int32} {d : Nat} {v1 : Option Nm} {v2 : Option Nm} {v3 : Int32} {h : MH} {u : Nat} {Q : Int32 → MH → Prop} (H : F_L_law_947 L xs d v1 v2 v3 h u Q) : T (uL L xs) (d + 6) 947 [some (jR (some scr)), some (jR v1), some (jR v2), some (jI v3)] [] h u (qI Q) := by
  unfold F_L_law_947 at H
  refine T_aload_n (pc := 947) dL_law_947 rfl rfl ?_
  refine T_aload_n (pc := 948) dL_law_948 rfl rfl ?_
  refine T_iload_n (pc := 949) dL_law_949 rfl rfl ?_
  refine T_iconst (pc := 950) (v := 1) dL_law_950 (by decide) ?_
  refine T_iadd (pc := 951) dL_law_951 ?_
  obtain ⟨H0, H⟩ := H
  refine T_sld (pc := 952) rfl dL_law_952 H0 ?_
  refine T_aload_n (pc := 953) dL_law_953 rfl rfl ?_
  refine T_iload_n (pc := 954) dL_law_954 rfl rfl ?_
  refine T_iconst (pc := 955) (v := 2) dL_law_955 (by decide) ?_
  refine T_iadd (pc := 956) dL_law_956 ?_
  obtain ⟨H0, H⟩ := H
  refine T_sld (pc := 957) rfl dL_law_957 H0 ?_
  obtain ⟨H0, H⟩ := H
  refine T_iV (pc := 958) (ci := 10) (av := [jI (xs (v3 + 1).toNatClampNeg), jI (xs (v3 + 2).toNatClampNeg)]) (rest := []) (o := v1) dL_law_958 mf_X11_part c_3_224 c_3_225 c_3_226 rfl rfl (Nat.le_of_ble_eq_true rfl) rfl H0 (iL_k (iL_m0 (fun x3 h H => ?_) (J_X11_part (d := (d + 3)) H)))
  refine T_aload_n (pc := 961) dL_law_961 rfl rfl ?_
  refine T_aload_n (pc := 962) dL_law_962 rfl rfl ?_
  refine T_iload_n (pc := 963) dL_law_963 rfl rfl ?_
  refine T_iconst (pc := 964) (v := 1) dL_law_964 (by decide) ?_
  refine T_iadd (pc := 965) dL_law_965 ?_
  obtain ⟨H0, H⟩ := H
  refine T_sld (pc := 966) rfl dL_law_966 H0 ?_
  refine T_aload_n (pc := 967) dL_law_967 rfl rfl ?_
  refine T_iload_n (pc := 968) dL_law_968 rfl rfl ?_
  refine T_iconst (pc := 969) (v := 2) dL_law_969 (by decide) ?_
  refine T_iadd (pc := 970) dL_law_970 ?_
  obtain ⟨H0, H⟩ := H
  refine T_sld (pc := 971) rfl dL_law_971 H0 ?_
  obtain ⟨H0, H⟩ := H
  refine T_iV (pc := 972) (ci := 11) (av := [jI (xs (v3 + 1).toNatClampNeg), jI (xs (v3 + 2).toNatClampNeg)]) (rest := [jL x3]) (o := v2) dL_law_972 mf_X12_part c_6_30 c_6_31 c_6_32 rfl rfl (Nat.le_of_ble_eq_true rfl) rfl H0 (iL_k (iL_m0 (fun x6 h H => ?_) (J_X12_part (d := (d + 2)) H)))
  refine T_lcmp (pc := 975) dL_law_975 ?_
  refine T_if_eq (pc := 976) (tgt := 1371) dL_law_976 (by decide) (fun hc => ?_) (fun hc => ?_)
  · rw [if_pos hc] at H
    refine T_iinc (pc := 1371) (v := v3 + 6) (ls2 := [some (jR (some scr)), some (jR v1), some (jR v2), some (jI (v3 + 6))]) dL_law_1371 rfl rfl (Nat.le_of_ble_eq_true rfl) rfl ?_
    refine T_goto (pc := 1374) (tgt := 18) dL_law_1374 (by decide) ?_
    exact T.forget H ⟨rfl, rfl, rfl, rfl, trivial⟩
  · rw [if_neg hc] at H
    refine T_iconst (pc := 979) (v := 0) dL_law_979 (by decide) ?_
    exact T_ireturn (pc := 980) rfl (nz_nar H.1) dL_law_980 H.2
def F_L_law_180 (L : Nat) (xs : Nat → Int32) (d : Nat) (v1 : Option Nm) (v2 : Option Nm) (v3 : Int32) (h : MH) (u : Nat) (Q : Int32 → MH → Prop) : Prop :=
  vp_in (v3 + 1) L ∧
  vp_in (v3 + 2) L ∧
  rc h v1 10 ∧ iI (d + 5) u_X11_row [jR v1, jI (xs (v3 + 1).toNatClampNeg), jI (xs (v3 + 2).toNatClampNeg)] h u fun x3 h u =>
  vp_in (v3 + 1) L ∧
  vp_in (v3 + 2) L ∧
  rc h v2 11 ∧ F_X12_row (d + 4) v2 (xs (v3 + 1).toNatClampNeg) (xs (v3 + 2).toNatClampNeg) h 0 fun x6 h =>
  if x3 = x6 then
    L_L_law_18 L xs d v1 v2 (v3 + 6) h u Q
  else
    nz 0 ∧ Q 0 h
set_option maxRecDepth 20000 in
theorem E_L_law_180 {L : Nat} {xs : Nat → Int32} {d : Nat} {v1 : Option Nm} {v2 : Option Nm} {v3 : Int32} {h : MH} {u : Nat} {Q : Int32 → MH → Prop} (H : F_L_law_180 L xs d v1 v2 v3 h u Q) : T (uL L xs) (d + 6) 180 [some (jR (some scr)), some (jR v1), some (jR v2), some (jI v3)] [] h u (qI Q) := by
  unfold F_L_law_180 at H
  refine T_aload_n (pc := 180) dL_law_180 rfl rfl ?_
  refine T_aload_n (pc := 181) dL_law_181 rfl rfl ?_
  refine T_iload_n (pc := 182) dL_law_182 rfl rfl ?_
  refine T_iconst (pc := 183) (v := 1) dL_law_183 (by decide) ?_
  refine T_iadd (pc := 184) dL_law_184 ?_
  obtain ⟨H0, H⟩ := H
  refine T_sld (pc := 185) rfl dL_law_185 H0 ?_
  refine T_aload_n (pc := 186) dL_law_186 rfl rfl ?_
  refine T_iload_n (pc := 187) dL_law_187 rfl rfl ?_
  refine T_iconst (pc := 188) (v := 2) dL_law_188 (by decide) ?_
  refine T_iadd (pc := 189) dL_law_189 ?_
  obtain ⟨H0, H⟩ := H
  refine T_sld (pc := 190) rfl dL_law_190 H0 ?_
  obtain ⟨H0, H⟩ := H
  refine T_iV (pc := 191) (ci := 10) (av := [jI (xs (v3 + 1).toNatClampNeg), jI (xs (v3 + 2).toNatClampNeg)]) (rest := []) (o := v1) dL_law_191 mf_X11_row c_1_185 c_1_186 c_1_187 rfl rfl (Nat.le_of_ble_eq_true rfl) rfl H0 (iI_k (iI_mono (fun x3 h u H => ?_) H))
  refine T_aload_n (pc := 194) dL_law_194 rfl rfl ?_
  refine T_aload_n (pc := 195) dL_law_195 rfl rfl ?_
  refine T_iload_n (pc := 196) dL_law_196 rfl rfl ?_
  refine T_iconst (pc := 197) (v := 1) dL_law_197 (by decide) ?_
  refine T_iadd (pc := 198) dL_law_198 ?_
  obtain ⟨H0, H⟩ := H
  refine T_sld (pc := 199) rfl dL_law_199 H0 ?_
  refine T_aload_n (pc := 200) dL_law_200 rfl rfl ?_
  refine T_iload_n (pc := 201) dL_law_201 rfl rfl ?_
  refine T_iconst (pc := 202) (v := 2) dL_law_202 (by decide) ?_
  refine T_iadd (pc := 203) dL_law_203 ?_
  obtain ⟨H0, H⟩ := H
  refine T_sld (pc := 204) rfl dL_law_204 H0 ?_
  obtain ⟨H0, H⟩ := H
  refine T_iV (pc := 205) (ci := 11) (av := [jI (xs (v3 + 1).toNatClampNeg), jI (xs (v3 + 2).toNatClampNeg)]) (rest := [jI x3]) (o := v2) dL_law_205 mf_X12_row c_5_82 c_5_83 c_5_84 rfl rfl (Nat.le_of_ble_eq_true rfl) rfl H0 (iI_k (iI_m0 (fun x6 h H => ?_) (J_X12_row (d := (d + 4)) H)))
  refine T_icmp_eq (pc := 208) (tgt := 1371) dL_law_208 (by decide) (fun hc => ?_) (fun hc => ?_)
  · rw [if_pos hc] at H
    refine T_iinc (pc := 1371) (v := v3 + 6) (ls2 := [some (jR (some scr)), some (jR v1), some (jR v2), some (jI (v3 + 6))]) dL_law_1371 rfl rfl (Nat.le_of_ble_eq_true rfl) rfl ?_
    refine T_goto (pc := 1374) (tgt := 18) dL_law_1374 (by decide) ?_
    exact T.forget H ⟨rfl, rfl, rfl, rfl, trivial⟩
  · rw [if_neg hc] at H
    refine T_iconst (pc := 211) (v := 0) dL_law_211 (by decide) ?_
    exact T_ireturn (pc := 212) rfl (nz_nar H.1) dL_law_212 H.2
def F_L_law_1206 (L : Nat) (xs : Nat → Int32) (d : Nat) (v1 : Option Nm) (v2 : Option Nm) (v3 : Int32) (h : MH) (u : Nat) (Q : Int32 → MH → Prop) : Prop :=
  vp_in (v3 + 1) L ∧
  rc h v1 10 ∧ F_X11_hash (d + 4) v1 (xs (v3 + 1).toNatClampNeg) h 0 fun x2 h =>
  vp_in (v3 + 1) L ∧
  rc h v2 11 ∧ F_X12_hash (d + 2) v2 (xs (v3 + 1).toNatClampNeg) h 0 fun x4 h =>
  if (lg_cmp x2 x4) = 0 then
    L_L_law_18 L xs d v1 v2 (v3 + 6) h u Q
  else
    nz 0 ∧ Q 0 h
set_option maxRecDepth 20000 in
theorem E_L_law_1206 {L : Nat} {xs : Nat → Int32} {d : Nat} {v1 : Option Nm} {v2 : Option Nm} {v3 : Int32} {h : MH} {u : Nat} {Q : Int32 → MH → Prop} (H : F_L_law_1206 L xs d v1 v2 v3 h u Q) : T (uL L xs) (d + 6) 1206 [some (jR (some scr)), some (jR v1), some (jR v2), some (jI v3)] [] h u (qI Q) := by
  unfold F_L_law_1206 at H
  refine T_aload_n (pc := 1206) dL_law_1206 rfl rfl ?_
  refine T_aload_n (pc := 1207) dL_law_1207 rfl rfl ?_
  refine T_iload_n (pc := 1208) dL_law_1208 rfl rfl ?_
  refine T_iconst (pc := 1209) (v := 1) dL_law_1209 (by decide) ?_
  refine T_iadd (pc := 1210) dL_law_1210 ?_
  obtain ⟨H0, H⟩ := H
  refine T_sld (pc := 1211) rfl dL_law_1211 H0 ?_
  obtain ⟨H0, H⟩ := H
  refine T_iV (pc := 1212) (ci := 10) (av := [jI (xs (v3 + 1).toNatClampNeg)]) (rest := []) (o := v1) dL_law_1212 mf_X11_hash c_4_57 c_4_58 c_4_59 rfl rfl (Nat.le_of_ble_eq_true rfl) rfl H0 (iL_k (iL_m0 (fun x2 h H => ?_) (J_X11_hash (d := (d + 4)) H)))
  refine T_aload_n (pc := 1215) dL_law_1215 rfl rfl ?_
  refine T_aload_n (pc := 1216) dL_law_1216 rfl rfl ?_
  refine T_iload_n (pc := 1217) dL_law_1217 rfl rfl ?_
  refine T_iconst (pc := 1218) (v := 1) dL_law_1218 (by decide) ?_
  refine T_iadd (pc := 1219) dL_law_1219 ?_
  obtain ⟨H0, H⟩ := H
  refine T_sld (pc := 1220) rfl dL_law_1220 H0 ?_
  obtain ⟨H0, H⟩ := H
  refine T_iV (pc := 1221) (ci := 11) (av := [jI (xs (v3 + 1).toNatClampNeg)]) (rest := [jL x2]) (o := v2) dL_law_1221 mf_X12_hash c_6_108 c_6_109 c_6_110 rfl rfl (Nat.le_of_ble_eq_true rfl) rfl H0 (iL_k (iL_m0 (fun x4 h H => ?_) (J_X12_hash (d := (d + 2)) H)))
  refine T_lcmp (pc := 1224) dL_law_1224 ?_
  refine T_if_eq (pc := 1225) (tgt := 1371) dL_law_1225 (by decide) (fun hc => ?_) (fun hc => ?_)
  · rw [if_pos hc] at H
    refine T_iinc (pc := 1371) (v := v3 + 6) (ls2 := [some (jR (some scr)), some (jR v1), some (jR v2), some (jI (v3 + 6))]) dL_law_1371 rfl rfl (Nat.le_of_ble_eq_true rfl) rfl ?_
    refine T_goto (pc := 1374) (tgt := 18) dL_law_1374 (by decide) ?_
    exact T.forget H ⟨rfl, rfl, rfl, rfl, trivial⟩
  · rw [if_neg hc] at H
    refine T_iconst (pc := 1228) (v := 0) dL_law_1228 (by decide) ?_
    exact T_ireturn (pc := 1229) rfl (nz_nar H.1) dL_law_1229 H.2
def F_L_law_1335 (L : Nat) (xs : Nat → Int32) (d : Nat) (v1 : Option Nm) (v2 : Option Nm) (v3 : Int32) (h : MH) (u : Nat) (Q : Int32 → MH → Prop) : Prop :=
  rc h v1 10 ∧ F_X11_fault (d + 5) v1 h 0 fun x1 h =>
  rc h v2 11 ∧ F_X12_fault (d + 5) v2 h 0 fun x2 h =>
  if x1 = x2 then
    L_L_law_18 L xs d v1 v2 (v3 + 6) h u Q
  else
    nz 0 ∧ Q 0 h
set_option maxRecDepth 20000 in
theorem E_L_law_1335 {L : Nat} {xs : Nat → Int32} {d : Nat} {v1 : Option Nm} {v2 : Option Nm} {v3 : Int32} {h : MH} {u : Nat} {Q : Int32 → MH → Prop} (H : F_L_law_1335 L xs d v1 v2 v3 h u Q) : T (uL L xs) (d + 6) 1335 [some (jR (some scr)), some (jR v1), some (jR v2), some (jI v3)] [] h u (qI Q) := by
  unfold F_L_law_1335 at H
  refine T_aload_n (pc := 1335) dL_law_1335 rfl rfl ?_
  obtain ⟨H0, H⟩ := H
  refine T_iV (pc := 1336) (ci := 10) (av := []) (rest := []) (o := v1) dL_law_1336 mf_X11_fault c_4_169 c_4_170 c_4_171 rfl rfl (Nat.le_of_ble_eq_true rfl) rfl H0 (iI_k (iI_m0 (fun x1 h H => ?_) (J_X11_fault (d := (d + 5)) H)))
  refine T_aload_n (pc := 1339) dL_law_1339 rfl rfl ?_
  obtain ⟨H0, H⟩ := H
  refine T_iV (pc := 1340) (ci := 11) (av := []) (rest := [jI x1]) (o := v2) dL_law_1340 mf_X12_fault c_6_189 c_6_190 c_6_191 rfl rfl (Nat.le_of_ble_eq_true rfl) rfl H0 (iI_k (iI_m0 (fun x2 h H => ?_) (J_X12_fault (d := (d + 5)) H)))
  refine T_icmp_eq (pc := 1343) (tgt := 1371) dL_law_1343 (by decide) (fun hc => ?_) (fun hc => ?_)
  · rw [if_pos hc] at H
    refine T_iinc (pc := 1371) (v := v3 + 6) (ls2 := [some (jR (some scr)), some (jR v1), some (jR v2), some (jI (v3 + 6))]) dL_law_1371 rfl rfl (Nat.le_of_ble_eq_true rfl) rfl ?_
    refine T_goto (pc := 1374) (tgt := 18) dL_law_1374 (by decide) ?_
    exact T.forget H ⟨rfl, rfl, rfl, rfl, trivial⟩
  · rw [if_neg hc] at H
    refine T_iconst (pc := 1346) (v := 0) dL_law_1346 (by decide) ?_
    exact T_ireturn (pc := 1347) rfl (nz_nar H.1) dL_law_1347 H.2
def F_L_law_883 (L : Nat) (xs : Nat → Int32) (d : Nat) (v1 : Option Nm) (v2 : Option Nm) (v3 : Int32) (s0 : Int32) (s1 : Option Nm) (s2 : Int32) (s3 : Int32) (s4 : Int32) (h : MH) (u : Nat) (Q : Int32 → MH → Prop) : Prop :=
  rc h s1 11 ∧ F_X12_hand (d + 3) s1 s2 s3 s4 h 0 fun x1 h =>
  if s0 = x1 then
    L_L_law_18 L xs d v1 v2 (v3 + 6) h u Q
  else
    nz 0 ∧ Q 0 h
set_option maxRecDepth 20000 in
theorem E_L_law_883 {L : Nat} {xs : Nat → Int32} {d : Nat} {v1 : Option Nm} {v2 : Option Nm} {v3 : Int32} {s0 : Int32} {s1 : Option Nm} {s2 : Int32} {s3 : Int32} {s4 : Int32} {h : MH} {u : Nat} {Q : Int32 → MH → Prop} (H : F_L_law_883 L xs d v1 v2 v3 s0 s1 s2 s3 s4 h u Q) : T (uL L xs) (d + 6) 883 [some (jR (some scr)), some (jR v1), some (jR v2), some (jI v3)] [jI s4, jI s3, jI s2, jR s1, jI s0] h u (qI Q) := by
  unfold F_L_law_883 at H
  obtain ⟨H0, H⟩ := H
  refine T_iV (pc := 883) (ci := 11) (av := [jI s2, jI s3, jI s4]) (rest := [jI s0]) (o := s1) dL_law_883 mf_X12_hand c_5_234 c_5_235 c_5_236 rfl rfl (Nat.le_of_ble_eq_true rfl) rfl H0 (iI_k (iI_m0 (fun x1 h H => ?_) (J_X12_hand (d := (d + 3)) H)))
  refine T_icmp_eq (pc := 886) (tgt := 1371) dL_law_886 (by decide) (fun hc => ?_) (fun hc => ?_)
  · rw [if_pos hc] at H
    refine T_iinc (pc := 1371) (v := v3 + 6) (ls2 := [some (jR (some scr)), some (jR v1), some (jR v2), some (jI (v3 + 6))]) dL_law_1371 rfl rfl (Nat.le_of_ble_eq_true rfl) rfl ?_
    refine T_goto (pc := 1374) (tgt := 18) dL_law_1374 (by decide) ?_
    exact T.forget H ⟨rfl, rfl, rfl, rfl, trivial⟩
  · rw [if_neg hc] at H
    refine T_iconst (pc := 889) (v := 0) dL_law_889 (by decide) ?_
    exact T_ireturn (pc := 890) rfl (nz_nar H.1) dL_law_890 H.2
def F_L_law_856 (L : Nat) (xs : Nat → Int32) (d : Nat) (v1 : Option Nm) (v2 : Option Nm) (v3 : Int32) (s0 : Option Nm) (s1 : Int32) (s2 : Int32) (s3 : Int32) (h : MH) (u : Nat) (Q : Int32 → MH → Prop) : Prop :=
  rc h s0 10 ∧ F_X11_hand (d + 3) s0 s1 s2 s3 h 0 fun x1 h =>
  vp_in (v3 + 1) L ∧
  vp_in (v3 + 2) L ∧
  vp_in (v3 + 3) L ∧
  if (xs (v3 + 3).toNatClampNeg) = 0 then
    F_L_law_883 L xs d v1 v2 v3 x1 v2 (xs (v3 + 1).toNatClampNeg) (xs (v3 + 2).toNatClampNeg) 0 h u Q
  else
    F_L_law_883 L xs d v1 v2 v3 x1 v2 (xs (v3 + 1).toNatClampNeg) (xs (v3 + 2).toNatClampNeg) 1 h u Q
set_option maxRecDepth 20000 in
theorem E_L_law_856 {L : Nat} {xs : Nat → Int32} {d : Nat} {v1 : Option Nm} {v2 : Option Nm} {v3 : Int32} {s0 : Option Nm} {s1 : Int32} {s2 : Int32} {s3 : Int32} {h : MH} {u : Nat} {Q : Int32 → MH → Prop} (H : F_L_law_856 L xs d v1 v2 v3 s0 s1 s2 s3 h u Q) : T (uL L xs) (d + 6) 856 [some (jR (some scr)), some (jR v1), some (jR v2), some (jI v3)] [jI s3, jI s2, jI s1, jR s0] h u (qI Q) := by
  unfold F_L_law_856 at H
  obtain ⟨H0, H⟩ := H
  refine T_iV (pc := 856) (ci := 10) (av := [jI s1, jI s2, jI s3]) (rest := []) (o := s0) dL_law_856 mf_X11_hand c_3_125 c_3_126 c_3_127 rfl rfl (Nat.le_of_ble_eq_true rfl) rfl H0 (iI_k (iI_m0 (fun x1 h H => ?_) (J_X11_hand (d := (d + 3)) H)))
  refine T_aload_n (pc := 859) dL_law_859 rfl rfl ?_
  refine T_aload_n (pc := 860) dL_law_860 rfl rfl ?_
  refine T_iload_n (pc := 861) dL_law_861 rfl rfl ?_
  refine T_iconst (pc := 862) (v := 1) dL_law_862 (by decide) ?_
  refine T_iadd (pc := 863) dL_law_863 ?_
  obtain ⟨H0, H⟩ := H
  refine T_sld (pc := 864) rfl dL_law_864 H0 ?_
  refine T_aload_n (pc := 865) dL_law_865 rfl rfl ?_
  refine T_iload_n (pc := 866) dL_law_866 rfl rfl ?_
  refine T_iconst (pc := 867) (v := 2) dL_law_867 (by decide) ?_
  refine T_iadd (pc := 868) dL_law_868 ?_
  obtain ⟨H0, H⟩ := H
  refine T_sld (pc := 869) rfl dL_law_869 H0 ?_
  refine T_aload_n (pc := 870) dL_law_870 rfl rfl ?_
  refine T_iload_n (pc := 871) dL_law_871 rfl rfl ?_
  refine T_iconst (pc := 872) (v := 3) dL_law_872 (by decide) ?_
  refine T_iadd (pc := 873) dL_law_873 ?_
  obtain ⟨H0, H⟩ := H
  refine T_sld (pc := 874) rfl dL_law_874 H0 ?_
  refine T_if_eq (pc := 875) (tgt := 882) dL_law_875 (by decide) (fun hc => ?_) (fun hc => ?_)
  · rw [if_pos hc] at H
    refine T_iconst (pc := 882) (v := 0) dL_law_882 (by decide) ?_
    exact T.forget (E_L_law_883 H) ⟨rfl, rfl, rfl, rfl, trivial⟩
  · rw [if_neg hc] at H
    refine T_iconst (pc := 878) (v := 1) dL_law_878 (by decide) ?_
    refine T_goto (pc := 879) (tgt := 883) dL_law_879 (by decide) ?_
    exact T.forget (E_L_law_883 H) ⟨rfl, rfl, rfl, rfl, trivial⟩
def F_L_law_832 (L : Nat) (xs : Nat → Int32) (d : Nat) (v1 : Option Nm) (v2 : Option Nm) (v3 : Int32) (h : MH) (u : Nat) (Q : Int32 → MH → Prop) : Prop :=
  vp_in (v3 + 1) L ∧
  vp_in (v3 + 2) L ∧
  vp_in (v3 + 3) L ∧
  if (xs (v3 + 3).toNatClampNeg) = 0 then
    F_L_law_856 L xs d v1 v2 v3 v1 (xs (v3 + 1).toNatClampNeg) (xs (v3 + 2).toNatClampNeg) 0 h u Q
  else
    F_L_law_856 L xs d v1 v2 v3 v1 (xs (v3 + 1).toNatClampNeg) (xs (v3 + 2).toNatClampNeg) 1 h u Q
set_option maxRecDepth 20000 in
theorem E_L_law_832 {L : Nat} {xs : Nat → Int32} {d : Nat} {v1 : Option Nm} {v2 : Option Nm} {v3 : Int32} {h : MH} {u : Nat} {Q : Int32 → MH → Prop} (H : F_L_law_832 L xs d v1 v2 v3 h u Q) : T (uL L xs) (d + 6) 832 [some (jR (some scr)), some (jR v1), some (jR v2), some (jI v3)] [] h u (qI Q) := by
  unfold F_L_law_832 at H
  refine T_aload_n (pc := 832) dL_law_832 rfl rfl ?_
  refine T_aload_n (pc := 833) dL_law_833 rfl rfl ?_
  refine T_iload_n (pc := 834) dL_law_834 rfl rfl ?_
  refine T_iconst (pc := 835) (v := 1) dL_law_835 (by decide) ?_
  refine T_iadd (pc := 836) dL_law_836 ?_
  obtain ⟨H0, H⟩ := H
  refine T_sld (pc := 837) rfl dL_law_837 H0 ?_
  refine T_aload_n (pc := 838) dL_law_838 rfl rfl ?_
  refine T_iload_n (pc := 839) dL_law_839 rfl rfl ?_
  refine T_iconst (pc := 840) (v := 2) dL_law_840 (by decide) ?_
  refine T_iadd (pc := 841) dL_law_841 ?_
  obtain ⟨H0, H⟩ := H
  refine T_sld (pc := 842) rfl dL_law_842 H0 ?_
  refine T_aload_n (pc := 843) dL_law_843 rfl rfl ?_
  refine T_iload_n (pc := 844) dL_law_844 rfl rfl ?_
  refine T_iconst (pc := 845) (v := 3) dL_law_845 (by decide) ?_
  refine T_iadd (pc := 846) dL_law_846 ?_
  obtain ⟨H0, H⟩ := H
  refine T_sld (pc := 847) rfl dL_law_847 H0 ?_
  refine T_if_eq (pc := 848) (tgt := 855) dL_law_848 (by decide) (fun hc => ?_) (fun hc => ?_)
  · rw [if_pos hc] at H
    refine T_iconst (pc := 855) (v := 0) dL_law_855 (by decide) ?_
    exact T.forget (E_L_law_856 H) ⟨rfl, rfl, rfl, rfl, trivial⟩
  · rw [if_neg hc] at H
    refine T_iconst (pc := 851) (v := 1) dL_law_851 (by decide) ?_
    refine T_goto (pc := 852) (tgt := 856) dL_law_852 (by decide) ?_
    exact T.forget (E_L_law_856 H) ⟨rfl, rfl, rfl, rfl, trivial⟩
def F_L_law_449 (L : Nat) (xs : Nat → Int32) (d : Nat) (v1 : Option Nm) (v2 : Option Nm) (v3 : Int32) (h : MH) (u : Nat) (Q : Int32 → MH → Prop) : Prop :=
  vp_in (v3 + 1) L ∧
  vp_in (v3 + 2) L ∧
  vp_in (v3 + 3) L ∧
  vp_in (v3 + 4) L ∧
  vp_in (v3 + 5) L ∧
  rc h v1 10 ∧ F_X11_copy (d + 4) v1 (xs (v3 + 1).toNatClampNeg) (xs (v3 + 2).toNatClampNeg) (xs (v3 + 3).toNatClampNeg) (xs (v3 + 4).toNatClampNeg) (xs (v3 + 5).toNatClampNeg) h 0 fun x6 h =>
  vp_in (v3 + 1) L ∧
  vp_in (v3 + 2) L ∧
  vp_in (v3 + 3) L ∧
  vp_in (v3 + 4) L ∧
  vp_in (v3 + 5) L ∧
  rc h v2 11 ∧ F_X12_copy (d + 3) v2 (xs (v3 + 1).toNatClampNeg) (xs (v3 + 2).toNatClampNeg) (xs (v3 + 3).toNatClampNeg) (xs (v3 + 4).toNatClampNeg) (xs (v3 + 5).toNatClampNeg) h 0 fun x12 h =>
  if x6 = x12 then
    L_L_law_18 L xs d v1 v2 (v3 + 6) h u Q
  else
    nz 0 ∧ Q 0 h
set_option maxRecDepth 20000 in
theorem E_L_law_449 {L : Nat} {xs : Nat → Int32} {d : Nat} {v1 : Option Nm} {v2 : Option Nm} {v3 : Int32} {h : MH} {u : Nat} {Q : Int32 → MH → Prop} (H : F_L_law_449 L xs d v1 v2 v3 h u Q) : T (uL L xs) (d + 6) 449 [some (jR (some scr)), some (jR v1), some (jR v2), some (jI v3)] [] h u (qI Q) := by
  unfold F_L_law_449 at H
  refine T_aload_n (pc := 449) dL_law_449 rfl rfl ?_
  refine T_aload_n (pc := 450) dL_law_450 rfl rfl ?_
  refine T_iload_n (pc := 451) dL_law_451 rfl rfl ?_
  refine T_iconst (pc := 452) (v := 1) dL_law_452 (by decide) ?_
  refine T_iadd (pc := 453) dL_law_453 ?_
  obtain ⟨H0, H⟩ := H
  refine T_sld (pc := 454) rfl dL_law_454 H0 ?_
  refine T_aload_n (pc := 455) dL_law_455 rfl rfl ?_
  refine T_iload_n (pc := 456) dL_law_456 rfl rfl ?_
  refine T_iconst (pc := 457) (v := 2) dL_law_457 (by decide) ?_
  refine T_iadd (pc := 458) dL_law_458 ?_
  obtain ⟨H0, H⟩ := H
  refine T_sld (pc := 459) rfl dL_law_459 H0 ?_
  refine T_aload_n (pc := 460) dL_law_460 rfl rfl ?_
  refine T_iload_n (pc := 461) dL_law_461 rfl rfl ?_
  refine T_iconst (pc := 462) (v := 3) dL_law_462 (by decide) ?_
  refine T_iadd (pc := 463) dL_law_463 ?_
  obtain ⟨H0, H⟩ := H
  refine T_sld (pc := 464) rfl dL_law_464 H0 ?_
  refine T_aload_n (pc := 465) dL_law_465 rfl rfl ?_
  refine T_iload_n (pc := 466) dL_law_466 rfl rfl ?_
  refine T_iconst (pc := 467) (v := 4) dL_law_467 (by decide) ?_
  refine T_iadd (pc := 468) dL_law_468 ?_
  obtain ⟨H0, H⟩ := H
  refine T_sld (pc := 469) rfl dL_law_469 H0 ?_
  refine T_aload_n (pc := 470) dL_law_470 rfl rfl ?_
  refine T_iload_n (pc := 471) dL_law_471 rfl rfl ?_
  refine T_iconst (pc := 472) (v := 5) dL_law_472 (by decide) ?_
  refine T_iadd (pc := 473) dL_law_473 ?_
  obtain ⟨H0, H⟩ := H
  refine T_sld (pc := 474) rfl dL_law_474 H0 ?_
  obtain ⟨H0, H⟩ := H
  refine T_iV (pc := 475) (ci := 10) (av := [jI (xs (v3 + 1).toNatClampNeg), jI (xs (v3 + 2).toNatClampNeg), jI (xs (v3 + 3).toNatClampNeg), jI (xs (v3 + 4).toNatClampNeg), jI (xs (v3 + 5).toNatClampNeg)]) (rest := []) (o := v1) dL_law_475 mf_X11_copy c_2_86 c_2_87 c_2_88 rfl rfl (Nat.le_of_ble_eq_true rfl) rfl H0 (iI_k (iI_m0 (fun x6 h H => ?_) (J_X11_copy (d := (d + 4)) H)))
  refine T_aload_n (pc := 478) dL_law_478 rfl rfl ?_
  refine T_aload_n (pc := 479) dL_law_479 rfl rfl ?_
  refine T_iload_n (pc := 480) dL_law_480 rfl rfl ?_
  refine T_iconst (pc := 481) (v := 1) dL_law_481 (by decide) ?_
  refine T_iadd (pc := 482) dL_law_482 ?_
  obtain ⟨H0, H⟩ := H
  refine T_sld (pc := 483) rfl dL_law_483 H0 ?_
  refine T_aload_n (pc := 484) dL_law_484 rfl rfl ?_
  refine T_iload_n (pc := 485) dL_law_485 rfl rfl ?_
  refine T_iconst (pc := 486) (v := 2) dL_law_486 (by decide) ?_
  refine T_iadd (pc := 487) dL_law_487 ?_
  obtain ⟨H0, H⟩ := H
  refine T_sld (pc := 488) rfl dL_law_488 H0 ?_
  refine T_aload_n (pc := 489) dL_law_489 rfl rfl ?_
  refine T_iload_n (pc := 490) dL_law_490 rfl rfl ?_
  refine T_iconst (pc := 491) (v := 3) dL_law_491 (by decide) ?_
  refine T_iadd (pc := 492) dL_law_492 ?_
  obtain ⟨H0, H⟩ := H
  refine T_sld (pc := 493) rfl dL_law_493 H0 ?_
  refine T_aload_n (pc := 494) dL_law_494 rfl rfl ?_
  refine T_iload_n (pc := 495) dL_law_495 rfl rfl ?_
  refine T_iconst (pc := 496) (v := 4) dL_law_496 (by decide) ?_
  refine T_iadd (pc := 497) dL_law_497 ?_
  obtain ⟨H0, H⟩ := H
  refine T_sld (pc := 498) rfl dL_law_498 H0 ?_
  refine T_aload_n (pc := 499) dL_law_499 rfl rfl ?_
  refine T_iload_n (pc := 500) dL_law_500 rfl rfl ?_
  refine T_iconst (pc := 501) (v := 5) dL_law_501 (by decide) ?_
  refine T_iadd (pc := 502) dL_law_502 ?_
  obtain ⟨H0, H⟩ := H
  refine T_sld (pc := 503) rfl dL_law_503 H0 ?_
  obtain ⟨H0, H⟩ := H
  refine T_iV (pc := 504) (ci := 11) (av := [jI (xs (v3 + 1).toNatClampNeg), jI (xs (v3 + 2).toNatClampNeg), jI (xs (v3 + 3).toNatClampNeg), jI (xs (v3 + 4).toNatClampNeg), jI (xs (v3 + 5).toNatClampNeg)]) (rest := [jI x6]) (o := v2) dL_law_504 mf_X12_copy c_5_167 c_5_168 c_5_169 rfl rfl (Nat.le_of_ble_eq_true rfl) rfl H0 (iI_k (iI_m0 (fun x12 h H => ?_) (J_X12_copy (d := (d + 3)) H)))
  refine T_icmp_eq (pc := 507) (tgt := 1371) dL_law_507 (by decide) (fun hc => ?_) (fun hc => ?_)
  · rw [if_pos hc] at H
    refine T_iinc (pc := 1371) (v := v3 + 6) (ls2 := [some (jR (some scr)), some (jR v1), some (jR v2), some (jI (v3 + 6))]) dL_law_1371 rfl rfl (Nat.le_of_ble_eq_true rfl) rfl ?_
    refine T_goto (pc := 1374) (tgt := 18) dL_law_1374 (by decide) ?_
    exact T.forget H ⟨rfl, rfl, rfl, rfl, trivial⟩
  · rw [if_neg hc] at H
    refine T_iconst (pc := 510) (v := 0) dL_law_510 (by decide) ?_
    exact T_ireturn (pc := 511) rfl (nz_nar H.1) dL_law_511 H.2
def F_L_law_1348 (L : Nat) (xs : Nat → Int32) (d : Nat) (v1 : Option Nm) (v2 : Option Nm) (v3 : Int32) (h : MH) (u : Nat) (Q : Int32 → MH → Prop) : Prop :=
  vp_in (v3 + 1) L ∧
  rc h v1 10 ∧ F_X11_told (d + 5) v1 (xs (v3 + 1).toNatClampNeg) h 0 fun x2 h =>
  vp_in (v3 + 1) L ∧
  rc h v2 11 ∧ F_X12_told (d + 5) v2 (xs (v3 + 1).toNatClampNeg) h 0 fun x4 h =>
  if x2 = x4 then
    L_L_law_18 L xs d v1 v2 (v3 + 6) h u Q
  else
    nz 0 ∧ Q 0 h
set_option maxRecDepth 20000 in
theorem E_L_law_1348 {L : Nat} {xs : Nat → Int32} {d : Nat} {v1 : Option Nm} {v2 : Option Nm} {v3 : Int32} {h : MH} {u : Nat} {Q : Int32 → MH → Prop} (H : F_L_law_1348 L xs d v1 v2 v3 h u Q) : T (uL L xs) (d + 6) 1348 [some (jR (some scr)), some (jR v1), some (jR v2), some (jI v3)] [] h u (qI Q) := by
  unfold F_L_law_1348 at H
  refine T_aload_n (pc := 1348) dL_law_1348 rfl rfl ?_
  refine T_aload_n (pc := 1349) dL_law_1349 rfl rfl ?_
  refine T_iload_n (pc := 1350) dL_law_1350 rfl rfl ?_
  refine T_iconst (pc := 1351) (v := 1) dL_law_1351 (by decide) ?_
  refine T_iadd (pc := 1352) dL_law_1352 ?_
  obtain ⟨H0, H⟩ := H
  refine T_sld (pc := 1353) rfl dL_law_1353 H0 ?_
  obtain ⟨H0, H⟩ := H
  refine T_iV (pc := 1354) (ci := 10) (av := [jI (xs (v3 + 1).toNatClampNeg)]) (rest := []) (o := v1) dL_law_1354 mf_X11_told c_4_173 c_4_174 c_4_175 rfl rfl (Nat.le_of_ble_eq_true rfl) rfl H0 (iI_k (iI_m0 (fun x2 h H => ?_) (J_X11_told (d := (d + 5)) H)))
  refine T_aload_n (pc := 1357) dL_law_1357 rfl rfl ?_
  refine T_aload_n (pc := 1358) dL_law_1358 rfl rfl ?_
  refine T_iload_n (pc := 1359) dL_law_1359 rfl rfl ?_
  refine T_iconst (pc := 1360) (v := 1) dL_law_1360 (by decide) ?_
  refine T_iadd (pc := 1361) dL_law_1361 ?_
  obtain ⟨H0, H⟩ := H
  refine T_sld (pc := 1362) rfl dL_law_1362 H0 ?_
  obtain ⟨H0, H⟩ := H
  refine T_iV (pc := 1363) (ci := 11) (av := [jI (xs (v3 + 1).toNatClampNeg)]) (rest := [jI x2]) (o := v2) dL_law_1363 mf_X12_told c_6_193 c_6_194 c_6_195 rfl rfl (Nat.le_of_ble_eq_true rfl) rfl H0 (iI_k (iI_m0 (fun x4 h H => ?_) (J_X12_told (d := (d + 5)) H)))
  refine T_icmp_eq (pc := 1366) (tgt := 1371) dL_law_1366 (by decide) (fun hc => ?_) (fun hc => ?_)
  · rw [if_pos hc] at H
    refine T_iinc (pc := 1371) (v := v3 + 6) (ls2 := [some (jR (some scr)), some (jR v1), some (jR v2), some (jI (v3 + 6))]) dL_law_1371 rfl rfl (Nat.le_of_ble_eq_true rfl) rfl ?_
    refine T_goto (pc := 1374) (tgt := 18) dL_law_1374 (by decide) ?_
    exact T.forget H ⟨rfl, rfl, rfl, rfl, trivial⟩
  · rw [if_neg hc] at H
    refine T_iconst (pc := 1369) (v := 0) dL_law_1369 (by decide) ?_
    exact T_ireturn (pc := 1370) rfl (nz_nar H.1) dL_law_1370 H.2
def F_L_law_581 (L : Nat) (xs : Nat → Int32) (d : Nat) (v1 : Option Nm) (v2 : Option Nm) (v3 : Int32) (h : MH) (u : Nat) (Q : Int32 → MH → Prop) : Prop :=
  vp_in (v3 + 1) L ∧
  vp_in (v3 + 2) L ∧
  vp_in (v3 + 3) L ∧
  rc h v1 10 ∧ F_X11_more (d + 3) v1 (xs (v3 + 1).toNatClampNeg) (xs (v3 + 2).toNatClampNeg) (xs (v3 + 3).toNatClampNeg) h 0 fun x4 h =>
  vp_in (v3 + 1) L ∧
  vp_in (v3 + 2) L ∧
  vp_in (v3 + 3) L ∧
  rc h v2 11 ∧ F_X12_more (d + 3) v2 (xs (v3 + 1).toNatClampNeg) (xs (v3 + 2).toNatClampNeg) (xs (v3 + 3).toNatClampNeg) h 0 fun x8 h =>
  if x4 = x8 then
    L_L_law_18 L xs d v1 v2 (v3 + 6) h u Q
  else
    nz 0 ∧ Q 0 h
set_option maxRecDepth 20000 in
theorem E_L_law_581 {L : Nat} {xs : Nat → Int32} {d : Nat} {v1 : Option Nm} {v2 : Option Nm} {v3 : Int32} {h : MH} {u : Nat} {Q : Int32 → MH → Prop} (H : F_L_law_581 L xs d v1 v2 v3 h u Q) : T (uL L xs) (d + 6) 581 [some (jR (some scr)), some (jR v1), some (jR v2), some (jI v3)] [] h u (qI Q) := by
  unfold F_L_law_581 at H
  refine T_aload_n (pc := 581) dL_law_581 rfl rfl ?_
  refine T_aload_n (pc := 582) dL_law_582 rfl rfl ?_
  refine T_iload_n (pc := 583) dL_law_583 rfl rfl ?_
  refine T_iconst (pc := 584) (v := 1) dL_law_584 (by decide) ?_
  refine T_iadd (pc := 585) dL_law_585 ?_
  obtain ⟨H0, H⟩ := H
  refine T_sld (pc := 586) rfl dL_law_586 H0 ?_
  refine T_aload_n (pc := 587) dL_law_587 rfl rfl ?_
  refine T_iload_n (pc := 588) dL_law_588 rfl rfl ?_
  refine T_iconst (pc := 589) (v := 2) dL_law_589 (by decide) ?_
  refine T_iadd (pc := 590) dL_law_590 ?_
  obtain ⟨H0, H⟩ := H
  refine T_sld (pc := 591) rfl dL_law_591 H0 ?_
  refine T_aload_n (pc := 592) dL_law_592 rfl rfl ?_
  refine T_iload_n (pc := 593) dL_law_593 rfl rfl ?_
  refine T_iconst (pc := 594) (v := 3) dL_law_594 (by decide) ?_
  refine T_iadd (pc := 595) dL_law_595 ?_
  obtain ⟨H0, H⟩ := H
  refine T_sld (pc := 596) rfl dL_law_596 H0 ?_
  obtain ⟨H0, H⟩ := H
  refine T_iV (pc := 597) (ci := 10) (av := [jI (xs (v3 + 1).toNatClampNeg), jI (xs (v3 + 2).toNatClampNeg), jI (xs (v3 + 3).toNatClampNeg)]) (rest := []) (o := v1) dL_law_597 mf_X11_more c_2_195 c_2_196 c_2_197 rfl rfl (Nat.le_of_ble_eq_true rfl) rfl H0 (iI_k (iI_m0 (fun x4 h H => ?_) (J_X11_more (d := (d + 3)) H)))
  refine T_aload_n (pc := 600) dL_law_600 rfl rfl ?_
  refine T_aload_n (pc := 601) dL_law_601 rfl rfl ?_
  refine T_iload_n (pc := 602) dL_law_602 rfl rfl ?_
  refine T_iconst (pc := 603) (v := 1) dL_law_603 (by decide) ?_
  refine T_iadd (pc := 604) dL_law_604 ?_
  obtain ⟨H0, H⟩ := H
  refine T_sld (pc := 605) rfl dL_law_605 H0 ?_
  refine T_aload_n (pc := 606) dL_law_606 rfl rfl ?_
  refine T_iload_n (pc := 607) dL_law_607 rfl rfl ?_
  refine T_iconst (pc := 608) (v := 2) dL_law_608 (by decide) ?_
  refine T_iadd (pc := 609) dL_law_609 ?_
  obtain ⟨H0, H⟩ := H
  refine T_sld (pc := 610) rfl dL_law_610 H0 ?_
  refine T_aload_n (pc := 611) dL_law_611 rfl rfl ?_
  refine T_iload_n (pc := 612) dL_law_612 rfl rfl ?_
  refine T_iconst (pc := 613) (v := 3) dL_law_613 (by decide) ?_
  refine T_iadd (pc := 614) dL_law_614 ?_
  obtain ⟨H0, H⟩ := H
  refine T_sld (pc := 615) rfl dL_law_615 H0 ?_
  obtain ⟨H0, H⟩ := H
  refine T_iV (pc := 616) (ci := 11) (av := [jI (xs (v3 + 1).toNatClampNeg), jI (xs (v3 + 2).toNatClampNeg), jI (xs (v3 + 3).toNatClampNeg)]) (rest := [jI x4]) (o := v2) dL_law_616 mf_X12_more c_5_194 c_5_195 c_5_196 rfl rfl (Nat.le_of_ble_eq_true rfl) rfl H0 (iI_k (iI_m0 (fun x8 h H => ?_) (J_X12_more (d := (d + 3)) H)))
  refine T_icmp_eq (pc := 619) (tgt := 1371) dL_law_619 (by decide) (fun hc => ?_) (fun hc => ?_)
  · rw [if_pos hc] at H
    refine T_iinc (pc := 1371) (v := v3 + 6) (ls2 := [some (jR (some scr)), some (jR v1), some (jR v2), some (jI (v3 + 6))]) dL_law_1371 rfl rfl (Nat.le_of_ble_eq_true rfl) rfl ?_
    refine T_goto (pc := 1374) (tgt := 18) dL_law_1374 (by decide) ?_
    exact T.forget H ⟨rfl, rfl, rfl, rfl, trivial⟩
  · rw [if_neg hc] at H
    refine T_iconst (pc := 622) (v := 0) dL_law_622 (by decide) ?_
    exact T_ireturn (pc := 623) rfl (nz_nar H.1) dL_law_623 H.2
def F_L_law_1230 (L : Nat) (xs : Nat → Int32) (d : Nat) (v1 : Option Nm) (v2 : Option Nm) (v3 : Int32) (h : MH) (u : Nat) (Q : Int32 → MH → Prop) : Prop :=
  vp_in (v3 + 1) L ∧
  rc h v1 10 ∧ F_X11_weight (d + 4) v1 (xs (v3 + 1).toNatClampNeg) h 0 fun x2 h =>
  vp_in (v3 + 1) L ∧
  rc h v2 11 ∧ F_X12_weight (d + 3) v2 (xs (v3 + 1).toNatClampNeg) h 0 fun x4 h =>
  if x2 = x4 then
    L_L_law_18 L xs d v1 v2 (v3 + 6) h u Q
  else
    nz 0 ∧ Q 0 h
set_option maxRecDepth 20000 in
theorem E_L_law_1230 {L : Nat} {xs : Nat → Int32} {d : Nat} {v1 : Option Nm} {v2 : Option Nm} {v3 : Int32} {h : MH} {u : Nat} {Q : Int32 → MH → Prop} (H : F_L_law_1230 L xs d v1 v2 v3 h u Q) : T (uL L xs) (d + 6) 1230 [some (jR (some scr)), some (jR v1), some (jR v2), some (jI v3)] [] h u (qI Q) := by
  unfold F_L_law_1230 at H
  refine T_aload_n (pc := 1230) dL_law_1230 rfl rfl ?_
  refine T_aload_n (pc := 1231) dL_law_1231 rfl rfl ?_
  refine T_iload_n (pc := 1232) dL_law_1232 rfl rfl ?_
  refine T_iconst (pc := 1233) (v := 1) dL_law_1233 (by decide) ?_
  refine T_iadd (pc := 1234) dL_law_1234 ?_
  obtain ⟨H0, H⟩ := H
  refine T_sld (pc := 1235) rfl dL_law_1235 H0 ?_
  obtain ⟨H0, H⟩ := H
  refine T_iV (pc := 1236) (ci := 10) (av := [jI (xs (v3 + 1).toNatClampNeg)]) (rest := []) (o := v1) dL_law_1236 mf_X11_weight c_4_77 c_4_78 c_4_79 rfl rfl (Nat.le_of_ble_eq_true rfl) rfl H0 (iI_k (iI_m0 (fun x2 h H => ?_) (J_X11_weight (d := (d + 4)) H)))
  refine T_aload_n (pc := 1239) dL_law_1239 rfl rfl ?_
  refine T_aload_n (pc := 1240) dL_law_1240 rfl rfl ?_
  refine T_iload_n (pc := 1241) dL_law_1241 rfl rfl ?_
  refine T_iconst (pc := 1242) (v := 1) dL_law_1242 (by decide) ?_
  refine T_iadd (pc := 1243) dL_law_1243 ?_
  obtain ⟨H0, H⟩ := H
  refine T_sld (pc := 1244) rfl dL_law_1244 H0 ?_
  obtain ⟨H0, H⟩ := H
  refine T_iV (pc := 1245) (ci := 11) (av := [jI (xs (v3 + 1).toNatClampNeg)]) (rest := [jI x2]) (o := v2) dL_law_1245 mf_X12_weight c_6_135 c_6_136 c_6_137 rfl rfl (Nat.le_of_ble_eq_true rfl) rfl H0 (iI_k (iI_m0 (fun x4 h H => ?_) (J_X12_weight (d := (d + 3)) H)))
  refine T_icmp_eq (pc := 1248) (tgt := 1371) dL_law_1248 (by decide) (fun hc => ?_) (fun hc => ?_)
  · rw [if_pos hc] at H
    refine T_iinc (pc := 1371) (v := v3 + 6) (ls2 := [some (jR (some scr)), some (jR v1), some (jR v2), some (jI (v3 + 6))]) dL_law_1371 rfl rfl (Nat.le_of_ble_eq_true rfl) rfl ?_
    refine T_goto (pc := 1374) (tgt := 18) dL_law_1374 (by decide) ?_
    exact T.forget H ⟨rfl, rfl, rfl, rfl, trivial⟩
  · rw [if_neg hc] at H
    refine T_iconst (pc := 1251) (v := 0) dL_law_1251 (by decide) ?_
    exact T_ireturn (pc := 1252) rfl (nz_nar H.1) dL_law_1252 H.2
def F_L_law_1107 (L : Nat) (xs : Nat → Int32) (d : Nat) (v1 : Option Nm) (v2 : Option Nm) (v3 : Int32) (h : MH) (u : Nat) (Q : Int32 → MH → Prop) : Prop :=
  vp_in (v3 + 1) L ∧
  vp_in (v3 + 2) L ∧
  rc h v1 10 ∧ F_X11_match (d + 4) v1 (xs (v3 + 1).toNatClampNeg) (xs (v3 + 2).toNatClampNeg) h 0 fun x3 h =>
  vp_in (v3 + 1) L ∧
  vp_in (v3 + 2) L ∧
  rc h v2 11 ∧ F_X12_match (d + 3) v2 (xs (v3 + 1).toNatClampNeg) (xs (v3 + 2).toNatClampNeg) h 0 fun x6 h =>
  if x3 = x6 then
    L_L_law_18 L xs d v1 v2 (v3 + 6) h u Q
  else
    nz 0 ∧ Q 0 h
set_option maxRecDepth 20000 in
theorem E_L_law_1107 {L : Nat} {xs : Nat → Int32} {d : Nat} {v1 : Option Nm} {v2 : Option Nm} {v3 : Int32} {h : MH} {u : Nat} {Q : Int32 → MH → Prop} (H : F_L_law_1107 L xs d v1 v2 v3 h u Q) : T (uL L xs) (d + 6) 1107 [some (jR (some scr)), some (jR v1), some (jR v2), some (jI v3)] [] h u (qI Q) := by
  unfold F_L_law_1107 at H
  refine T_aload_n (pc := 1107) dL_law_1107 rfl rfl ?_
  refine T_aload_n (pc := 1108) dL_law_1108 rfl rfl ?_
  refine T_iload_n (pc := 1109) dL_law_1109 rfl rfl ?_
  refine T_iconst (pc := 1110) (v := 1) dL_law_1110 (by decide) ?_
  refine T_iadd (pc := 1111) dL_law_1111 ?_
  obtain ⟨H0, H⟩ := H
  refine T_sld (pc := 1112) rfl dL_law_1112 H0 ?_
  refine T_aload_n (pc := 1113) dL_law_1113 rfl rfl ?_
  refine T_iload_n (pc := 1114) dL_law_1114 rfl rfl ?_
  refine T_iconst (pc := 1115) (v := 2) dL_law_1115 (by decide) ?_
  refine T_iadd (pc := 1116) dL_law_1116 ?_
  obtain ⟨H0, H⟩ := H
  refine T_sld (pc := 1117) rfl dL_law_1117 H0 ?_
  obtain ⟨H0, H⟩ := H
  refine T_iV (pc := 1118) (ci := 10) (av := [jI (xs (v3 + 1).toNatClampNeg), jI (xs (v3 + 2).toNatClampNeg)]) (rest := []) (o := v1) dL_law_1118 mf_X11_match c_4_9 c_4_10 c_4_11 rfl rfl (Nat.le_of_ble_eq_true rfl) rfl H0 (iI_k (iI_m0 (fun x3 h H => ?_) (J_X11_match (d := (d + 4)) H)))
  refine T_aload_n (pc := 1121) dL_law_1121 rfl rfl ?_
  refine T_aload_n (pc := 1122) dL_law_1122 rfl rfl ?_
  refine T_iload_n (pc := 1123) dL_law_1123 rfl rfl ?_
  refine T_iconst (pc := 1124) (v := 1) dL_law_1124 (by decide) ?_
  refine T_iadd (pc := 1125) dL_law_1125 ?_
  obtain ⟨H0, H⟩ := H
  refine T_sld (pc := 1126) rfl dL_law_1126 H0 ?_
  refine T_aload_n (pc := 1127) dL_law_1127 rfl rfl ?_
  refine T_iload_n (pc := 1128) dL_law_1128 rfl rfl ?_
  refine T_iconst (pc := 1129) (v := 2) dL_law_1129 (by decide) ?_
  refine T_iadd (pc := 1130) dL_law_1130 ?_
  obtain ⟨H0, H⟩ := H
  refine T_sld (pc := 1131) rfl dL_law_1131 H0 ?_
  obtain ⟨H0, H⟩ := H
  refine T_iV (pc := 1132) (ci := 11) (av := [jI (xs (v3 + 1).toNatClampNeg), jI (xs (v3 + 2).toNatClampNeg)]) (rest := [jI x3]) (o := v2) dL_law_1132 mf_X12_match c_6_67 c_6_68 c_6_69 rfl rfl (Nat.le_of_ble_eq_true rfl) rfl H0 (iI_k (iI_m0 (fun x6 h H => ?_) (J_X12_match (d := (d + 3)) H)))
  refine T_icmp_eq (pc := 1135) (tgt := 1371) dL_law_1135 (by decide) (fun hc => ?_) (fun hc => ?_)
  · rw [if_pos hc] at H
    refine T_iinc (pc := 1371) (v := v3 + 6) (ls2 := [some (jR (some scr)), some (jR v1), some (jR v2), some (jI (v3 + 6))]) dL_law_1371 rfl rfl (Nat.le_of_ble_eq_true rfl) rfl ?_
    refine T_goto (pc := 1374) (tgt := 18) dL_law_1374 (by decide) ?_
    exact T.forget H ⟨rfl, rfl, rfl, rfl, trivial⟩
  · rw [if_neg hc] at H
    refine T_iconst (pc := 1138) (v := 0) dL_law_1138 (by decide) ?_
    exact T_ireturn (pc := 1139) rfl (nz_nar H.1) dL_law_1139 H.2
def F_L_law_340 (L : Nat) (xs : Nat → Int32) (d : Nat) (v1 : Option Nm) (v2 : Option Nm) (v3 : Int32) (h : MH) (u : Nat) (Q : Int32 → MH → Prop) : Prop :=
  vp_in (v3 + 1) L ∧
  vp_in (v3 + 2) L ∧
  vp_in (v3 + 3) L ∧
  rc h v1 10 ∧ F_X11_lay (d + 3) v1 (xs (v3 + 1).toNatClampNeg) (xs (v3 + 2).toNatClampNeg) (xs (v3 + 3).toNatClampNeg) h 0 fun x4 h =>
  vp_in (v3 + 1) L ∧
  vp_in (v3 + 2) L ∧
  vp_in (v3 + 3) L ∧
  rc h v2 11 ∧ F_X12_lay (d + 3) v2 (xs (v3 + 1).toNatClampNeg) (xs (v3 + 2).toNatClampNeg) (xs (v3 + 3).toNatClampNeg) h 0 fun x8 h =>
  if x4 = x8 then
    L_L_law_18 L xs d v1 v2 (v3 + 6) h u Q
  else
    nz 0 ∧ Q 0 h
set_option maxRecDepth 20000 in
theorem E_L_law_340 {L : Nat} {xs : Nat → Int32} {d : Nat} {v1 : Option Nm} {v2 : Option Nm} {v3 : Int32} {h : MH} {u : Nat} {Q : Int32 → MH → Prop} (H : F_L_law_340 L xs d v1 v2 v3 h u Q) : T (uL L xs) (d + 6) 340 [some (jR (some scr)), some (jR v1), some (jR v2), some (jI v3)] [] h u (qI Q) := by
  unfold F_L_law_340 at H
  refine T_aload_n (pc := 340) dL_law_340 rfl rfl ?_
  refine T_aload_n (pc := 341) dL_law_341 rfl rfl ?_
  refine T_iload_n (pc := 342) dL_law_342 rfl rfl ?_
  refine T_iconst (pc := 343) (v := 1) dL_law_343 (by decide) ?_
  refine T_iadd (pc := 344) dL_law_344 ?_
  obtain ⟨H0, H⟩ := H
  refine T_sld (pc := 345) rfl dL_law_345 H0 ?_
  refine T_aload_n (pc := 346) dL_law_346 rfl rfl ?_
  refine T_iload_n (pc := 347) dL_law_347 rfl rfl ?_
  refine T_iconst (pc := 348) (v := 2) dL_law_348 (by decide) ?_
  refine T_iadd (pc := 349) dL_law_349 ?_
  obtain ⟨H0, H⟩ := H
  refine T_sld (pc := 350) rfl dL_law_350 H0 ?_
  refine T_aload_n (pc := 351) dL_law_351 rfl rfl ?_
  refine T_iload_n (pc := 352) dL_law_352 rfl rfl ?_
  refine T_iconst (pc := 353) (v := 3) dL_law_353 (by decide) ?_
  refine T_iadd (pc := 354) dL_law_354 ?_
  obtain ⟨H0, H⟩ := H
  refine T_sld (pc := 355) rfl dL_law_355 H0 ?_
  obtain ⟨H0, H⟩ := H
  refine T_iV (pc := 356) (ci := 10) (av := [jI (xs (v3 + 1).toNatClampNeg), jI (xs (v3 + 2).toNatClampNeg), jI (xs (v3 + 3).toNatClampNeg)]) (rest := []) (o := v1) dL_law_356 mf_X11_lay c_2_59 c_2_60 c_2_61 rfl rfl (Nat.le_of_ble_eq_true rfl) rfl H0 (iI_k (iI_m0 (fun x4 h H => ?_) (J_X11_lay (d := (d + 3)) H)))
  refine T_aload_n (pc := 359) dL_law_359 rfl rfl ?_
  refine T_aload_n (pc := 360) dL_law_360 rfl rfl ?_
  refine T_iload_n (pc := 361) dL_law_361 rfl rfl ?_
  refine T_iconst (pc := 362) (v := 1) dL_law_362 (by decide) ?_
  refine T_iadd (pc := 363) dL_law_363 ?_
  obtain ⟨H0, H⟩ := H
  refine T_sld (pc := 364) rfl dL_law_364 H0 ?_
  refine T_aload_n (pc := 365) dL_law_365 rfl rfl ?_
  refine T_iload_n (pc := 366) dL_law_366 rfl rfl ?_
  refine T_iconst (pc := 367) (v := 2) dL_law_367 (by decide) ?_
  refine T_iadd (pc := 368) dL_law_368 ?_
  obtain ⟨H0, H⟩ := H
  refine T_sld (pc := 369) rfl dL_law_369 H0 ?_
  refine T_aload_n (pc := 370) dL_law_370 rfl rfl ?_
  refine T_iload_n (pc := 371) dL_law_371 rfl rfl ?_
  refine T_iconst (pc := 372) (v := 3) dL_law_372 (by decide) ?_
  refine T_iadd (pc := 373) dL_law_373 ?_
  obtain ⟨H0, H⟩ := H
  refine T_sld (pc := 374) rfl dL_law_374 H0 ?_
  obtain ⟨H0, H⟩ := H
  refine T_iV (pc := 375) (ci := 11) (av := [jI (xs (v3 + 1).toNatClampNeg), jI (xs (v3 + 2).toNatClampNeg), jI (xs (v3 + 3).toNatClampNeg)]) (rest := [jI x4]) (o := v2) dL_law_375 mf_X12_lay c_5_151 c_5_152 c_5_153 rfl rfl (Nat.le_of_ble_eq_true rfl) rfl H0 (iI_k (iI_m0 (fun x8 h H => ?_) (J_X12_lay (d := (d + 3)) H)))
  refine T_icmp_eq (pc := 378) (tgt := 1371) dL_law_378 (by decide) (fun hc => ?_) (fun hc => ?_)
  · rw [if_pos hc] at H
    refine T_iinc (pc := 1371) (v := v3 + 6) (ls2 := [some (jR (some scr)), some (jR v1), some (jR v2), some (jI (v3 + 6))]) dL_law_1371 rfl rfl (Nat.le_of_ble_eq_true rfl) rfl ?_
    refine T_goto (pc := 1374) (tgt := 18) dL_law_1374 (by decide) ?_
    exact T.forget H ⟨rfl, rfl, rfl, rfl, trivial⟩
  · rw [if_neg hc] at H
    refine T_iconst (pc := 381) (v := 0) dL_law_381 (by decide) ?_
    exact T_ireturn (pc := 382) rfl (nz_nar H.1) dL_law_382 H.2
def F_L_law_213 (L : Nat) (xs : Nat → Int32) (d : Nat) (v1 : Option Nm) (v2 : Option Nm) (v3 : Int32) (h : MH) (u : Nat) (Q : Int32 → MH → Prop) : Prop :=
  vp_in (v3 + 1) L ∧
  vp_in (v3 + 2) L ∧
  vp_in (v3 + 3) L ∧
  vp_in (v3 + 4) L ∧
  vp_in (v3 + 5) L ∧
  rc h v1 10 ∧ F_X11_put d v1 (xs (v3 + 1).toNatClampNeg) (xs (v3 + 2).toNatClampNeg) (xs (v3 + 3).toNatClampNeg) ((((xs (v3 + 4).toNatClampNeg).toInt64) <<< ((32 : Int32).toInt64 &&& 63)) ||| (((xs (v3 + 5).toNatClampNeg).toInt64) &&& 4294967295)) h 0 fun x6 h =>
  vp_in (v3 + 1) L ∧
  vp_in (v3 + 2) L ∧
  vp_in (v3 + 3) L ∧
  vp_in (v3 + 4) L ∧
  vp_in (v3 + 5) L ∧
  rc h v2 11 ∧ F_X12_put (d + 2) v2 (xs (v3 + 1).toNatClampNeg) (xs (v3 + 2).toNatClampNeg) (xs (v3 + 3).toNatClampNeg) ((((xs (v3 + 4).toNatClampNeg).toInt64) <<< ((32 : Int32).toInt64 &&& 63)) ||| (((xs (v3 + 5).toNatClampNeg).toInt64) &&& 4294967295)) h 0 fun x12 h =>
  if x6 = x12 then
    L_L_law_18 L xs d v1 v2 (v3 + 6) h u Q
  else
    nz 0 ∧ Q 0 h
set_option maxRecDepth 20000 in
theorem E_L_law_213 {L : Nat} {xs : Nat → Int32} {d : Nat} {v1 : Option Nm} {v2 : Option Nm} {v3 : Int32} {h : MH} {u : Nat} {Q : Int32 → MH → Prop} (H : F_L_law_213 L xs d v1 v2 v3 h u Q) : T (uL L xs) (d + 6) 213 [some (jR (some scr)), some (jR v1), some (jR v2), some (jI v3)] [] h u (qI Q) := by
  unfold F_L_law_213 at H
  refine T_aload_n (pc := 213) dL_law_213 rfl rfl ?_
  refine T_aload_n (pc := 214) dL_law_214 rfl rfl ?_
  refine T_iload_n (pc := 215) dL_law_215 rfl rfl ?_
  refine T_iconst (pc := 216) (v := 1) dL_law_216 (by decide) ?_
  refine T_iadd (pc := 217) dL_law_217 ?_
  obtain ⟨H0, H⟩ := H
  refine T_sld (pc := 218) rfl dL_law_218 H0 ?_
  refine T_aload_n (pc := 219) dL_law_219 rfl rfl ?_
  refine T_iload_n (pc := 220) dL_law_220 rfl rfl ?_
  refine T_iconst (pc := 221) (v := 2) dL_law_221 (by decide) ?_
  refine T_iadd (pc := 222) dL_law_222 ?_
  obtain ⟨H0, H⟩ := H
  refine T_sld (pc := 223) rfl dL_law_223 H0 ?_
  refine T_aload_n (pc := 224) dL_law_224 rfl rfl ?_
  refine T_iload_n (pc := 225) dL_law_225 rfl rfl ?_
  refine T_iconst (pc := 226) (v := 3) dL_law_226 (by decide) ?_
  refine T_iadd (pc := 227) dL_law_227 ?_
  obtain ⟨H0, H⟩ := H
  refine T_sld (pc := 228) rfl dL_law_228 H0 ?_
  refine T_aload_n (pc := 229) dL_law_229 rfl rfl ?_
  refine T_iload_n (pc := 230) dL_law_230 rfl rfl ?_
  refine T_iconst (pc := 231) (v := 4) dL_law_231 (by decide) ?_
  refine T_iadd (pc := 232) dL_law_232 ?_
  obtain ⟨H0, H⟩ := H
  refine T_sld (pc := 233) rfl dL_law_233 H0 ?_
  refine T_i2l (pc := 234) dL_law_234 ?_
  refine T_bipush (pc := 235) (v := 32) dL_law_235 (by decide) ?_
  refine T_lshl (pc := 237) dL_law_237 ?_
  refine T_aload_n (pc := 238) dL_law_238 rfl rfl ?_
  refine T_iload_n (pc := 239) dL_law_239 rfl rfl ?_
  refine T_iconst (pc := 240) (v := 5) dL_law_240 (by decide) ?_
  refine T_iadd (pc := 241) dL_law_241 ?_
  obtain ⟨H0, H⟩ := H
  refine T_sld (pc := 242) rfl dL_law_242 H0 ?_
  refine T_i2l (pc := 243) dL_law_243 ?_
  refine T_ldc2 (pc := 244) (v := 4294967295) dL_law_244 c_6_197 ?_
  refine T_land (pc := 247) dL_law_247 ?_
  refine T_lor (pc := 248) dL_law_248 ?_
  obtain ⟨H0, H⟩ := H
  refine T_iV (pc := 249) (ci := 10) (av := [jI (xs (v3 + 1).toNatClampNeg), jI (xs (v3 + 2).toNatClampNeg), jI (xs (v3 + 3).toNatClampNeg), jL ((((xs (v3 + 4).toNatClampNeg).toInt64) <<< ((32 : Int32).toInt64 &&& 63)) ||| (((xs (v3 + 5).toNatClampNeg).toInt64) &&& 4294967295))]) (rest := []) (o := v1) dL_law_249 mf_X11_put c_1_237 c_1_238 c_1_239 rfl rfl (Nat.le_of_ble_eq_true rfl) rfl H0 (iI_k (iI_m0 (fun x6 h H => ?_) (J_X11_put (d := d) H)))
  refine T_aload_n (pc := 252) dL_law_252 rfl rfl ?_
  refine T_aload_n (pc := 253) dL_law_253 rfl rfl ?_
  refine T_iload_n (pc := 254) dL_law_254 rfl rfl ?_
  refine T_iconst (pc := 255) (v := 1) dL_law_255 (by decide) ?_
  refine T_iadd (pc := 256) dL_law_256 ?_
  obtain ⟨H0, H⟩ := H
  refine T_sld (pc := 257) rfl dL_law_257 H0 ?_
  refine T_aload_n (pc := 258) dL_law_258 rfl rfl ?_
  refine T_iload_n (pc := 259) dL_law_259 rfl rfl ?_
  refine T_iconst (pc := 260) (v := 2) dL_law_260 (by decide) ?_
  refine T_iadd (pc := 261) dL_law_261 ?_
  obtain ⟨H0, H⟩ := H
  refine T_sld (pc := 262) rfl dL_law_262 H0 ?_
  refine T_aload_n (pc := 263) dL_law_263 rfl rfl ?_
  refine T_iload_n (pc := 264) dL_law_264 rfl rfl ?_
  refine T_iconst (pc := 265) (v := 3) dL_law_265 (by decide) ?_
  refine T_iadd (pc := 266) dL_law_266 ?_
  obtain ⟨H0, H⟩ := H
  refine T_sld (pc := 267) rfl dL_law_267 H0 ?_
  refine T_aload_n (pc := 268) dL_law_268 rfl rfl ?_
  refine T_iload_n (pc := 269) dL_law_269 rfl rfl ?_
  refine T_iconst (pc := 270) (v := 4) dL_law_270 (by decide) ?_
  refine T_iadd (pc := 271) dL_law_271 ?_
  obtain ⟨H0, H⟩ := H
  refine T_sld (pc := 272) rfl dL_law_272 H0 ?_
  refine T_i2l (pc := 273) dL_law_273 ?_
  refine T_bipush (pc := 274) (v := 32) dL_law_274 (by decide) ?_
  refine T_lshl (pc := 276) dL_law_276 ?_
  refine T_aload_n (pc := 277) dL_law_277 rfl rfl ?_
  refine T_iload_n (pc := 278) dL_law_278 rfl rfl ?_
  refine T_iconst (pc := 279) (v := 5) dL_law_279 (by decide) ?_
  refine T_iadd (pc := 280) dL_law_280 ?_
  obtain ⟨H0, H⟩ := H
  refine T_sld (pc := 281) rfl dL_law_281 H0 ?_
  refine T_i2l (pc := 282) dL_law_282 ?_
  refine T_ldc2 (pc := 283) (v := 4294967295) dL_law_283 c_6_197 ?_
  refine T_land (pc := 286) dL_law_286 ?_
  refine T_lor (pc := 287) dL_law_287 ?_
  obtain ⟨H0, H⟩ := H
  refine T_iV (pc := 288) (ci := 11) (av := [jI (xs (v3 + 1).toNatClampNeg), jI (xs (v3 + 2).toNatClampNeg), jI (xs (v3 + 3).toNatClampNeg), jL ((((xs (v3 + 4).toNatClampNeg).toInt64) <<< ((32 : Int32).toInt64 &&& 63)) ||| (((xs (v3 + 5).toNatClampNeg).toInt64) &&& 4294967295))]) (rest := [jI x6]) (o := v2) dL_law_288 mf_X12_put c_5_98 c_5_99 c_5_100 rfl rfl (Nat.le_of_ble_eq_true rfl) rfl H0 (iI_k (iI_m0 (fun x12 h H => ?_) (J_X12_put (d := (d + 2)) H)))
  refine T_icmp_eq (pc := 291) (tgt := 1371) dL_law_291 (by decide) (fun hc => ?_) (fun hc => ?_)
  · rw [if_pos hc] at H
    refine T_iinc (pc := 1371) (v := v3 + 6) (ls2 := [some (jR (some scr)), some (jR v1), some (jR v2), some (jI (v3 + 6))]) dL_law_1371 rfl rfl (Nat.le_of_ble_eq_true rfl) rfl ?_
    refine T_goto (pc := 1374) (tgt := 18) dL_law_1374 (by decide) ?_
    exact T.forget H ⟨rfl, rfl, rfl, rfl, trivial⟩
  · rw [if_neg hc] at H
    refine T_iconst (pc := 294) (v := 0) dL_law_294 (by decide) ?_
    exact T_ireturn (pc := 295) rfl (nz_nar H.1) dL_law_295 H.2
def F_L_law_726 (L : Nat) (xs : Nat → Int32) (d : Nat) (v1 : Option Nm) (v2 : Option Nm) (v3 : Int32) (h : MH) (u : Nat) (Q : Int32 → MH → Prop) : Prop :=
  vp_in (v3 + 1) L ∧
  vp_in (v3 + 2) L ∧
  rc h v1 10 ∧ F_X11_info (d + 3) v1 (xs (v3 + 1).toNatClampNeg) (xs (v3 + 2).toNatClampNeg) h 0 fun x3 h =>
  vp_in (v3 + 1) L ∧
  vp_in (v3 + 2) L ∧
  rc h v2 11 ∧ F_X12_info (d + 3) v2 (xs (v3 + 1).toNatClampNeg) (xs (v3 + 2).toNatClampNeg) h 0 fun x6 h =>
  if x3 = x6 then
    L_L_law_18 L xs d v1 v2 (v3 + 6) h u Q
  else
    nz 0 ∧ Q 0 h
set_option maxRecDepth 20000 in
theorem E_L_law_726 {L : Nat} {xs : Nat → Int32} {d : Nat} {v1 : Option Nm} {v2 : Option Nm} {v3 : Int32} {h : MH} {u : Nat} {Q : Int32 → MH → Prop} (H : F_L_law_726 L xs d v1 v2 v3 h u Q) : T (uL L xs) (d + 6) 726 [some (jR (some scr)), some (jR v1), some (jR v2), some (jI v3)] [] h u (qI Q) := by
  unfold F_L_law_726 at H
  refine T_aload_n (pc := 726) dL_law_726 rfl rfl ?_
  refine T_aload_n (pc := 727) dL_law_727 rfl rfl ?_
  refine T_iload_n (pc := 728) dL_law_728 rfl rfl ?_
  refine T_iconst (pc := 729) (v := 1) dL_law_729 (by decide) ?_
  refine T_iadd (pc := 730) dL_law_730 ?_
  obtain ⟨H0, H⟩ := H
  refine T_sld (pc := 731) rfl dL_law_731 H0 ?_
  refine T_aload_n (pc := 732) dL_law_732 rfl rfl ?_
  refine T_iload_n (pc := 733) dL_law_733 rfl rfl ?_
  refine T_iconst (pc := 734) (v := 2) dL_law_734 (by decide) ?_
  refine T_iadd (pc := 735) dL_law_735 ?_
  obtain ⟨H0, H⟩ := H
  refine T_sld (pc := 736) rfl dL_law_736 H0 ?_
  obtain ⟨H0, H⟩ := H
  refine T_iV (pc := 737) (ci := 10) (av := [jI (xs (v3 + 1).toNatClampNeg), jI (xs (v3 + 2).toNatClampNeg)]) (rest := []) (o := v1) dL_law_737 mf_X11_info c_3_110 c_3_111 c_3_112 rfl rfl (Nat.le_of_ble_eq_true rfl) rfl H0 (iI_k (iI_m0 (fun x3 h H => ?_) (J_X11_info (d := (d + 3)) H)))
  refine T_aload_n (pc := 740) dL_law_740 rfl rfl ?_
  refine T_aload_n (pc := 741) dL_law_741 rfl rfl ?_
  refine T_iload_n (pc := 742) dL_law_742 rfl rfl ?_
  refine T_iconst (pc := 743) (v := 1) dL_law_743 (by decide) ?_
  refine T_iadd (pc := 744) dL_law_744 ?_
  obtain ⟨H0, H⟩ := H
  refine T_sld (pc := 745) rfl dL_law_745 H0 ?_
  refine T_aload_n (pc := 746) dL_law_746 rfl rfl ?_
  refine T_iload_n (pc := 747) dL_law_747 rfl rfl ?_
  refine T_iconst (pc := 748) (v := 2) dL_law_748 (by decide) ?_
  refine T_iadd (pc := 749) dL_law_749 ?_
  obtain ⟨H0, H⟩ := H
  refine T_sld (pc := 750) rfl dL_law_750 H0 ?_
  obtain ⟨H0, H⟩ := H
  refine T_iV (pc := 751) (ci := 11) (av := [jI (xs (v3 + 1).toNatClampNeg), jI (xs (v3 + 2).toNatClampNeg)]) (rest := [jI x3]) (o := v2) dL_law_751 mf_X12_info c_5_226 c_5_227 c_5_228 rfl rfl (Nat.le_of_ble_eq_true rfl) rfl H0 (iI_k (iI_m0 (fun x6 h H => ?_) (J_X12_info (d := (d + 3)) H)))
  refine T_icmp_eq (pc := 754) (tgt := 1371) dL_law_754 (by decide) (fun hc => ?_) (fun hc => ?_)
  · rw [if_pos hc] at H
    refine T_iinc (pc := 1371) (v := v3 + 6) (ls2 := [some (jR (some scr)), some (jR v1), some (jR v2), some (jI (v3 + 6))]) dL_law_1371 rfl rfl (Nat.le_of_ble_eq_true rfl) rfl ?_
    refine T_goto (pc := 1374) (tgt := 18) dL_law_1374 (by decide) ?_
    exact T.forget H ⟨rfl, rfl, rfl, rfl, trivial⟩
  · rw [if_neg hc] at H
    refine T_iconst (pc := 757) (v := 0) dL_law_757 (by decide) ?_
    exact T_ireturn (pc := 758) rfl (nz_nar H.1) dL_law_758 H.2
def F_L_law_981 (L : Nat) (xs : Nat → Int32) (d : Nat) (v1 : Option Nm) (v2 : Option Nm) (v3 : Int32) (h : MH) (u : Nat) (Q : Int32 → MH → Prop) : Prop :=
  vp_in (v3 + 1) L ∧
  vp_in (v3 + 2) L ∧
  rc h v1 10 ∧ F_X11_accessor (d + 3) v1 (xs (v3 + 1).toNatClampNeg) (xs (v3 + 2).toNatClampNeg) h 0 fun x3 h =>
  vp_in (v3 + 1) L ∧
  vp_in (v3 + 2) L ∧
  rc h v2 11 ∧ F_X12_accessor (d + 2) v2 (xs (v3 + 1).toNatClampNeg) (xs (v3 + 2).toNatClampNeg) h 0 fun x6 h =>
  if (lg_cmp x3 x6) = 0 then
    L_L_law_18 L xs d v1 v2 (v3 + 6) h u Q
  else
    nz 0 ∧ Q 0 h
set_option maxRecDepth 20000 in
theorem E_L_law_981 {L : Nat} {xs : Nat → Int32} {d : Nat} {v1 : Option Nm} {v2 : Option Nm} {v3 : Int32} {h : MH} {u : Nat} {Q : Int32 → MH → Prop} (H : F_L_law_981 L xs d v1 v2 v3 h u Q) : T (uL L xs) (d + 6) 981 [some (jR (some scr)), some (jR v1), some (jR v2), some (jI v3)] [] h u (qI Q) := by
  unfold F_L_law_981 at H
  refine T_aload_n (pc := 981) dL_law_981 rfl rfl ?_
  refine T_aload_n (pc := 982) dL_law_982 rfl rfl ?_
  refine T_iload_n (pc := 983) dL_law_983 rfl rfl ?_
  refine T_iconst (pc := 984) (v := 1) dL_law_984 (by decide) ?_
  refine T_iadd (pc := 985) dL_law_985 ?_
  obtain ⟨H0, H⟩ := H
  refine T_sld (pc := 986) rfl dL_law_986 H0 ?_
  refine T_aload_n (pc := 987) dL_law_987 rfl rfl ?_
  refine T_iload_n (pc := 988) dL_law_988 rfl rfl ?_
  refine T_iconst (pc := 989) (v := 2) dL_law_989 (by decide) ?_
  refine T_iadd (pc := 990) dL_law_990 ?_
  obtain ⟨H0, H⟩ := H
  refine T_sld (pc := 991) rfl dL_law_991 H0 ?_
  obtain ⟨H0, H⟩ := H
  refine T_iV (pc := 992) (ci := 10) (av := [jI (xs (v3 + 1).toNatClampNeg), jI (xs (v3 + 2).toNatClampNeg)]) (rest := []) (o := v1) dL_law_992 mf_X11_accessor c_3_237 c_3_238 c_3_239 rfl rfl (Nat.le_of_ble_eq_true rfl) rfl H0 (iL_k (iL_m0 (fun x3 h H => ?_) (J_X11_accessor (d := (d + 3)) H)))
  refine T_aload_n (pc := 995) dL_law_995 rfl rfl ?_
  refine T_aload_n (pc := 996) dL_law_996 rfl rfl ?_
  refine T_iload_n (pc := 997) dL_law_997 rfl rfl ?_
  refine T_iconst (pc := 998) (v := 1) dL_law_998 (by decide) ?_
  refine T_iadd (pc := 999) dL_law_999 ?_
  obtain ⟨H0, H⟩ := H
  refine T_sld (pc := 1000) rfl dL_law_1000 H0 ?_
  refine T_aload_n (pc := 1001) dL_law_1001 rfl rfl ?_
  refine T_iload_n (pc := 1002) dL_law_1002 rfl rfl ?_
  refine T_iconst (pc := 1003) (v := 2) dL_law_1003 (by decide) ?_
  refine T_iadd (pc := 1004) dL_law_1004 ?_
  obtain ⟨H0, H⟩ := H
  refine T_sld (pc := 1005) rfl dL_law_1005 H0 ?_
  obtain ⟨H0, H⟩ := H
  refine T_iV (pc := 1006) (ci := 11) (av := [jI (xs (v3 + 1).toNatClampNeg), jI (xs (v3 + 2).toNatClampNeg)]) (rest := [jL x3]) (o := v2) dL_law_1006 mf_X12_accessor c_6_55 c_6_56 c_6_57 rfl rfl (Nat.le_of_ble_eq_true rfl) rfl H0 (iL_k (iL_m0 (fun x6 h H => ?_) (J_X12_accessor (d := (d + 2)) H)))
  refine T_lcmp (pc := 1009) dL_law_1009 ?_
  refine T_if_eq (pc := 1010) (tgt := 1371) dL_law_1010 (by decide) (fun hc => ?_) (fun hc => ?_)
  · rw [if_pos hc] at H
    refine T_iinc (pc := 1371) (v := v3 + 6) (ls2 := [some (jR (some scr)), some (jR v1), some (jR v2), some (jI (v3 + 6))]) dL_law_1371 rfl rfl (Nat.le_of_ble_eq_true rfl) rfl ?_
    refine T_goto (pc := 1374) (tgt := 18) dL_law_1374 (by decide) ?_
    exact T.forget H ⟨rfl, rfl, rfl, rfl, trivial⟩
  · rw [if_neg hc] at H
    refine T_iconst (pc := 1013) (v := 0) dL_law_1013 (by decide) ?_
    exact T_ireturn (pc := 1014) rfl (nz_nar H.1) dL_law_1014 H.2
def F_L_law_1253 (L : Nat) (xs : Nat → Int32) (d : Nat) (v1 : Option Nm) (v2 : Option Nm) (v3 : Int32) (h : MH) (u : Nat) (Q : Int32 → MH → Prop) : Prop :=
  vp_in (v3 + 1) L ∧
  rc h v1 10 ∧ F_X11_show (d + 3) v1 (xs (v3 + 1).toNatClampNeg) h 0 fun x2 h =>
  vp_in (v3 + 1) L ∧
  rc h v2 11 ∧ F_X12_show d v2 (xs (v3 + 1).toNatClampNeg) h 0 fun x4 h =>
  if x2 = x4 then
    L_L_law_18 L xs d v1 v2 (v3 + 6) h u Q
  else
    nz 0 ∧ Q 0 h
set_option maxRecDepth 20000 in
theorem E_L_law_1253 {L : Nat} {xs : Nat → Int32} {d : Nat} {v1 : Option Nm} {v2 : Option Nm} {v3 : Int32} {h : MH} {u : Nat} {Q : Int32 → MH → Prop} (H : F_L_law_1253 L xs d v1 v2 v3 h u Q) : T (uL L xs) (d + 6) 1253 [some (jR (some scr)), some (jR v1), some (jR v2), some (jI v3)] [] h u (qI Q) := by
  unfold F_L_law_1253 at H
  refine T_aload_n (pc := 1253) dL_law_1253 rfl rfl ?_
  refine T_aload_n (pc := 1254) dL_law_1254 rfl rfl ?_
  refine T_iload_n (pc := 1255) dL_law_1255 rfl rfl ?_
  refine T_iconst (pc := 1256) (v := 1) dL_law_1256 (by decide) ?_
  refine T_iadd (pc := 1257) dL_law_1257 ?_
  obtain ⟨H0, H⟩ := H
  refine T_sld (pc := 1258) rfl dL_law_1258 H0 ?_
  obtain ⟨H0, H⟩ := H
  refine T_iV (pc := 1259) (ci := 10) (av := [jI (xs (v3 + 1).toNatClampNeg)]) (rest := []) (o := v1) dL_law_1259 mf_X11_show c_4_109 c_4_110 c_4_111 rfl rfl (Nat.le_of_ble_eq_true rfl) rfl H0 (iI_k (iI_m0 (fun x2 h H => ?_) (J_X11_show (d := (d + 3)) H)))
  refine T_aload_n (pc := 1262) dL_law_1262 rfl rfl ?_
  refine T_aload_n (pc := 1263) dL_law_1263 rfl rfl ?_
  refine T_iload_n (pc := 1264) dL_law_1264 rfl rfl ?_
  refine T_iconst (pc := 1265) (v := 1) dL_law_1265 (by decide) ?_
  refine T_iadd (pc := 1266) dL_law_1266 ?_
  obtain ⟨H0, H⟩ := H
  refine T_sld (pc := 1267) rfl dL_law_1267 H0 ?_
  obtain ⟨H0, H⟩ := H
  refine T_iV (pc := 1268) (ci := 11) (av := [jI (xs (v3 + 1).toNatClampNeg)]) (rest := [jI x2]) (o := v2) dL_law_1268 mf_X12_show c_6_147 c_6_148 c_6_149 rfl rfl (Nat.le_of_ble_eq_true rfl) rfl H0 (iI_k (iI_m0 (fun x4 h H => ?_) (J_X12_show (d := d) H)))
  refine T_icmp_eq (pc := 1271) (tgt := 1371) dL_law_1271 (by decide) (fun hc => ?_) (fun hc => ?_)
  · rw [if_pos hc] at H
    refine T_iinc (pc := 1371) (v := v3 + 6) (ls2 := [some (jR (some scr)), some (jR v1), some (jR v2), some (jI (v3 + 6))]) dL_law_1371 rfl rfl (Nat.le_of_ble_eq_true rfl) rfl ?_
    refine T_goto (pc := 1374) (tgt := 18) dL_law_1374 (by decide) ?_
    exact T.forget H ⟨rfl, rfl, rfl, rfl, trivial⟩
  · rw [if_neg hc] at H
    refine T_iconst (pc := 1274) (v := 0) dL_law_1274 (by decide) ?_
    exact T_ireturn (pc := 1275) rfl (nz_nar H.1) dL_law_1275 H.2
def F_L_law_624 (L : Nat) (xs : Nat → Int32) (d : Nat) (v1 : Option Nm) (v2 : Option Nm) (v3 : Int32) (h : MH) (u : Nat) (Q : Int32 → MH → Prop) : Prop :=
  vp_in (v3 + 1) L ∧
  vp_in (v3 + 2) L ∧
  vp_in (v3 + 3) L ∧
  vp_in (v3 + 4) L ∧
  rc h v1 10 ∧ iI (d + 5) u_X11_edition [jR v1, jI (xs (v3 + 1).toNatClampNeg), jI (xs (v3 + 2).toNatClampNeg), jI (xs (v3 + 3).toNatClampNeg), jI (xs (v3 + 4).toNatClampNeg)] h u fun x5 h u =>
  vp_in (v3 + 1) L ∧
  vp_in (v3 + 2) L ∧
  vp_in (v3 + 3) L ∧
  vp_in (v3 + 4) L ∧
  rc h v2 11 ∧ F_X12_edition (d + 3) v2 (xs (v3 + 1).toNatClampNeg) (xs (v3 + 2).toNatClampNeg) (xs (v3 + 3).toNatClampNeg) (xs (v3 + 4).toNatClampNeg) h 0 fun x10 h =>
  if x5 = x10 then
    L_L_law_18 L xs d v1 v2 (v3 + 6) h u Q
  else
    nz 0 ∧ Q 0 h
set_option maxRecDepth 20000 in
theorem E_L_law_624 {L : Nat} {xs : Nat → Int32} {d : Nat} {v1 : Option Nm} {v2 : Option Nm} {v3 : Int32} {h : MH} {u : Nat} {Q : Int32 → MH → Prop} (H : F_L_law_624 L xs d v1 v2 v3 h u Q) : T (uL L xs) (d + 6) 624 [some (jR (some scr)), some (jR v1), some (jR v2), some (jI v3)] [] h u (qI Q) := by
  unfold F_L_law_624 at H
  refine T_aload_n (pc := 624) dL_law_624 rfl rfl ?_
  refine T_aload_n (pc := 625) dL_law_625 rfl rfl ?_
  refine T_iload_n (pc := 626) dL_law_626 rfl rfl ?_
  refine T_iconst (pc := 627) (v := 1) dL_law_627 (by decide) ?_
  refine T_iadd (pc := 628) dL_law_628 ?_
  obtain ⟨H0, H⟩ := H
  refine T_sld (pc := 629) rfl dL_law_629 H0 ?_
  refine T_aload_n (pc := 630) dL_law_630 rfl rfl ?_
  refine T_iload_n (pc := 631) dL_law_631 rfl rfl ?_
  refine T_iconst (pc := 632) (v := 2) dL_law_632 (by decide) ?_
  refine T_iadd (pc := 633) dL_law_633 ?_
  obtain ⟨H0, H⟩ := H
  refine T_sld (pc := 634) rfl dL_law_634 H0 ?_
  refine T_aload_n (pc := 635) dL_law_635 rfl rfl ?_
  refine T_iload_n (pc := 636) dL_law_636 rfl rfl ?_
  refine T_iconst (pc := 637) (v := 3) dL_law_637 (by decide) ?_
  refine T_iadd (pc := 638) dL_law_638 ?_
  obtain ⟨H0, H⟩ := H
  refine T_sld (pc := 639) rfl dL_law_639 H0 ?_
  refine T_aload_n (pc := 640) dL_law_640 rfl rfl ?_
  refine T_iload_n (pc := 641) dL_law_641 rfl rfl ?_
  refine T_iconst (pc := 642) (v := 4) dL_law_642 (by decide) ?_
  refine T_iadd (pc := 643) dL_law_643 ?_
  obtain ⟨H0, H⟩ := H
  refine T_sld (pc := 644) rfl dL_law_644 H0 ?_
  obtain ⟨H0, H⟩ := H
  refine T_iV (pc := 645) (ci := 10) (av := [jI (xs (v3 + 1).toNatClampNeg), jI (xs (v3 + 2).toNatClampNeg), jI (xs (v3 + 3).toNatClampNeg), jI (xs (v3 + 4).toNatClampNeg)]) (rest := []) (o := v1) dL_law_645 mf_X11_edition c_2_230 c_2_231 c_2_232 rfl rfl (Nat.le_of_ble_eq_true rfl) rfl H0 (iI_k (iI_mono (fun x5 h u H => ?_) H))
  refine T_aload_n (pc := 648) dL_law_648 rfl rfl ?_
  refine T_aload_n (pc := 649) dL_law_649 rfl rfl ?_
  refine T_iload_n (pc := 650) dL_law_650 rfl rfl ?_
  refine T_iconst (pc := 651) (v := 1) dL_law_651 (by decide) ?_
  refine T_iadd (pc := 652) dL_law_652 ?_
  obtain ⟨H0, H⟩ := H
  refine T_sld (pc := 653) rfl dL_law_653 H0 ?_
  refine T_aload_n (pc := 654) dL_law_654 rfl rfl ?_
  refine T_iload_n (pc := 655) dL_law_655 rfl rfl ?_
  refine T_iconst (pc := 656) (v := 2) dL_law_656 (by decide) ?_
  refine T_iadd (pc := 657) dL_law_657 ?_
  obtain ⟨H0, H⟩ := H
  refine T_sld (pc := 658) rfl dL_law_658 H0 ?_
  refine T_aload_n (pc := 659) dL_law_659 rfl rfl ?_
  refine T_iload_n (pc := 660) dL_law_660 rfl rfl ?_
  refine T_iconst (pc := 661) (v := 3) dL_law_661 (by decide) ?_
  refine T_iadd (pc := 662) dL_law_662 ?_
  obtain ⟨H0, H⟩ := H
  refine T_sld (pc := 663) rfl dL_law_663 H0 ?_
  refine T_aload_n (pc := 664) dL_law_664 rfl rfl ?_
  refine T_iload_n (pc := 665) dL_law_665 rfl rfl ?_
  refine T_iconst (pc := 666) (v := 4) dL_law_666 (by decide) ?_
  refine T_iadd (pc := 667) dL_law_667 ?_
  obtain ⟨H0, H⟩ := H
  refine T_sld (pc := 668) rfl dL_law_668 H0 ?_
  obtain ⟨H0, H⟩ := H
  refine T_iV (pc := 669) (ci := 11) (av := [jI (xs (v3 + 1).toNatClampNeg), jI (xs (v3 + 2).toNatClampNeg), jI (xs (v3 + 3).toNatClampNeg), jI (xs (v3 + 4).toNatClampNeg)]) (rest := [jI x5]) (o := v2) dL_law_669 mf_X12_edition c_5_206 c_5_207 c_5_208 rfl rfl (Nat.le_of_ble_eq_true rfl) rfl H0 (iI_k (iI_m0 (fun x10 h H => ?_) (J_X12_edition (d := (d + 3)) H)))
  refine T_icmp_eq (pc := 672) (tgt := 1371) dL_law_672 (by decide) (fun hc => ?_) (fun hc => ?_)
  · rw [if_pos hc] at H
    refine T_iinc (pc := 1371) (v := v3 + 6) (ls2 := [some (jR (some scr)), some (jR v1), some (jR v2), some (jI (v3 + 6))]) dL_law_1371 rfl rfl (Nat.le_of_ble_eq_true rfl) rfl ?_
    refine T_goto (pc := 1374) (tgt := 18) dL_law_1374 (by decide) ?_
    exact T.forget H ⟨rfl, rfl, rfl, rfl, trivial⟩
  · rw [if_neg hc] at H
    refine T_iconst (pc := 675) (v := 0) dL_law_675 (by decide) ?_
    exact T_ireturn (pc := 676) rfl (nz_nar H.1) dL_law_676 H.2
def F_L_law_1015 (L : Nat) (xs : Nat → Int32) (d : Nat) (v1 : Option Nm) (v2 : Option Nm) (v3 : Int32) (h : MH) (u : Nat) (Q : Int32 → MH → Prop) : Prop :=
  vp_in (v3 + 1) L ∧
  vp_in (v3 + 2) L ∧
  rc h v1 10 ∧ F_X11_of (d + 4) v1 (xs (v3 + 1).toNatClampNeg) (xs (v3 + 2).toNatClampNeg) h 0 fun x3 h =>
  vp_in (v3 + 1) L ∧
  vp_in (v3 + 2) L ∧
  rc h v2 11 ∧ F_X12_of (d + 3) v2 (xs (v3 + 1).toNatClampNeg) (xs (v3 + 2).toNatClampNeg) h 0 fun x6 h =>
  if x3 = x6 then
    L_L_law_18 L xs d v1 v2 (v3 + 6) h u Q
  else
    nz 0 ∧ Q 0 h
set_option maxRecDepth 20000 in
theorem E_L_law_1015 {L : Nat} {xs : Nat → Int32} {d : Nat} {v1 : Option Nm} {v2 : Option Nm} {v3 : Int32} {h : MH} {u : Nat} {Q : Int32 → MH → Prop} (H : F_L_law_1015 L xs d v1 v2 v3 h u Q) : T (uL L xs) (d + 6) 1015 [some (jR (some scr)), some (jR v1), some (jR v2), some (jI v3)] [] h u (qI Q) := by
  unfold F_L_law_1015 at H
  refine T_aload_n (pc := 1015) dL_law_1015 rfl rfl ?_
  refine T_aload_n (pc := 1016) dL_law_1016 rfl rfl ?_
  refine T_iload_n (pc := 1017) dL_law_1017 rfl rfl ?_
  refine T_iconst (pc := 1018) (v := 1) dL_law_1018 (by decide) ?_
  refine T_iadd (pc := 1019) dL_law_1019 ?_
  obtain ⟨H0, H⟩ := H
  refine T_sld (pc := 1020) rfl dL_law_1020 H0 ?_
  refine T_aload_n (pc := 1021) dL_law_1021 rfl rfl ?_
  refine T_iload_n (pc := 1022) dL_law_1022 rfl rfl ?_
  refine T_iconst (pc := 1023) (v := 2) dL_law_1023 (by decide) ?_
  refine T_iadd (pc := 1024) dL_law_1024 ?_
  obtain ⟨H0, H⟩ := H
  refine T_sld (pc := 1025) rfl dL_law_1025 H0 ?_
  obtain ⟨H0, H⟩ := H
  refine T_iV (pc := 1026) (ci := 10) (av := [jI (xs (v3 + 1).toNatClampNeg), jI (xs (v3 + 2).toNatClampNeg)]) (rest := []) (o := v1) dL_law_1026 mf_X11_of c_4_1 c_4_2 c_4_3 rfl rfl (Nat.le_of_ble_eq_true rfl) rfl H0 (iI_k (iI_m0 (fun x3 h H => ?_) (J_X11_of (d := (d + 4)) H)))
  refine T_aload_n (pc := 1029) dL_law_1029 rfl rfl ?_
  refine T_aload_n (pc := 1030) dL_law_1030 rfl rfl ?_
  refine T_iload_n (pc := 1031) dL_law_1031 rfl rfl ?_
  refine T_iconst (pc := 1032) (v := 1) dL_law_1032 (by decide) ?_
  refine T_iadd (pc := 1033) dL_law_1033 ?_
  obtain ⟨H0, H⟩ := H
  refine T_sld (pc := 1034) rfl dL_law_1034 H0 ?_
  refine T_aload_n (pc := 1035) dL_law_1035 rfl rfl ?_
  refine T_iload_n (pc := 1036) dL_law_1036 rfl rfl ?_
  refine T_iconst (pc := 1037) (v := 2) dL_law_1037 (by decide) ?_
  refine T_iadd (pc := 1038) dL_law_1038 ?_
  obtain ⟨H0, H⟩ := H
  refine T_sld (pc := 1039) rfl dL_law_1039 H0 ?_
  obtain ⟨H0, H⟩ := H
  refine T_iV (pc := 1040) (ci := 11) (av := [jI (xs (v3 + 1).toNatClampNeg), jI (xs (v3 + 2).toNatClampNeg)]) (rest := [jI x3]) (o := v2) dL_law_1040 mf_X12_of c_6_59 c_6_60 c_6_61 rfl rfl (Nat.le_of_ble_eq_true rfl) rfl H0 (iI_k (iI_m0 (fun x6 h H => ?_) (J_X12_of (d := (d + 3)) H)))
  refine T_icmp_eq (pc := 1043) (tgt := 1371) dL_law_1043 (by decide) (fun hc => ?_) (fun hc => ?_)
  · rw [if_pos hc] at H
    refine T_iinc (pc := 1371) (v := v3 + 6) (ls2 := [some (jR (some scr)), some (jR v1), some (jR v2), some (jI (v3 + 6))]) dL_law_1371 rfl rfl (Nat.le_of_ble_eq_true rfl) rfl ?_
    refine T_goto (pc := 1374) (tgt := 18) dL_law_1374 (by decide) ?_
    exact T.forget H ⟨rfl, rfl, rfl, rfl, trivial⟩
  · rw [if_neg hc] at H
    refine T_iconst (pc := 1046) (v := 0) dL_law_1046 (by decide) ?_
    exact T_ireturn (pc := 1047) rfl (nz_nar H.1) dL_law_1047 H.2
def F_L_law_1140 (L : Nat) (xs : Nat → Int32) (d : Nat) (v1 : Option Nm) (v2 : Option Nm) (v3 : Int32) (h : MH) (u : Nat) (Q : Int32 → MH → Prop) : Prop :=
  vp_in (v3 + 1) L ∧
  vp_in (v3 + 2) L ∧
  rc h v1 10 ∧ F_X11_equal (d + 4) v1 (xs (v3 + 1).toNatClampNeg) (xs (v3 + 2).toNatClampNeg) h 0 fun x3 h =>
  vp_in (v3 + 1) L ∧
  vp_in (v3 + 2) L ∧
  rc h v2 11 ∧ F_X12_equal d v2 (xs (v3 + 1).toNatClampNeg) (xs (v3 + 2).toNatClampNeg) h 0 fun x6 h =>
  if x3 = x6 then
    L_L_law_18 L xs d v1 v2 (v3 + 6) h u Q
  else
    nz 0 ∧ Q 0 h
set_option maxRecDepth 20000 in
theorem E_L_law_1140 {L : Nat} {xs : Nat → Int32} {d : Nat} {v1 : Option Nm} {v2 : Option Nm} {v3 : Int32} {h : MH} {u : Nat} {Q : Int32 → MH → Prop} (H : F_L_law_1140 L xs d v1 v2 v3 h u Q) : T (uL L xs) (d + 6) 1140 [some (jR (some scr)), some (jR v1), some (jR v2), some (jI v3)] [] h u (qI Q) := by
  unfold F_L_law_1140 at H
  refine T_aload_n (pc := 1140) dL_law_1140 rfl rfl ?_
  refine T_aload_n (pc := 1141) dL_law_1141 rfl rfl ?_
  refine T_iload_n (pc := 1142) dL_law_1142 rfl rfl ?_
  refine T_iconst (pc := 1143) (v := 1) dL_law_1143 (by decide) ?_
  refine T_iadd (pc := 1144) dL_law_1144 ?_
  obtain ⟨H0, H⟩ := H
  refine T_sld (pc := 1145) rfl dL_law_1145 H0 ?_
  refine T_aload_n (pc := 1146) dL_law_1146 rfl rfl ?_
  refine T_iload_n (pc := 1147) dL_law_1147 rfl rfl ?_
  refine T_iconst (pc := 1148) (v := 2) dL_law_1148 (by decide) ?_
  refine T_iadd (pc := 1149) dL_law_1149 ?_
  obtain ⟨H0, H⟩ := H
  refine T_sld (pc := 1150) rfl dL_law_1150 H0 ?_
  obtain ⟨H0, H⟩ := H
  refine T_iV (pc := 1151) (ci := 10) (av := [jI (xs (v3 + 1).toNatClampNeg), jI (xs (v3 + 2).toNatClampNeg)]) (rest := []) (o := v1) dL_law_1151 mf_X11_equal c_4_19 c_4_20 c_4_21 rfl rfl (Nat.le_of_ble_eq_true rfl) rfl H0 (iI_k (iI_m0 (fun x3 h H => ?_) (J_X11_equal (d := (d + 4)) H)))
  refine T_aload_n (pc := 1154) dL_law_1154 rfl rfl ?_
  refine T_aload_n (pc := 1155) dL_law_1155 rfl rfl ?_
  refine T_iload_n (pc := 1156) dL_law_1156 rfl rfl ?_
  refine T_iconst (pc := 1157) (v := 1) dL_law_1157 (by decide) ?_
  refine T_iadd (pc := 1158) dL_law_1158 ?_
  obtain ⟨H0, H⟩ := H
  refine T_sld (pc := 1159) rfl dL_law_1159 H0 ?_
  refine T_aload_n (pc := 1160) dL_law_1160 rfl rfl ?_
  refine T_iload_n (pc := 1161) dL_law_1161 rfl rfl ?_
  refine T_iconst (pc := 1162) (v := 2) dL_law_1162 (by decide) ?_
  refine T_iadd (pc := 1163) dL_law_1163 ?_
  obtain ⟨H0, H⟩ := H
  refine T_sld (pc := 1164) rfl dL_law_1164 H0 ?_
  obtain ⟨H0, H⟩ := H
  refine T_iV (pc := 1165) (ci := 11) (av := [jI (xs (v3 + 1).toNatClampNeg), jI (xs (v3 + 2).toNatClampNeg)]) (rest := [jI x3]) (o := v2) dL_law_1165 mf_X12_equal c_6_71 c_6_72 c_6_73 rfl rfl (Nat.le_of_ble_eq_true rfl) rfl H0 (iI_k (iI_m0 (fun x6 h H => ?_) (J_X12_equal (d := d) H)))
  refine T_icmp_eq (pc := 1168) (tgt := 1371) dL_law_1168 (by decide) (fun hc => ?_) (fun hc => ?_)
  · rw [if_pos hc] at H
    refine T_iinc (pc := 1371) (v := v3 + 6) (ls2 := [some (jR (some scr)), some (jR v1), some (jR v2), some (jI (v3 + 6))]) dL_law_1371 rfl rfl (Nat.le_of_ble_eq_true rfl) rfl ?_
    refine T_goto (pc := 1374) (tgt := 18) dL_law_1374 (by decide) ?_
    exact T.forget H ⟨rfl, rfl, rfl, rfl, trivial⟩
  · rw [if_neg hc] at H
    refine T_iconst (pc := 1171) (v := 0) dL_law_1171 (by decide) ?_
    exact T_ireturn (pc := 1172) rfl (nz_nar H.1) dL_law_1172 H.2
def F_L_law_759 (L : Nat) (xs : Nat → Int32) (d : Nat) (v1 : Option Nm) (v2 : Option Nm) (v3 : Int32) (h : MH) (u : Nat) (Q : Int32 → MH → Prop) : Prop :=
  vp_in (v3 + 1) L ∧
  vp_in (v3 + 2) L ∧
  vp_in (v3 + 3) L ∧
  vp_in (v3 + 4) L ∧
  rc h v1 10 ∧ F_X11_give (d + 1) v1 (xs (v3 + 1).toNatClampNeg) (xs (v3 + 2).toNatClampNeg) ((((xs (v3 + 3).toNatClampNeg).toInt64) <<< ((32 : Int32).toInt64 &&& 63)) ||| (((xs (v3 + 4).toNatClampNeg).toInt64) &&& 4294967295)) h 0 fun x5 h =>
  vp_in (v3 + 1) L ∧
  vp_in (v3 + 2) L ∧
  vp_in (v3 + 3) L ∧
  vp_in (v3 + 4) L ∧
  rc h v2 11 ∧ F_X12_give (d + 2) v2 (xs (v3 + 1).toNatClampNeg) (xs (v3 + 2).toNatClampNeg) ((((xs (v3 + 3).toNatClampNeg).toInt64) <<< ((32 : Int32).toInt64 &&& 63)) ||| (((xs (v3 + 4).toNatClampNeg).toInt64) &&& 4294967295)) h 0 fun x10 h =>
  if x5 = x10 then
    L_L_law_18 L xs d v1 v2 (v3 + 6) h u Q
  else
    nz 0 ∧ Q 0 h
set_option maxRecDepth 20000 in
theorem E_L_law_759 {L : Nat} {xs : Nat → Int32} {d : Nat} {v1 : Option Nm} {v2 : Option Nm} {v3 : Int32} {h : MH} {u : Nat} {Q : Int32 → MH → Prop} (H : F_L_law_759 L xs d v1 v2 v3 h u Q) : T (uL L xs) (d + 6) 759 [some (jR (some scr)), some (jR v1), some (jR v2), some (jI v3)] [] h u (qI Q) := by
  unfold F_L_law_759 at H
  refine T_aload_n (pc := 759) dL_law_759 rfl rfl ?_
  refine T_aload_n (pc := 760) dL_law_760 rfl rfl ?_
  refine T_iload_n (pc := 761) dL_law_761 rfl rfl ?_
  refine T_iconst (pc := 762) (v := 1) dL_law_762 (by decide) ?_
  refine T_iadd (pc := 763) dL_law_763 ?_
  obtain ⟨H0, H⟩ := H
  refine T_sld (pc := 764) rfl dL_law_764 H0 ?_
  refine T_aload_n (pc := 765) dL_law_765 rfl rfl ?_
  refine T_iload_n (pc := 766) dL_law_766 rfl rfl ?_
  refine T_iconst (pc := 767) (v := 2) dL_law_767 (by decide) ?_
  refine T_iadd (pc := 768) dL_law_768 ?_
  obtain ⟨H0, H⟩ := H
  refine T_sld (pc := 769) rfl dL_law_769 H0 ?_
  refine T_aload_n (pc := 770) dL_law_770 rfl rfl ?_
  refine T_iload_n (pc := 771) dL_law_771 rfl rfl ?_
  refine T_iconst (pc := 772) (v := 3) dL_law_772 (by decide) ?_
  refine T_iadd (pc := 773) dL_law_773 ?_
  obtain ⟨H0, H⟩ := H
  refine T_sld (pc := 774) rfl dL_law_774 H0 ?_
  refine T_i2l (pc := 775) dL_law_775 ?_
  refine T_bipush (pc := 776) (v := 32) dL_law_776 (by decide) ?_
  refine T_lshl (pc := 778) dL_law_778 ?_
  refine T_aload_n (pc := 779) dL_law_779 rfl rfl ?_
  refine T_iload_n (pc := 780) dL_law_780 rfl rfl ?_
  refine T_iconst (pc := 781) (v := 4) dL_law_781 (by decide) ?_
  refine T_iadd (pc := 782) dL_law_782 ?_
  obtain ⟨H0, H⟩ := H
  refine T_sld (pc := 783) rfl dL_law_783 H0 ?_
  refine T_i2l (pc := 784) dL_law_784 ?_
  refine T_ldc2 (pc := 785) (v := 4294967295) dL_law_785 c_6_197 ?_
  refine T_land (pc := 788) dL_law_788 ?_
  refine T_lor (pc := 789) dL_law_789 ?_
  obtain ⟨H0, H⟩ := H
  refine T_iV (pc := 790) (ci := 10) (av := [jI (xs (v3 + 1).toNatClampNeg), jI (xs (v3 + 2).toNatClampNeg), jL ((((xs (v3 + 3).toNatClampNeg).toInt64) <<< ((32 : Int32).toInt64 &&& 63)) ||| (((xs (v3 + 4).toNatClampNeg).toInt64) &&& 4294967295))]) (rest := []) (o := v1) dL_law_790 mf_X11_give c_3_114 c_3_115 c_3_116 rfl rfl (Nat.le_of_ble_eq_true rfl) rfl H0 (iI_k (iI_m0 (fun x5 h H => ?_) (J_X11_give (d := (d + 1)) H)))
  refine T_aload_n (pc := 793) dL_law_793 rfl rfl ?_
  refine T_aload_n (pc := 794) dL_law_794 rfl rfl ?_
  refine T_iload_n (pc := 795) dL_law_795 rfl rfl ?_
  refine T_iconst (pc := 796) (v := 1) dL_law_796 (by decide) ?_
  refine T_iadd (pc := 797) dL_law_797 ?_
  obtain ⟨H0, H⟩ := H
  refine T_sld (pc := 798) rfl dL_law_798 H0 ?_
  refine T_aload_n (pc := 799) dL_law_799 rfl rfl ?_
  refine T_iload_n (pc := 800) dL_law_800 rfl rfl ?_
  refine T_iconst (pc := 801) (v := 2) dL_law_801 (by decide) ?_
  refine T_iadd (pc := 802) dL_law_802 ?_
  obtain ⟨H0, H⟩ := H
  refine T_sld (pc := 803) rfl dL_law_803 H0 ?_
  refine T_aload_n (pc := 804) dL_law_804 rfl rfl ?_
  refine T_iload_n (pc := 805) dL_law_805 rfl rfl ?_
  refine T_iconst (pc := 806) (v := 3) dL_law_806 (by decide) ?_
  refine T_iadd (pc := 807) dL_law_807 ?_
  obtain ⟨H0, H⟩ := H
  refine T_sld (pc := 808) rfl dL_law_808 H0 ?_
  refine T_i2l (pc := 809) dL_law_809 ?_
  refine T_bipush (pc := 810) (v := 32) dL_law_810 (by decide) ?_
  refine T_lshl (pc := 812) dL_law_812 ?_
  refine T_aload_n (pc := 813) dL_law_813 rfl rfl ?_
  refine T_iload_n (pc := 814) dL_law_814 rfl rfl ?_
  refine T_iconst (pc := 815) (v := 4) dL_law_815 (by decide) ?_
  refine T_iadd (pc := 816) dL_law_816 ?_
  obtain ⟨H0, H⟩ := H
  refine T_sld (pc := 817) rfl dL_law_817 H0 ?_
  refine T_i2l (pc := 818) dL_law_818 ?_
  refine T_ldc2 (pc := 819) (v := 4294967295) dL_law_819 c_6_197 ?_
  refine T_land (pc := 822) dL_law_822 ?_
  refine T_lor (pc := 823) dL_law_823 ?_
  obtain ⟨H0, H⟩ := H
  refine T_iV (pc := 824) (ci := 11) (av := [jI (xs (v3 + 1).toNatClampNeg), jI (xs (v3 + 2).toNatClampNeg), jL ((((xs (v3 + 3).toNatClampNeg).toInt64) <<< ((32 : Int32).toInt64 &&& 63)) ||| (((xs (v3 + 4).toNatClampNeg).toInt64) &&& 4294967295))]) (rest := [jI x5]) (o := v2) dL_law_824 mf_X12_give c_5_230 c_5_231 c_5_232 rfl rfl (Nat.le_of_ble_eq_true rfl) rfl H0 (iI_k (iI_m0 (fun x10 h H => ?_) (J_X12_give (d := (d + 2)) H)))
  refine T_icmp_eq (pc := 827) (tgt := 1371) dL_law_827 (by decide) (fun hc => ?_) (fun hc => ?_)
  · rw [if_pos hc] at H
    refine T_iinc (pc := 1371) (v := v3 + 6) (ls2 := [some (jR (some scr)), some (jR v1), some (jR v2), some (jI (v3 + 6))]) dL_law_1371 rfl rfl (Nat.le_of_ble_eq_true rfl) rfl ?_
    refine T_goto (pc := 1374) (tgt := 18) dL_law_1374 (by decide) ?_
    exact T.forget H ⟨rfl, rfl, rfl, rfl, trivial⟩
  · rw [if_neg hc] at H
    refine T_iconst (pc := 830) (v := 0) dL_law_830 (by decide) ?_
    exact T_ireturn (pc := 831) rfl (nz_nar H.1) dL_law_831 H.2
def F_L_law_891 (L : Nat) (xs : Nat → Int32) (d : Nat) (v1 : Option Nm) (v2 : Option Nm) (v3 : Int32) (h : MH) (u : Nat) (Q : Int32 → MH → Prop) : Prop :=
  vp_in (v3 + 1) L ∧
  rc h v1 10 ∧ iI (d + 5) u_X11_make [jR v1, jI (xs (v3 + 1).toNatClampNeg)] h u fun x2 h u =>
  vp_in (v3 + 1) L ∧
  rc h v2 11 ∧ F_X12_make d v2 (xs (v3 + 1).toNatClampNeg) h 0 fun x4 h =>
  if x2 = x4 then
    L_L_law_18 L xs d v1 v2 (v3 + 6) h u Q
  else
    nz 0 ∧ Q 0 h
set_option maxRecDepth 20000 in
theorem E_L_law_891 {L : Nat} {xs : Nat → Int32} {d : Nat} {v1 : Option Nm} {v2 : Option Nm} {v3 : Int32} {h : MH} {u : Nat} {Q : Int32 → MH → Prop} (H : F_L_law_891 L xs d v1 v2 v3 h u Q) : T (uL L xs) (d + 6) 891 [some (jR (some scr)), some (jR v1), some (jR v2), some (jI v3)] [] h u (qI Q) := by
  unfold F_L_law_891 at H
  refine T_aload_n (pc := 891) dL_law_891 rfl rfl ?_
  refine T_aload_n (pc := 892) dL_law_892 rfl rfl ?_
  refine T_iload_n (pc := 893) dL_law_893 rfl rfl ?_
  refine T_iconst (pc := 894) (v := 1) dL_law_894 (by decide) ?_
  refine T_iadd (pc := 895) dL_law_895 ?_
  obtain ⟨H0, H⟩ := H
  refine T_sld (pc := 896) rfl dL_law_896 H0 ?_
  obtain ⟨H0, H⟩ := H
  refine T_iV (pc := 897) (ci := 10) (av := [jI (xs (v3 + 1).toNatClampNeg)]) (rest := []) (o := v1) dL_law_897 mf_X11_make c_3_133 c_3_134 c_3_135 rfl rfl (Nat.le_of_ble_eq_true rfl) rfl H0 (iI_k (iI_mono (fun x2 h u H => ?_) H))
  refine T_aload_n (pc := 900) dL_law_900 rfl rfl ?_
  refine T_aload_n (pc := 901) dL_law_901 rfl rfl ?_
  refine T_iload_n (pc := 902) dL_law_902 rfl rfl ?_
  refine T_iconst (pc := 903) (v := 1) dL_law_903 (by decide) ?_
  refine T_iadd (pc := 904) dL_law_904 ?_
  obtain ⟨H0, H⟩ := H
  refine T_sld (pc := 905) rfl dL_law_905 H0 ?_
  obtain ⟨H0, H⟩ := H
  refine T_iV (pc := 906) (ci := 11) (av := [jI (xs (v3 + 1).toNatClampNeg)]) (rest := [jI x2]) (o := v2) dL_law_906 mf_X12_make c_5_238 c_5_239 c_6_0 rfl rfl (Nat.le_of_ble_eq_true rfl) rfl H0 (iI_k (iI_m0 (fun x4 h H => ?_) (J_X12_make (d := d) H)))
  refine T_icmp_eq (pc := 909) (tgt := 1371) dL_law_909 (by decide) (fun hc => ?_) (fun hc => ?_)
  · rw [if_pos hc] at H
    refine T_iinc (pc := 1371) (v := v3 + 6) (ls2 := [some (jR (some scr)), some (jR v1), some (jR v2), some (jI (v3 + 6))]) dL_law_1371 rfl rfl (Nat.le_of_ble_eq_true rfl) rfl ?_
    refine T_goto (pc := 1374) (tgt := 18) dL_law_1374 (by decide) ?_
    exact T.forget H ⟨rfl, rfl, rfl, rfl, trivial⟩
  · rw [if_neg hc] at H
    refine T_iconst (pc := 912) (v := 0) dL_law_912 (by decide) ?_
    exact T_ireturn (pc := 913) rfl (nz_nar H.1) dL_law_913 H.2
def F_L_law_1276 (L : Nat) (xs : Nat → Int32) (d : Nat) (v1 : Option Nm) (v2 : Option Nm) (v3 : Int32) (h : MH) (u : Nat) (Q : Int32 → MH → Prop) : Prop :=
  vp_in (v3 + 1) L ∧
  rc h v1 10 ∧ F_X11_byteAt (d + 4) v1 (xs (v3 + 1).toNatClampNeg) h 0 fun x2 h =>
  vp_in (v3 + 1) L ∧
  rc h v2 11 ∧ F_X12_byteAt (d + 4) v2 (xs (v3 + 1).toNatClampNeg) h 0 fun x4 h =>
  if x2 = x4 then
    L_L_law_18 L xs d v1 v2 (v3 + 6) h u Q
  else
    nz 0 ∧ Q 0 h
set_option maxRecDepth 20000 in
theorem E_L_law_1276 {L : Nat} {xs : Nat → Int32} {d : Nat} {v1 : Option Nm} {v2 : Option Nm} {v3 : Int32} {h : MH} {u : Nat} {Q : Int32 → MH → Prop} (H : F_L_law_1276 L xs d v1 v2 v3 h u Q) : T (uL L xs) (d + 6) 1276 [some (jR (some scr)), some (jR v1), some (jR v2), some (jI v3)] [] h u (qI Q) := by
  unfold F_L_law_1276 at H
  refine T_aload_n (pc := 1276) dL_law_1276 rfl rfl ?_
  refine T_aload_n (pc := 1277) dL_law_1277 rfl rfl ?_
  refine T_iload_n (pc := 1278) dL_law_1278 rfl rfl ?_
  refine T_iconst (pc := 1279) (v := 1) dL_law_1279 (by decide) ?_
  refine T_iadd (pc := 1280) dL_law_1280 ?_
  obtain ⟨H0, H⟩ := H
  refine T_sld (pc := 1281) rfl dL_law_1281 H0 ?_
  obtain ⟨H0, H⟩ := H
  refine T_iV (pc := 1282) (ci := 10) (av := [jI (xs (v3 + 1).toNatClampNeg)]) (rest := []) (o := v1) dL_law_1282 mf_X11_byteAt c_4_150 c_4_151 c_4_152 rfl rfl (Nat.le_of_ble_eq_true rfl) rfl H0 (iI_k (iI_m0 (fun x2 h H => ?_) (J_X11_byteAt (d := (d + 4)) H)))
  refine T_aload_n (pc := 1285) dL_law_1285 rfl rfl ?_
  refine T_aload_n (pc := 1286) dL_law_1286 rfl rfl ?_
  refine T_iload_n (pc := 1287) dL_law_1287 rfl rfl ?_
  refine T_iconst (pc := 1288) (v := 1) dL_law_1288 (by decide) ?_
  refine T_iadd (pc := 1289) dL_law_1289 ?_
  obtain ⟨H0, H⟩ := H
  refine T_sld (pc := 1290) rfl dL_law_1290 H0 ?_
  obtain ⟨H0, H⟩ := H
  refine T_iV (pc := 1291) (ci := 11) (av := [jI (xs (v3 + 1).toNatClampNeg)]) (rest := [jI x2]) (o := v2) dL_law_1291 mf_X12_byteAt c_6_177 c_6_178 c_6_179 rfl rfl (Nat.le_of_ble_eq_true rfl) rfl H0 (iI_k (iI_m0 (fun x4 h H => ?_) (J_X12_byteAt (d := (d + 4)) H)))
  refine T_icmp_eq (pc := 1294) (tgt := 1371) dL_law_1294 (by decide) (fun hc => ?_) (fun hc => ?_)
  · rw [if_pos hc] at H
    refine T_iinc (pc := 1371) (v := v3 + 6) (ls2 := [some (jR (some scr)), some (jR v1), some (jR v2), some (jI (v3 + 6))]) dL_law_1371 rfl rfl (Nat.le_of_ble_eq_true rfl) rfl ?_
    refine T_goto (pc := 1374) (tgt := 18) dL_law_1374 (by decide) ?_
    exact T.forget H ⟨rfl, rfl, rfl, rfl, trivial⟩
  · rw [if_neg hc] at H
    refine T_iconst (pc := 1297) (v := 0) dL_law_1297 (by decide) ?_
    exact T_ireturn (pc := 1298) rfl (nz_nar H.1) dL_law_1298 H.2
def F_L_law_383 (L : Nat) (xs : Nat → Int32) (d : Nat) (v1 : Option Nm) (v2 : Option Nm) (v3 : Int32) (h : MH) (u : Nat) (Q : Int32 → MH → Prop) : Prop :=
  vp_in (v3 + 1) L ∧
  vp_in (v3 + 2) L ∧
  rc h v1 10 ∧ F_X11_at (d + 3) v1 (xs (v3 + 1).toNatClampNeg) (xs (v3 + 2).toNatClampNeg) h 0 fun x3 h =>
  vp_in (v3 + 1) L ∧
  vp_in (v3 + 2) L ∧
  rc h v2 11 ∧ F_X12_at (d + 3) v2 (xs (v3 + 1).toNatClampNeg) (xs (v3 + 2).toNatClampNeg) h 0 fun x6 h =>
  if x3 = x6 then
    L_L_law_18 L xs d v1 v2 (v3 + 6) h u Q
  else
    nz 0 ∧ Q 0 h
set_option maxRecDepth 20000 in
theorem E_L_law_383 {L : Nat} {xs : Nat → Int32} {d : Nat} {v1 : Option Nm} {v2 : Option Nm} {v3 : Int32} {h : MH} {u : Nat} {Q : Int32 → MH → Prop} (H : F_L_law_383 L xs d v1 v2 v3 h u Q) : T (uL L xs) (d + 6) 383 [some (jR (some scr)), some (jR v1), some (jR v2), some (jI v3)] [] h u (qI Q) := by
  unfold F_L_law_383 at H
  refine T_aload_n (pc := 383) dL_law_383 rfl rfl ?_
  refine T_aload_n (pc := 384) dL_law_384 rfl rfl ?_
  refine T_iload_n (pc := 385) dL_law_385 rfl rfl ?_
  refine T_iconst (pc := 386) (v := 1) dL_law_386 (by decide) ?_
  refine T_iadd (pc := 387) dL_law_387 ?_
  obtain ⟨H0, H⟩ := H
  refine T_sld (pc := 388) rfl dL_law_388 H0 ?_
  refine T_aload_n (pc := 389) dL_law_389 rfl rfl ?_
  refine T_iload_n (pc := 390) dL_law_390 rfl rfl ?_
  refine T_iconst (pc := 391) (v := 2) dL_law_391 (by decide) ?_
  refine T_iadd (pc := 392) dL_law_392 ?_
  obtain ⟨H0, H⟩ := H
  refine T_sld (pc := 393) rfl dL_law_393 H0 ?_
  obtain ⟨H0, H⟩ := H
  refine T_iV (pc := 394) (ci := 10) (av := [jI (xs (v3 + 1).toNatClampNeg), jI (xs (v3 + 2).toNatClampNeg)]) (rest := []) (o := v1) dL_law_394 mf_X11_at c_2_70 c_2_71 c_2_72 rfl rfl (Nat.le_of_ble_eq_true rfl) rfl H0 (iI_k (iI_m0 (fun x3 h H => ?_) (J_X11_at (d := (d + 3)) H)))
  refine T_aload_n (pc := 397) dL_law_397 rfl rfl ?_
  refine T_aload_n (pc := 398) dL_law_398 rfl rfl ?_
  refine T_iload_n (pc := 399) dL_law_399 rfl rfl ?_
  refine T_iconst (pc := 400) (v := 1) dL_law_400 (by decide) ?_
  refine T_iadd (pc := 401) dL_law_401 ?_
  obtain ⟨H0, H⟩ := H
  refine T_sld (pc := 402) rfl dL_law_402 H0 ?_
  refine T_aload_n (pc := 403) dL_law_403 rfl rfl ?_
  refine T_iload_n (pc := 404) dL_law_404 rfl rfl ?_
  refine T_iconst (pc := 405) (v := 2) dL_law_405 (by decide) ?_
  refine T_iadd (pc := 406) dL_law_406 ?_
  obtain ⟨H0, H⟩ := H
  refine T_sld (pc := 407) rfl dL_law_407 H0 ?_
  obtain ⟨H0, H⟩ := H
  refine T_iV (pc := 408) (ci := 11) (av := [jI (xs (v3 + 1).toNatClampNeg), jI (xs (v3 + 2).toNatClampNeg)]) (rest := [jI x3]) (o := v2) dL_law_408 mf_X12_at c_5_159 c_5_160 c_5_161 rfl rfl (Nat.le_of_ble_eq_true rfl) rfl H0 (iI_k (iI_m0 (fun x6 h H => ?_) (J_X12_at (d := (d + 3)) H)))
  refine T_icmp_eq (pc := 411) (tgt := 1371) dL_law_411 (by decide) (fun hc => ?_) (fun hc => ?_)
  · rw [if_pos hc] at H
    refine T_iinc (pc := 1371) (v := v3 + 6) (ls2 := [some (jR (some scr)), some (jR v1), some (jR v2), some (jI (v3 + 6))]) dL_law_1371 rfl rfl (Nat.le_of_ble_eq_true rfl) rfl ?_
    refine T_goto (pc := 1374) (tgt := 18) dL_law_1374 (by decide) ?_
    exact T.forget H ⟨rfl, rfl, rfl, rfl, trivial⟩
  · rw [if_neg hc] at H
    refine T_iconst (pc := 414) (v := 0) dL_law_414 (by decide) ?_
    exact T_ireturn (pc := 415) rfl (nz_nar H.1) dL_law_415 H.2
def F_L_law_18 (L : Nat) (xs : Nat → Int32) (d : Nat) (v1 : Option Nm) (v2 : Option Nm) (v3 : Int32) (h : MH) (u : Nat) (Q : Int32 → MH → Prop) : Prop :=
  if ((Int32.ofNat L) - 6) < v3 then
    nz 1 ∧ Q 1 h
  else
    vp_in v3 L ∧
    if ((xs v3.toNatClampNeg) &&& 63) = 0 then
      F_L_law_180 L xs d v1 v2 v3 h u Q
    else if ((xs v3.toNatClampNeg) &&& 63) = 1 then
      F_L_law_213 L xs d v1 v2 v3 h u Q
    else if ((xs v3.toNatClampNeg) &&& 63) = 2 then
      F_L_law_296 L xs d v1 v2 v3 h u Q
    else if ((xs v3.toNatClampNeg) &&& 63) = 3 then
      F_L_law_340 L xs d v1 v2 v3 h u Q
    else if ((xs v3.toNatClampNeg) &&& 63) = 4 then
      F_L_law_383 L xs d v1 v2 v3 h u Q
    else if ((xs v3.toNatClampNeg) &&& 63) = 5 then
      F_L_law_416 L xs d v1 v2 v3 h u Q
    else if ((xs v3.toNatClampNeg) &&& 63) = 6 then
      F_L_law_449 L xs d v1 v2 v3 h u Q
    else if ((xs v3.toNatClampNeg) &&& 63) = 7 then
      F_L_law_512 L xs d v1 v2 v3 h u Q
    else if ((xs v3.toNatClampNeg) &&& 63) = 8 then
      F_L_law_535 L xs d v1 v2 v3 h u Q
    else if ((xs v3.toNatClampNeg) &&& 63) = 9 then
      F_L_law_558 L xs d v1 v2 v3 h u Q
    else if ((xs v3.toNatClampNeg) &&& 63) = 10 then
      F_L_law_581 L xs d v1 v2 v3 h u Q
    else if ((xs v3.toNatClampNeg) &&& 63) = 11 then
      F_L_law_624 L xs d v1 v2 v3 h u Q
    else if ((xs v3.toNatClampNeg) &&& 63) = 12 then
      F_L_law_677 L xs d v1 v2 v3 h u Q
    else if ((xs v3.toNatClampNeg) &&& 63) = 13 then
      F_L_law_726 L xs d v1 v2 v3 h u Q
    else if ((xs v3.toNatClampNeg) &&& 63) = 14 then
      F_L_law_759 L xs d v1 v2 v3 h u Q
    else if ((xs v3.toNatClampNeg) &&& 63) = 15 then
      F_L_law_832 L xs d v1 v2 v3 h u Q
    else if ((xs v3.toNatClampNeg) &&& 63) = 16 then
      F_L_law_891 L xs d v1 v2 v3 h u Q
    else if ((xs v3.toNatClampNeg) &&& 63) = 17 then
      F_L_law_914 L xs d v1 v2 v3 h u Q
    else if ((xs v3.toNatClampNeg) &&& 63) = 18 then
      F_L_law_947 L xs d v1 v2 v3 h u Q
    else if ((xs v3.toNatClampNeg) &&& 63) = 19 then
      F_L_law_981 L xs d v1 v2 v3 h u Q
    else if ((xs v3.toNatClampNeg) &&& 63) = 20 then
      F_L_law_1015 L xs d v1 v2 v3 h u Q
    else if ((xs v3.toNatClampNeg) &&& 63) = 21 then
      F_L_law_1048 L xs d v1 v2 v3 h u Q
    else if ((xs v3.toNatClampNeg) &&& 63) = 22 then
      F_L_law_1107 L xs d v1 v2 v3 h u Q
    else if ((xs v3.toNatClampNeg) &&& 63) = 23 then
      F_L_law_1140 L xs d v1 v2 v3 h u Q
    else if ((xs v3.toNatClampNeg) &&& 63) = 24 then
      F_L_law_1173 L xs d v1 v2 v3 h u Q
    else if ((xs v3.toNatClampNeg) &&& 63) = 25 then
      F_L_law_1206 L xs d v1 v2 v3 h u Q
    else if ((xs v3.toNatClampNeg) &&& 63) = 26 then
      F_L_law_1230 L xs d v1 v2 v3 h u Q
    else if ((xs v3.toNatClampNeg) &&& 63) = 27 then
      F_L_law_1253 L xs d v1 v2 v3 h u Q
    else if ((xs v3.toNatClampNeg) &&& 63) = 28 then
      F_L_law_1276 L xs d v1 v2 v3 h u Q
    else if ((xs v3.toNatClampNeg) &&& 63) = 29 then
      F_L_law_1299 L xs d v1 v2 v3 h u Q
    else if ((xs v3.toNatClampNeg) &&& 63) = 30 then
      F_L_law_1322 L xs d v1 v2 v3 h u Q
    else if ((xs v3.toNatClampNeg) &&& 63) = 31 then
      F_L_law_1335 L xs d v1 v2 v3 h u Q
    else if ((xs v3.toNatClampNeg) &&& 63) = 32 then
      F_L_law_1348 L xs d v1 v2 v3 h u Q
    else 
      L_L_law_18 L xs d v1 v2 (v3 + 6) h u Q
set_option maxRecDepth 20000 in
theorem E_L_law_18 {L : Nat} {xs : Nat → Int32} {d : Nat} {v1 : Option Nm} {v2 : Option Nm} {v3 : Int32} {h : MH} {u : Nat} {Q : Int32 → MH → Prop} (H : F_L_law_18 L xs d v1 v2 v3 h u Q) : T (uL L xs) (d + 6) 18 [some (jR (some scr)), some (jR v1), some (jR v2), some (jI v3)] [] h u (qI Q) := by
  unfold F_L_law_18 at H
  refine T_iload_n (pc := 18) dL_law_18 rfl rfl ?_
  refine T_aload_n (pc := 19) dL_law_19 rfl rfl ?_
  refine T_slen (pc := 20) rfl dL_law_20 ?_
  refine T_bipush (pc := 21) (v := 6) dL_law_21 (by decide) ?_
  refine T_isub (pc := 23) dL_law_23 ?_
  refine T_icmp_gt (pc := 24) (tgt := 1377) dL_law_24 (by decide) (fun hc => ?_) (fun hc => ?_)
  · rw [if_pos hc] at H
    refine T_iconst (pc := 1377) (v := 1) dL_law_1377 (by decide) ?_
    exact T_ireturn (pc := 1378) rfl (nz_nar H.1) dL_law_1378 H.2
  · rw [if_neg hc] at H
    refine T_aload_n (pc := 27) dL_law_27 rfl rfl ?_
    refine T_iload_n (pc := 28) dL_law_28 rfl rfl ?_
    obtain ⟨H0, H⟩ := H
    refine T_sld (pc := 29) rfl dL_law_29 H0 ?_
    refine T_bipush (pc := 30) (v := 63) dL_law_30 (by decide) ?_
    refine T_iand (pc := 32) dL_law_32 ?_
    by_cases h0 : ((xs v3.toNatClampNeg) &&& 63) = 0
    · rw [if_pos h0] at H
      refine T_tableIn (pc := 33) (off := 147) (tgt := 180) dL_law_33 (by rw [h0]; decide) (by rw [h0]; decide) (by rw [h0]; rfl) (by decide) ?_
      exact T.forget (E_L_law_180 H) ⟨rfl, rfl, rfl, rfl, trivial⟩
    rw [if_neg h0] at H
    by_cases h1 : ((xs v3.toNatClampNeg) &&& 63) = 1
    · rw [if_pos h1] at H
      refine T_tableIn (pc := 33) (off := 180) (tgt := 213) dL_law_33 (by rw [h1]; decide) (by rw [h1]; decide) (by rw [h1]; rfl) (by decide) ?_
      exact T.forget (E_L_law_213 H) ⟨rfl, rfl, rfl, rfl, trivial⟩
    rw [if_neg h1] at H
    by_cases h2 : ((xs v3.toNatClampNeg) &&& 63) = 2
    · rw [if_pos h2] at H
      refine T_tableIn (pc := 33) (off := 263) (tgt := 296) dL_law_33 (by rw [h2]; decide) (by rw [h2]; decide) (by rw [h2]; rfl) (by decide) ?_
      exact T.forget (E_L_law_296 H) ⟨rfl, rfl, rfl, rfl, trivial⟩
    rw [if_neg h2] at H
    by_cases h3 : ((xs v3.toNatClampNeg) &&& 63) = 3
    · rw [if_pos h3] at H
      refine T_tableIn (pc := 33) (off := 307) (tgt := 340) dL_law_33 (by rw [h3]; decide) (by rw [h3]; decide) (by rw [h3]; rfl) (by decide) ?_
      exact T.forget (E_L_law_340 H) ⟨rfl, rfl, rfl, rfl, trivial⟩
    rw [if_neg h3] at H
    by_cases h4 : ((xs v3.toNatClampNeg) &&& 63) = 4
    · rw [if_pos h4] at H
      refine T_tableIn (pc := 33) (off := 350) (tgt := 383) dL_law_33 (by rw [h4]; decide) (by rw [h4]; decide) (by rw [h4]; rfl) (by decide) ?_
      exact T.forget (E_L_law_383 H) ⟨rfl, rfl, rfl, rfl, trivial⟩
    rw [if_neg h4] at H
    by_cases h5 : ((xs v3.toNatClampNeg) &&& 63) = 5
    · rw [if_pos h5] at H
      refine T_tableIn (pc := 33) (off := 383) (tgt := 416) dL_law_33 (by rw [h5]; decide) (by rw [h5]; decide) (by rw [h5]; rfl) (by decide) ?_
      exact T.forget (E_L_law_416 H) ⟨rfl, rfl, rfl, rfl, trivial⟩
    rw [if_neg h5] at H
    by_cases h6 : ((xs v3.toNatClampNeg) &&& 63) = 6
    · rw [if_pos h6] at H
      refine T_tableIn (pc := 33) (off := 416) (tgt := 449) dL_law_33 (by rw [h6]; decide) (by rw [h6]; decide) (by rw [h6]; rfl) (by decide) ?_
      exact T.forget (E_L_law_449 H) ⟨rfl, rfl, rfl, rfl, trivial⟩
    rw [if_neg h6] at H
    by_cases h7 : ((xs v3.toNatClampNeg) &&& 63) = 7
    · rw [if_pos h7] at H
      refine T_tableIn (pc := 33) (off := 479) (tgt := 512) dL_law_33 (by rw [h7]; decide) (by rw [h7]; decide) (by rw [h7]; rfl) (by decide) ?_
      exact T.forget (E_L_law_512 H) ⟨rfl, rfl, rfl, rfl, trivial⟩
    rw [if_neg h7] at H
    by_cases h8 : ((xs v3.toNatClampNeg) &&& 63) = 8
    · rw [if_pos h8] at H
      refine T_tableIn (pc := 33) (off := 502) (tgt := 535) dL_law_33 (by rw [h8]; decide) (by rw [h8]; decide) (by rw [h8]; rfl) (by decide) ?_
      exact T.forget (E_L_law_535 H) ⟨rfl, rfl, rfl, rfl, trivial⟩
    rw [if_neg h8] at H
    by_cases h9 : ((xs v3.toNatClampNeg) &&& 63) = 9
    · rw [if_pos h9] at H
      refine T_tableIn (pc := 33) (off := 525) (tgt := 558) dL_law_33 (by rw [h9]; decide) (by rw [h9]; decide) (by rw [h9]; rfl) (by decide) ?_
      exact T.forget (E_L_law_558 H) ⟨rfl, rfl, rfl, rfl, trivial⟩
    rw [if_neg h9] at H
    by_cases h10 : ((xs v3.toNatClampNeg) &&& 63) = 10
    · rw [if_pos h10] at H
      refine T_tableIn (pc := 33) (off := 548) (tgt := 581) dL_law_33 (by rw [h10]; decide) (by rw [h10]; decide) (by rw [h10]; rfl) (by decide) ?_
      exact T.forget (E_L_law_581 H) ⟨rfl, rfl, rfl, rfl, trivial⟩
    rw [if_neg h10] at H
    by_cases h11 : ((xs v3.toNatClampNeg) &&& 63) = 11
    · rw [if_pos h11] at H
      refine T_tableIn (pc := 33) (off := 591) (tgt := 624) dL_law_33 (by rw [h11]; decide) (by rw [h11]; decide) (by rw [h11]; rfl) (by decide) ?_
      exact T.forget (E_L_law_624 H) ⟨rfl, rfl, rfl, rfl, trivial⟩
    rw [if_neg h11] at H
    by_cases h12 : ((xs v3.toNatClampNeg) &&& 63) = 12
    · rw [if_pos h12] at H
      refine T_tableIn (pc := 33) (off := 644) (tgt := 677) dL_law_33 (by rw [h12]; decide) (by rw [h12]; decide) (by rw [h12]; rfl) (by decide) ?_
      exact T.forget (E_L_law_677 H) ⟨rfl, rfl, rfl, rfl, trivial⟩
    rw [if_neg h12] at H
    by_cases h13 : ((xs v3.toNatClampNeg) &&& 63) = 13
    · rw [if_pos h13] at H
      refine T_tableIn (pc := 33) (off := 693) (tgt := 726) dL_law_33 (by rw [h13]; decide) (by rw [h13]; decide) (by rw [h13]; rfl) (by decide) ?_
      exact T.forget (E_L_law_726 H) ⟨rfl, rfl, rfl, rfl, trivial⟩
    rw [if_neg h13] at H
    by_cases h14 : ((xs v3.toNatClampNeg) &&& 63) = 14
    · rw [if_pos h14] at H
      refine T_tableIn (pc := 33) (off := 726) (tgt := 759) dL_law_33 (by rw [h14]; decide) (by rw [h14]; decide) (by rw [h14]; rfl) (by decide) ?_
      exact T.forget (E_L_law_759 H) ⟨rfl, rfl, rfl, rfl, trivial⟩
    rw [if_neg h14] at H
    by_cases h15 : ((xs v3.toNatClampNeg) &&& 63) = 15
    · rw [if_pos h15] at H
      refine T_tableIn (pc := 33) (off := 799) (tgt := 832) dL_law_33 (by rw [h15]; decide) (by rw [h15]; decide) (by rw [h15]; rfl) (by decide) ?_
      exact T.forget (E_L_law_832 H) ⟨rfl, rfl, rfl, rfl, trivial⟩
    rw [if_neg h15] at H
    by_cases h16 : ((xs v3.toNatClampNeg) &&& 63) = 16
    · rw [if_pos h16] at H
      refine T_tableIn (pc := 33) (off := 858) (tgt := 891) dL_law_33 (by rw [h16]; decide) (by rw [h16]; decide) (by rw [h16]; rfl) (by decide) ?_
      exact T.forget (E_L_law_891 H) ⟨rfl, rfl, rfl, rfl, trivial⟩
    rw [if_neg h16] at H
    by_cases h17 : ((xs v3.toNatClampNeg) &&& 63) = 17
    · rw [if_pos h17] at H
      refine T_tableIn (pc := 33) (off := 881) (tgt := 914) dL_law_33 (by rw [h17]; decide) (by rw [h17]; decide) (by rw [h17]; rfl) (by decide) ?_
      exact T.forget (E_L_law_914 H) ⟨rfl, rfl, rfl, rfl, trivial⟩
    rw [if_neg h17] at H
    by_cases h18 : ((xs v3.toNatClampNeg) &&& 63) = 18
    · rw [if_pos h18] at H
      refine T_tableIn (pc := 33) (off := 914) (tgt := 947) dL_law_33 (by rw [h18]; decide) (by rw [h18]; decide) (by rw [h18]; rfl) (by decide) ?_
      exact T.forget (E_L_law_947 H) ⟨rfl, rfl, rfl, rfl, trivial⟩
    rw [if_neg h18] at H
    by_cases h19 : ((xs v3.toNatClampNeg) &&& 63) = 19
    · rw [if_pos h19] at H
      refine T_tableIn (pc := 33) (off := 948) (tgt := 981) dL_law_33 (by rw [h19]; decide) (by rw [h19]; decide) (by rw [h19]; rfl) (by decide) ?_
      exact T.forget (E_L_law_981 H) ⟨rfl, rfl, rfl, rfl, trivial⟩
    rw [if_neg h19] at H
    by_cases h20 : ((xs v3.toNatClampNeg) &&& 63) = 20
    · rw [if_pos h20] at H
      refine T_tableIn (pc := 33) (off := 982) (tgt := 1015) dL_law_33 (by rw [h20]; decide) (by rw [h20]; decide) (by rw [h20]; rfl) (by decide) ?_
      exact T.forget (E_L_law_1015 H) ⟨rfl, rfl, rfl, rfl, trivial⟩
    rw [if_neg h20] at H
    by_cases h21 : ((xs v3.toNatClampNeg) &&& 63) = 21
    · rw [if_pos h21] at H
      refine T_tableIn (pc := 33) (off := 1015) (tgt := 1048) dL_law_33 (by rw [h21]; decide) (by rw [h21]; decide) (by rw [h21]; rfl) (by decide) ?_
      exact T.forget (E_L_law_1048 H) ⟨rfl, rfl, rfl, rfl, trivial⟩
    rw [if_neg h21] at H
    by_cases h22 : ((xs v3.toNatClampNeg) &&& 63) = 22
    · rw [if_pos h22] at H
      refine T_tableIn (pc := 33) (off := 1074) (tgt := 1107) dL_law_33 (by rw [h22]; decide) (by rw [h22]; decide) (by rw [h22]; rfl) (by decide) ?_
      exact T.forget (E_L_law_1107 H) ⟨rfl, rfl, rfl, rfl, trivial⟩
    rw [if_neg h22] at H
    by_cases h23 : ((xs v3.toNatClampNeg) &&& 63) = 23
    · rw [if_pos h23] at H
      refine T_tableIn (pc := 33) (off := 1107) (tgt := 1140) dL_law_33 (by rw [h23]; decide) (by rw [h23]; decide) (by rw [h23]; rfl) (by decide) ?_
      exact T.forget (E_L_law_1140 H) ⟨rfl, rfl, rfl, rfl, trivial⟩
    rw [if_neg h23] at H
    by_cases h24 : ((xs v3.toNatClampNeg) &&& 63) = 24
    · rw [if_pos h24] at H
      refine T_tableIn (pc := 33) (off := 1140) (tgt := 1173) dL_law_33 (by rw [h24]; decide) (by rw [h24]; decide) (by rw [h24]; rfl) (by decide) ?_
      exact T.forget (E_L_law_1173 H) ⟨rfl, rfl, rfl, rfl, trivial⟩
    rw [if_neg h24] at H
    by_cases h25 : ((xs v3.toNatClampNeg) &&& 63) = 25
    · rw [if_pos h25] at H
      refine T_tableIn (pc := 33) (off := 1173) (tgt := 1206) dL_law_33 (by rw [h25]; decide) (by rw [h25]; decide) (by rw [h25]; rfl) (by decide) ?_
      exact T.forget (E_L_law_1206 H) ⟨rfl, rfl, rfl, rfl, trivial⟩
    rw [if_neg h25] at H
    by_cases h26 : ((xs v3.toNatClampNeg) &&& 63) = 26
    · rw [if_pos h26] at H
      refine T_tableIn (pc := 33) (off := 1197) (tgt := 1230) dL_law_33 (by rw [h26]; decide) (by rw [h26]; decide) (by rw [h26]; rfl) (by decide) ?_
      exact T.forget (E_L_law_1230 H) ⟨rfl, rfl, rfl, rfl, trivial⟩
    rw [if_neg h26] at H
    by_cases h27 : ((xs v3.toNatClampNeg) &&& 63) = 27
    · rw [if_pos h27] at H
      refine T_tableIn (pc := 33) (off := 1220) (tgt := 1253) dL_law_33 (by rw [h27]; decide) (by rw [h27]; decide) (by rw [h27]; rfl) (by decide) ?_
      exact T.forget (E_L_law_1253 H) ⟨rfl, rfl, rfl, rfl, trivial⟩
    rw [if_neg h27] at H
    by_cases h28 : ((xs v3.toNatClampNeg) &&& 63) = 28
    · rw [if_pos h28] at H
      refine T_tableIn (pc := 33) (off := 1243) (tgt := 1276) dL_law_33 (by rw [h28]; decide) (by rw [h28]; decide) (by rw [h28]; rfl) (by decide) ?_
      exact T.forget (E_L_law_1276 H) ⟨rfl, rfl, rfl, rfl, trivial⟩
    rw [if_neg h28] at H
    by_cases h29 : ((xs v3.toNatClampNeg) &&& 63) = 29
    · rw [if_pos h29] at H
      refine T_tableIn (pc := 33) (off := 1266) (tgt := 1299) dL_law_33 (by rw [h29]; decide) (by rw [h29]; decide) (by rw [h29]; rfl) (by decide) ?_
      exact T.forget (E_L_law_1299 H) ⟨rfl, rfl, rfl, rfl, trivial⟩
    rw [if_neg h29] at H
    by_cases h30 : ((xs v3.toNatClampNeg) &&& 63) = 30
    · rw [if_pos h30] at H
      refine T_tableIn (pc := 33) (off := 1289) (tgt := 1322) dL_law_33 (by rw [h30]; decide) (by rw [h30]; decide) (by rw [h30]; rfl) (by decide) ?_
      exact T.forget (E_L_law_1322 H) ⟨rfl, rfl, rfl, rfl, trivial⟩
    rw [if_neg h30] at H
    by_cases h31 : ((xs v3.toNatClampNeg) &&& 63) = 31
    · rw [if_pos h31] at H
      refine T_tableIn (pc := 33) (off := 1302) (tgt := 1335) dL_law_33 (by rw [h31]; decide) (by rw [h31]; decide) (by rw [h31]; rfl) (by decide) ?_
      exact T.forget (E_L_law_1335 H) ⟨rfl, rfl, rfl, rfl, trivial⟩
    rw [if_neg h31] at H
    by_cases h32 : ((xs v3.toNatClampNeg) &&& 63) = 32
    · rw [if_pos h32] at H
      refine T_tableIn (pc := 33) (off := 1315) (tgt := 1348) dL_law_33 (by rw [h32]; decide) (by rw [h32]; decide) (by rw [h32]; rfl) (by decide) ?_
      exact T.forget (E_L_law_1348 H) ⟨rfl, rfl, rfl, rfl, trivial⟩
    rw [if_neg h32] at H
    have e0 : (((xs v3.toNatClampNeg) &&& 63) : Int32).toInt ≠ 0 := fun q => h0 (Int32.toInt_inj.mp (q.trans (by decide)))
    have e1 : (((xs v3.toNatClampNeg) &&& 63) : Int32).toInt ≠ 1 := fun q => h1 (Int32.toInt_inj.mp (q.trans (by decide)))
    have e2 : (((xs v3.toNatClampNeg) &&& 63) : Int32).toInt ≠ 2 := fun q => h2 (Int32.toInt_inj.mp (q.trans (by decide)))
    have e3 : (((xs v3.toNatClampNeg) &&& 63) : Int32).toInt ≠ 3 := fun q => h3 (Int32.toInt_inj.mp (q.trans (by decide)))
    have e4 : (((xs v3.toNatClampNeg) &&& 63) : Int32).toInt ≠ 4 := fun q => h4 (Int32.toInt_inj.mp (q.trans (by decide)))
    have e5 : (((xs v3.toNatClampNeg) &&& 63) : Int32).toInt ≠ 5 := fun q => h5 (Int32.toInt_inj.mp (q.trans (by decide)))
    have e6 : (((xs v3.toNatClampNeg) &&& 63) : Int32).toInt ≠ 6 := fun q => h6 (Int32.toInt_inj.mp (q.trans (by decide)))
    have e7 : (((xs v3.toNatClampNeg) &&& 63) : Int32).toInt ≠ 7 := fun q => h7 (Int32.toInt_inj.mp (q.trans (by decide)))
    have e8 : (((xs v3.toNatClampNeg) &&& 63) : Int32).toInt ≠ 8 := fun q => h8 (Int32.toInt_inj.mp (q.trans (by decide)))
    have e9 : (((xs v3.toNatClampNeg) &&& 63) : Int32).toInt ≠ 9 := fun q => h9 (Int32.toInt_inj.mp (q.trans (by decide)))
    have e10 : (((xs v3.toNatClampNeg) &&& 63) : Int32).toInt ≠ 10 := fun q => h10 (Int32.toInt_inj.mp (q.trans (by decide)))
    have e11 : (((xs v3.toNatClampNeg) &&& 63) : Int32).toInt ≠ 11 := fun q => h11 (Int32.toInt_inj.mp (q.trans (by decide)))
    have e12 : (((xs v3.toNatClampNeg) &&& 63) : Int32).toInt ≠ 12 := fun q => h12 (Int32.toInt_inj.mp (q.trans (by decide)))
    have e13 : (((xs v3.toNatClampNeg) &&& 63) : Int32).toInt ≠ 13 := fun q => h13 (Int32.toInt_inj.mp (q.trans (by decide)))
    have e14 : (((xs v3.toNatClampNeg) &&& 63) : Int32).toInt ≠ 14 := fun q => h14 (Int32.toInt_inj.mp (q.trans (by decide)))
    have e15 : (((xs v3.toNatClampNeg) &&& 63) : Int32).toInt ≠ 15 := fun q => h15 (Int32.toInt_inj.mp (q.trans (by decide)))
    have e16 : (((xs v3.toNatClampNeg) &&& 63) : Int32).toInt ≠ 16 := fun q => h16 (Int32.toInt_inj.mp (q.trans (by decide)))
    have e17 : (((xs v3.toNatClampNeg) &&& 63) : Int32).toInt ≠ 17 := fun q => h17 (Int32.toInt_inj.mp (q.trans (by decide)))
    have e18 : (((xs v3.toNatClampNeg) &&& 63) : Int32).toInt ≠ 18 := fun q => h18 (Int32.toInt_inj.mp (q.trans (by decide)))
    have e19 : (((xs v3.toNatClampNeg) &&& 63) : Int32).toInt ≠ 19 := fun q => h19 (Int32.toInt_inj.mp (q.trans (by decide)))
    have e20 : (((xs v3.toNatClampNeg) &&& 63) : Int32).toInt ≠ 20 := fun q => h20 (Int32.toInt_inj.mp (q.trans (by decide)))
    have e21 : (((xs v3.toNatClampNeg) &&& 63) : Int32).toInt ≠ 21 := fun q => h21 (Int32.toInt_inj.mp (q.trans (by decide)))
    have e22 : (((xs v3.toNatClampNeg) &&& 63) : Int32).toInt ≠ 22 := fun q => h22 (Int32.toInt_inj.mp (q.trans (by decide)))
    have e23 : (((xs v3.toNatClampNeg) &&& 63) : Int32).toInt ≠ 23 := fun q => h23 (Int32.toInt_inj.mp (q.trans (by decide)))
    have e24 : (((xs v3.toNatClampNeg) &&& 63) : Int32).toInt ≠ 24 := fun q => h24 (Int32.toInt_inj.mp (q.trans (by decide)))
    have e25 : (((xs v3.toNatClampNeg) &&& 63) : Int32).toInt ≠ 25 := fun q => h25 (Int32.toInt_inj.mp (q.trans (by decide)))
    have e26 : (((xs v3.toNatClampNeg) &&& 63) : Int32).toInt ≠ 26 := fun q => h26 (Int32.toInt_inj.mp (q.trans (by decide)))
    have e27 : (((xs v3.toNatClampNeg) &&& 63) : Int32).toInt ≠ 27 := fun q => h27 (Int32.toInt_inj.mp (q.trans (by decide)))
    have e28 : (((xs v3.toNatClampNeg) &&& 63) : Int32).toInt ≠ 28 := fun q => h28 (Int32.toInt_inj.mp (q.trans (by decide)))
    have e29 : (((xs v3.toNatClampNeg) &&& 63) : Int32).toInt ≠ 29 := fun q => h29 (Int32.toInt_inj.mp (q.trans (by decide)))
    have e30 : (((xs v3.toNatClampNeg) &&& 63) : Int32).toInt ≠ 30 := fun q => h30 (Int32.toInt_inj.mp (q.trans (by decide)))
    have e31 : (((xs v3.toNatClampNeg) &&& 63) : Int32).toInt ≠ 31 := fun q => h31 (Int32.toInt_inj.mp (q.trans (by decide)))
    have e32 : (((xs v3.toNatClampNeg) &&& 63) : Int32).toInt ≠ 32 := fun q => h32 (Int32.toInt_inj.mp (q.trans (by decide)))
    refine T_tableOut (pc := 33) (tgt := 1371) dL_law_33 (by omega) (by decide) ?_
    refine T_iinc (pc := 1371) (v := v3 + 6) (ls2 := [some (jR (some scr)), some (jR v1), some (jR v2), some (jI (v3 + 6))]) dL_law_1371 rfl rfl (Nat.le_of_ble_eq_true rfl) rfl ?_
    refine T_goto (pc := 1374) (tgt := 18) dL_law_1374 (by decide) ?_
    exact T.forget H ⟨rfl, rfl, rfl, rfl, trivial⟩
