/-! the law's cases: the class and the reference answer alike, the walk comes to 1404 -/
theorem dL_law_0 : decode cL_law 0 = .ok (.new 8, 3) := by decide +kernel
theorem dL_law_3 : decode cL_law 3 = .ok (.dup, 1) := by decide +kernel
theorem dL_law_4 : decode cL_law 4 = .ok (.invokespecial 15, 3) := by decide +kernel
theorem dL_law_7 : decode cL_law 7 = .ok (.astore_n 1, 1) := by decide +kernel
theorem dL_law_8 : decode cL_law 8 = .ok (.new 16, 3) := by decide +kernel
theorem dL_law_11 : decode cL_law 11 = .ok (.dup, 1) := by decide +kernel
theorem dL_law_12 : decode cL_law 12 = .ok (.invokespecial 18, 3) := by decide +kernel
theorem dL_law_15 : decode cL_law 15 = .ok (.astore_n 2, 1) := by decide +kernel
theorem dL_law_16 : decode cL_law 16 = .ok (.iconst 1, 1) := by decide +kernel
theorem dL_law_17 : decode cL_law 17 = .ok (.newarray .long, 2) := by decide +kernel
theorem dL_law_19 : decode cL_law 19 = .ok (.astore_n 3, 1) := by decide +kernel
theorem dL_law_20 : decode cL_law 20 = .ok (.iconst 0, 1) := by decide +kernel
theorem dL_law_21 : decode cL_law 21 = .ok (.istore 4, 2) := by decide +kernel
theorem dL_law_23 : decode cL_law 23 = .ok (.iload 4, 2) := by decide +kernel
theorem dL_law_25 : decode cL_law 25 = .ok (.aload_n 0, 1) := by decide +kernel
theorem dL_law_26 : decode cL_law 26 = .ok (.arraylength, 1) := by decide +kernel
theorem dL_law_27 : decode cL_law 27 = .ok (.bipush 6, 2) := by decide +kernel
theorem dL_law_29 : decode cL_law 29 = .ok (.isub, 1) := by decide +kernel
theorem dL_law_30 : decode cL_law 30 = .ok (.if_icmp .gt 1380, 3) := by decide +kernel
theorem dL_law_33 : decode cL_law 33 = .ok (.aload_n 0, 1) := by decide +kernel
theorem dL_law_34 : decode cL_law 34 = .ok (.iload 4, 2) := by decide +kernel
theorem dL_law_36 : decode cL_law 36 = .ok (.iaload, 1) := by decide +kernel
theorem dL_law_37 : decode cL_law 37 = .ok (.bipush 31, 2) := by decide +kernel
theorem dL_law_39 : decode cL_law 39 = .ok (.iand, 1) := by decide +kernel
theorem dL_law_40 : decode cL_law 40 = .ok (.tableswitch 1364 0 26 #[124, 193, 262, 299, 336, 392, 418, 443, 481, 518, 579, 652, 701, 750, 799, 860, 909, 970, 1019, 1056, 1081, 1106, 1155, 1216, 1253, 1302, 1339], 124) := by decide +kernel
theorem dL_law_164 : decode cL_law 164 = .ok (.aload_n 1, 1) := by decide +kernel
theorem dL_law_165 : decode cL_law 165 = .ok (.aload_n 0, 1) := by decide +kernel
theorem dL_law_166 : decode cL_law 166 = .ok (.iload 4, 2) := by decide +kernel
theorem dL_law_168 : decode cL_law 168 = .ok (.iconst 1, 1) := by decide +kernel
theorem dL_law_169 : decode cL_law 169 = .ok (.iadd, 1) := by decide +kernel
theorem dL_law_170 : decode cL_law 170 = .ok (.iaload, 1) := by decide +kernel
theorem dL_law_171 : decode cL_law 171 = .ok (.aload_n 0, 1) := by decide +kernel
theorem dL_law_172 : decode cL_law 172 = .ok (.iload 4, 2) := by decide +kernel
theorem dL_law_174 : decode cL_law 174 = .ok (.iconst 2, 1) := by decide +kernel
theorem dL_law_175 : decode cL_law 175 = .ok (.iadd, 1) := by decide +kernel
theorem dL_law_176 : decode cL_law 176 = .ok (.iaload, 1) := by decide +kernel
theorem dL_law_177 : decode cL_law 177 = .ok (.i2l, 1) := by decide +kernel
theorem dL_law_178 : decode cL_law 178 = .ok (.bipush 32, 2) := by decide +kernel
theorem dL_law_180 : decode cL_law 180 = .ok (.lshl, 1) := by decide +kernel
theorem dL_law_181 : decode cL_law 181 = .ok (.aload_n 0, 1) := by decide +kernel
theorem dL_law_182 : decode cL_law 182 = .ok (.iload 4, 2) := by decide +kernel
theorem dL_law_184 : decode cL_law 184 = .ok (.iconst 3, 1) := by decide +kernel
theorem dL_law_185 : decode cL_law 185 = .ok (.iadd, 1) := by decide +kernel
theorem dL_law_186 : decode cL_law 186 = .ok (.iaload, 1) := by decide +kernel
theorem dL_law_187 : decode cL_law 187 = .ok (.i2l, 1) := by decide +kernel
theorem dL_law_188 : decode cL_law 188 = .ok (.ldc2_w 19, 3) := by decide +kernel
theorem dL_law_191 : decode cL_law 191 = .ok (.land, 1) := by decide +kernel
theorem dL_law_192 : decode cL_law 192 = .ok (.lor, 1) := by decide +kernel
theorem dL_law_193 : decode cL_law 193 = .ok (.invokevirtual 21, 3) := by decide +kernel
theorem dL_law_196 : decode cL_law 196 = .ok (.aload_n 2, 1) := by decide +kernel
theorem dL_law_197 : decode cL_law 197 = .ok (.aload_n 0, 1) := by decide +kernel
theorem dL_law_198 : decode cL_law 198 = .ok (.iload 4, 2) := by decide +kernel
theorem dL_law_200 : decode cL_law 200 = .ok (.iconst 1, 1) := by decide +kernel
theorem dL_law_201 : decode cL_law 201 = .ok (.iadd, 1) := by decide +kernel
theorem dL_law_202 : decode cL_law 202 = .ok (.iaload, 1) := by decide +kernel
theorem dL_law_203 : decode cL_law 203 = .ok (.aload_n 0, 1) := by decide +kernel
theorem dL_law_204 : decode cL_law 204 = .ok (.iload 4, 2) := by decide +kernel
theorem dL_law_206 : decode cL_law 206 = .ok (.iconst 2, 1) := by decide +kernel
theorem dL_law_207 : decode cL_law 207 = .ok (.iadd, 1) := by decide +kernel
theorem dL_law_208 : decode cL_law 208 = .ok (.iaload, 1) := by decide +kernel
theorem dL_law_209 : decode cL_law 209 = .ok (.i2l, 1) := by decide +kernel
theorem dL_law_210 : decode cL_law 210 = .ok (.bipush 32, 2) := by decide +kernel
theorem dL_law_212 : decode cL_law 212 = .ok (.lshl, 1) := by decide +kernel
theorem dL_law_213 : decode cL_law 213 = .ok (.aload_n 0, 1) := by decide +kernel
theorem dL_law_214 : decode cL_law 214 = .ok (.iload 4, 2) := by decide +kernel
theorem dL_law_216 : decode cL_law 216 = .ok (.iconst 3, 1) := by decide +kernel
theorem dL_law_217 : decode cL_law 217 = .ok (.iadd, 1) := by decide +kernel
theorem dL_law_218 : decode cL_law 218 = .ok (.iaload, 1) := by decide +kernel
theorem dL_law_219 : decode cL_law 219 = .ok (.i2l, 1) := by decide +kernel
theorem dL_law_220 : decode cL_law 220 = .ok (.ldc2_w 19, 3) := by decide +kernel
theorem dL_law_223 : decode cL_law 223 = .ok (.land, 1) := by decide +kernel
theorem dL_law_224 : decode cL_law 224 = .ok (.lor, 1) := by decide +kernel
theorem dL_law_225 : decode cL_law 225 = .ok (.invokevirtual 25, 3) := by decide +kernel
theorem dL_law_228 : decode cL_law 228 = .ok (.if_icmp .eq 1176, 3) := by decide +kernel
theorem dL_law_231 : decode cL_law 231 = .ok (.iconst 0, 1) := by decide +kernel
theorem dL_law_232 : decode cL_law 232 = .ok (.ireturn, 1) := by decide +kernel
theorem dL_law_233 : decode cL_law 233 = .ok (.aload_n 1, 1) := by decide +kernel
theorem dL_law_234 : decode cL_law 234 = .ok (.aload_n 0, 1) := by decide +kernel
theorem dL_law_235 : decode cL_law 235 = .ok (.iload 4, 2) := by decide +kernel
theorem dL_law_237 : decode cL_law 237 = .ok (.iconst 1, 1) := by decide +kernel
theorem dL_law_238 : decode cL_law 238 = .ok (.iadd, 1) := by decide +kernel
theorem dL_law_239 : decode cL_law 239 = .ok (.iaload, 1) := by decide +kernel
theorem dL_law_240 : decode cL_law 240 = .ok (.i2l, 1) := by decide +kernel
theorem dL_law_241 : decode cL_law 241 = .ok (.bipush 32, 2) := by decide +kernel
theorem dL_law_243 : decode cL_law 243 = .ok (.lshl, 1) := by decide +kernel
theorem dL_law_244 : decode cL_law 244 = .ok (.aload_n 0, 1) := by decide +kernel
theorem dL_law_245 : decode cL_law 245 = .ok (.iload 4, 2) := by decide +kernel
theorem dL_law_247 : decode cL_law 247 = .ok (.iconst 2, 1) := by decide +kernel
theorem dL_law_248 : decode cL_law 248 = .ok (.iadd, 1) := by decide +kernel
theorem dL_law_249 : decode cL_law 249 = .ok (.iaload, 1) := by decide +kernel
theorem dL_law_250 : decode cL_law 250 = .ok (.i2l, 1) := by decide +kernel
theorem dL_law_251 : decode cL_law 251 = .ok (.ldc2_w 19, 3) := by decide +kernel
theorem dL_law_254 : decode cL_law 254 = .ok (.land, 1) := by decide +kernel
theorem dL_law_255 : decode cL_law 255 = .ok (.lor, 1) := by decide +kernel
theorem dL_law_256 : decode cL_law 256 = .ok (.aload_n 0, 1) := by decide +kernel
theorem dL_law_257 : decode cL_law 257 = .ok (.iload 4, 2) := by decide +kernel
theorem dL_law_259 : decode cL_law 259 = .ok (.iconst 3, 1) := by decide +kernel
theorem dL_law_260 : decode cL_law 260 = .ok (.iadd, 1) := by decide +kernel
theorem dL_law_261 : decode cL_law 261 = .ok (.iaload, 1) := by decide +kernel
theorem dL_law_262 : decode cL_law 262 = .ok (.invokevirtual 26, 3) := by decide +kernel
theorem dL_law_265 : decode cL_law 265 = .ok (.aload_n 2, 1) := by decide +kernel
theorem dL_law_266 : decode cL_law 266 = .ok (.aload_n 0, 1) := by decide +kernel
theorem dL_law_267 : decode cL_law 267 = .ok (.iload 4, 2) := by decide +kernel
theorem dL_law_269 : decode cL_law 269 = .ok (.iconst 1, 1) := by decide +kernel
theorem dL_law_270 : decode cL_law 270 = .ok (.iadd, 1) := by decide +kernel
theorem dL_law_271 : decode cL_law 271 = .ok (.iaload, 1) := by decide +kernel
theorem dL_law_272 : decode cL_law 272 = .ok (.i2l, 1) := by decide +kernel
theorem dL_law_273 : decode cL_law 273 = .ok (.bipush 32, 2) := by decide +kernel
theorem dL_law_275 : decode cL_law 275 = .ok (.lshl, 1) := by decide +kernel
theorem dL_law_276 : decode cL_law 276 = .ok (.aload_n 0, 1) := by decide +kernel
theorem dL_law_277 : decode cL_law 277 = .ok (.iload 4, 2) := by decide +kernel
theorem dL_law_279 : decode cL_law 279 = .ok (.iconst 2, 1) := by decide +kernel
theorem dL_law_280 : decode cL_law 280 = .ok (.iadd, 1) := by decide +kernel
theorem dL_law_281 : decode cL_law 281 = .ok (.iaload, 1) := by decide +kernel
theorem dL_law_282 : decode cL_law 282 = .ok (.i2l, 1) := by decide +kernel
theorem dL_law_283 : decode cL_law 283 = .ok (.ldc2_w 19, 3) := by decide +kernel
theorem dL_law_286 : decode cL_law 286 = .ok (.land, 1) := by decide +kernel
theorem dL_law_287 : decode cL_law 287 = .ok (.lor, 1) := by decide +kernel
theorem dL_law_288 : decode cL_law 288 = .ok (.aload_n 0, 1) := by decide +kernel
theorem dL_law_289 : decode cL_law 289 = .ok (.iload 4, 2) := by decide +kernel
theorem dL_law_291 : decode cL_law 291 = .ok (.iconst 3, 1) := by decide +kernel
theorem dL_law_292 : decode cL_law 292 = .ok (.iadd, 1) := by decide +kernel
theorem dL_law_293 : decode cL_law 293 = .ok (.iaload, 1) := by decide +kernel
theorem dL_law_294 : decode cL_law 294 = .ok (.invokevirtual 30, 3) := by decide +kernel
theorem dL_law_297 : decode cL_law 297 = .ok (.if_icmp .eq 1107, 3) := by decide +kernel
theorem dL_law_300 : decode cL_law 300 = .ok (.iconst 0, 1) := by decide +kernel
theorem dL_law_301 : decode cL_law 301 = .ok (.ireturn, 1) := by decide +kernel
theorem dL_law_302 : decode cL_law 302 = .ok (.aload_n 1, 1) := by decide +kernel
theorem dL_law_303 : decode cL_law 303 = .ok (.aload_n 0, 1) := by decide +kernel
theorem dL_law_304 : decode cL_law 304 = .ok (.iload 4, 2) := by decide +kernel
theorem dL_law_306 : decode cL_law 306 = .ok (.iconst 1, 1) := by decide +kernel
theorem dL_law_307 : decode cL_law 307 = .ok (.iadd, 1) := by decide +kernel
theorem dL_law_308 : decode cL_law 308 = .ok (.iaload, 1) := by decide +kernel
theorem dL_law_309 : decode cL_law 309 = .ok (.aload_n 0, 1) := by decide +kernel
theorem dL_law_310 : decode cL_law 310 = .ok (.iload 4, 2) := by decide +kernel
theorem dL_law_312 : decode cL_law 312 = .ok (.iconst 2, 1) := by decide +kernel
theorem dL_law_313 : decode cL_law 313 = .ok (.iadd, 1) := by decide +kernel
theorem dL_law_314 : decode cL_law 314 = .ok (.iaload, 1) := by decide +kernel
theorem dL_law_315 : decode cL_law 315 = .ok (.invokevirtual 31, 3) := by decide +kernel
theorem dL_law_318 : decode cL_law 318 = .ok (.aload_n 2, 1) := by decide +kernel
theorem dL_law_319 : decode cL_law 319 = .ok (.aload_n 0, 1) := by decide +kernel
theorem dL_law_320 : decode cL_law 320 = .ok (.iload 4, 2) := by decide +kernel
theorem dL_law_322 : decode cL_law 322 = .ok (.iconst 1, 1) := by decide +kernel
theorem dL_law_323 : decode cL_law 323 = .ok (.iadd, 1) := by decide +kernel
theorem dL_law_324 : decode cL_law 324 = .ok (.iaload, 1) := by decide +kernel
theorem dL_law_325 : decode cL_law 325 = .ok (.aload_n 0, 1) := by decide +kernel
theorem dL_law_326 : decode cL_law 326 = .ok (.iload 4, 2) := by decide +kernel
theorem dL_law_328 : decode cL_law 328 = .ok (.iconst 2, 1) := by decide +kernel
theorem dL_law_329 : decode cL_law 329 = .ok (.iadd, 1) := by decide +kernel
theorem dL_law_330 : decode cL_law 330 = .ok (.iaload, 1) := by decide +kernel
theorem dL_law_331 : decode cL_law 331 = .ok (.invokevirtual 35, 3) := by decide +kernel
theorem dL_law_334 : decode cL_law 334 = .ok (.if_icmp .eq 1070, 3) := by decide +kernel
theorem dL_law_337 : decode cL_law 337 = .ok (.iconst 0, 1) := by decide +kernel
theorem dL_law_338 : decode cL_law 338 = .ok (.ireturn, 1) := by decide +kernel
theorem dL_law_339 : decode cL_law 339 = .ok (.aload_n 1, 1) := by decide +kernel
theorem dL_law_340 : decode cL_law 340 = .ok (.aload_n 0, 1) := by decide +kernel
theorem dL_law_341 : decode cL_law 341 = .ok (.iload 4, 2) := by decide +kernel
theorem dL_law_343 : decode cL_law 343 = .ok (.iconst 1, 1) := by decide +kernel
theorem dL_law_344 : decode cL_law 344 = .ok (.iadd, 1) := by decide +kernel
theorem dL_law_345 : decode cL_law 345 = .ok (.iaload, 1) := by decide +kernel
theorem dL_law_346 : decode cL_law 346 = .ok (.aload_n 0, 1) := by decide +kernel
theorem dL_law_347 : decode cL_law 347 = .ok (.iload 4, 2) := by decide +kernel
theorem dL_law_349 : decode cL_law 349 = .ok (.iconst 2, 1) := by decide +kernel
theorem dL_law_350 : decode cL_law 350 = .ok (.iadd, 1) := by decide +kernel
theorem dL_law_351 : decode cL_law 351 = .ok (.iaload, 1) := by decide +kernel
theorem dL_law_352 : decode cL_law 352 = .ok (.invokevirtual 36, 3) := by decide +kernel
theorem dL_law_355 : decode cL_law 355 = .ok (.aload_n 2, 1) := by decide +kernel
theorem dL_law_356 : decode cL_law 356 = .ok (.aload_n 0, 1) := by decide +kernel
theorem dL_law_357 : decode cL_law 357 = .ok (.iload 4, 2) := by decide +kernel
theorem dL_law_359 : decode cL_law 359 = .ok (.iconst 1, 1) := by decide +kernel
theorem dL_law_360 : decode cL_law 360 = .ok (.iadd, 1) := by decide +kernel
theorem dL_law_361 : decode cL_law 361 = .ok (.iaload, 1) := by decide +kernel
theorem dL_law_362 : decode cL_law 362 = .ok (.aload_n 0, 1) := by decide +kernel
theorem dL_law_363 : decode cL_law 363 = .ok (.iload 4, 2) := by decide +kernel
theorem dL_law_365 : decode cL_law 365 = .ok (.iconst 2, 1) := by decide +kernel
theorem dL_law_366 : decode cL_law 366 = .ok (.iadd, 1) := by decide +kernel
theorem dL_law_367 : decode cL_law 367 = .ok (.iaload, 1) := by decide +kernel
theorem dL_law_368 : decode cL_law 368 = .ok (.invokevirtual 39, 3) := by decide +kernel
theorem dL_law_371 : decode cL_law 371 = .ok (.if_icmp .eq 1033, 3) := by decide +kernel
theorem dL_law_374 : decode cL_law 374 = .ok (.iconst 0, 1) := by decide +kernel
theorem dL_law_375 : decode cL_law 375 = .ok (.ireturn, 1) := by decide +kernel
theorem dL_law_376 : decode cL_law 376 = .ok (.aload_n 1, 1) := by decide +kernel
theorem dL_law_377 : decode cL_law 377 = .ok (.aload_n 0, 1) := by decide +kernel
theorem dL_law_378 : decode cL_law 378 = .ok (.iload 4, 2) := by decide +kernel
theorem dL_law_380 : decode cL_law 380 = .ok (.iconst 1, 1) := by decide +kernel
theorem dL_law_381 : decode cL_law 381 = .ok (.iadd, 1) := by decide +kernel
theorem dL_law_382 : decode cL_law 382 = .ok (.iaload, 1) := by decide +kernel
theorem dL_law_383 : decode cL_law 383 = .ok (.aload_n 3, 1) := by decide +kernel
theorem dL_law_384 : decode cL_law 384 = .ok (.invokestatic 40, 3) := by decide +kernel
theorem dL_law_387 : decode cL_law 387 = .ok (.istore 5, 2) := by decide +kernel
theorem dL_law_389 : decode cL_law 389 = .ok (.aload_n 2, 1) := by decide +kernel
theorem dL_law_390 : decode cL_law 390 = .ok (.aload_n 0, 1) := by decide +kernel
theorem dL_law_391 : decode cL_law 391 = .ok (.iload 4, 2) := by decide +kernel
theorem dL_law_393 : decode cL_law 393 = .ok (.iconst 1, 1) := by decide +kernel
theorem dL_law_394 : decode cL_law 394 = .ok (.iadd, 1) := by decide +kernel
theorem dL_law_395 : decode cL_law 395 = .ok (.iaload, 1) := by decide +kernel
theorem dL_law_396 : decode cL_law 396 = .ok (.invokevirtual 45, 3) := by decide +kernel
theorem dL_law_399 : decode cL_law 399 = .ok (.istore 6, 2) := by decide +kernel
theorem dL_law_401 : decode cL_law 401 = .ok (.aload_n 2, 1) := by decide +kernel
theorem dL_law_402 : decode cL_law 402 = .ok (.invokevirtual 46, 3) := by decide +kernel
theorem dL_law_405 : decode cL_law 405 = .ok (.iload 5, 2) := by decide +kernel
theorem dL_law_407 : decode cL_law 407 = .ok (.if_icmp .eq 5, 3) := by decide +kernel
theorem dL_law_410 : decode cL_law 410 = .ok (.iconst 0, 1) := by decide +kernel
theorem dL_law_411 : decode cL_law 411 = .ok (.ireturn, 1) := by decide +kernel
theorem dL_law_412 : decode cL_law 412 = .ok (.iload 5, 2) := by decide +kernel
theorem dL_law_414 : decode cL_law 414 = .ok (.ifCond .ne 15, 3) := by decide +kernel
theorem dL_law_417 : decode cL_law 417 = .ok (.aload_n 3, 1) := by decide +kernel
theorem dL_law_418 : decode cL_law 418 = .ok (.iconst 0, 1) := by decide +kernel
theorem dL_law_419 : decode cL_law 419 = .ok (.laload, 1) := by decide +kernel
theorem dL_law_420 : decode cL_law 420 = .ok (.iload 6, 2) := by decide +kernel
theorem dL_law_422 : decode cL_law 422 = .ok (.i2l, 1) := by decide +kernel
theorem dL_law_423 : decode cL_law 423 = .ok (.lcmp, 1) := by decide +kernel
theorem dL_law_424 : decode cL_law 424 = .ok (.ifCond .eq 5, 3) := by decide +kernel
theorem dL_law_427 : decode cL_law 427 = .ok (.iconst 0, 1) := by decide +kernel
theorem dL_law_428 : decode cL_law 428 = .ok (.ireturn, 1) := by decide +kernel
theorem dL_law_429 : decode cL_law 429 = .ok (.goto 975, 3) := by decide +kernel
theorem dL_law_432 : decode cL_law 432 = .ok (.aload_n 1, 1) := by decide +kernel
theorem dL_law_433 : decode cL_law 433 = .ok (.aload_n 0, 1) := by decide +kernel
theorem dL_law_434 : decode cL_law 434 = .ok (.iload 4, 2) := by decide +kernel
theorem dL_law_436 : decode cL_law 436 = .ok (.iconst 1, 1) := by decide +kernel
theorem dL_law_437 : decode cL_law 437 = .ok (.iadd, 1) := by decide +kernel
theorem dL_law_438 : decode cL_law 438 = .ok (.iaload, 1) := by decide +kernel
theorem dL_law_439 : decode cL_law 439 = .ok (.invokevirtual 50, 3) := by decide +kernel
theorem dL_law_442 : decode cL_law 442 = .ok (.aload_n 2, 1) := by decide +kernel
theorem dL_law_443 : decode cL_law 443 = .ok (.aload_n 0, 1) := by decide +kernel
theorem dL_law_444 : decode cL_law 444 = .ok (.iload 4, 2) := by decide +kernel
theorem dL_law_446 : decode cL_law 446 = .ok (.iconst 1, 1) := by decide +kernel
theorem dL_law_447 : decode cL_law 447 = .ok (.iadd, 1) := by decide +kernel
theorem dL_law_448 : decode cL_law 448 = .ok (.iaload, 1) := by decide +kernel
theorem dL_law_449 : decode cL_law 449 = .ok (.invokevirtual 54, 3) := by decide +kernel
theorem dL_law_452 : decode cL_law 452 = .ok (.lcmp, 1) := by decide +kernel
theorem dL_law_453 : decode cL_law 453 = .ok (.ifCond .eq 951, 3) := by decide +kernel
theorem dL_law_456 : decode cL_law 456 = .ok (.iconst 0, 1) := by decide +kernel
theorem dL_law_457 : decode cL_law 457 = .ok (.ireturn, 1) := by decide +kernel
theorem dL_law_458 : decode cL_law 458 = .ok (.aload_n 1, 1) := by decide +kernel
theorem dL_law_459 : decode cL_law 459 = .ok (.aload_n 0, 1) := by decide +kernel
theorem dL_law_460 : decode cL_law 460 = .ok (.iload 4, 2) := by decide +kernel
theorem dL_law_462 : decode cL_law 462 = .ok (.iconst 1, 1) := by decide +kernel
theorem dL_law_463 : decode cL_law 463 = .ok (.iadd, 1) := by decide +kernel
theorem dL_law_464 : decode cL_law 464 = .ok (.iaload, 1) := by decide +kernel
theorem dL_law_465 : decode cL_law 465 = .ok (.invokevirtual 55, 3) := by decide +kernel
theorem dL_law_468 : decode cL_law 468 = .ok (.aload_n 2, 1) := by decide +kernel
theorem dL_law_469 : decode cL_law 469 = .ok (.aload_n 0, 1) := by decide +kernel
theorem dL_law_470 : decode cL_law 470 = .ok (.iload 4, 2) := by decide +kernel
theorem dL_law_472 : decode cL_law 472 = .ok (.iconst 1, 1) := by decide +kernel
theorem dL_law_473 : decode cL_law 473 = .ok (.iadd, 1) := by decide +kernel
theorem dL_law_474 : decode cL_law 474 = .ok (.iaload, 1) := by decide +kernel
theorem dL_law_475 : decode cL_law 475 = .ok (.invokevirtual 58, 3) := by decide +kernel
theorem dL_law_478 : decode cL_law 478 = .ok (.if_icmp .eq 926, 3) := by decide +kernel
theorem dL_law_481 : decode cL_law 481 = .ok (.iconst 0, 1) := by decide +kernel
theorem dL_law_482 : decode cL_law 482 = .ok (.ireturn, 1) := by decide +kernel
theorem dL_law_483 : decode cL_law 483 = .ok (.aload_n 1, 1) := by decide +kernel
theorem dL_law_484 : decode cL_law 484 = .ok (.aload_n 0, 1) := by decide +kernel
theorem dL_law_485 : decode cL_law 485 = .ok (.iload 4, 2) := by decide +kernel
theorem dL_law_487 : decode cL_law 487 = .ok (.iconst 1, 1) := by decide +kernel
theorem dL_law_488 : decode cL_law 488 = .ok (.iadd, 1) := by decide +kernel
theorem dL_law_489 : decode cL_law 489 = .ok (.iaload, 1) := by decide +kernel
theorem dL_law_490 : decode cL_law 490 = .ok (.aload_n 0, 1) := by decide +kernel
theorem dL_law_491 : decode cL_law 491 = .ok (.iload 4, 2) := by decide +kernel
theorem dL_law_493 : decode cL_law 493 = .ok (.iconst 2, 1) := by decide +kernel
theorem dL_law_494 : decode cL_law 494 = .ok (.iadd, 1) := by decide +kernel
theorem dL_law_495 : decode cL_law 495 = .ok (.iaload, 1) := by decide +kernel
theorem dL_law_496 : decode cL_law 496 = .ok (.invokevirtual 59, 3) := by decide +kernel
theorem dL_law_499 : decode cL_law 499 = .ok (.aload_n 2, 1) := by decide +kernel
theorem dL_law_500 : decode cL_law 500 = .ok (.aload_n 0, 1) := by decide +kernel
theorem dL_law_501 : decode cL_law 501 = .ok (.iload 4, 2) := by decide +kernel
theorem dL_law_503 : decode cL_law 503 = .ok (.iconst 1, 1) := by decide +kernel
theorem dL_law_504 : decode cL_law 504 = .ok (.iadd, 1) := by decide +kernel
theorem dL_law_505 : decode cL_law 505 = .ok (.iaload, 1) := by decide +kernel
theorem dL_law_506 : decode cL_law 506 = .ok (.aload_n 0, 1) := by decide +kernel
theorem dL_law_507 : decode cL_law 507 = .ok (.iload 4, 2) := by decide +kernel
theorem dL_law_509 : decode cL_law 509 = .ok (.iconst 2, 1) := by decide +kernel
theorem dL_law_510 : decode cL_law 510 = .ok (.iadd, 1) := by decide +kernel
theorem dL_law_511 : decode cL_law 511 = .ok (.iaload, 1) := by decide +kernel
theorem dL_law_512 : decode cL_law 512 = .ok (.invokevirtual 63, 3) := by decide +kernel
theorem dL_law_515 : decode cL_law 515 = .ok (.lcmp, 1) := by decide +kernel
theorem dL_law_516 : decode cL_law 516 = .ok (.ifCond .eq 888, 3) := by decide +kernel
theorem dL_law_519 : decode cL_law 519 = .ok (.iconst 0, 1) := by decide +kernel
theorem dL_law_520 : decode cL_law 520 = .ok (.ireturn, 1) := by decide +kernel
theorem dL_law_521 : decode cL_law 521 = .ok (.aload_n 1, 1) := by decide +kernel
theorem dL_law_522 : decode cL_law 522 = .ok (.aload_n 0, 1) := by decide +kernel
theorem dL_law_523 : decode cL_law 523 = .ok (.iload 4, 2) := by decide +kernel
theorem dL_law_525 : decode cL_law 525 = .ok (.iconst 1, 1) := by decide +kernel
theorem dL_law_526 : decode cL_law 526 = .ok (.iadd, 1) := by decide +kernel
theorem dL_law_527 : decode cL_law 527 = .ok (.iaload, 1) := by decide +kernel
theorem dL_law_528 : decode cL_law 528 = .ok (.aload_n 0, 1) := by decide +kernel
theorem dL_law_529 : decode cL_law 529 = .ok (.iload 4, 2) := by decide +kernel
theorem dL_law_531 : decode cL_law 531 = .ok (.iconst 2, 1) := by decide +kernel
theorem dL_law_532 : decode cL_law 532 = .ok (.iadd, 1) := by decide +kernel
theorem dL_law_533 : decode cL_law 533 = .ok (.iaload, 1) := by decide +kernel
theorem dL_law_534 : decode cL_law 534 = .ok (.invokevirtual 64, 3) := by decide +kernel
theorem dL_law_537 : decode cL_law 537 = .ok (.aload_n 2, 1) := by decide +kernel
theorem dL_law_538 : decode cL_law 538 = .ok (.aload_n 0, 1) := by decide +kernel
theorem dL_law_539 : decode cL_law 539 = .ok (.iload 4, 2) := by decide +kernel
theorem dL_law_541 : decode cL_law 541 = .ok (.iconst 1, 1) := by decide +kernel
theorem dL_law_542 : decode cL_law 542 = .ok (.iadd, 1) := by decide +kernel
theorem dL_law_543 : decode cL_law 543 = .ok (.iaload, 1) := by decide +kernel
theorem dL_law_544 : decode cL_law 544 = .ok (.aload_n 0, 1) := by decide +kernel
theorem dL_law_545 : decode cL_law 545 = .ok (.iload 4, 2) := by decide +kernel
theorem dL_law_547 : decode cL_law 547 = .ok (.iconst 2, 1) := by decide +kernel
theorem dL_law_548 : decode cL_law 548 = .ok (.iadd, 1) := by decide +kernel
theorem dL_law_549 : decode cL_law 549 = .ok (.iaload, 1) := by decide +kernel
theorem dL_law_550 : decode cL_law 550 = .ok (.invokevirtual 67, 3) := by decide +kernel
theorem dL_law_553 : decode cL_law 553 = .ok (.if_icmp .eq 851, 3) := by decide +kernel
theorem dL_law_556 : decode cL_law 556 = .ok (.iconst 0, 1) := by decide +kernel
theorem dL_law_557 : decode cL_law 557 = .ok (.ireturn, 1) := by decide +kernel
theorem dL_law_558 : decode cL_law 558 = .ok (.aload_n 1, 1) := by decide +kernel
theorem dL_law_559 : decode cL_law 559 = .ok (.aload_n 0, 1) := by decide +kernel
theorem dL_law_560 : decode cL_law 560 = .ok (.iload 4, 2) := by decide +kernel
theorem dL_law_562 : decode cL_law 562 = .ok (.iconst 1, 1) := by decide +kernel
theorem dL_law_563 : decode cL_law 563 = .ok (.iadd, 1) := by decide +kernel
theorem dL_law_564 : decode cL_law 564 = .ok (.iaload, 1) := by decide +kernel
theorem dL_law_565 : decode cL_law 565 = .ok (.aload_n 0, 1) := by decide +kernel
theorem dL_law_566 : decode cL_law 566 = .ok (.iload 4, 2) := by decide +kernel
theorem dL_law_568 : decode cL_law 568 = .ok (.iconst 2, 1) := by decide +kernel
theorem dL_law_569 : decode cL_law 569 = .ok (.iadd, 1) := by decide +kernel
theorem dL_law_570 : decode cL_law 570 = .ok (.iaload, 1) := by decide +kernel
theorem dL_law_571 : decode cL_law 571 = .ok (.aload_n 0, 1) := by decide +kernel
theorem dL_law_572 : decode cL_law 572 = .ok (.iload 4, 2) := by decide +kernel
theorem dL_law_574 : decode cL_law 574 = .ok (.iconst 3, 1) := by decide +kernel
theorem dL_law_575 : decode cL_law 575 = .ok (.iadd, 1) := by decide +kernel
theorem dL_law_576 : decode cL_law 576 = .ok (.iaload, 1) := by decide +kernel
theorem dL_law_577 : decode cL_law 577 = .ok (.aload_n 0, 1) := by decide +kernel
theorem dL_law_578 : decode cL_law 578 = .ok (.iload 4, 2) := by decide +kernel
theorem dL_law_580 : decode cL_law 580 = .ok (.iconst 4, 1) := by decide +kernel
theorem dL_law_581 : decode cL_law 581 = .ok (.iadd, 1) := by decide +kernel
theorem dL_law_582 : decode cL_law 582 = .ok (.iaload, 1) := by decide +kernel
theorem dL_law_583 : decode cL_law 583 = .ok (.invokevirtual 68, 3) := by decide +kernel
theorem dL_law_586 : decode cL_law 586 = .ok (.aload_n 2, 1) := by decide +kernel
theorem dL_law_587 : decode cL_law 587 = .ok (.aload_n 0, 1) := by decide +kernel
theorem dL_law_588 : decode cL_law 588 = .ok (.iload 4, 2) := by decide +kernel
theorem dL_law_590 : decode cL_law 590 = .ok (.iconst 1, 1) := by decide +kernel
theorem dL_law_591 : decode cL_law 591 = .ok (.iadd, 1) := by decide +kernel
theorem dL_law_592 : decode cL_law 592 = .ok (.iaload, 1) := by decide +kernel
theorem dL_law_593 : decode cL_law 593 = .ok (.aload_n 0, 1) := by decide +kernel
theorem dL_law_594 : decode cL_law 594 = .ok (.iload 4, 2) := by decide +kernel
theorem dL_law_596 : decode cL_law 596 = .ok (.iconst 2, 1) := by decide +kernel
theorem dL_law_597 : decode cL_law 597 = .ok (.iadd, 1) := by decide +kernel
theorem dL_law_598 : decode cL_law 598 = .ok (.iaload, 1) := by decide +kernel
theorem dL_law_599 : decode cL_law 599 = .ok (.aload_n 0, 1) := by decide +kernel
theorem dL_law_600 : decode cL_law 600 = .ok (.iload 4, 2) := by decide +kernel
theorem dL_law_602 : decode cL_law 602 = .ok (.iconst 3, 1) := by decide +kernel
theorem dL_law_603 : decode cL_law 603 = .ok (.iadd, 1) := by decide +kernel
theorem dL_law_604 : decode cL_law 604 = .ok (.iaload, 1) := by decide +kernel
theorem dL_law_605 : decode cL_law 605 = .ok (.aload_n 0, 1) := by decide +kernel
theorem dL_law_606 : decode cL_law 606 = .ok (.iload 4, 2) := by decide +kernel
theorem dL_law_608 : decode cL_law 608 = .ok (.iconst 4, 1) := by decide +kernel
theorem dL_law_609 : decode cL_law 609 = .ok (.iadd, 1) := by decide +kernel
theorem dL_law_610 : decode cL_law 610 = .ok (.iaload, 1) := by decide +kernel
theorem dL_law_611 : decode cL_law 611 = .ok (.invokevirtual 72, 3) := by decide +kernel
theorem dL_law_614 : decode cL_law 614 = .ok (.if_icmp .eq 790, 3) := by decide +kernel
theorem dL_law_617 : decode cL_law 617 = .ok (.iconst 0, 1) := by decide +kernel
theorem dL_law_618 : decode cL_law 618 = .ok (.ireturn, 1) := by decide +kernel
theorem dL_law_619 : decode cL_law 619 = .ok (.aload_n 1, 1) := by decide +kernel
theorem dL_law_620 : decode cL_law 620 = .ok (.aload_n 0, 1) := by decide +kernel
theorem dL_law_621 : decode cL_law 621 = .ok (.iload 4, 2) := by decide +kernel
theorem dL_law_623 : decode cL_law 623 = .ok (.iconst 1, 1) := by decide +kernel
theorem dL_law_624 : decode cL_law 624 = .ok (.iadd, 1) := by decide +kernel
theorem dL_law_625 : decode cL_law 625 = .ok (.iaload, 1) := by decide +kernel
theorem dL_law_626 : decode cL_law 626 = .ok (.aload_n 0, 1) := by decide +kernel
theorem dL_law_627 : decode cL_law 627 = .ok (.iload 4, 2) := by decide +kernel
theorem dL_law_629 : decode cL_law 629 = .ok (.iconst 2, 1) := by decide +kernel
theorem dL_law_630 : decode cL_law 630 = .ok (.iadd, 1) := by decide +kernel
theorem dL_law_631 : decode cL_law 631 = .ok (.iaload, 1) := by decide +kernel
theorem dL_law_632 : decode cL_law 632 = .ok (.aload_n 0, 1) := by decide +kernel
theorem dL_law_633 : decode cL_law 633 = .ok (.iload 4, 2) := by decide +kernel
theorem dL_law_635 : decode cL_law 635 = .ok (.iconst 3, 1) := by decide +kernel
theorem dL_law_636 : decode cL_law 636 = .ok (.iadd, 1) := by decide +kernel
theorem dL_law_637 : decode cL_law 637 = .ok (.iaload, 1) := by decide +kernel
theorem dL_law_638 : decode cL_law 638 = .ok (.aload_n 0, 1) := by decide +kernel
theorem dL_law_639 : decode cL_law 639 = .ok (.iload 4, 2) := by decide +kernel
theorem dL_law_641 : decode cL_law 641 = .ok (.iconst 4, 1) := by decide +kernel
theorem dL_law_642 : decode cL_law 642 = .ok (.iadd, 1) := by decide +kernel
theorem dL_law_643 : decode cL_law 643 = .ok (.iaload, 1) := by decide +kernel
theorem dL_law_644 : decode cL_law 644 = .ok (.aload_n 0, 1) := by decide +kernel
theorem dL_law_645 : decode cL_law 645 = .ok (.iload 4, 2) := by decide +kernel
theorem dL_law_647 : decode cL_law 647 = .ok (.iconst 5, 1) := by decide +kernel
theorem dL_law_648 : decode cL_law 648 = .ok (.iadd, 1) := by decide +kernel
theorem dL_law_649 : decode cL_law 649 = .ok (.iaload, 1) := by decide +kernel
theorem dL_law_650 : decode cL_law 650 = .ok (.invokevirtual 73, 3) := by decide +kernel
theorem dL_law_653 : decode cL_law 653 = .ok (.aload_n 2, 1) := by decide +kernel
theorem dL_law_654 : decode cL_law 654 = .ok (.aload_n 0, 1) := by decide +kernel
theorem dL_law_655 : decode cL_law 655 = .ok (.iload 4, 2) := by decide +kernel
theorem dL_law_657 : decode cL_law 657 = .ok (.iconst 1, 1) := by decide +kernel
theorem dL_law_658 : decode cL_law 658 = .ok (.iadd, 1) := by decide +kernel
theorem dL_law_659 : decode cL_law 659 = .ok (.iaload, 1) := by decide +kernel
theorem dL_law_660 : decode cL_law 660 = .ok (.aload_n 0, 1) := by decide +kernel
theorem dL_law_661 : decode cL_law 661 = .ok (.iload 4, 2) := by decide +kernel
theorem dL_law_663 : decode cL_law 663 = .ok (.iconst 2, 1) := by decide +kernel
theorem dL_law_664 : decode cL_law 664 = .ok (.iadd, 1) := by decide +kernel
theorem dL_law_665 : decode cL_law 665 = .ok (.iaload, 1) := by decide +kernel
theorem dL_law_666 : decode cL_law 666 = .ok (.aload_n 0, 1) := by decide +kernel
theorem dL_law_667 : decode cL_law 667 = .ok (.iload 4, 2) := by decide +kernel
theorem dL_law_669 : decode cL_law 669 = .ok (.iconst 3, 1) := by decide +kernel
theorem dL_law_670 : decode cL_law 670 = .ok (.iadd, 1) := by decide +kernel
theorem dL_law_671 : decode cL_law 671 = .ok (.iaload, 1) := by decide +kernel
theorem dL_law_672 : decode cL_law 672 = .ok (.aload_n 0, 1) := by decide +kernel
theorem dL_law_673 : decode cL_law 673 = .ok (.iload 4, 2) := by decide +kernel
theorem dL_law_675 : decode cL_law 675 = .ok (.iconst 4, 1) := by decide +kernel
theorem dL_law_676 : decode cL_law 676 = .ok (.iadd, 1) := by decide +kernel
theorem dL_law_677 : decode cL_law 677 = .ok (.iaload, 1) := by decide +kernel
theorem dL_law_678 : decode cL_law 678 = .ok (.aload_n 0, 1) := by decide +kernel
theorem dL_law_679 : decode cL_law 679 = .ok (.iload 4, 2) := by decide +kernel
theorem dL_law_681 : decode cL_law 681 = .ok (.iconst 5, 1) := by decide +kernel
theorem dL_law_682 : decode cL_law 682 = .ok (.iadd, 1) := by decide +kernel
theorem dL_law_683 : decode cL_law 683 = .ok (.iaload, 1) := by decide +kernel
theorem dL_law_684 : decode cL_law 684 = .ok (.invokevirtual 77, 3) := by decide +kernel
theorem dL_law_687 : decode cL_law 687 = .ok (.if_icmp .eq 717, 3) := by decide +kernel
theorem dL_law_690 : decode cL_law 690 = .ok (.iconst 0, 1) := by decide +kernel
theorem dL_law_691 : decode cL_law 691 = .ok (.ireturn, 1) := by decide +kernel
theorem dL_law_692 : decode cL_law 692 = .ok (.aload_n 1, 1) := by decide +kernel
theorem dL_law_693 : decode cL_law 693 = .ok (.aload_n 0, 1) := by decide +kernel
theorem dL_law_694 : decode cL_law 694 = .ok (.iload 4, 2) := by decide +kernel
theorem dL_law_696 : decode cL_law 696 = .ok (.iconst 1, 1) := by decide +kernel
theorem dL_law_697 : decode cL_law 697 = .ok (.iadd, 1) := by decide +kernel
theorem dL_law_698 : decode cL_law 698 = .ok (.iaload, 1) := by decide +kernel
theorem dL_law_699 : decode cL_law 699 = .ok (.aload_n 0, 1) := by decide +kernel
theorem dL_law_700 : decode cL_law 700 = .ok (.iload 4, 2) := by decide +kernel
theorem dL_law_702 : decode cL_law 702 = .ok (.iconst 2, 1) := by decide +kernel
theorem dL_law_703 : decode cL_law 703 = .ok (.iadd, 1) := by decide +kernel
theorem dL_law_704 : decode cL_law 704 = .ok (.iaload, 1) := by decide +kernel
theorem dL_law_705 : decode cL_law 705 = .ok (.aload_n 0, 1) := by decide +kernel
theorem dL_law_706 : decode cL_law 706 = .ok (.iload 4, 2) := by decide +kernel
theorem dL_law_708 : decode cL_law 708 = .ok (.iconst 3, 1) := by decide +kernel
theorem dL_law_709 : decode cL_law 709 = .ok (.iadd, 1) := by decide +kernel
theorem dL_law_710 : decode cL_law 710 = .ok (.iaload, 1) := by decide +kernel
theorem dL_law_711 : decode cL_law 711 = .ok (.invokevirtual 78, 3) := by decide +kernel
theorem dL_law_714 : decode cL_law 714 = .ok (.aload_n 2, 1) := by decide +kernel
theorem dL_law_715 : decode cL_law 715 = .ok (.aload_n 0, 1) := by decide +kernel
theorem dL_law_716 : decode cL_law 716 = .ok (.iload 4, 2) := by decide +kernel
theorem dL_law_718 : decode cL_law 718 = .ok (.iconst 1, 1) := by decide +kernel
theorem dL_law_719 : decode cL_law 719 = .ok (.iadd, 1) := by decide +kernel
theorem dL_law_720 : decode cL_law 720 = .ok (.iaload, 1) := by decide +kernel
theorem dL_law_721 : decode cL_law 721 = .ok (.aload_n 0, 1) := by decide +kernel
theorem dL_law_722 : decode cL_law 722 = .ok (.iload 4, 2) := by decide +kernel
theorem dL_law_724 : decode cL_law 724 = .ok (.iconst 2, 1) := by decide +kernel
theorem dL_law_725 : decode cL_law 725 = .ok (.iadd, 1) := by decide +kernel
theorem dL_law_726 : decode cL_law 726 = .ok (.iaload, 1) := by decide +kernel
theorem dL_law_727 : decode cL_law 727 = .ok (.aload_n 0, 1) := by decide +kernel
theorem dL_law_728 : decode cL_law 728 = .ok (.iload 4, 2) := by decide +kernel
theorem dL_law_730 : decode cL_law 730 = .ok (.iconst 3, 1) := by decide +kernel
theorem dL_law_731 : decode cL_law 731 = .ok (.iadd, 1) := by decide +kernel
theorem dL_law_732 : decode cL_law 732 = .ok (.iaload, 1) := by decide +kernel
theorem dL_law_733 : decode cL_law 733 = .ok (.invokevirtual 82, 3) := by decide +kernel
theorem dL_law_736 : decode cL_law 736 = .ok (.if_icmp .eq 668, 3) := by decide +kernel
theorem dL_law_739 : decode cL_law 739 = .ok (.iconst 0, 1) := by decide +kernel
theorem dL_law_740 : decode cL_law 740 = .ok (.ireturn, 1) := by decide +kernel
theorem dL_law_741 : decode cL_law 741 = .ok (.aload_n 1, 1) := by decide +kernel
theorem dL_law_742 : decode cL_law 742 = .ok (.aload_n 0, 1) := by decide +kernel
theorem dL_law_743 : decode cL_law 743 = .ok (.iload 4, 2) := by decide +kernel
theorem dL_law_745 : decode cL_law 745 = .ok (.iconst 1, 1) := by decide +kernel
theorem dL_law_746 : decode cL_law 746 = .ok (.iadd, 1) := by decide +kernel
theorem dL_law_747 : decode cL_law 747 = .ok (.iaload, 1) := by decide +kernel
theorem dL_law_748 : decode cL_law 748 = .ok (.aload_n 0, 1) := by decide +kernel
theorem dL_law_749 : decode cL_law 749 = .ok (.iload 4, 2) := by decide +kernel
theorem dL_law_751 : decode cL_law 751 = .ok (.iconst 2, 1) := by decide +kernel
theorem dL_law_752 : decode cL_law 752 = .ok (.iadd, 1) := by decide +kernel
theorem dL_law_753 : decode cL_law 753 = .ok (.iaload, 1) := by decide +kernel
theorem dL_law_754 : decode cL_law 754 = .ok (.aload_n 0, 1) := by decide +kernel
theorem dL_law_755 : decode cL_law 755 = .ok (.iload 4, 2) := by decide +kernel
theorem dL_law_757 : decode cL_law 757 = .ok (.iconst 3, 1) := by decide +kernel
theorem dL_law_758 : decode cL_law 758 = .ok (.iadd, 1) := by decide +kernel
theorem dL_law_759 : decode cL_law 759 = .ok (.iaload, 1) := by decide +kernel
theorem dL_law_760 : decode cL_law 760 = .ok (.invokevirtual 83, 3) := by decide +kernel
theorem dL_law_763 : decode cL_law 763 = .ok (.aload_n 2, 1) := by decide +kernel
theorem dL_law_764 : decode cL_law 764 = .ok (.aload_n 0, 1) := by decide +kernel
theorem dL_law_765 : decode cL_law 765 = .ok (.iload 4, 2) := by decide +kernel
theorem dL_law_767 : decode cL_law 767 = .ok (.iconst 1, 1) := by decide +kernel
theorem dL_law_768 : decode cL_law 768 = .ok (.iadd, 1) := by decide +kernel
theorem dL_law_769 : decode cL_law 769 = .ok (.iaload, 1) := by decide +kernel
theorem dL_law_770 : decode cL_law 770 = .ok (.aload_n 0, 1) := by decide +kernel
theorem dL_law_771 : decode cL_law 771 = .ok (.iload 4, 2) := by decide +kernel
theorem dL_law_773 : decode cL_law 773 = .ok (.iconst 2, 1) := by decide +kernel
theorem dL_law_774 : decode cL_law 774 = .ok (.iadd, 1) := by decide +kernel
theorem dL_law_775 : decode cL_law 775 = .ok (.iaload, 1) := by decide +kernel
theorem dL_law_776 : decode cL_law 776 = .ok (.aload_n 0, 1) := by decide +kernel
theorem dL_law_777 : decode cL_law 777 = .ok (.iload 4, 2) := by decide +kernel
theorem dL_law_779 : decode cL_law 779 = .ok (.iconst 3, 1) := by decide +kernel
theorem dL_law_780 : decode cL_law 780 = .ok (.iadd, 1) := by decide +kernel
theorem dL_law_781 : decode cL_law 781 = .ok (.iaload, 1) := by decide +kernel
theorem dL_law_782 : decode cL_law 782 = .ok (.invokevirtual 86, 3) := by decide +kernel
theorem dL_law_785 : decode cL_law 785 = .ok (.if_icmp .eq 619, 3) := by decide +kernel
theorem dL_law_788 : decode cL_law 788 = .ok (.iconst 0, 1) := by decide +kernel
theorem dL_law_789 : decode cL_law 789 = .ok (.ireturn, 1) := by decide +kernel
theorem dL_law_790 : decode cL_law 790 = .ok (.aload_n 1, 1) := by decide +kernel
theorem dL_law_791 : decode cL_law 791 = .ok (.aload_n 0, 1) := by decide +kernel
theorem dL_law_792 : decode cL_law 792 = .ok (.iload 4, 2) := by decide +kernel
theorem dL_law_794 : decode cL_law 794 = .ok (.iconst 1, 1) := by decide +kernel
theorem dL_law_795 : decode cL_law 795 = .ok (.iadd, 1) := by decide +kernel
theorem dL_law_796 : decode cL_law 796 = .ok (.iaload, 1) := by decide +kernel
theorem dL_law_797 : decode cL_law 797 = .ok (.aload_n 0, 1) := by decide +kernel
theorem dL_law_798 : decode cL_law 798 = .ok (.iload 4, 2) := by decide +kernel
theorem dL_law_800 : decode cL_law 800 = .ok (.iconst 2, 1) := by decide +kernel
theorem dL_law_801 : decode cL_law 801 = .ok (.iadd, 1) := by decide +kernel
theorem dL_law_802 : decode cL_law 802 = .ok (.iaload, 1) := by decide +kernel
theorem dL_law_803 : decode cL_law 803 = .ok (.aload_n 0, 1) := by decide +kernel
theorem dL_law_804 : decode cL_law 804 = .ok (.iload 4, 2) := by decide +kernel
theorem dL_law_806 : decode cL_law 806 = .ok (.iconst 3, 1) := by decide +kernel
theorem dL_law_807 : decode cL_law 807 = .ok (.iadd, 1) := by decide +kernel
theorem dL_law_808 : decode cL_law 808 = .ok (.iaload, 1) := by decide +kernel
theorem dL_law_809 : decode cL_law 809 = .ok (.invokevirtual 87, 3) := by decide +kernel
theorem dL_law_812 : decode cL_law 812 = .ok (.aload_n 2, 1) := by decide +kernel
theorem dL_law_813 : decode cL_law 813 = .ok (.aload_n 0, 1) := by decide +kernel
theorem dL_law_814 : decode cL_law 814 = .ok (.iload 4, 2) := by decide +kernel
theorem dL_law_816 : decode cL_law 816 = .ok (.iconst 1, 1) := by decide +kernel
theorem dL_law_817 : decode cL_law 817 = .ok (.iadd, 1) := by decide +kernel
theorem dL_law_818 : decode cL_law 818 = .ok (.iaload, 1) := by decide +kernel
theorem dL_law_819 : decode cL_law 819 = .ok (.aload_n 0, 1) := by decide +kernel
theorem dL_law_820 : decode cL_law 820 = .ok (.iload 4, 2) := by decide +kernel
theorem dL_law_822 : decode cL_law 822 = .ok (.iconst 2, 1) := by decide +kernel
theorem dL_law_823 : decode cL_law 823 = .ok (.iadd, 1) := by decide +kernel
theorem dL_law_824 : decode cL_law 824 = .ok (.iaload, 1) := by decide +kernel
theorem dL_law_825 : decode cL_law 825 = .ok (.aload_n 0, 1) := by decide +kernel
theorem dL_law_826 : decode cL_law 826 = .ok (.iload 4, 2) := by decide +kernel
theorem dL_law_828 : decode cL_law 828 = .ok (.iconst 3, 1) := by decide +kernel
theorem dL_law_829 : decode cL_law 829 = .ok (.iadd, 1) := by decide +kernel
theorem dL_law_830 : decode cL_law 830 = .ok (.iaload, 1) := by decide +kernel
theorem dL_law_831 : decode cL_law 831 = .ok (.invokevirtual 90, 3) := by decide +kernel
theorem dL_law_834 : decode cL_law 834 = .ok (.if_icmp .eq 570, 3) := by decide +kernel
theorem dL_law_837 : decode cL_law 837 = .ok (.iconst 0, 1) := by decide +kernel
theorem dL_law_838 : decode cL_law 838 = .ok (.ireturn, 1) := by decide +kernel
theorem dL_law_839 : decode cL_law 839 = .ok (.aload_n 1, 1) := by decide +kernel
theorem dL_law_840 : decode cL_law 840 = .ok (.aload_n 0, 1) := by decide +kernel
theorem dL_law_841 : decode cL_law 841 = .ok (.iload 4, 2) := by decide +kernel
theorem dL_law_843 : decode cL_law 843 = .ok (.iconst 1, 1) := by decide +kernel
theorem dL_law_844 : decode cL_law 844 = .ok (.iadd, 1) := by decide +kernel
theorem dL_law_845 : decode cL_law 845 = .ok (.iaload, 1) := by decide +kernel
theorem dL_law_846 : decode cL_law 846 = .ok (.aload_n 0, 1) := by decide +kernel
theorem dL_law_847 : decode cL_law 847 = .ok (.iload 4, 2) := by decide +kernel
theorem dL_law_849 : decode cL_law 849 = .ok (.iconst 2, 1) := by decide +kernel
theorem dL_law_850 : decode cL_law 850 = .ok (.iadd, 1) := by decide +kernel
theorem dL_law_851 : decode cL_law 851 = .ok (.iaload, 1) := by decide +kernel
theorem dL_law_852 : decode cL_law 852 = .ok (.aload_n 0, 1) := by decide +kernel
theorem dL_law_853 : decode cL_law 853 = .ok (.iload 4, 2) := by decide +kernel
theorem dL_law_855 : decode cL_law 855 = .ok (.iconst 3, 1) := by decide +kernel
theorem dL_law_856 : decode cL_law 856 = .ok (.iadd, 1) := by decide +kernel
theorem dL_law_857 : decode cL_law 857 = .ok (.iaload, 1) := by decide +kernel
theorem dL_law_858 : decode cL_law 858 = .ok (.aload_n 0, 1) := by decide +kernel
theorem dL_law_859 : decode cL_law 859 = .ok (.iload 4, 2) := by decide +kernel
theorem dL_law_861 : decode cL_law 861 = .ok (.iconst 4, 1) := by decide +kernel
theorem dL_law_862 : decode cL_law 862 = .ok (.iadd, 1) := by decide +kernel
theorem dL_law_863 : decode cL_law 863 = .ok (.iaload, 1) := by decide +kernel
theorem dL_law_864 : decode cL_law 864 = .ok (.invokevirtual 91, 3) := by decide +kernel
theorem dL_law_867 : decode cL_law 867 = .ok (.aload_n 2, 1) := by decide +kernel
theorem dL_law_868 : decode cL_law 868 = .ok (.aload_n 0, 1) := by decide +kernel
theorem dL_law_869 : decode cL_law 869 = .ok (.iload 4, 2) := by decide +kernel
theorem dL_law_871 : decode cL_law 871 = .ok (.iconst 1, 1) := by decide +kernel
theorem dL_law_872 : decode cL_law 872 = .ok (.iadd, 1) := by decide +kernel
theorem dL_law_873 : decode cL_law 873 = .ok (.iaload, 1) := by decide +kernel
theorem dL_law_874 : decode cL_law 874 = .ok (.aload_n 0, 1) := by decide +kernel
theorem dL_law_875 : decode cL_law 875 = .ok (.iload 4, 2) := by decide +kernel
theorem dL_law_877 : decode cL_law 877 = .ok (.iconst 2, 1) := by decide +kernel
theorem dL_law_878 : decode cL_law 878 = .ok (.iadd, 1) := by decide +kernel
theorem dL_law_879 : decode cL_law 879 = .ok (.iaload, 1) := by decide +kernel
theorem dL_law_880 : decode cL_law 880 = .ok (.aload_n 0, 1) := by decide +kernel
theorem dL_law_881 : decode cL_law 881 = .ok (.iload 4, 2) := by decide +kernel
theorem dL_law_883 : decode cL_law 883 = .ok (.iconst 3, 1) := by decide +kernel
theorem dL_law_884 : decode cL_law 884 = .ok (.iadd, 1) := by decide +kernel
theorem dL_law_885 : decode cL_law 885 = .ok (.iaload, 1) := by decide +kernel
theorem dL_law_886 : decode cL_law 886 = .ok (.aload_n 0, 1) := by decide +kernel
theorem dL_law_887 : decode cL_law 887 = .ok (.iload 4, 2) := by decide +kernel
theorem dL_law_889 : decode cL_law 889 = .ok (.iconst 4, 1) := by decide +kernel
theorem dL_law_890 : decode cL_law 890 = .ok (.iadd, 1) := by decide +kernel
theorem dL_law_891 : decode cL_law 891 = .ok (.iaload, 1) := by decide +kernel
theorem dL_law_892 : decode cL_law 892 = .ok (.invokevirtual 94, 3) := by decide +kernel
theorem dL_law_895 : decode cL_law 895 = .ok (.if_icmp .eq 509, 3) := by decide +kernel
theorem dL_law_898 : decode cL_law 898 = .ok (.iconst 0, 1) := by decide +kernel
theorem dL_law_899 : decode cL_law 899 = .ok (.ireturn, 1) := by decide +kernel
theorem dL_law_900 : decode cL_law 900 = .ok (.aload_n 1, 1) := by decide +kernel
theorem dL_law_901 : decode cL_law 901 = .ok (.aload_n 0, 1) := by decide +kernel
theorem dL_law_902 : decode cL_law 902 = .ok (.iload 4, 2) := by decide +kernel
theorem dL_law_904 : decode cL_law 904 = .ok (.iconst 1, 1) := by decide +kernel
theorem dL_law_905 : decode cL_law 905 = .ok (.iadd, 1) := by decide +kernel
theorem dL_law_906 : decode cL_law 906 = .ok (.iaload, 1) := by decide +kernel
theorem dL_law_907 : decode cL_law 907 = .ok (.aload_n 0, 1) := by decide +kernel
theorem dL_law_908 : decode cL_law 908 = .ok (.iload 4, 2) := by decide +kernel
theorem dL_law_910 : decode cL_law 910 = .ok (.iconst 2, 1) := by decide +kernel
theorem dL_law_911 : decode cL_law 911 = .ok (.iadd, 1) := by decide +kernel
theorem dL_law_912 : decode cL_law 912 = .ok (.iaload, 1) := by decide +kernel
theorem dL_law_913 : decode cL_law 913 = .ok (.aload_n 0, 1) := by decide +kernel
theorem dL_law_914 : decode cL_law 914 = .ok (.iload 4, 2) := by decide +kernel
theorem dL_law_916 : decode cL_law 916 = .ok (.iconst 3, 1) := by decide +kernel
theorem dL_law_917 : decode cL_law 917 = .ok (.iadd, 1) := by decide +kernel
theorem dL_law_918 : decode cL_law 918 = .ok (.iaload, 1) := by decide +kernel
theorem dL_law_919 : decode cL_law 919 = .ok (.invokevirtual 95, 3) := by decide +kernel
theorem dL_law_922 : decode cL_law 922 = .ok (.aload_n 2, 1) := by decide +kernel
theorem dL_law_923 : decode cL_law 923 = .ok (.aload_n 0, 1) := by decide +kernel
theorem dL_law_924 : decode cL_law 924 = .ok (.iload 4, 2) := by decide +kernel
theorem dL_law_926 : decode cL_law 926 = .ok (.iconst 1, 1) := by decide +kernel
theorem dL_law_927 : decode cL_law 927 = .ok (.iadd, 1) := by decide +kernel
theorem dL_law_928 : decode cL_law 928 = .ok (.iaload, 1) := by decide +kernel
theorem dL_law_929 : decode cL_law 929 = .ok (.aload_n 0, 1) := by decide +kernel
theorem dL_law_930 : decode cL_law 930 = .ok (.iload 4, 2) := by decide +kernel
theorem dL_law_932 : decode cL_law 932 = .ok (.iconst 2, 1) := by decide +kernel
theorem dL_law_933 : decode cL_law 933 = .ok (.iadd, 1) := by decide +kernel
theorem dL_law_934 : decode cL_law 934 = .ok (.iaload, 1) := by decide +kernel
theorem dL_law_935 : decode cL_law 935 = .ok (.aload_n 0, 1) := by decide +kernel
theorem dL_law_936 : decode cL_law 936 = .ok (.iload 4, 2) := by decide +kernel
theorem dL_law_938 : decode cL_law 938 = .ok (.iconst 3, 1) := by decide +kernel
theorem dL_law_939 : decode cL_law 939 = .ok (.iadd, 1) := by decide +kernel
theorem dL_law_940 : decode cL_law 940 = .ok (.iaload, 1) := by decide +kernel
theorem dL_law_941 : decode cL_law 941 = .ok (.invokevirtual 98, 3) := by decide +kernel
theorem dL_law_944 : decode cL_law 944 = .ok (.if_icmp .eq 460, 3) := by decide +kernel
theorem dL_law_947 : decode cL_law 947 = .ok (.iconst 0, 1) := by decide +kernel
theorem dL_law_948 : decode cL_law 948 = .ok (.ireturn, 1) := by decide +kernel
theorem dL_law_949 : decode cL_law 949 = .ok (.aload_n 1, 1) := by decide +kernel
theorem dL_law_950 : decode cL_law 950 = .ok (.aload_n 0, 1) := by decide +kernel
theorem dL_law_951 : decode cL_law 951 = .ok (.iload 4, 2) := by decide +kernel
theorem dL_law_953 : decode cL_law 953 = .ok (.iconst 1, 1) := by decide +kernel
theorem dL_law_954 : decode cL_law 954 = .ok (.iadd, 1) := by decide +kernel
theorem dL_law_955 : decode cL_law 955 = .ok (.iaload, 1) := by decide +kernel
theorem dL_law_956 : decode cL_law 956 = .ok (.aload_n 0, 1) := by decide +kernel
theorem dL_law_957 : decode cL_law 957 = .ok (.iload 4, 2) := by decide +kernel
theorem dL_law_959 : decode cL_law 959 = .ok (.iconst 2, 1) := by decide +kernel
theorem dL_law_960 : decode cL_law 960 = .ok (.iadd, 1) := by decide +kernel
theorem dL_law_961 : decode cL_law 961 = .ok (.iaload, 1) := by decide +kernel
theorem dL_law_962 : decode cL_law 962 = .ok (.aload_n 0, 1) := by decide +kernel
theorem dL_law_963 : decode cL_law 963 = .ok (.iload 4, 2) := by decide +kernel
theorem dL_law_965 : decode cL_law 965 = .ok (.iconst 3, 1) := by decide +kernel
theorem dL_law_966 : decode cL_law 966 = .ok (.iadd, 1) := by decide +kernel
theorem dL_law_967 : decode cL_law 967 = .ok (.iaload, 1) := by decide +kernel
theorem dL_law_968 : decode cL_law 968 = .ok (.aload_n 0, 1) := by decide +kernel
theorem dL_law_969 : decode cL_law 969 = .ok (.iload 4, 2) := by decide +kernel
theorem dL_law_971 : decode cL_law 971 = .ok (.iconst 4, 1) := by decide +kernel
theorem dL_law_972 : decode cL_law 972 = .ok (.iadd, 1) := by decide +kernel
theorem dL_law_973 : decode cL_law 973 = .ok (.iaload, 1) := by decide +kernel
theorem dL_law_974 : decode cL_law 974 = .ok (.invokevirtual 99, 3) := by decide +kernel
theorem dL_law_977 : decode cL_law 977 = .ok (.aload_n 2, 1) := by decide +kernel
theorem dL_law_978 : decode cL_law 978 = .ok (.aload_n 0, 1) := by decide +kernel
theorem dL_law_979 : decode cL_law 979 = .ok (.iload 4, 2) := by decide +kernel
theorem dL_law_981 : decode cL_law 981 = .ok (.iconst 1, 1) := by decide +kernel
theorem dL_law_982 : decode cL_law 982 = .ok (.iadd, 1) := by decide +kernel
theorem dL_law_983 : decode cL_law 983 = .ok (.iaload, 1) := by decide +kernel
theorem dL_law_984 : decode cL_law 984 = .ok (.aload_n 0, 1) := by decide +kernel
theorem dL_law_985 : decode cL_law 985 = .ok (.iload 4, 2) := by decide +kernel
theorem dL_law_987 : decode cL_law 987 = .ok (.iconst 2, 1) := by decide +kernel
theorem dL_law_988 : decode cL_law 988 = .ok (.iadd, 1) := by decide +kernel
theorem dL_law_989 : decode cL_law 989 = .ok (.iaload, 1) := by decide +kernel
theorem dL_law_990 : decode cL_law 990 = .ok (.aload_n 0, 1) := by decide +kernel
theorem dL_law_991 : decode cL_law 991 = .ok (.iload 4, 2) := by decide +kernel
theorem dL_law_993 : decode cL_law 993 = .ok (.iconst 3, 1) := by decide +kernel
theorem dL_law_994 : decode cL_law 994 = .ok (.iadd, 1) := by decide +kernel
theorem dL_law_995 : decode cL_law 995 = .ok (.iaload, 1) := by decide +kernel
theorem dL_law_996 : decode cL_law 996 = .ok (.aload_n 0, 1) := by decide +kernel
theorem dL_law_997 : decode cL_law 997 = .ok (.iload 4, 2) := by decide +kernel
theorem dL_law_999 : decode cL_law 999 = .ok (.iconst 4, 1) := by decide +kernel
theorem dL_law_1000 : decode cL_law 1000 = .ok (.iadd, 1) := by decide +kernel
theorem dL_law_1001 : decode cL_law 1001 = .ok (.iaload, 1) := by decide +kernel
theorem dL_law_1002 : decode cL_law 1002 = .ok (.invokevirtual 102, 3) := by decide +kernel
theorem dL_law_1005 : decode cL_law 1005 = .ok (.if_icmp .eq 399, 3) := by decide +kernel
theorem dL_law_1008 : decode cL_law 1008 = .ok (.iconst 0, 1) := by decide +kernel
theorem dL_law_1009 : decode cL_law 1009 = .ok (.ireturn, 1) := by decide +kernel
theorem dL_law_1010 : decode cL_law 1010 = .ok (.aload_n 1, 1) := by decide +kernel
theorem dL_law_1011 : decode cL_law 1011 = .ok (.aload_n 0, 1) := by decide +kernel
theorem dL_law_1012 : decode cL_law 1012 = .ok (.iload 4, 2) := by decide +kernel
theorem dL_law_1014 : decode cL_law 1014 = .ok (.iconst 1, 1) := by decide +kernel
theorem dL_law_1015 : decode cL_law 1015 = .ok (.iadd, 1) := by decide +kernel
theorem dL_law_1016 : decode cL_law 1016 = .ok (.iaload, 1) := by decide +kernel
theorem dL_law_1017 : decode cL_law 1017 = .ok (.aload_n 0, 1) := by decide +kernel
theorem dL_law_1018 : decode cL_law 1018 = .ok (.iload 4, 2) := by decide +kernel
theorem dL_law_1020 : decode cL_law 1020 = .ok (.iconst 2, 1) := by decide +kernel
theorem dL_law_1021 : decode cL_law 1021 = .ok (.iadd, 1) := by decide +kernel
theorem dL_law_1022 : decode cL_law 1022 = .ok (.iaload, 1) := by decide +kernel
theorem dL_law_1023 : decode cL_law 1023 = .ok (.aload_n 0, 1) := by decide +kernel
theorem dL_law_1024 : decode cL_law 1024 = .ok (.iload 4, 2) := by decide +kernel
theorem dL_law_1026 : decode cL_law 1026 = .ok (.iconst 3, 1) := by decide +kernel
theorem dL_law_1027 : decode cL_law 1027 = .ok (.iadd, 1) := by decide +kernel
theorem dL_law_1028 : decode cL_law 1028 = .ok (.iaload, 1) := by decide +kernel
theorem dL_law_1029 : decode cL_law 1029 = .ok (.invokevirtual 103, 3) := by decide +kernel
theorem dL_law_1032 : decode cL_law 1032 = .ok (.aload_n 2, 1) := by decide +kernel
theorem dL_law_1033 : decode cL_law 1033 = .ok (.aload_n 0, 1) := by decide +kernel
theorem dL_law_1034 : decode cL_law 1034 = .ok (.iload 4, 2) := by decide +kernel
theorem dL_law_1036 : decode cL_law 1036 = .ok (.iconst 1, 1) := by decide +kernel
theorem dL_law_1037 : decode cL_law 1037 = .ok (.iadd, 1) := by decide +kernel
theorem dL_law_1038 : decode cL_law 1038 = .ok (.iaload, 1) := by decide +kernel
theorem dL_law_1039 : decode cL_law 1039 = .ok (.aload_n 0, 1) := by decide +kernel
theorem dL_law_1040 : decode cL_law 1040 = .ok (.iload 4, 2) := by decide +kernel
theorem dL_law_1042 : decode cL_law 1042 = .ok (.iconst 2, 1) := by decide +kernel
theorem dL_law_1043 : decode cL_law 1043 = .ok (.iadd, 1) := by decide +kernel
theorem dL_law_1044 : decode cL_law 1044 = .ok (.iaload, 1) := by decide +kernel
theorem dL_law_1045 : decode cL_law 1045 = .ok (.aload_n 0, 1) := by decide +kernel
theorem dL_law_1046 : decode cL_law 1046 = .ok (.iload 4, 2) := by decide +kernel
theorem dL_law_1048 : decode cL_law 1048 = .ok (.iconst 3, 1) := by decide +kernel
theorem dL_law_1049 : decode cL_law 1049 = .ok (.iadd, 1) := by decide +kernel
theorem dL_law_1050 : decode cL_law 1050 = .ok (.iaload, 1) := by decide +kernel
theorem dL_law_1051 : decode cL_law 1051 = .ok (.invokevirtual 106, 3) := by decide +kernel
theorem dL_law_1054 : decode cL_law 1054 = .ok (.if_icmp .eq 350, 3) := by decide +kernel
theorem dL_law_1057 : decode cL_law 1057 = .ok (.iconst 0, 1) := by decide +kernel
theorem dL_law_1058 : decode cL_law 1058 = .ok (.ireturn, 1) := by decide +kernel
theorem dL_law_1059 : decode cL_law 1059 = .ok (.aload_n 1, 1) := by decide +kernel
theorem dL_law_1060 : decode cL_law 1060 = .ok (.aload_n 0, 1) := by decide +kernel
theorem dL_law_1061 : decode cL_law 1061 = .ok (.iload 4, 2) := by decide +kernel
theorem dL_law_1063 : decode cL_law 1063 = .ok (.iconst 1, 1) := by decide +kernel
theorem dL_law_1064 : decode cL_law 1064 = .ok (.iadd, 1) := by decide +kernel
theorem dL_law_1065 : decode cL_law 1065 = .ok (.iaload, 1) := by decide +kernel
theorem dL_law_1066 : decode cL_law 1066 = .ok (.aload_n 0, 1) := by decide +kernel
theorem dL_law_1067 : decode cL_law 1067 = .ok (.iload 4, 2) := by decide +kernel
theorem dL_law_1069 : decode cL_law 1069 = .ok (.iconst 2, 1) := by decide +kernel
theorem dL_law_1070 : decode cL_law 1070 = .ok (.iadd, 1) := by decide +kernel
theorem dL_law_1071 : decode cL_law 1071 = .ok (.iaload, 1) := by decide +kernel
theorem dL_law_1072 : decode cL_law 1072 = .ok (.invokevirtual 107, 3) := by decide +kernel
theorem dL_law_1075 : decode cL_law 1075 = .ok (.aload_n 2, 1) := by decide +kernel
theorem dL_law_1076 : decode cL_law 1076 = .ok (.aload_n 0, 1) := by decide +kernel
theorem dL_law_1077 : decode cL_law 1077 = .ok (.iload 4, 2) := by decide +kernel
theorem dL_law_1079 : decode cL_law 1079 = .ok (.iconst 1, 1) := by decide +kernel
theorem dL_law_1080 : decode cL_law 1080 = .ok (.iadd, 1) := by decide +kernel
theorem dL_law_1081 : decode cL_law 1081 = .ok (.iaload, 1) := by decide +kernel
theorem dL_law_1082 : decode cL_law 1082 = .ok (.aload_n 0, 1) := by decide +kernel
theorem dL_law_1083 : decode cL_law 1083 = .ok (.iload 4, 2) := by decide +kernel
theorem dL_law_1085 : decode cL_law 1085 = .ok (.iconst 2, 1) := by decide +kernel
theorem dL_law_1086 : decode cL_law 1086 = .ok (.iadd, 1) := by decide +kernel
theorem dL_law_1087 : decode cL_law 1087 = .ok (.iaload, 1) := by decide +kernel
theorem dL_law_1088 : decode cL_law 1088 = .ok (.invokevirtual 110, 3) := by decide +kernel
theorem dL_law_1091 : decode cL_law 1091 = .ok (.if_icmp .eq 313, 3) := by decide +kernel
theorem dL_law_1094 : decode cL_law 1094 = .ok (.iconst 0, 1) := by decide +kernel
theorem dL_law_1095 : decode cL_law 1095 = .ok (.ireturn, 1) := by decide +kernel
theorem dL_law_1096 : decode cL_law 1096 = .ok (.aload_n 1, 1) := by decide +kernel
theorem dL_law_1097 : decode cL_law 1097 = .ok (.aload_n 0, 1) := by decide +kernel
theorem dL_law_1098 : decode cL_law 1098 = .ok (.iload 4, 2) := by decide +kernel
theorem dL_law_1100 : decode cL_law 1100 = .ok (.iconst 1, 1) := by decide +kernel
theorem dL_law_1101 : decode cL_law 1101 = .ok (.iadd, 1) := by decide +kernel
theorem dL_law_1102 : decode cL_law 1102 = .ok (.iaload, 1) := by decide +kernel
theorem dL_law_1103 : decode cL_law 1103 = .ok (.invokevirtual 111, 3) := by decide +kernel
theorem dL_law_1106 : decode cL_law 1106 = .ok (.aload_n 2, 1) := by decide +kernel
theorem dL_law_1107 : decode cL_law 1107 = .ok (.aload_n 0, 1) := by decide +kernel
theorem dL_law_1108 : decode cL_law 1108 = .ok (.iload 4, 2) := by decide +kernel
theorem dL_law_1110 : decode cL_law 1110 = .ok (.iconst 1, 1) := by decide +kernel
theorem dL_law_1111 : decode cL_law 1111 = .ok (.iadd, 1) := by decide +kernel
theorem dL_law_1112 : decode cL_law 1112 = .ok (.iaload, 1) := by decide +kernel
theorem dL_law_1113 : decode cL_law 1113 = .ok (.invokevirtual 114, 3) := by decide +kernel
theorem dL_law_1116 : decode cL_law 1116 = .ok (.if_icmp .eq 288, 3) := by decide +kernel
theorem dL_law_1119 : decode cL_law 1119 = .ok (.iconst 0, 1) := by decide +kernel
theorem dL_law_1120 : decode cL_law 1120 = .ok (.ireturn, 1) := by decide +kernel
theorem dL_law_1121 : decode cL_law 1121 = .ok (.aload_n 1, 1) := by decide +kernel
theorem dL_law_1122 : decode cL_law 1122 = .ok (.aload_n 0, 1) := by decide +kernel
theorem dL_law_1123 : decode cL_law 1123 = .ok (.iload 4, 2) := by decide +kernel
theorem dL_law_1125 : decode cL_law 1125 = .ok (.iconst 1, 1) := by decide +kernel
theorem dL_law_1126 : decode cL_law 1126 = .ok (.iadd, 1) := by decide +kernel
theorem dL_law_1127 : decode cL_law 1127 = .ok (.iaload, 1) := by decide +kernel
theorem dL_law_1128 : decode cL_law 1128 = .ok (.invokevirtual 115, 3) := by decide +kernel
theorem dL_law_1131 : decode cL_law 1131 = .ok (.aload_n 2, 1) := by decide +kernel
theorem dL_law_1132 : decode cL_law 1132 = .ok (.aload_n 0, 1) := by decide +kernel
theorem dL_law_1133 : decode cL_law 1133 = .ok (.iload 4, 2) := by decide +kernel
theorem dL_law_1135 : decode cL_law 1135 = .ok (.iconst 1, 1) := by decide +kernel
theorem dL_law_1136 : decode cL_law 1136 = .ok (.iadd, 1) := by decide +kernel
theorem dL_law_1137 : decode cL_law 1137 = .ok (.iaload, 1) := by decide +kernel
theorem dL_law_1138 : decode cL_law 1138 = .ok (.invokevirtual 118, 3) := by decide +kernel
theorem dL_law_1141 : decode cL_law 1141 = .ok (.if_icmp .eq 263, 3) := by decide +kernel
theorem dL_law_1144 : decode cL_law 1144 = .ok (.iconst 0, 1) := by decide +kernel
theorem dL_law_1145 : decode cL_law 1145 = .ok (.ireturn, 1) := by decide +kernel
theorem dL_law_1146 : decode cL_law 1146 = .ok (.aload_n 1, 1) := by decide +kernel
theorem dL_law_1147 : decode cL_law 1147 = .ok (.aload_n 0, 1) := by decide +kernel
theorem dL_law_1148 : decode cL_law 1148 = .ok (.iload 4, 2) := by decide +kernel
theorem dL_law_1150 : decode cL_law 1150 = .ok (.iconst 1, 1) := by decide +kernel
theorem dL_law_1151 : decode cL_law 1151 = .ok (.iadd, 1) := by decide +kernel
theorem dL_law_1152 : decode cL_law 1152 = .ok (.iaload, 1) := by decide +kernel
theorem dL_law_1153 : decode cL_law 1153 = .ok (.aload_n 0, 1) := by decide +kernel
theorem dL_law_1154 : decode cL_law 1154 = .ok (.iload 4, 2) := by decide +kernel
theorem dL_law_1156 : decode cL_law 1156 = .ok (.iconst 2, 1) := by decide +kernel
theorem dL_law_1157 : decode cL_law 1157 = .ok (.iadd, 1) := by decide +kernel
theorem dL_law_1158 : decode cL_law 1158 = .ok (.iaload, 1) := by decide +kernel
theorem dL_law_1159 : decode cL_law 1159 = .ok (.aload_n 0, 1) := by decide +kernel
theorem dL_law_1160 : decode cL_law 1160 = .ok (.iload 4, 2) := by decide +kernel
theorem dL_law_1162 : decode cL_law 1162 = .ok (.iconst 3, 1) := by decide +kernel
theorem dL_law_1163 : decode cL_law 1163 = .ok (.iadd, 1) := by decide +kernel
theorem dL_law_1164 : decode cL_law 1164 = .ok (.iaload, 1) := by decide +kernel
theorem dL_law_1165 : decode cL_law 1165 = .ok (.invokevirtual 119, 3) := by decide +kernel
theorem dL_law_1168 : decode cL_law 1168 = .ok (.aload_n 2, 1) := by decide +kernel
theorem dL_law_1169 : decode cL_law 1169 = .ok (.aload_n 0, 1) := by decide +kernel
theorem dL_law_1170 : decode cL_law 1170 = .ok (.iload 4, 2) := by decide +kernel
theorem dL_law_1172 : decode cL_law 1172 = .ok (.iconst 1, 1) := by decide +kernel
theorem dL_law_1173 : decode cL_law 1173 = .ok (.iadd, 1) := by decide +kernel
theorem dL_law_1174 : decode cL_law 1174 = .ok (.iaload, 1) := by decide +kernel
theorem dL_law_1175 : decode cL_law 1175 = .ok (.aload_n 0, 1) := by decide +kernel
theorem dL_law_1176 : decode cL_law 1176 = .ok (.iload 4, 2) := by decide +kernel
theorem dL_law_1178 : decode cL_law 1178 = .ok (.iconst 2, 1) := by decide +kernel
theorem dL_law_1179 : decode cL_law 1179 = .ok (.iadd, 1) := by decide +kernel
theorem dL_law_1180 : decode cL_law 1180 = .ok (.iaload, 1) := by decide +kernel
theorem dL_law_1181 : decode cL_law 1181 = .ok (.aload_n 0, 1) := by decide +kernel
theorem dL_law_1182 : decode cL_law 1182 = .ok (.iload 4, 2) := by decide +kernel
theorem dL_law_1184 : decode cL_law 1184 = .ok (.iconst 3, 1) := by decide +kernel
theorem dL_law_1185 : decode cL_law 1185 = .ok (.iadd, 1) := by decide +kernel
theorem dL_law_1186 : decode cL_law 1186 = .ok (.iaload, 1) := by decide +kernel
theorem dL_law_1187 : decode cL_law 1187 = .ok (.invokevirtual 122, 3) := by decide +kernel
theorem dL_law_1190 : decode cL_law 1190 = .ok (.if_icmp .eq 214, 3) := by decide +kernel
theorem dL_law_1193 : decode cL_law 1193 = .ok (.iconst 0, 1) := by decide +kernel
theorem dL_law_1194 : decode cL_law 1194 = .ok (.ireturn, 1) := by decide +kernel
theorem dL_law_1195 : decode cL_law 1195 = .ok (.aload_n 1, 1) := by decide +kernel
theorem dL_law_1196 : decode cL_law 1196 = .ok (.aload_n 0, 1) := by decide +kernel
theorem dL_law_1197 : decode cL_law 1197 = .ok (.iload 4, 2) := by decide +kernel
theorem dL_law_1199 : decode cL_law 1199 = .ok (.iconst 1, 1) := by decide +kernel
theorem dL_law_1200 : decode cL_law 1200 = .ok (.iadd, 1) := by decide +kernel
theorem dL_law_1201 : decode cL_law 1201 = .ok (.iaload, 1) := by decide +kernel
theorem dL_law_1202 : decode cL_law 1202 = .ok (.aload_n 0, 1) := by decide +kernel
theorem dL_law_1203 : decode cL_law 1203 = .ok (.iload 4, 2) := by decide +kernel
theorem dL_law_1205 : decode cL_law 1205 = .ok (.iconst 2, 1) := by decide +kernel
theorem dL_law_1206 : decode cL_law 1206 = .ok (.iadd, 1) := by decide +kernel
theorem dL_law_1207 : decode cL_law 1207 = .ok (.iaload, 1) := by decide +kernel
theorem dL_law_1208 : decode cL_law 1208 = .ok (.aload_n 0, 1) := by decide +kernel
theorem dL_law_1209 : decode cL_law 1209 = .ok (.iload 4, 2) := by decide +kernel
theorem dL_law_1211 : decode cL_law 1211 = .ok (.iconst 3, 1) := by decide +kernel
theorem dL_law_1212 : decode cL_law 1212 = .ok (.iadd, 1) := by decide +kernel
theorem dL_law_1213 : decode cL_law 1213 = .ok (.iaload, 1) := by decide +kernel
theorem dL_law_1214 : decode cL_law 1214 = .ok (.aload_n 0, 1) := by decide +kernel
theorem dL_law_1215 : decode cL_law 1215 = .ok (.iload 4, 2) := by decide +kernel
theorem dL_law_1217 : decode cL_law 1217 = .ok (.iconst 4, 1) := by decide +kernel
theorem dL_law_1218 : decode cL_law 1218 = .ok (.iadd, 1) := by decide +kernel
theorem dL_law_1219 : decode cL_law 1219 = .ok (.iaload, 1) := by decide +kernel
theorem dL_law_1220 : decode cL_law 1220 = .ok (.invokevirtual 123, 3) := by decide +kernel
theorem dL_law_1223 : decode cL_law 1223 = .ok (.aload_n 2, 1) := by decide +kernel
theorem dL_law_1224 : decode cL_law 1224 = .ok (.aload_n 0, 1) := by decide +kernel
theorem dL_law_1225 : decode cL_law 1225 = .ok (.iload 4, 2) := by decide +kernel
theorem dL_law_1227 : decode cL_law 1227 = .ok (.iconst 1, 1) := by decide +kernel
theorem dL_law_1228 : decode cL_law 1228 = .ok (.iadd, 1) := by decide +kernel
theorem dL_law_1229 : decode cL_law 1229 = .ok (.iaload, 1) := by decide +kernel
theorem dL_law_1230 : decode cL_law 1230 = .ok (.aload_n 0, 1) := by decide +kernel
theorem dL_law_1231 : decode cL_law 1231 = .ok (.iload 4, 2) := by decide +kernel
theorem dL_law_1233 : decode cL_law 1233 = .ok (.iconst 2, 1) := by decide +kernel
theorem dL_law_1234 : decode cL_law 1234 = .ok (.iadd, 1) := by decide +kernel
theorem dL_law_1235 : decode cL_law 1235 = .ok (.iaload, 1) := by decide +kernel
theorem dL_law_1236 : decode cL_law 1236 = .ok (.aload_n 0, 1) := by decide +kernel
theorem dL_law_1237 : decode cL_law 1237 = .ok (.iload 4, 2) := by decide +kernel
theorem dL_law_1239 : decode cL_law 1239 = .ok (.iconst 3, 1) := by decide +kernel
theorem dL_law_1240 : decode cL_law 1240 = .ok (.iadd, 1) := by decide +kernel
theorem dL_law_1241 : decode cL_law 1241 = .ok (.iaload, 1) := by decide +kernel
theorem dL_law_1242 : decode cL_law 1242 = .ok (.aload_n 0, 1) := by decide +kernel
theorem dL_law_1243 : decode cL_law 1243 = .ok (.iload 4, 2) := by decide +kernel
theorem dL_law_1245 : decode cL_law 1245 = .ok (.iconst 4, 1) := by decide +kernel
theorem dL_law_1246 : decode cL_law 1246 = .ok (.iadd, 1) := by decide +kernel
theorem dL_law_1247 : decode cL_law 1247 = .ok (.iaload, 1) := by decide +kernel
theorem dL_law_1248 : decode cL_law 1248 = .ok (.invokevirtual 126, 3) := by decide +kernel
theorem dL_law_1251 : decode cL_law 1251 = .ok (.if_icmp .eq 153, 3) := by decide +kernel
theorem dL_law_1254 : decode cL_law 1254 = .ok (.iconst 0, 1) := by decide +kernel
theorem dL_law_1255 : decode cL_law 1255 = .ok (.ireturn, 1) := by decide +kernel
theorem dL_law_1256 : decode cL_law 1256 = .ok (.aload_n 1, 1) := by decide +kernel
theorem dL_law_1257 : decode cL_law 1257 = .ok (.aload_n 0, 1) := by decide +kernel
theorem dL_law_1258 : decode cL_law 1258 = .ok (.iload 4, 2) := by decide +kernel
theorem dL_law_1260 : decode cL_law 1260 = .ok (.iconst 1, 1) := by decide +kernel
theorem dL_law_1261 : decode cL_law 1261 = .ok (.iadd, 1) := by decide +kernel
theorem dL_law_1262 : decode cL_law 1262 = .ok (.iaload, 1) := by decide +kernel
theorem dL_law_1263 : decode cL_law 1263 = .ok (.aload_n 0, 1) := by decide +kernel
theorem dL_law_1264 : decode cL_law 1264 = .ok (.iload 4, 2) := by decide +kernel
theorem dL_law_1266 : decode cL_law 1266 = .ok (.iconst 2, 1) := by decide +kernel
theorem dL_law_1267 : decode cL_law 1267 = .ok (.iadd, 1) := by decide +kernel
theorem dL_law_1268 : decode cL_law 1268 = .ok (.iaload, 1) := by decide +kernel
theorem dL_law_1269 : decode cL_law 1269 = .ok (.invokevirtual 127, 3) := by decide +kernel
theorem dL_law_1272 : decode cL_law 1272 = .ok (.aload_n 2, 1) := by decide +kernel
theorem dL_law_1273 : decode cL_law 1273 = .ok (.aload_n 0, 1) := by decide +kernel
theorem dL_law_1274 : decode cL_law 1274 = .ok (.iload 4, 2) := by decide +kernel
theorem dL_law_1276 : decode cL_law 1276 = .ok (.iconst 1, 1) := by decide +kernel
theorem dL_law_1277 : decode cL_law 1277 = .ok (.iadd, 1) := by decide +kernel
theorem dL_law_1278 : decode cL_law 1278 = .ok (.iaload, 1) := by decide +kernel
theorem dL_law_1279 : decode cL_law 1279 = .ok (.aload_n 0, 1) := by decide +kernel
theorem dL_law_1280 : decode cL_law 1280 = .ok (.iload 4, 2) := by decide +kernel
theorem dL_law_1282 : decode cL_law 1282 = .ok (.iconst 2, 1) := by decide +kernel
theorem dL_law_1283 : decode cL_law 1283 = .ok (.iadd, 1) := by decide +kernel
theorem dL_law_1284 : decode cL_law 1284 = .ok (.iaload, 1) := by decide +kernel
theorem dL_law_1285 : decode cL_law 1285 = .ok (.invokevirtual 130, 3) := by decide +kernel
theorem dL_law_1288 : decode cL_law 1288 = .ok (.if_icmp .eq 116, 3) := by decide +kernel
theorem dL_law_1291 : decode cL_law 1291 = .ok (.iconst 0, 1) := by decide +kernel
theorem dL_law_1292 : decode cL_law 1292 = .ok (.ireturn, 1) := by decide +kernel
theorem dL_law_1293 : decode cL_law 1293 = .ok (.aload_n 1, 1) := by decide +kernel
theorem dL_law_1294 : decode cL_law 1294 = .ok (.aload_n 0, 1) := by decide +kernel
theorem dL_law_1295 : decode cL_law 1295 = .ok (.iload 4, 2) := by decide +kernel
theorem dL_law_1297 : decode cL_law 1297 = .ok (.iconst 1, 1) := by decide +kernel
theorem dL_law_1298 : decode cL_law 1298 = .ok (.iadd, 1) := by decide +kernel
theorem dL_law_1299 : decode cL_law 1299 = .ok (.iaload, 1) := by decide +kernel
theorem dL_law_1300 : decode cL_law 1300 = .ok (.aload_n 0, 1) := by decide +kernel
theorem dL_law_1301 : decode cL_law 1301 = .ok (.iload 4, 2) := by decide +kernel
theorem dL_law_1303 : decode cL_law 1303 = .ok (.iconst 2, 1) := by decide +kernel
theorem dL_law_1304 : decode cL_law 1304 = .ok (.iadd, 1) := by decide +kernel
theorem dL_law_1305 : decode cL_law 1305 = .ok (.iaload, 1) := by decide +kernel
theorem dL_law_1306 : decode cL_law 1306 = .ok (.aload_n 0, 1) := by decide +kernel
theorem dL_law_1307 : decode cL_law 1307 = .ok (.iload 4, 2) := by decide +kernel
theorem dL_law_1309 : decode cL_law 1309 = .ok (.iconst 3, 1) := by decide +kernel
theorem dL_law_1310 : decode cL_law 1310 = .ok (.iadd, 1) := by decide +kernel
theorem dL_law_1311 : decode cL_law 1311 = .ok (.iaload, 1) := by decide +kernel
theorem dL_law_1312 : decode cL_law 1312 = .ok (.invokevirtual 131, 3) := by decide +kernel
theorem dL_law_1315 : decode cL_law 1315 = .ok (.aload_n 2, 1) := by decide +kernel
theorem dL_law_1316 : decode cL_law 1316 = .ok (.aload_n 0, 1) := by decide +kernel
theorem dL_law_1317 : decode cL_law 1317 = .ok (.iload 4, 2) := by decide +kernel
theorem dL_law_1319 : decode cL_law 1319 = .ok (.iconst 1, 1) := by decide +kernel
theorem dL_law_1320 : decode cL_law 1320 = .ok (.iadd, 1) := by decide +kernel
theorem dL_law_1321 : decode cL_law 1321 = .ok (.iaload, 1) := by decide +kernel
theorem dL_law_1322 : decode cL_law 1322 = .ok (.aload_n 0, 1) := by decide +kernel
theorem dL_law_1323 : decode cL_law 1323 = .ok (.iload 4, 2) := by decide +kernel
theorem dL_law_1325 : decode cL_law 1325 = .ok (.iconst 2, 1) := by decide +kernel
theorem dL_law_1326 : decode cL_law 1326 = .ok (.iadd, 1) := by decide +kernel
theorem dL_law_1327 : decode cL_law 1327 = .ok (.iaload, 1) := by decide +kernel
theorem dL_law_1328 : decode cL_law 1328 = .ok (.aload_n 0, 1) := by decide +kernel
theorem dL_law_1329 : decode cL_law 1329 = .ok (.iload 4, 2) := by decide +kernel
theorem dL_law_1331 : decode cL_law 1331 = .ok (.iconst 3, 1) := by decide +kernel
theorem dL_law_1332 : decode cL_law 1332 = .ok (.iadd, 1) := by decide +kernel
theorem dL_law_1333 : decode cL_law 1333 = .ok (.iaload, 1) := by decide +kernel
theorem dL_law_1334 : decode cL_law 1334 = .ok (.invokevirtual 134, 3) := by decide +kernel
theorem dL_law_1337 : decode cL_law 1337 = .ok (.if_icmp .eq 67, 3) := by decide +kernel
theorem dL_law_1340 : decode cL_law 1340 = .ok (.iconst 0, 1) := by decide +kernel
theorem dL_law_1341 : decode cL_law 1341 = .ok (.ireturn, 1) := by decide +kernel
theorem dL_law_1342 : decode cL_law 1342 = .ok (.aload_n 1, 1) := by decide +kernel
theorem dL_law_1343 : decode cL_law 1343 = .ok (.aload_n 0, 1) := by decide +kernel
theorem dL_law_1344 : decode cL_law 1344 = .ok (.iload 4, 2) := by decide +kernel
theorem dL_law_1346 : decode cL_law 1346 = .ok (.iconst 1, 1) := by decide +kernel
theorem dL_law_1347 : decode cL_law 1347 = .ok (.iadd, 1) := by decide +kernel
theorem dL_law_1348 : decode cL_law 1348 = .ok (.iaload, 1) := by decide +kernel
theorem dL_law_1349 : decode cL_law 1349 = .ok (.aload_n 0, 1) := by decide +kernel
theorem dL_law_1350 : decode cL_law 1350 = .ok (.iload 4, 2) := by decide +kernel
theorem dL_law_1352 : decode cL_law 1352 = .ok (.iconst 2, 1) := by decide +kernel
theorem dL_law_1353 : decode cL_law 1353 = .ok (.iadd, 1) := by decide +kernel
theorem dL_law_1354 : decode cL_law 1354 = .ok (.iaload, 1) := by decide +kernel
theorem dL_law_1355 : decode cL_law 1355 = .ok (.invokevirtual 135, 3) := by decide +kernel
theorem dL_law_1358 : decode cL_law 1358 = .ok (.aload_n 2, 1) := by decide +kernel
theorem dL_law_1359 : decode cL_law 1359 = .ok (.aload_n 0, 1) := by decide +kernel
theorem dL_law_1360 : decode cL_law 1360 = .ok (.iload 4, 2) := by decide +kernel
theorem dL_law_1362 : decode cL_law 1362 = .ok (.iconst 1, 1) := by decide +kernel
theorem dL_law_1363 : decode cL_law 1363 = .ok (.iadd, 1) := by decide +kernel
theorem dL_law_1364 : decode cL_law 1364 = .ok (.iaload, 1) := by decide +kernel
theorem dL_law_1365 : decode cL_law 1365 = .ok (.aload_n 0, 1) := by decide +kernel
theorem dL_law_1366 : decode cL_law 1366 = .ok (.iload 4, 2) := by decide +kernel
theorem dL_law_1368 : decode cL_law 1368 = .ok (.iconst 2, 1) := by decide +kernel
theorem dL_law_1369 : decode cL_law 1369 = .ok (.iadd, 1) := by decide +kernel
theorem dL_law_1370 : decode cL_law 1370 = .ok (.iaload, 1) := by decide +kernel
theorem dL_law_1371 : decode cL_law 1371 = .ok (.invokevirtual 138, 3) := by decide +kernel
theorem dL_law_1374 : decode cL_law 1374 = .ok (.if_icmp .eq 30, 3) := by decide +kernel
theorem dL_law_1377 : decode cL_law 1377 = .ok (.iconst 0, 1) := by decide +kernel
theorem dL_law_1378 : decode cL_law 1378 = .ok (.ireturn, 1) := by decide +kernel
theorem dL_law_1379 : decode cL_law 1379 = .ok (.aload_n 1, 1) := by decide +kernel
theorem dL_law_1380 : decode cL_law 1380 = .ok (.aload_n 0, 1) := by decide +kernel
theorem dL_law_1381 : decode cL_law 1381 = .ok (.iload 4, 2) := by decide +kernel
theorem dL_law_1383 : decode cL_law 1383 = .ok (.iconst 1, 1) := by decide +kernel
theorem dL_law_1384 : decode cL_law 1384 = .ok (.iadd, 1) := by decide +kernel
theorem dL_law_1385 : decode cL_law 1385 = .ok (.iaload, 1) := by decide +kernel
theorem dL_law_1386 : decode cL_law 1386 = .ok (.invokevirtual 139, 3) := by decide +kernel
theorem dL_law_1389 : decode cL_law 1389 = .ok (.aload_n 2, 1) := by decide +kernel
theorem dL_law_1390 : decode cL_law 1390 = .ok (.aload_n 0, 1) := by decide +kernel
theorem dL_law_1391 : decode cL_law 1391 = .ok (.iload 4, 2) := by decide +kernel
theorem dL_law_1393 : decode cL_law 1393 = .ok (.iconst 1, 1) := by decide +kernel
theorem dL_law_1394 : decode cL_law 1394 = .ok (.iadd, 1) := by decide +kernel
theorem dL_law_1395 : decode cL_law 1395 = .ok (.iaload, 1) := by decide +kernel
theorem dL_law_1396 : decode cL_law 1396 = .ok (.invokevirtual 142, 3) := by decide +kernel
theorem dL_law_1399 : decode cL_law 1399 = .ok (.if_icmp .eq 5, 3) := by decide +kernel
theorem dL_law_1402 : decode cL_law 1402 = .ok (.iconst 0, 1) := by decide +kernel
theorem dL_law_1403 : decode cL_law 1403 = .ok (.ireturn, 1) := by decide +kernel
theorem dL_law_1404 : decode cL_law 1404 = .ok (.iinc 4 6, 3) := by decide +kernel
theorem dL_law_1407 : decode cL_law 1407 = .ok (.goto (-1384), 3) := by decide +kernel
theorem dL_law_1410 : decode cL_law 1410 = .ok (.iconst 1, 1) := by decide +kernel
theorem dL_law_1411 : decode cL_law 1411 = .ok (.ireturn, 1) := by decide +kernel
def lvL (n b : Nat) (i : Int32) : List (Nat × Value) := [(4, .int i), (3, .ref (n + 817)), (2, .ref (n + 171)), (1, .ref n), (0, .ref b)]
def lawK (p : Program) (l : Launch) (e : Env) (s : State) (m : MethodId) (below : List Frame) (meth : Method) (c : Code) (b : Nat) (D : hG) (n : Nat) (i : Int32) (pc kc ks : Nat) : Prop := ∀ (h : AH) (H : Heap) (locs : List Loc) (ls : Array Slot), hR D s.heap.size h H → va_S (hA s.heap.size) s.heap H locs → lv_has ls 7 (lvL n b i) → (∃ S f, PI n (n + 171) h S ∧ h.1 (n + 817) = some (.inl (1, 1, .inr (.inl f)))) → W p l e room_1 s m #[Value.ref b] below meth c H locs kc ks (lw_Z below #[Value.ref b] s) (F0 m pc ls [])
set_option maxRecDepth 100000 in
set_option maxHeartbeats 4000000 in
theorem law_c0 {p : Program} {l : Launch} {e : Env} {s : State} {m : MethodId} {below : List Frame} {meth : Method} {c : Code} {b L n : Nat} {xs : Nat → Int32} {i : Int32} {D : hG} {kc ks : Nat} (C0 : lw_At p s m meth c b L xs) (hk : hK D s) (v1 : vp_in (i + 1) L) (v2 : vp_in (i + 2) L) (v3 : vp_in (i + 3) L) (v4 : vp_in (i + 4) L) (v5 : vp_in (i + 5) L) (hcc : kc ≤ room_1.cells) (hss : ks ≤ room_1.slots) (nx : lawK p l e s m below meth c b D n i 1404 kc ks) : lawK p l e s m below meth c b D n i 164 kc ks := by
  obtain ⟨hx, hb, hrt, hml, hown0, hts0, hX, hbl, hlk, hgv⟩ := C0
  have hown : s.vm.findClass RL = some m.cls := hown0
  have hts : ∀ w ∈ bg, w.before #[Value.ref b] s = true := fun w hw => hts0 w (List.mem_filter.mp hw).1
  have hbA : ¬ hA s.heap.size b := Nat.not_le.mpr hbl
  have hz : s.heap.size ≤ s.heap.size := Nat.le_refl _
  intro h H locs ls hr hS hl0 hI
  obtain ⟨S, f, I, ha⟩ := hI
  have hl : lv_has ls 7 [(4, .int i), (3, .ref (n + 817)), (2, .ref (n + 171)), (1, .ref n), (0, .ref b)] := hl0
  obtain ⟨r, h1, h2, S2, e1, e2, I2, K, k1, k2⟩ := two_set I (xs (i + (1 : Int32)).toNatClampNeg) (((xs (i + (2 : Int32)).toNatClampNeg).toInt64 <<< ((32 : Int32).toInt64 &&& 63)) ||| ((xs (i + (3 : Int32)).toNatClampNeg).toInt64 &&& (4294967295 : Int64)))
  refine lv_aload_n hx hb dL_law_164 rfl (lv_at hl 3 rfl) ?_
  refine lv_aload_n hx hb dL_law_165 rfl (lv_at hl 4 rfl) ?_
  refine lv_iload hx hb dL_law_166 (lv_at hl 0 rfl) ?_
  refine lv_iconst (v := 1) hx hb dL_law_168 (by decide) ?_
  refine lv_iadd hx hb dL_law_169 ?_
  refine va_sld hx hb hX hbl hbA hS v1 dL_law_170 ?_
  refine lv_aload_n hx hb dL_law_171 rfl (lv_at hl 4 rfl) ?_
  refine lv_iload hx hb dL_law_172 (lv_at hl 0 rfl) ?_
  refine lv_iconst (v := 2) hx hb dL_law_174 (by decide) ?_
  refine lv_iadd hx hb dL_law_175 ?_
  refine va_sld hx hb hX hbl hbA hS v2 dL_law_176 ?_
  refine lv_i2l hx hb dL_law_177 rfl ?_
  refine lv_bipush (v := 32) hx hb dL_law_178 (by decide) ?_
  refine lv_lshl hx hb dL_law_180 rfl ?_
  refine lv_aload_n hx hb dL_law_181 rfl (lv_at hl 4 rfl) ?_
  refine lv_iload hx hb dL_law_182 (lv_at hl 0 rfl) ?_
  refine lv_iconst (v := 3) hx hb dL_law_184 (by decide) ?_
  refine lv_iadd hx hb dL_law_185 ?_
  refine va_sld hx hb hX hbl hbA hS v3 dL_law_186 ?_
  refine lv_i2l hx hb dL_law_187 rfl ?_
  refine lv_ldc2 hx hb hown (hts _ tw_1217) dL_law_188 ?_
  refine lv_land hx hb dL_law_191 ?_
  refine lv_lor hx hb dL_law_192 ?_
  refine hv_V1 (n := 2) [.int (xs (i + (1 : Int32)).toNatClampNeg), .long (((xs (i + (2 : Int32)).toNatClampNeg).toInt64 <<< ((32 : Int32).toInt64 &&& 63)) ||| ((xs (i + (3 : Int32)).toNatClampNeg).toInt64 &&& (4294967295 : Int64)))] [] hx hb hml hown hts hk hr hz hS (zm_X9_set l D s.heap.size e1) k1 rfl tw_312 tw_313 tw_314 tw_1 tw_315 (by decide +kernel) (by decide) ⟨hcc, hss⟩ rfl hl.1 (Nat.le_of_ble_eq_true rfl) dL_law_193 rfl (fun H locs hr hS => ?_)
  refine lv_aload_n hx hb dL_law_196 rfl (lv_at hl 2 rfl) ?_
  refine lv_aload_n hx hb dL_law_197 rfl (lv_at hl 4 rfl) ?_
  refine lv_iload hx hb dL_law_198 (lv_at hl 0 rfl) ?_
  refine lv_iconst (v := 1) hx hb dL_law_200 (by decide) ?_
  refine lv_iadd hx hb dL_law_201 ?_
  refine va_sld hx hb hX hbl hbA hS v1 dL_law_202 ?_
  refine lv_aload_n hx hb dL_law_203 rfl (lv_at hl 4 rfl) ?_
  refine lv_iload hx hb dL_law_204 (lv_at hl 0 rfl) ?_
  refine lv_iconst (v := 2) hx hb dL_law_206 (by decide) ?_
  refine lv_iadd hx hb dL_law_207 ?_
  refine va_sld hx hb hX hbl hbA hS v2 dL_law_208 ?_
  refine lv_i2l hx hb dL_law_209 rfl ?_
  refine lv_bipush (v := 32) hx hb dL_law_210 (by decide) ?_
  refine lv_lshl hx hb dL_law_212 rfl ?_
  refine lv_aload_n hx hb dL_law_213 rfl (lv_at hl 4 rfl) ?_
  refine lv_iload hx hb dL_law_214 (lv_at hl 0 rfl) ?_
  refine lv_iconst (v := 3) hx hb dL_law_216 (by decide) ?_
  refine lv_iadd hx hb dL_law_217 ?_
  refine va_sld hx hb hX hbl hbA hS v3 dL_law_218 ?_
  refine lv_i2l hx hb dL_law_219 rfl ?_
  refine lv_ldc2 hx hb hown (hts _ tw_1217) dL_law_220 ?_
  refine lv_land hx hb dL_law_223 ?_
  refine lv_lor hx hb dL_law_224 ?_
  refine hv_V1 (n := 2) [.int (xs (i + (1 : Int32)).toNatClampNeg), .long (((xs (i + (2 : Int32)).toNatClampNeg).toInt64 <<< ((32 : Int32).toInt64 &&& 63)) ||| ((xs (i + (3 : Int32)).toNatClampNeg).toInt64 &&& (4294967295 : Int64)))] [.int r] hx hb hml hown hts hk hr hz hS (zm_X11_set l D s.heap.size e2) k2 rfl tw_952 tw_953 tw_954 tw_11 tw_955 (by decide +kernel) (by decide) ⟨hcc, hss⟩ rfl hl.1 (Nat.le_of_ble_eq_true rfl) dL_law_225 rfl (fun H locs hr hS => ?_)
  refine lv_icmp_eq (tgt := 1404) hx hb dL_law_228 (by decide) (fun _ => ?_) (fun q => absurd rfl q)
  exact nx h2 H locs ls hr hS hl ⟨_, f, I2, (K.2 _ (Or.inr (by omega))).trans ha⟩
set_option maxRecDepth 100000 in
set_option maxHeartbeats 4000000 in
theorem law_c1 {p : Program} {l : Launch} {e : Env} {s : State} {m : MethodId} {below : List Frame} {meth : Method} {c : Code} {b L n : Nat} {xs : Nat → Int32} {i : Int32} {D : hG} {kc ks : Nat} (C0 : lw_At p s m meth c b L xs) (hk : hK D s) (v1 : vp_in (i + 1) L) (v2 : vp_in (i + 2) L) (v3 : vp_in (i + 3) L) (v4 : vp_in (i + 4) L) (v5 : vp_in (i + 5) L) (hcc : kc ≤ room_1.cells) (hss : ks ≤ room_1.slots) (nx : lawK p l e s m below meth c b D n i 1404 kc ks) : lawK p l e s m below meth c b D n i 233 kc ks := by
  obtain ⟨hx, hb, hrt, hml, hown0, hts0, hX, hbl, hlk, hgv⟩ := C0
  have hown : s.vm.findClass RL = some m.cls := hown0
  have hts : ∀ w ∈ bg, w.before #[Value.ref b] s = true := fun w hw => hts0 w (List.mem_filter.mp hw).1
  have hbA : ¬ hA s.heap.size b := Nat.not_le.mpr hbl
  have hz : s.heap.size ≤ s.heap.size := Nat.le_refl _
  intro h H locs ls hr hS hl0 hI
  obtain ⟨S, f, I, ha⟩ := hI
  have hl : lv_has ls 7 [(4, .int i), (3, .ref (n + 817)), (2, .ref (n + 171)), (1, .ref n), (0, .ref b)] := hl0
  obtain ⟨r, h1, h2, S2, e1, e2, I2, K, k1, k2⟩ := two_feed I (((xs (i + (1 : Int32)).toNatClampNeg).toInt64 <<< ((32 : Int32).toInt64 &&& 63)) ||| ((xs (i + (2 : Int32)).toNatClampNeg).toInt64 &&& (4294967295 : Int64))) (xs (i + (3 : Int32)).toNatClampNeg)
  refine lv_aload_n hx hb dL_law_233 rfl (lv_at hl 3 rfl) ?_
  refine lv_aload_n hx hb dL_law_234 rfl (lv_at hl 4 rfl) ?_
  refine lv_iload hx hb dL_law_235 (lv_at hl 0 rfl) ?_
  refine lv_iconst (v := 1) hx hb dL_law_237 (by decide) ?_
  refine lv_iadd hx hb dL_law_238 ?_
  refine va_sld hx hb hX hbl hbA hS v1 dL_law_239 ?_
  refine lv_i2l hx hb dL_law_240 rfl ?_
  refine lv_bipush (v := 32) hx hb dL_law_241 (by decide) ?_
  refine lv_lshl hx hb dL_law_243 rfl ?_
  refine lv_aload_n hx hb dL_law_244 rfl (lv_at hl 4 rfl) ?_
  refine lv_iload hx hb dL_law_245 (lv_at hl 0 rfl) ?_
  refine lv_iconst (v := 2) hx hb dL_law_247 (by decide) ?_
  refine lv_iadd hx hb dL_law_248 ?_
  refine va_sld hx hb hX hbl hbA hS v2 dL_law_249 ?_
  refine lv_i2l hx hb dL_law_250 rfl ?_
  refine lv_ldc2 hx hb hown (hts _ tw_1217) dL_law_251 ?_
  refine lv_land hx hb dL_law_254 ?_
  refine lv_lor hx hb dL_law_255 ?_
  refine lv_aload_n hx hb dL_law_256 rfl (lv_at hl 4 rfl) ?_
  refine lv_iload hx hb dL_law_257 (lv_at hl 0 rfl) ?_
  refine lv_iconst (v := 3) hx hb dL_law_259 (by decide) ?_
  refine lv_iadd hx hb dL_law_260 ?_
  refine va_sld hx hb hX hbl hbA hS v3 dL_law_261 ?_
  refine hv_V1 (n := 2) [.long (((xs (i + (1 : Int32)).toNatClampNeg).toInt64 <<< ((32 : Int32).toInt64 &&& 63)) ||| ((xs (i + (2 : Int32)).toNatClampNeg).toInt64 &&& (4294967295 : Int64))), .int (xs (i + (3 : Int32)).toNatClampNeg)] [] hx hb hml hown hts hk hr hz hS (zm_X9_feed l D s.heap.size e1) k1 rfl tw_319 tw_320 tw_321 tw_1 tw_322 (by decide +kernel) (by decide) ⟨hcc, hss⟩ rfl hl.1 (Nat.le_of_ble_eq_true rfl) dL_law_262 rfl (fun H locs hr hS => ?_)
  refine lv_aload_n hx hb dL_law_265 rfl (lv_at hl 2 rfl) ?_
  refine lv_aload_n hx hb dL_law_266 rfl (lv_at hl 4 rfl) ?_
  refine lv_iload hx hb dL_law_267 (lv_at hl 0 rfl) ?_
  refine lv_iconst (v := 1) hx hb dL_law_269 (by decide) ?_
  refine lv_iadd hx hb dL_law_270 ?_
  refine va_sld hx hb hX hbl hbA hS v1 dL_law_271 ?_
  refine lv_i2l hx hb dL_law_272 rfl ?_
  refine lv_bipush (v := 32) hx hb dL_law_273 (by decide) ?_
  refine lv_lshl hx hb dL_law_275 rfl ?_
  refine lv_aload_n hx hb dL_law_276 rfl (lv_at hl 4 rfl) ?_
  refine lv_iload hx hb dL_law_277 (lv_at hl 0 rfl) ?_
  refine lv_iconst (v := 2) hx hb dL_law_279 (by decide) ?_
  refine lv_iadd hx hb dL_law_280 ?_
  refine va_sld hx hb hX hbl hbA hS v2 dL_law_281 ?_
  refine lv_i2l hx hb dL_law_282 rfl ?_
  refine lv_ldc2 hx hb hown (hts _ tw_1217) dL_law_283 ?_
  refine lv_land hx hb dL_law_286 ?_
  refine lv_lor hx hb dL_law_287 ?_
  refine lv_aload_n hx hb dL_law_288 rfl (lv_at hl 4 rfl) ?_
  refine lv_iload hx hb dL_law_289 (lv_at hl 0 rfl) ?_
  refine lv_iconst (v := 3) hx hb dL_law_291 (by decide) ?_
  refine lv_iadd hx hb dL_law_292 ?_
  refine va_sld hx hb hX hbl hbA hS v3 dL_law_293 ?_
  refine hv_V1 (n := 2) [.long (((xs (i + (1 : Int32)).toNatClampNeg).toInt64 <<< ((32 : Int32).toInt64 &&& 63)) ||| ((xs (i + (2 : Int32)).toNatClampNeg).toInt64 &&& (4294967295 : Int64))), .int (xs (i + (3 : Int32)).toNatClampNeg)] [.int r] hx hb hml hown hts hk hr hz hS (zm_X11_feed l D s.heap.size e2) k2 rfl tw_988 tw_989 tw_990 tw_11 tw_991 (by decide +kernel) (by decide) ⟨hcc, hss⟩ rfl hl.1 (Nat.le_of_ble_eq_true rfl) dL_law_294 rfl (fun H locs hr hS => ?_)
  refine lv_icmp_eq (tgt := 1404) hx hb dL_law_297 (by decide) (fun _ => ?_) (fun q => absurd rfl q)
  exact nx h2 H locs ls hr hS hl ⟨_, f, I2, (K.2 _ (Or.inr (by omega))).trans ha⟩
set_option maxRecDepth 100000 in
set_option maxHeartbeats 4000000 in
theorem law_c2 {p : Program} {l : Launch} {e : Env} {s : State} {m : MethodId} {below : List Frame} {meth : Method} {c : Code} {b L n : Nat} {xs : Nat → Int32} {i : Int32} {D : hG} {kc ks : Nat} (C0 : lw_At p s m meth c b L xs) (hk : hK D s) (v1 : vp_in (i + 1) L) (v2 : vp_in (i + 2) L) (v3 : vp_in (i + 3) L) (v4 : vp_in (i + 4) L) (v5 : vp_in (i + 5) L) (hcc : kc ≤ room_1.cells) (hss : ks ≤ room_1.slots) (nx : lawK p l e s m below meth c b D n i 1404 kc ks) : lawK p l e s m below meth c b D n i 302 kc ks := by
  obtain ⟨hx, hb, hrt, hml, hown0, hts0, hX, hbl, hlk, hgv⟩ := C0
  have hown : s.vm.findClass RL = some m.cls := hown0
  have hts : ∀ w ∈ bg, w.before #[Value.ref b] s = true := fun w hw => hts0 w (List.mem_filter.mp hw).1
  have hbA : ¬ hA s.heap.size b := Nat.not_le.mpr hbl
  have hz : s.heap.size ≤ s.heap.size := Nat.le_refl _
  intro h H locs ls hr hS hl0 hI
  obtain ⟨S, f, I, ha⟩ := hI
  have hl : lv_has ls 7 [(4, .int i), (3, .ref (n + 817)), (2, .ref (n + 171)), (1, .ref n), (0, .ref b)] := hl0
  obtain ⟨r, h1, h2, S2, e1, e2, I2, K, k1, k2⟩ := two_read I (xs (i + (1 : Int32)).toNatClampNeg) (xs (i + (2 : Int32)).toNatClampNeg)
  refine lv_aload_n hx hb dL_law_302 rfl (lv_at hl 3 rfl) ?_
  refine lv_aload_n hx hb dL_law_303 rfl (lv_at hl 4 rfl) ?_
  refine lv_iload hx hb dL_law_304 (lv_at hl 0 rfl) ?_
  refine lv_iconst (v := 1) hx hb dL_law_306 (by decide) ?_
  refine lv_iadd hx hb dL_law_307 ?_
  refine va_sld hx hb hX hbl hbA hS v1 dL_law_308 ?_
  refine lv_aload_n hx hb dL_law_309 rfl (lv_at hl 4 rfl) ?_
  refine lv_iload hx hb dL_law_310 (lv_at hl 0 rfl) ?_
  refine lv_iconst (v := 2) hx hb dL_law_312 (by decide) ?_
  refine lv_iadd hx hb dL_law_313 ?_
  refine va_sld hx hb hX hbl hbA hS v2 dL_law_314 ?_
  refine hv_V1 (n := 2) [.int (xs (i + (1 : Int32)).toNatClampNeg), .int (xs (i + (2 : Int32)).toNatClampNeg)] [] hx hb hml hown hts hk hr hz hS (zm_X9_read l D s.heap.size e1) k1 rfl tw_328 tw_329 tw_330 tw_1 tw_331 (by decide +kernel) (by decide) ⟨hcc, hss⟩ rfl hl.1 (Nat.le_of_ble_eq_true rfl) dL_law_315 rfl (fun H locs hr hS => ?_)
  refine lv_aload_n hx hb dL_law_318 rfl (lv_at hl 2 rfl) ?_
  refine lv_aload_n hx hb dL_law_319 rfl (lv_at hl 4 rfl) ?_
  refine lv_iload hx hb dL_law_320 (lv_at hl 0 rfl) ?_
  refine lv_iconst (v := 1) hx hb dL_law_322 (by decide) ?_
  refine lv_iadd hx hb dL_law_323 ?_
  refine va_sld hx hb hX hbl hbA hS v1 dL_law_324 ?_
  refine lv_aload_n hx hb dL_law_325 rfl (lv_at hl 4 rfl) ?_
  refine lv_iload hx hb dL_law_326 (lv_at hl 0 rfl) ?_
  refine lv_iconst (v := 2) hx hb dL_law_328 (by decide) ?_
  refine lv_iadd hx hb dL_law_329 ?_
  refine va_sld hx hb hX hbl hbA hS v2 dL_law_330 ?_
  refine hv_V1 (n := 2) [.int (xs (i + (1 : Int32)).toNatClampNeg), .int (xs (i + (2 : Int32)).toNatClampNeg)] [.int r] hx hb hml hown hts hk hr hz hS (zm_X11_read l D s.heap.size e2) k2 rfl tw_992 tw_993 tw_994 tw_11 tw_995 (by decide +kernel) (by decide) ⟨hcc, hss⟩ rfl hl.1 (Nat.le_of_ble_eq_true rfl) dL_law_331 rfl (fun H locs hr hS => ?_)
  refine lv_icmp_eq (tgt := 1404) hx hb dL_law_334 (by decide) (fun _ => ?_) (fun q => absurd rfl q)
  exact nx h2 H locs ls hr hS hl ⟨_, f, I2, (K.2 _ (Or.inr (by omega))).trans ha⟩
set_option maxRecDepth 100000 in
set_option maxHeartbeats 4000000 in
theorem law_c3 {p : Program} {l : Launch} {e : Env} {s : State} {m : MethodId} {below : List Frame} {meth : Method} {c : Code} {b L n : Nat} {xs : Nat → Int32} {i : Int32} {D : hG} {kc ks : Nat} (C0 : lw_At p s m meth c b L xs) (hk : hK D s) (v1 : vp_in (i + 1) L) (v2 : vp_in (i + 2) L) (v3 : vp_in (i + 3) L) (v4 : vp_in (i + 4) L) (v5 : vp_in (i + 5) L) (hcc : kc ≤ room_1.cells) (hss : ks ≤ room_1.slots) (nx : lawK p l e s m below meth c b D n i 1404 kc ks) : lawK p l e s m below meth c b D n i 339 kc ks := by
  obtain ⟨hx, hb, hrt, hml, hown0, hts0, hX, hbl, hlk, hgv⟩ := C0
  have hown : s.vm.findClass RL = some m.cls := hown0
  have hts : ∀ w ∈ bg, w.before #[Value.ref b] s = true := fun w hw => hts0 w (List.mem_filter.mp hw).1
  have hbA : ¬ hA s.heap.size b := Nat.not_le.mpr hbl
  have hz : s.heap.size ≤ s.heap.size := Nat.le_refl _
  intro h H locs ls hr hS hl0 hI
  obtain ⟨S, f, I, ha⟩ := hI
  have hl : lv_has ls 7 [(4, .int i), (3, .ref (n + 817)), (2, .ref (n + 171)), (1, .ref n), (0, .ref b)] := hl0
  obtain ⟨r, h1, h2, S2, e1, e2, I2, K, k1, k2⟩ := two_write I (xs (i + (1 : Int32)).toNatClampNeg) (xs (i + (2 : Int32)).toNatClampNeg)
  refine lv_aload_n hx hb dL_law_339 rfl (lv_at hl 3 rfl) ?_
  refine lv_aload_n hx hb dL_law_340 rfl (lv_at hl 4 rfl) ?_
  refine lv_iload hx hb dL_law_341 (lv_at hl 0 rfl) ?_
  refine lv_iconst (v := 1) hx hb dL_law_343 (by decide) ?_
  refine lv_iadd hx hb dL_law_344 ?_
  refine va_sld hx hb hX hbl hbA hS v1 dL_law_345 ?_
  refine lv_aload_n hx hb dL_law_346 rfl (lv_at hl 4 rfl) ?_
  refine lv_iload hx hb dL_law_347 (lv_at hl 0 rfl) ?_
  refine lv_iconst (v := 2) hx hb dL_law_349 (by decide) ?_
  refine lv_iadd hx hb dL_law_350 ?_
  refine va_sld hx hb hX hbl hbA hS v2 dL_law_351 ?_
  refine hv_V1 (n := 2) [.int (xs (i + (1 : Int32)).toNatClampNeg), .int (xs (i + (2 : Int32)).toNatClampNeg)] [] hx hb hml hown hts hk hr hz hS (zm_X9_write l D s.heap.size e1) k1 rfl tw_376 tw_377 tw_378 tw_1 tw_379 (by decide +kernel) (by decide) ⟨hcc, hss⟩ rfl hl.1 (Nat.le_of_ble_eq_true rfl) dL_law_352 rfl (fun H locs hr hS => ?_)
  refine lv_aload_n hx hb dL_law_355 rfl (lv_at hl 2 rfl) ?_
  refine lv_aload_n hx hb dL_law_356 rfl (lv_at hl 4 rfl) ?_
  refine lv_iload hx hb dL_law_357 (lv_at hl 0 rfl) ?_
  refine lv_iconst (v := 1) hx hb dL_law_359 (by decide) ?_
  refine lv_iadd hx hb dL_law_360 ?_
  refine va_sld hx hb hX hbl hbA hS v1 dL_law_361 ?_
  refine lv_aload_n hx hb dL_law_362 rfl (lv_at hl 4 rfl) ?_
  refine lv_iload hx hb dL_law_363 (lv_at hl 0 rfl) ?_
  refine lv_iconst (v := 2) hx hb dL_law_365 (by decide) ?_
  refine lv_iadd hx hb dL_law_366 ?_
  refine va_sld hx hb hX hbl hbA hS v2 dL_law_367 ?_
  refine hv_V1 (n := 2) [.int (xs (i + (1 : Int32)).toNatClampNeg), .int (xs (i + (2 : Int32)).toNatClampNeg)] [.int r] hx hb hml hown hts hk hr hz hS (zm_X11_write l D s.heap.size e2) k2 rfl tw_1032 tw_1033 tw_1034 tw_11 tw_1035 (by decide +kernel) (by decide) ⟨hcc, hss⟩ rfl hl.1 (Nat.le_of_ble_eq_true rfl) dL_law_368 rfl (fun H locs hr hS => ?_)
  refine lv_icmp_eq (tgt := 1404) hx hb dL_law_371 (by decide) (fun _ => ?_) (fun q => absurd rfl q)
  exact nx h2 H locs ls hr hS hl ⟨_, f, I2, (K.2 _ (Or.inr (by omega))).trans ha⟩
set_option maxRecDepth 100000 in
set_option maxHeartbeats 4000000 in
theorem law_c5 {p : Program} {l : Launch} {e : Env} {s : State} {m : MethodId} {below : List Frame} {meth : Method} {c : Code} {b L n : Nat} {xs : Nat → Int32} {i : Int32} {D : hG} {kc ks : Nat} (C0 : lw_At p s m meth c b L xs) (hk : hK D s) (v1 : vp_in (i + 1) L) (v2 : vp_in (i + 2) L) (v3 : vp_in (i + 3) L) (v4 : vp_in (i + 4) L) (v5 : vp_in (i + 5) L) (hcc : kc ≤ room_1.cells) (hss : ks ≤ room_1.slots) (nx : lawK p l e s m below meth c b D n i 1404 kc ks) : lawK p l e s m below meth c b D n i 432 kc ks := by
  obtain ⟨hx, hb, hrt, hml, hown0, hts0, hX, hbl, hlk, hgv⟩ := C0
  have hown : s.vm.findClass RL = some m.cls := hown0
  have hts : ∀ w ∈ bg, w.before #[Value.ref b] s = true := fun w hw => hts0 w (List.mem_filter.mp hw).1
  have hbA : ¬ hA s.heap.size b := Nat.not_le.mpr hbl
  have hz : s.heap.size ≤ s.heap.size := Nat.le_refl _
  intro h H locs ls hr hS hl0 hI
  obtain ⟨S, f, I, ha⟩ := hI
  have hl : lv_has ls 7 [(4, .int i), (3, .ref (n + 817)), (2, .ref (n + 171)), (1, .ref n), (0, .ref b)] := hl0
  obtain ⟨r, h2, e1, e2, I2, K, k1, k2⟩ := two_low I (xs (i + (1 : Int32)).toNatClampNeg)
  refine lv_aload_n hx hb dL_law_432 rfl (lv_at hl 3 rfl) ?_
  refine lv_aload_n hx hb dL_law_433 rfl (lv_at hl 4 rfl) ?_
  refine lv_iload hx hb dL_law_434 (lv_at hl 0 rfl) ?_
  refine lv_iconst (v := 1) hx hb dL_law_436 (by decide) ?_
  refine lv_iadd hx hb dL_law_437 ?_
  refine va_sld hx hb hX hbl hbA hS v1 dL_law_438 ?_
  refine hv_V1 (n := 1) [.int (xs (i + (1 : Int32)).toNatClampNeg)] [] hx hb hml hown hts hk hr hz hS (zm_X9_low l D s.heap.size e1) k1 rfl tw_407 tw_408 tw_409 tw_1 tw_410 (by decide +kernel) (by decide) ⟨hcc, hss⟩ rfl hl.1 (Nat.le_of_ble_eq_true rfl) dL_law_439 rfl (fun H locs hr hS => ?_)
  refine lv_aload_n hx hb dL_law_442 rfl (lv_at hl 2 rfl) ?_
  refine lv_aload_n hx hb dL_law_443 rfl (lv_at hl 4 rfl) ?_
  refine lv_iload hx hb dL_law_444 (lv_at hl 0 rfl) ?_
  refine lv_iconst (v := 1) hx hb dL_law_446 (by decide) ?_
  refine lv_iadd hx hb dL_law_447 ?_
  refine va_sld hx hb hX hbl hbA hS v1 dL_law_448 ?_
  refine hv_V1 (n := 1) [.int (xs (i + (1 : Int32)).toNatClampNeg)] [.long r] hx hb hml hown hts hk hr hz hS (zm_X11_low l D s.heap.size e2) k2 rfl tw_1065 tw_1066 tw_1067 tw_11 tw_1068 (by decide +kernel) (by decide) ⟨hcc, hss⟩ rfl hl.1 (Nat.le_of_ble_eq_true rfl) dL_law_449 rfl (fun H locs hr hS => ?_)
  refine hv_lc_eq (tgt := 1404) hx hb dL_law_452 dL_law_453 (by decide) (fun _ => ?_) (fun q => absurd rfl q)
  exact nx h2 H locs ls hr hS hl ⟨_, f, I2, (K.2 _ (Or.inr (by omega))).trans ha⟩
set_option maxRecDepth 100000 in
set_option maxHeartbeats 4000000 in
theorem law_c6 {p : Program} {l : Launch} {e : Env} {s : State} {m : MethodId} {below : List Frame} {meth : Method} {c : Code} {b L n : Nat} {xs : Nat → Int32} {i : Int32} {D : hG} {kc ks : Nat} (C0 : lw_At p s m meth c b L xs) (hk : hK D s) (v1 : vp_in (i + 1) L) (v2 : vp_in (i + 2) L) (v3 : vp_in (i + 3) L) (v4 : vp_in (i + 4) L) (v5 : vp_in (i + 5) L) (hcc : kc ≤ room_1.cells) (hss : ks ≤ room_1.slots) (nx : lawK p l e s m below meth c b D n i 1404 kc ks) : lawK p l e s m below meth c b D n i 458 kc ks := by
  obtain ⟨hx, hb, hrt, hml, hown0, hts0, hX, hbl, hlk, hgv⟩ := C0
  have hown : s.vm.findClass RL = some m.cls := hown0
  have hts : ∀ w ∈ bg, w.before #[Value.ref b] s = true := fun w hw => hts0 w (List.mem_filter.mp hw).1
  have hbA : ¬ hA s.heap.size b := Nat.not_le.mpr hbl
  have hz : s.heap.size ≤ s.heap.size := Nat.le_refl _
  intro h H locs ls hr hS hl0 hI
  obtain ⟨S, f, I, ha⟩ := hI
  have hl : lv_has ls 7 [(4, .int i), (3, .ref (n + 817)), (2, .ref (n + 171)), (1, .ref n), (0, .ref b)] := hl0
  obtain ⟨r, h2, e1, e2, I2, K, k1, k2⟩ := two_limbs I (xs (i + (1 : Int32)).toNatClampNeg)
  refine lv_aload_n hx hb dL_law_458 rfl (lv_at hl 3 rfl) ?_
  refine lv_aload_n hx hb dL_law_459 rfl (lv_at hl 4 rfl) ?_
  refine lv_iload hx hb dL_law_460 (lv_at hl 0 rfl) ?_
  refine lv_iconst (v := 1) hx hb dL_law_462 (by decide) ?_
  refine lv_iadd hx hb dL_law_463 ?_
  refine va_sld hx hb hX hbl hbA hS v1 dL_law_464 ?_
  refine hv_V1 (n := 1) [.int (xs (i + (1 : Int32)).toNatClampNeg)] [] hx hb hml hown hts hk hr hz hS (zm_X9_limbs l D s.heap.size e1) k1 rfl tw_419 tw_420 tw_421 tw_1 tw_422 (by decide +kernel) (by decide) ⟨hcc, hss⟩ rfl hl.1 (Nat.le_of_ble_eq_true rfl) dL_law_465 rfl (fun H locs hr hS => ?_)
  refine lv_aload_n hx hb dL_law_468 rfl (lv_at hl 2 rfl) ?_
  refine lv_aload_n hx hb dL_law_469 rfl (lv_at hl 4 rfl) ?_
  refine lv_iload hx hb dL_law_470 (lv_at hl 0 rfl) ?_
  refine lv_iconst (v := 1) hx hb dL_law_472 (by decide) ?_
  refine lv_iadd hx hb dL_law_473 ?_
  refine va_sld hx hb hX hbl hbA hS v1 dL_law_474 ?_
  refine hv_V1 (n := 1) [.int (xs (i + (1 : Int32)).toNatClampNeg)] [.int r] hx hb hml hown hts hk hr hz hS (zm_X11_limbs l D s.heap.size e2) k2 rfl tw_1072 tw_1073 tw_1074 tw_11 tw_1075 (by decide +kernel) (by decide) ⟨hcc, hss⟩ rfl hl.1 (Nat.le_of_ble_eq_true rfl) dL_law_475 rfl (fun H locs hr hS => ?_)
  refine lv_icmp_eq (tgt := 1404) hx hb dL_law_478 (by decide) (fun _ => ?_) (fun q => absurd rfl q)
  exact nx h2 H locs ls hr hS hl ⟨_, f, I2, (K.2 _ (Or.inr (by omega))).trans ha⟩
set_option maxRecDepth 100000 in
set_option maxHeartbeats 4000000 in
theorem law_c7 {p : Program} {l : Launch} {e : Env} {s : State} {m : MethodId} {below : List Frame} {meth : Method} {c : Code} {b L n : Nat} {xs : Nat → Int32} {i : Int32} {D : hG} {kc ks : Nat} (C0 : lw_At p s m meth c b L xs) (hk : hK D s) (v1 : vp_in (i + 1) L) (v2 : vp_in (i + 2) L) (v3 : vp_in (i + 3) L) (v4 : vp_in (i + 4) L) (v5 : vp_in (i + 5) L) (hcc : kc ≤ room_1.cells) (hss : ks ≤ room_1.slots) (nx : lawK p l e s m below meth c b D n i 1404 kc ks) : lawK p l e s m below meth c b D n i 483 kc ks := by
  obtain ⟨hx, hb, hrt, hml, hown0, hts0, hX, hbl, hlk, hgv⟩ := C0
  have hown : s.vm.findClass RL = some m.cls := hown0
  have hts : ∀ w ∈ bg, w.before #[Value.ref b] s = true := fun w hw => hts0 w (List.mem_filter.mp hw).1
  have hbA : ¬ hA s.heap.size b := Nat.not_le.mpr hbl
  have hz : s.heap.size ≤ s.heap.size := Nat.le_refl _
  intro h H locs ls hr hS hl0 hI
  obtain ⟨S, f, I, ha⟩ := hI
  have hl : lv_has ls 7 [(4, .int i), (3, .ref (n + 817)), (2, .ref (n + 171)), (1, .ref n), (0, .ref b)] := hl0
  obtain ⟨r, h2, e1, e2, I2, K, k1, k2⟩ := two_limb I (xs (i + (1 : Int32)).toNatClampNeg) (xs (i + (2 : Int32)).toNatClampNeg)
  refine lv_aload_n hx hb dL_law_483 rfl (lv_at hl 3 rfl) ?_
  refine lv_aload_n hx hb dL_law_484 rfl (lv_at hl 4 rfl) ?_
  refine lv_iload hx hb dL_law_485 (lv_at hl 0 rfl) ?_
  refine lv_iconst (v := 1) hx hb dL_law_487 (by decide) ?_
  refine lv_iadd hx hb dL_law_488 ?_
  refine va_sld hx hb hX hbl hbA hS v1 dL_law_489 ?_
  refine lv_aload_n hx hb dL_law_490 rfl (lv_at hl 4 rfl) ?_
  refine lv_iload hx hb dL_law_491 (lv_at hl 0 rfl) ?_
  refine lv_iconst (v := 2) hx hb dL_law_493 (by decide) ?_
  refine lv_iadd hx hb dL_law_494 ?_
  refine va_sld hx hb hX hbl hbA hS v2 dL_law_495 ?_
  refine hv_V1 (n := 2) [.int (xs (i + (1 : Int32)).toNatClampNeg), .int (xs (i + (2 : Int32)).toNatClampNeg)] [] hx hb hml hown hts hk hr hz hS (zm_X9_limb l D s.heap.size e1) k1 rfl tw_428 tw_429 tw_430 tw_1 tw_431 (by decide +kernel) (by decide) ⟨hcc, hss⟩ rfl hl.1 (Nat.le_of_ble_eq_true rfl) dL_law_496 rfl (fun H locs hr hS => ?_)
  refine lv_aload_n hx hb dL_law_499 rfl (lv_at hl 2 rfl) ?_
  refine lv_aload_n hx hb dL_law_500 rfl (lv_at hl 4 rfl) ?_
  refine lv_iload hx hb dL_law_501 (lv_at hl 0 rfl) ?_
  refine lv_iconst (v := 1) hx hb dL_law_503 (by decide) ?_
  refine lv_iadd hx hb dL_law_504 ?_
  refine va_sld hx hb hX hbl hbA hS v1 dL_law_505 ?_
  refine lv_aload_n hx hb dL_law_506 rfl (lv_at hl 4 rfl) ?_
  refine lv_iload hx hb dL_law_507 (lv_at hl 0 rfl) ?_
  refine lv_iconst (v := 2) hx hb dL_law_509 (by decide) ?_
  refine lv_iadd hx hb dL_law_510 ?_
  refine va_sld hx hb hX hbl hbA hS v2 dL_law_511 ?_
  refine hv_V1 (n := 2) [.int (xs (i + (1 : Int32)).toNatClampNeg), .int (xs (i + (2 : Int32)).toNatClampNeg)] [.long r] hx hb hml hown hts hk hr hz hS (zm_X11_limb l D s.heap.size e2) k2 rfl tw_1083 tw_1084 tw_1085 tw_11 tw_1086 (by decide +kernel) (by decide) ⟨hcc, hss⟩ rfl hl.1 (Nat.le_of_ble_eq_true rfl) dL_law_512 rfl (fun H locs hr hS => ?_)
  refine hv_lc_eq (tgt := 1404) hx hb dL_law_515 dL_law_516 (by decide) (fun _ => ?_) (fun q => absurd rfl q)
  exact nx h2 H locs ls hr hS hl ⟨_, f, I2, (K.2 _ (Or.inr (by omega))).trans ha⟩
set_option maxRecDepth 100000 in
set_option maxHeartbeats 4000000 in
theorem law_c8 {p : Program} {l : Launch} {e : Env} {s : State} {m : MethodId} {below : List Frame} {meth : Method} {c : Code} {b L n : Nat} {xs : Nat → Int32} {i : Int32} {D : hG} {kc ks : Nat} (C0 : lw_At p s m meth c b L xs) (hk : hK D s) (v1 : vp_in (i + 1) L) (v2 : vp_in (i + 2) L) (v3 : vp_in (i + 3) L) (v4 : vp_in (i + 4) L) (v5 : vp_in (i + 5) L) (hcc : kc ≤ room_1.cells) (hss : ks ≤ room_1.slots) (nx : lawK p l e s m below meth c b D n i 1404 kc ks) : lawK p l e s m below meth c b D n i 521 kc ks := by
  obtain ⟨hx, hb, hrt, hml, hown0, hts0, hX, hbl, hlk, hgv⟩ := C0
  have hown : s.vm.findClass RL = some m.cls := hown0
  have hts : ∀ w ∈ bg, w.before #[Value.ref b] s = true := fun w hw => hts0 w (List.mem_filter.mp hw).1
  have hbA : ¬ hA s.heap.size b := Nat.not_le.mpr hbl
  have hz : s.heap.size ≤ s.heap.size := Nat.le_refl _
  intro h H locs ls hr hS hl0 hI
  obtain ⟨S, f, I, ha⟩ := hI
  have hl : lv_has ls 7 [(4, .int i), (3, .ref (n + 817)), (2, .ref (n + 171)), (1, .ref n), (0, .ref b)] := hl0
  obtain ⟨r, h2, e1, e2, I2, K, k1, k2⟩ := two_compare I (xs (i + (1 : Int32)).toNatClampNeg) (xs (i + (2 : Int32)).toNatClampNeg)
  refine lv_aload_n hx hb dL_law_521 rfl (lv_at hl 3 rfl) ?_
  refine lv_aload_n hx hb dL_law_522 rfl (lv_at hl 4 rfl) ?_
  refine lv_iload hx hb dL_law_523 (lv_at hl 0 rfl) ?_
  refine lv_iconst (v := 1) hx hb dL_law_525 (by decide) ?_
  refine lv_iadd hx hb dL_law_526 ?_
  refine va_sld hx hb hX hbl hbA hS v1 dL_law_527 ?_
  refine lv_aload_n hx hb dL_law_528 rfl (lv_at hl 4 rfl) ?_
  refine lv_iload hx hb dL_law_529 (lv_at hl 0 rfl) ?_
  refine lv_iconst (v := 2) hx hb dL_law_531 (by decide) ?_
  refine lv_iadd hx hb dL_law_532 ?_
  refine va_sld hx hb hX hbl hbA hS v2 dL_law_533 ?_
  refine hv_V1 (n := 2) [.int (xs (i + (1 : Int32)).toNatClampNeg), .int (xs (i + (2 : Int32)).toNatClampNeg)] [] hx hb hml hown hts hk hr hz hS (zm_X9_compare l D s.heap.size e1) k1 rfl tw_433 tw_434 tw_435 tw_1 tw_436 (by decide +kernel) (by decide) ⟨hcc, hss⟩ rfl hl.1 (Nat.le_of_ble_eq_true rfl) dL_law_534 rfl (fun H locs hr hS => ?_)
  refine lv_aload_n hx hb dL_law_537 rfl (lv_at hl 2 rfl) ?_
  refine lv_aload_n hx hb dL_law_538 rfl (lv_at hl 4 rfl) ?_
  refine lv_iload hx hb dL_law_539 (lv_at hl 0 rfl) ?_
  refine lv_iconst (v := 1) hx hb dL_law_541 (by decide) ?_
  refine lv_iadd hx hb dL_law_542 ?_
  refine va_sld hx hb hX hbl hbA hS v1 dL_law_543 ?_
  refine lv_aload_n hx hb dL_law_544 rfl (lv_at hl 4 rfl) ?_
  refine lv_iload hx hb dL_law_545 (lv_at hl 0 rfl) ?_
  refine lv_iconst (v := 2) hx hb dL_law_547 (by decide) ?_
  refine lv_iadd hx hb dL_law_548 ?_
  refine va_sld hx hb hX hbl hbA hS v2 dL_law_549 ?_
  refine hv_V1 (n := 2) [.int (xs (i + (1 : Int32)).toNatClampNeg), .int (xs (i + (2 : Int32)).toNatClampNeg)] [.int r] hx hb hml hown hts hk hr hz hS (zm_X11_compare_ l D s.heap.size e2) k2 rfl tw_1087 tw_1088 tw_1089 tw_11 tw_1090 (by decide +kernel) (by decide) ⟨hcc, hss⟩ rfl hl.1 (Nat.le_of_ble_eq_true rfl) dL_law_550 rfl (fun H locs hr hS => ?_)
  refine lv_icmp_eq (tgt := 1404) hx hb dL_law_553 (by decide) (fun _ => ?_) (fun q => absurd rfl q)
  exact nx h2 H locs ls hr hS hl ⟨_, f, I2, (K.2 _ (Or.inr (by omega))).trans ha⟩
set_option maxRecDepth 100000 in
set_option maxHeartbeats 4000000 in
theorem law_c9 {p : Program} {l : Launch} {e : Env} {s : State} {m : MethodId} {below : List Frame} {meth : Method} {c : Code} {b L n : Nat} {xs : Nat → Int32} {i : Int32} {D : hG} {kc ks : Nat} (C0 : lw_At p s m meth c b L xs) (hk : hK D s) (v1 : vp_in (i + 1) L) (v2 : vp_in (i + 2) L) (v3 : vp_in (i + 3) L) (v4 : vp_in (i + 4) L) (v5 : vp_in (i + 5) L) (hcc : kc ≤ room_1.cells) (hss : ks ≤ room_1.slots) (nx : lawK p l e s m below meth c b D n i 1404 kc ks) : lawK p l e s m below meth c b D n i 558 kc ks := by
  obtain ⟨hx, hb, hrt, hml, hown0, hts0, hX, hbl, hlk, hgv⟩ := C0
  have hown : s.vm.findClass RL = some m.cls := hown0
  have hts : ∀ w ∈ bg, w.before #[Value.ref b] s = true := fun w hw => hts0 w (List.mem_filter.mp hw).1
  have hbA : ¬ hA s.heap.size b := Nat.not_le.mpr hbl
  have hz : s.heap.size ≤ s.heap.size := Nat.le_refl _
  intro h H locs ls hr hS hl0 hI
  obtain ⟨S, f, I, ha⟩ := hI
  have hl : lv_has ls 7 [(4, .int i), (3, .ref (n + 817)), (2, .ref (n + 171)), (1, .ref n), (0, .ref b)] := hl0
  obtain ⟨r, h1, h2, S2, e1, e2, I2, K, k1, k2⟩ := two_act I (xs (i + (1 : Int32)).toNatClampNeg) (xs (i + (2 : Int32)).toNatClampNeg) (xs (i + (3 : Int32)).toNatClampNeg) (xs (i + (4 : Int32)).toNatClampNeg)
  refine lv_aload_n hx hb dL_law_558 rfl (lv_at hl 3 rfl) ?_
  refine lv_aload_n hx hb dL_law_559 rfl (lv_at hl 4 rfl) ?_
  refine lv_iload hx hb dL_law_560 (lv_at hl 0 rfl) ?_
  refine lv_iconst (v := 1) hx hb dL_law_562 (by decide) ?_
  refine lv_iadd hx hb dL_law_563 ?_
  refine va_sld hx hb hX hbl hbA hS v1 dL_law_564 ?_
  refine lv_aload_n hx hb dL_law_565 rfl (lv_at hl 4 rfl) ?_
  refine lv_iload hx hb dL_law_566 (lv_at hl 0 rfl) ?_
  refine lv_iconst (v := 2) hx hb dL_law_568 (by decide) ?_
  refine lv_iadd hx hb dL_law_569 ?_
  refine va_sld hx hb hX hbl hbA hS v2 dL_law_570 ?_
  refine lv_aload_n hx hb dL_law_571 rfl (lv_at hl 4 rfl) ?_
  refine lv_iload hx hb dL_law_572 (lv_at hl 0 rfl) ?_
  refine lv_iconst (v := 3) hx hb dL_law_574 (by decide) ?_
  refine lv_iadd hx hb dL_law_575 ?_
  refine va_sld hx hb hX hbl hbA hS v3 dL_law_576 ?_
  refine lv_aload_n hx hb dL_law_577 rfl (lv_at hl 4 rfl) ?_
  refine lv_iload hx hb dL_law_578 (lv_at hl 0 rfl) ?_
  refine lv_iconst (v := 4) hx hb dL_law_580 (by decide) ?_
  refine lv_iadd hx hb dL_law_581 ?_
  refine va_sld hx hb hX hbl hbA hS v4 dL_law_582 ?_
  refine hv_V1 (n := 4) [.int (xs (i + (1 : Int32)).toNatClampNeg), .int (xs (i + (2 : Int32)).toNatClampNeg), .int (xs (i + (3 : Int32)).toNatClampNeg), .int (xs (i + (4 : Int32)).toNatClampNeg)] [] hx hb hml hown hts hk hr hz hS (zm_X9_act l D s.heap.size e1) k1 rfl tw_443 tw_444 tw_445 tw_1 tw_446 (by decide +kernel) (by decide) ⟨hcc, hss⟩ rfl hl.1 (Nat.le_of_ble_eq_true rfl) dL_law_583 rfl (fun H locs hr hS => ?_)
  refine lv_aload_n hx hb dL_law_586 rfl (lv_at hl 2 rfl) ?_
  refine lv_aload_n hx hb dL_law_587 rfl (lv_at hl 4 rfl) ?_
  refine lv_iload hx hb dL_law_588 (lv_at hl 0 rfl) ?_
  refine lv_iconst (v := 1) hx hb dL_law_590 (by decide) ?_
  refine lv_iadd hx hb dL_law_591 ?_
  refine va_sld hx hb hX hbl hbA hS v1 dL_law_592 ?_
  refine lv_aload_n hx hb dL_law_593 rfl (lv_at hl 4 rfl) ?_
  refine lv_iload hx hb dL_law_594 (lv_at hl 0 rfl) ?_
  refine lv_iconst (v := 2) hx hb dL_law_596 (by decide) ?_
  refine lv_iadd hx hb dL_law_597 ?_
  refine va_sld hx hb hX hbl hbA hS v2 dL_law_598 ?_
  refine lv_aload_n hx hb dL_law_599 rfl (lv_at hl 4 rfl) ?_
  refine lv_iload hx hb dL_law_600 (lv_at hl 0 rfl) ?_
  refine lv_iconst (v := 3) hx hb dL_law_602 (by decide) ?_
  refine lv_iadd hx hb dL_law_603 ?_
  refine va_sld hx hb hX hbl hbA hS v3 dL_law_604 ?_
  refine lv_aload_n hx hb dL_law_605 rfl (lv_at hl 4 rfl) ?_
  refine lv_iload hx hb dL_law_606 (lv_at hl 0 rfl) ?_
  refine lv_iconst (v := 4) hx hb dL_law_608 (by decide) ?_
  refine lv_iadd hx hb dL_law_609 ?_
  refine va_sld hx hb hX hbl hbA hS v4 dL_law_610 ?_
  refine hv_V1 (n := 4) [.int (xs (i + (1 : Int32)).toNatClampNeg), .int (xs (i + (2 : Int32)).toNatClampNeg), .int (xs (i + (3 : Int32)).toNatClampNeg), .int (xs (i + (4 : Int32)).toNatClampNeg)] [.int r] hx hb hml hown hts hk hr hz hS (zm_X11_act l D s.heap.size e2) k2 rfl tw_1091 tw_1092 tw_1093 tw_11 tw_1094 (by decide +kernel) (by decide) ⟨hcc, hss⟩ rfl hl.1 (Nat.le_of_ble_eq_true rfl) dL_law_611 rfl (fun H locs hr hS => ?_)
  refine lv_icmp_eq (tgt := 1404) hx hb dL_law_614 (by decide) (fun _ => ?_) (fun q => absurd rfl q)
  exact nx h2 H locs ls hr hS hl ⟨_, f, I2, (K.2 _ (Or.inr (by omega))).trans ha⟩
set_option maxRecDepth 100000 in
set_option maxHeartbeats 4000000 in
theorem law_c10 {p : Program} {l : Launch} {e : Env} {s : State} {m : MethodId} {below : List Frame} {meth : Method} {c : Code} {b L n : Nat} {xs : Nat → Int32} {i : Int32} {D : hG} {kc ks : Nat} (C0 : lw_At p s m meth c b L xs) (hk : hK D s) (v1 : vp_in (i + 1) L) (v2 : vp_in (i + 2) L) (v3 : vp_in (i + 3) L) (v4 : vp_in (i + 4) L) (v5 : vp_in (i + 5) L) (hcc : kc ≤ room_1.cells) (hss : ks ≤ room_1.slots) (nx : lawK p l e s m below meth c b D n i 1404 kc ks) : lawK p l e s m below meth c b D n i 619 kc ks := by
  obtain ⟨hx, hb, hrt, hml, hown0, hts0, hX, hbl, hlk, hgv⟩ := C0
  have hown : s.vm.findClass RL = some m.cls := hown0
  have hts : ∀ w ∈ bg, w.before #[Value.ref b] s = true := fun w hw => hts0 w (List.mem_filter.mp hw).1
  have hbA : ¬ hA s.heap.size b := Nat.not_le.mpr hbl
  have hz : s.heap.size ≤ s.heap.size := Nat.le_refl _
  intro h H locs ls hr hS hl0 hI
  obtain ⟨S, f, I, ha⟩ := hI
  have hl : lv_has ls 7 [(4, .int i), (3, .ref (n + 817)), (2, .ref (n + 171)), (1, .ref n), (0, .ref b)] := hl0
  obtain ⟨r, h1, h2, S2, e1, e2, I2, K, k1, k2⟩ := two_over I (xs (i + (1 : Int32)).toNatClampNeg) (xs (i + (2 : Int32)).toNatClampNeg) (xs (i + (3 : Int32)).toNatClampNeg) (xs (i + (4 : Int32)).toNatClampNeg) (xs (i + (5 : Int32)).toNatClampNeg)
  refine lv_aload_n hx hb dL_law_619 rfl (lv_at hl 3 rfl) ?_
  refine lv_aload_n hx hb dL_law_620 rfl (lv_at hl 4 rfl) ?_
  refine lv_iload hx hb dL_law_621 (lv_at hl 0 rfl) ?_
  refine lv_iconst (v := 1) hx hb dL_law_623 (by decide) ?_
  refine lv_iadd hx hb dL_law_624 ?_
  refine va_sld hx hb hX hbl hbA hS v1 dL_law_625 ?_
  refine lv_aload_n hx hb dL_law_626 rfl (lv_at hl 4 rfl) ?_
  refine lv_iload hx hb dL_law_627 (lv_at hl 0 rfl) ?_
  refine lv_iconst (v := 2) hx hb dL_law_629 (by decide) ?_
  refine lv_iadd hx hb dL_law_630 ?_
  refine va_sld hx hb hX hbl hbA hS v2 dL_law_631 ?_
  refine lv_aload_n hx hb dL_law_632 rfl (lv_at hl 4 rfl) ?_
  refine lv_iload hx hb dL_law_633 (lv_at hl 0 rfl) ?_
  refine lv_iconst (v := 3) hx hb dL_law_635 (by decide) ?_
  refine lv_iadd hx hb dL_law_636 ?_
  refine va_sld hx hb hX hbl hbA hS v3 dL_law_637 ?_
  refine lv_aload_n hx hb dL_law_638 rfl (lv_at hl 4 rfl) ?_
  refine lv_iload hx hb dL_law_639 (lv_at hl 0 rfl) ?_
  refine lv_iconst (v := 4) hx hb dL_law_641 (by decide) ?_
  refine lv_iadd hx hb dL_law_642 ?_
  refine va_sld hx hb hX hbl hbA hS v4 dL_law_643 ?_
  refine lv_aload_n hx hb dL_law_644 rfl (lv_at hl 4 rfl) ?_
  refine lv_iload hx hb dL_law_645 (lv_at hl 0 rfl) ?_
  refine lv_iconst (v := 5) hx hb dL_law_647 (by decide) ?_
  refine lv_iadd hx hb dL_law_648 ?_
  refine va_sld hx hb hX hbl hbA hS v5 dL_law_649 ?_
  refine hv_V1 (n := 5) [.int (xs (i + (1 : Int32)).toNatClampNeg), .int (xs (i + (2 : Int32)).toNatClampNeg), .int (xs (i + (3 : Int32)).toNatClampNeg), .int (xs (i + (4 : Int32)).toNatClampNeg), .int (xs (i + (5 : Int32)).toNatClampNeg)] [] hx hb hml hown hts hk hr hz hS (zm_X9_over l D s.heap.size e1) k1 rfl tw_474 tw_475 tw_476 tw_1 tw_477 (by decide +kernel) (by decide) ⟨hcc, hss⟩ rfl hl.1 (Nat.le_of_ble_eq_true rfl) dL_law_650 rfl (fun H locs hr hS => ?_)
  refine lv_aload_n hx hb dL_law_653 rfl (lv_at hl 2 rfl) ?_
  refine lv_aload_n hx hb dL_law_654 rfl (lv_at hl 4 rfl) ?_
  refine lv_iload hx hb dL_law_655 (lv_at hl 0 rfl) ?_
  refine lv_iconst (v := 1) hx hb dL_law_657 (by decide) ?_
  refine lv_iadd hx hb dL_law_658 ?_
  refine va_sld hx hb hX hbl hbA hS v1 dL_law_659 ?_
  refine lv_aload_n hx hb dL_law_660 rfl (lv_at hl 4 rfl) ?_
  refine lv_iload hx hb dL_law_661 (lv_at hl 0 rfl) ?_
  refine lv_iconst (v := 2) hx hb dL_law_663 (by decide) ?_
  refine lv_iadd hx hb dL_law_664 ?_
  refine va_sld hx hb hX hbl hbA hS v2 dL_law_665 ?_
  refine lv_aload_n hx hb dL_law_666 rfl (lv_at hl 4 rfl) ?_
  refine lv_iload hx hb dL_law_667 (lv_at hl 0 rfl) ?_
  refine lv_iconst (v := 3) hx hb dL_law_669 (by decide) ?_
  refine lv_iadd hx hb dL_law_670 ?_
  refine va_sld hx hb hX hbl hbA hS v3 dL_law_671 ?_
  refine lv_aload_n hx hb dL_law_672 rfl (lv_at hl 4 rfl) ?_
  refine lv_iload hx hb dL_law_673 (lv_at hl 0 rfl) ?_
  refine lv_iconst (v := 4) hx hb dL_law_675 (by decide) ?_
  refine lv_iadd hx hb dL_law_676 ?_
  refine va_sld hx hb hX hbl hbA hS v4 dL_law_677 ?_
  refine lv_aload_n hx hb dL_law_678 rfl (lv_at hl 4 rfl) ?_
  refine lv_iload hx hb dL_law_679 (lv_at hl 0 rfl) ?_
  refine lv_iconst (v := 5) hx hb dL_law_681 (by decide) ?_
  refine lv_iadd hx hb dL_law_682 ?_
  refine va_sld hx hb hX hbl hbA hS v5 dL_law_683 ?_
  refine hv_V1 (n := 5) [.int (xs (i + (1 : Int32)).toNatClampNeg), .int (xs (i + (2 : Int32)).toNatClampNeg), .int (xs (i + (3 : Int32)).toNatClampNeg), .int (xs (i + (4 : Int32)).toNatClampNeg), .int (xs (i + (5 : Int32)).toNatClampNeg)] [.int r] hx hb hml hown hts hk hr hz hS (zm_X11_over_ l D s.heap.size e2) k2 rfl tw_1103 tw_1104 tw_1105 tw_11 tw_1106 (by decide +kernel) (by decide) ⟨hcc, hss⟩ rfl hl.1 (Nat.le_of_ble_eq_true rfl) dL_law_684 rfl (fun H locs hr hS => ?_)
  refine lv_icmp_eq (tgt := 1404) hx hb dL_law_687 (by decide) (fun _ => ?_) (fun q => absurd rfl q)
  exact nx h2 H locs ls hr hS hl ⟨_, f, I2, (K.2 _ (Or.inr (by omega))).trans ha⟩
set_option maxRecDepth 100000 in
set_option maxHeartbeats 4000000 in
theorem law_c11 {p : Program} {l : Launch} {e : Env} {s : State} {m : MethodId} {below : List Frame} {meth : Method} {c : Code} {b L n : Nat} {xs : Nat → Int32} {i : Int32} {D : hG} {kc ks : Nat} (C0 : lw_At p s m meth c b L xs) (hk : hK D s) (v1 : vp_in (i + 1) L) (v2 : vp_in (i + 2) L) (v3 : vp_in (i + 3) L) (v4 : vp_in (i + 4) L) (v5 : vp_in (i + 5) L) (hcc : kc ≤ room_1.cells) (hss : ks ≤ room_1.slots) (nx : lawK p l e s m below meth c b D n i 1404 kc ks) : lawK p l e s m below meth c b D n i 692 kc ks := by
  obtain ⟨hx, hb, hrt, hml, hown0, hts0, hX, hbl, hlk, hgv⟩ := C0
  have hown : s.vm.findClass RL = some m.cls := hown0
  have hts : ∀ w ∈ bg, w.before #[Value.ref b] s = true := fun w hw => hts0 w (List.mem_filter.mp hw).1
  have hbA : ¬ hA s.heap.size b := Nat.not_le.mpr hbl
  have hz : s.heap.size ≤ s.heap.size := Nat.le_refl _
  intro h H locs ls hr hS hl0 hI
  obtain ⟨S, f, I, ha⟩ := hI
  have hl : lv_has ls 7 [(4, .int i), (3, .ref (n + 817)), (2, .ref (n + 171)), (1, .ref n), (0, .ref b)] := hl0
  obtain ⟨r, h1, h2, S2, e1, e2, I2, K, k1, k2⟩ := two_divisor I (xs (i + (1 : Int32)).toNatClampNeg) (xs (i + (2 : Int32)).toNatClampNeg) (xs (i + (3 : Int32)).toNatClampNeg)
  refine lv_aload_n hx hb dL_law_692 rfl (lv_at hl 3 rfl) ?_
  refine lv_aload_n hx hb dL_law_693 rfl (lv_at hl 4 rfl) ?_
  refine lv_iload hx hb dL_law_694 (lv_at hl 0 rfl) ?_
  refine lv_iconst (v := 1) hx hb dL_law_696 (by decide) ?_
  refine lv_iadd hx hb dL_law_697 ?_
  refine va_sld hx hb hX hbl hbA hS v1 dL_law_698 ?_
  refine lv_aload_n hx hb dL_law_699 rfl (lv_at hl 4 rfl) ?_
  refine lv_iload hx hb dL_law_700 (lv_at hl 0 rfl) ?_
  refine lv_iconst (v := 2) hx hb dL_law_702 (by decide) ?_
  refine lv_iadd hx hb dL_law_703 ?_
  refine va_sld hx hb hX hbl hbA hS v2 dL_law_704 ?_
  refine lv_aload_n hx hb dL_law_705 rfl (lv_at hl 4 rfl) ?_
  refine lv_iload hx hb dL_law_706 (lv_at hl 0 rfl) ?_
  refine lv_iconst (v := 3) hx hb dL_law_708 (by decide) ?_
  refine lv_iadd hx hb dL_law_709 ?_
  refine va_sld hx hb hX hbl hbA hS v3 dL_law_710 ?_
  refine hv_V1 (n := 3) [.int (xs (i + (1 : Int32)).toNatClampNeg), .int (xs (i + (2 : Int32)).toNatClampNeg), .int (xs (i + (3 : Int32)).toNatClampNeg)] [] hx hb hml hown hts hk hr hz hS (zm_X9_divisor l D s.heap.size e1) k1 rfl tw_528 tw_529 tw_530 tw_1 tw_531 (by decide +kernel) (by decide) ⟨hcc, hss⟩ rfl hl.1 (Nat.le_of_ble_eq_true rfl) dL_law_711 rfl (fun H locs hr hS => ?_)
  refine lv_aload_n hx hb dL_law_714 rfl (lv_at hl 2 rfl) ?_
  refine lv_aload_n hx hb dL_law_715 rfl (lv_at hl 4 rfl) ?_
  refine lv_iload hx hb dL_law_716 (lv_at hl 0 rfl) ?_
  refine lv_iconst (v := 1) hx hb dL_law_718 (by decide) ?_
  refine lv_iadd hx hb dL_law_719 ?_
  refine va_sld hx hb hX hbl hbA hS v1 dL_law_720 ?_
  refine lv_aload_n hx hb dL_law_721 rfl (lv_at hl 4 rfl) ?_
  refine lv_iload hx hb dL_law_722 (lv_at hl 0 rfl) ?_
  refine lv_iconst (v := 2) hx hb dL_law_724 (by decide) ?_
  refine lv_iadd hx hb dL_law_725 ?_
  refine va_sld hx hb hX hbl hbA hS v2 dL_law_726 ?_
  refine lv_aload_n hx hb dL_law_727 rfl (lv_at hl 4 rfl) ?_
  refine lv_iload hx hb dL_law_728 (lv_at hl 0 rfl) ?_
  refine lv_iconst (v := 3) hx hb dL_law_730 (by decide) ?_
  refine lv_iadd hx hb dL_law_731 ?_
  refine va_sld hx hb hX hbl hbA hS v3 dL_law_732 ?_
  refine hv_V1 (n := 3) [.int (xs (i + (1 : Int32)).toNatClampNeg), .int (xs (i + (2 : Int32)).toNatClampNeg), .int (xs (i + (3 : Int32)).toNatClampNeg)] [.int r] hx hb hml hown hts hk hr hz hS (zm_X11_divisor l D s.heap.size e2) k2 rfl tw_1111 tw_1112 tw_1113 tw_11 tw_1114 (by decide +kernel) (by decide) ⟨hcc, hss⟩ rfl hl.1 (Nat.le_of_ble_eq_true rfl) dL_law_733 rfl (fun H locs hr hS => ?_)
  refine lv_icmp_eq (tgt := 1404) hx hb dL_law_736 (by decide) (fun _ => ?_) (fun q => absurd rfl q)
  exact nx h2 H locs ls hr hS hl ⟨_, f, I2, (K.2 _ (Or.inr (by omega))).trans ha⟩
set_option maxRecDepth 100000 in
set_option maxHeartbeats 4000000 in
theorem law_c12 {p : Program} {l : Launch} {e : Env} {s : State} {m : MethodId} {below : List Frame} {meth : Method} {c : Code} {b L n : Nat} {xs : Nat → Int32} {i : Int32} {D : hG} {kc ks : Nat} (C0 : lw_At p s m meth c b L xs) (hk : hK D s) (v1 : vp_in (i + 1) L) (v2 : vp_in (i + 2) L) (v3 : vp_in (i + 3) L) (v4 : vp_in (i + 4) L) (v5 : vp_in (i + 5) L) (hcc : kc ≤ room_1.cells) (hss : ks ≤ room_1.slots) (nx : lawK p l e s m below meth c b D n i 1404 kc ks) : lawK p l e s m below meth c b D n i 741 kc ks := by
  obtain ⟨hx, hb, hrt, hml, hown0, hts0, hX, hbl, hlk, hgv⟩ := C0
  have hown : s.vm.findClass RL = some m.cls := hown0
  have hts : ∀ w ∈ bg, w.before #[Value.ref b] s = true := fun w hw => hts0 w (List.mem_filter.mp hw).1
  have hbA : ¬ hA s.heap.size b := Nat.not_le.mpr hbl
  have hz : s.heap.size ≤ s.heap.size := Nat.le_refl _
  intro h H locs ls hr hS hl0 hI
  obtain ⟨S, f, I, ha⟩ := hI
  have hl : lv_has ls 7 [(4, .int i), (3, .ref (n + 817)), (2, .ref (n + 171)), (1, .ref n), (0, .ref b)] := hl0
  obtain ⟨r, h1, h2, S2, e1, e2, I2, K, k1, k2⟩ := two_power I (xs (i + (1 : Int32)).toNatClampNeg) (xs (i + (2 : Int32)).toNatClampNeg) (xs (i + (3 : Int32)).toNatClampNeg)
  refine lv_aload_n hx hb dL_law_741 rfl (lv_at hl 3 rfl) ?_
  refine lv_aload_n hx hb dL_law_742 rfl (lv_at hl 4 rfl) ?_
  refine lv_iload hx hb dL_law_743 (lv_at hl 0 rfl) ?_
  refine lv_iconst (v := 1) hx hb dL_law_745 (by decide) ?_
  refine lv_iadd hx hb dL_law_746 ?_
  refine va_sld hx hb hX hbl hbA hS v1 dL_law_747 ?_
  refine lv_aload_n hx hb dL_law_748 rfl (lv_at hl 4 rfl) ?_
  refine lv_iload hx hb dL_law_749 (lv_at hl 0 rfl) ?_
  refine lv_iconst (v := 2) hx hb dL_law_751 (by decide) ?_
  refine lv_iadd hx hb dL_law_752 ?_
  refine va_sld hx hb hX hbl hbA hS v2 dL_law_753 ?_
  refine lv_aload_n hx hb dL_law_754 rfl (lv_at hl 4 rfl) ?_
  refine lv_iload hx hb dL_law_755 (lv_at hl 0 rfl) ?_
  refine lv_iconst (v := 3) hx hb dL_law_757 (by decide) ?_
  refine lv_iadd hx hb dL_law_758 ?_
  refine va_sld hx hb hX hbl hbA hS v3 dL_law_759 ?_
  refine hv_V1 (n := 3) [.int (xs (i + (1 : Int32)).toNatClampNeg), .int (xs (i + (2 : Int32)).toNatClampNeg), .int (xs (i + (3 : Int32)).toNatClampNeg)] [] hx hb hml hown hts hk hr hz hS (zm_X9_power l D s.heap.size e1) k1 rfl tw_540 tw_541 tw_542 tw_1 tw_543 (by decide +kernel) (by decide) ⟨hcc, hss⟩ rfl hl.1 (Nat.le_of_ble_eq_true rfl) dL_law_760 rfl (fun H locs hr hS => ?_)
  refine lv_aload_n hx hb dL_law_763 rfl (lv_at hl 2 rfl) ?_
  refine lv_aload_n hx hb dL_law_764 rfl (lv_at hl 4 rfl) ?_
  refine lv_iload hx hb dL_law_765 (lv_at hl 0 rfl) ?_
  refine lv_iconst (v := 1) hx hb dL_law_767 (by decide) ?_
  refine lv_iadd hx hb dL_law_768 ?_
  refine va_sld hx hb hX hbl hbA hS v1 dL_law_769 ?_
  refine lv_aload_n hx hb dL_law_770 rfl (lv_at hl 4 rfl) ?_
  refine lv_iload hx hb dL_law_771 (lv_at hl 0 rfl) ?_
  refine lv_iconst (v := 2) hx hb dL_law_773 (by decide) ?_
  refine lv_iadd hx hb dL_law_774 ?_
  refine va_sld hx hb hX hbl hbA hS v2 dL_law_775 ?_
  refine lv_aload_n hx hb dL_law_776 rfl (lv_at hl 4 rfl) ?_
  refine lv_iload hx hb dL_law_777 (lv_at hl 0 rfl) ?_
  refine lv_iconst (v := 3) hx hb dL_law_779 (by decide) ?_
  refine lv_iadd hx hb dL_law_780 ?_
  refine va_sld hx hb hX hbl hbA hS v3 dL_law_781 ?_
  refine hv_V1 (n := 3) [.int (xs (i + (1 : Int32)).toNatClampNeg), .int (xs (i + (2 : Int32)).toNatClampNeg), .int (xs (i + (3 : Int32)).toNatClampNeg)] [.int r] hx hb hml hown hts hk hr hz hS (zm_X11_power l D s.heap.size e2) k2 rfl tw_1119 tw_1120 tw_1121 tw_11 tw_1122 (by decide +kernel) (by decide) ⟨hcc, hss⟩ rfl hl.1 (Nat.le_of_ble_eq_true rfl) dL_law_782 rfl (fun H locs hr hS => ?_)
  refine lv_icmp_eq (tgt := 1404) hx hb dL_law_785 (by decide) (fun _ => ?_) (fun q => absurd rfl q)
  exact nx h2 H locs ls hr hS hl ⟨_, f, I2, (K.2 _ (Or.inr (by omega))).trans ha⟩
set_option maxRecDepth 100000 in
set_option maxHeartbeats 4000000 in
theorem law_c13 {p : Program} {l : Launch} {e : Env} {s : State} {m : MethodId} {below : List Frame} {meth : Method} {c : Code} {b L n : Nat} {xs : Nat → Int32} {i : Int32} {D : hG} {kc ks : Nat} (C0 : lw_At p s m meth c b L xs) (hk : hK D s) (v1 : vp_in (i + 1) L) (v2 : vp_in (i + 2) L) (v3 : vp_in (i + 3) L) (v4 : vp_in (i + 4) L) (v5 : vp_in (i + 5) L) (hcc : kc ≤ room_1.cells) (hss : ks ≤ room_1.slots) (nx : lawK p l e s m below meth c b D n i 1404 kc ks) : lawK p l e s m below meth c b D n i 790 kc ks := by
  obtain ⟨hx, hb, hrt, hml, hown0, hts0, hX, hbl, hlk, hgv⟩ := C0
  have hown : s.vm.findClass RL = some m.cls := hown0
  have hts : ∀ w ∈ bg, w.before #[Value.ref b] s = true := fun w hw => hts0 w (List.mem_filter.mp hw).1
  have hbA : ¬ hA s.heap.size b := Nat.not_le.mpr hbl
  have hz : s.heap.size ≤ s.heap.size := Nat.le_refl _
  intro h H locs ls hr hS hl0 hI
  obtain ⟨S, f, I, ha⟩ := hI
  have hl : lv_has ls 7 [(4, .int i), (3, .ref (n + 817)), (2, .ref (n + 171)), (1, .ref n), (0, .ref b)] := hl0
  obtain ⟨r, h1, h2, S2, e1, e2, I2, K, k1, k2⟩ := two_root I (xs (i + (1 : Int32)).toNatClampNeg) (xs (i + (2 : Int32)).toNatClampNeg) (xs (i + (3 : Int32)).toNatClampNeg)
  refine lv_aload_n hx hb dL_law_790 rfl (lv_at hl 3 rfl) ?_
  refine lv_aload_n hx hb dL_law_791 rfl (lv_at hl 4 rfl) ?_
  refine lv_iload hx hb dL_law_792 (lv_at hl 0 rfl) ?_
  refine lv_iconst (v := 1) hx hb dL_law_794 (by decide) ?_
  refine lv_iadd hx hb dL_law_795 ?_
  refine va_sld hx hb hX hbl hbA hS v1 dL_law_796 ?_
  refine lv_aload_n hx hb dL_law_797 rfl (lv_at hl 4 rfl) ?_
  refine lv_iload hx hb dL_law_798 (lv_at hl 0 rfl) ?_
  refine lv_iconst (v := 2) hx hb dL_law_800 (by decide) ?_
  refine lv_iadd hx hb dL_law_801 ?_
  refine va_sld hx hb hX hbl hbA hS v2 dL_law_802 ?_
  refine lv_aload_n hx hb dL_law_803 rfl (lv_at hl 4 rfl) ?_
  refine lv_iload hx hb dL_law_804 (lv_at hl 0 rfl) ?_
  refine lv_iconst (v := 3) hx hb dL_law_806 (by decide) ?_
  refine lv_iadd hx hb dL_law_807 ?_
  refine va_sld hx hb hX hbl hbA hS v3 dL_law_808 ?_
  refine hv_V1 (n := 3) [.int (xs (i + (1 : Int32)).toNatClampNeg), .int (xs (i + (2 : Int32)).toNatClampNeg), .int (xs (i + (3 : Int32)).toNatClampNeg)] [] hx hb hml hown hts hk hr hz hS (zm_X9_root l D s.heap.size e1) k1 rfl tw_556 tw_557 tw_558 tw_1 tw_559 (by decide +kernel) (by decide) ⟨hcc, hss⟩ rfl hl.1 (Nat.le_of_ble_eq_true rfl) dL_law_809 rfl (fun H locs hr hS => ?_)
  refine lv_aload_n hx hb dL_law_812 rfl (lv_at hl 2 rfl) ?_
  refine lv_aload_n hx hb dL_law_813 rfl (lv_at hl 4 rfl) ?_
  refine lv_iload hx hb dL_law_814 (lv_at hl 0 rfl) ?_
  refine lv_iconst (v := 1) hx hb dL_law_816 (by decide) ?_
  refine lv_iadd hx hb dL_law_817 ?_
  refine va_sld hx hb hX hbl hbA hS v1 dL_law_818 ?_
  refine lv_aload_n hx hb dL_law_819 rfl (lv_at hl 4 rfl) ?_
  refine lv_iload hx hb dL_law_820 (lv_at hl 0 rfl) ?_
  refine lv_iconst (v := 2) hx hb dL_law_822 (by decide) ?_
  refine lv_iadd hx hb dL_law_823 ?_
  refine va_sld hx hb hX hbl hbA hS v2 dL_law_824 ?_
  refine lv_aload_n hx hb dL_law_825 rfl (lv_at hl 4 rfl) ?_
  refine lv_iload hx hb dL_law_826 (lv_at hl 0 rfl) ?_
  refine lv_iconst (v := 3) hx hb dL_law_828 (by decide) ?_
  refine lv_iadd hx hb dL_law_829 ?_
  refine va_sld hx hb hX hbl hbA hS v3 dL_law_830 ?_
  refine hv_V1 (n := 3) [.int (xs (i + (1 : Int32)).toNatClampNeg), .int (xs (i + (2 : Int32)).toNatClampNeg), .int (xs (i + (3 : Int32)).toNatClampNeg)] [.int r] hx hb hml hown hts hk hr hz hS (zm_X11_root l D s.heap.size e2) k2 rfl tw_1123 tw_1124 tw_1125 tw_11 tw_1126 (by decide +kernel) (by decide) ⟨hcc, hss⟩ rfl hl.1 (Nat.le_of_ble_eq_true rfl) dL_law_831 rfl (fun H locs hr hS => ?_)
  refine lv_icmp_eq (tgt := 1404) hx hb dL_law_834 (by decide) (fun _ => ?_) (fun q => absurd rfl q)
  exact nx h2 H locs ls hr hS hl ⟨_, f, I2, (K.2 _ (Or.inr (by omega))).trans ha⟩
set_option maxRecDepth 100000 in
set_option maxHeartbeats 4000000 in
theorem law_c14 {p : Program} {l : Launch} {e : Env} {s : State} {m : MethodId} {below : List Frame} {meth : Method} {c : Code} {b L n : Nat} {xs : Nat → Int32} {i : Int32} {D : hG} {kc ks : Nat} (C0 : lw_At p s m meth c b L xs) (hk : hK D s) (v1 : vp_in (i + 1) L) (v2 : vp_in (i + 2) L) (v3 : vp_in (i + 3) L) (v4 : vp_in (i + 4) L) (v5 : vp_in (i + 5) L) (hcc : kc ≤ room_1.cells) (hss : ks ≤ room_1.slots) (nx : lawK p l e s m below meth c b D n i 1404 kc ks) : lawK p l e s m below meth c b D n i 839 kc ks := by
  obtain ⟨hx, hb, hrt, hml, hown0, hts0, hX, hbl, hlk, hgv⟩ := C0
  have hown : s.vm.findClass RL = some m.cls := hown0
  have hts : ∀ w ∈ bg, w.before #[Value.ref b] s = true := fun w hw => hts0 w (List.mem_filter.mp hw).1
  have hbA : ¬ hA s.heap.size b := Nat.not_le.mpr hbl
  have hz : s.heap.size ≤ s.heap.size := Nat.le_refl _
  intro h H locs ls hr hS hl0 hI
  obtain ⟨S, f, I, ha⟩ := hI
  have hl : lv_has ls 7 [(4, .int i), (3, .ref (n + 817)), (2, .ref (n + 171)), (1, .ref n), (0, .ref b)] := hl0
  obtain ⟨r, h1, h2, S2, e1, e2, I2, K, k1, k2⟩ := two_rest I (xs (i + (1 : Int32)).toNatClampNeg) (xs (i + (2 : Int32)).toNatClampNeg) (xs (i + (3 : Int32)).toNatClampNeg) (xs (i + (4 : Int32)).toNatClampNeg)
  refine lv_aload_n hx hb dL_law_839 rfl (lv_at hl 3 rfl) ?_
  refine lv_aload_n hx hb dL_law_840 rfl (lv_at hl 4 rfl) ?_
  refine lv_iload hx hb dL_law_841 (lv_at hl 0 rfl) ?_
  refine lv_iconst (v := 1) hx hb dL_law_843 (by decide) ?_
  refine lv_iadd hx hb dL_law_844 ?_
  refine va_sld hx hb hX hbl hbA hS v1 dL_law_845 ?_
  refine lv_aload_n hx hb dL_law_846 rfl (lv_at hl 4 rfl) ?_
  refine lv_iload hx hb dL_law_847 (lv_at hl 0 rfl) ?_
  refine lv_iconst (v := 2) hx hb dL_law_849 (by decide) ?_
  refine lv_iadd hx hb dL_law_850 ?_
  refine va_sld hx hb hX hbl hbA hS v2 dL_law_851 ?_
  refine lv_aload_n hx hb dL_law_852 rfl (lv_at hl 4 rfl) ?_
  refine lv_iload hx hb dL_law_853 (lv_at hl 0 rfl) ?_
  refine lv_iconst (v := 3) hx hb dL_law_855 (by decide) ?_
  refine lv_iadd hx hb dL_law_856 ?_
  refine va_sld hx hb hX hbl hbA hS v3 dL_law_857 ?_
  refine lv_aload_n hx hb dL_law_858 rfl (lv_at hl 4 rfl) ?_
  refine lv_iload hx hb dL_law_859 (lv_at hl 0 rfl) ?_
  refine lv_iconst (v := 4) hx hb dL_law_861 (by decide) ?_
  refine lv_iadd hx hb dL_law_862 ?_
  refine va_sld hx hb hX hbl hbA hS v4 dL_law_863 ?_
  refine hv_V1 (n := 4) [.int (xs (i + (1 : Int32)).toNatClampNeg), .int (xs (i + (2 : Int32)).toNatClampNeg), .int (xs (i + (3 : Int32)).toNatClampNeg), .int (xs (i + (4 : Int32)).toNatClampNeg)] [] hx hb hml hown hts hk hr hz hS (zm_X9_rest l D s.heap.size e1) k1 rfl tw_575 tw_576 tw_577 tw_1 tw_578 (by decide +kernel) (by decide) ⟨hcc, hss⟩ rfl hl.1 (Nat.le_of_ble_eq_true rfl) dL_law_864 rfl (fun H locs hr hS => ?_)
  refine lv_aload_n hx hb dL_law_867 rfl (lv_at hl 2 rfl) ?_
  refine lv_aload_n hx hb dL_law_868 rfl (lv_at hl 4 rfl) ?_
  refine lv_iload hx hb dL_law_869 (lv_at hl 0 rfl) ?_
  refine lv_iconst (v := 1) hx hb dL_law_871 (by decide) ?_
  refine lv_iadd hx hb dL_law_872 ?_
  refine va_sld hx hb hX hbl hbA hS v1 dL_law_873 ?_
  refine lv_aload_n hx hb dL_law_874 rfl (lv_at hl 4 rfl) ?_
  refine lv_iload hx hb dL_law_875 (lv_at hl 0 rfl) ?_
  refine lv_iconst (v := 2) hx hb dL_law_877 (by decide) ?_
  refine lv_iadd hx hb dL_law_878 ?_
  refine va_sld hx hb hX hbl hbA hS v2 dL_law_879 ?_
  refine lv_aload_n hx hb dL_law_880 rfl (lv_at hl 4 rfl) ?_
  refine lv_iload hx hb dL_law_881 (lv_at hl 0 rfl) ?_
  refine lv_iconst (v := 3) hx hb dL_law_883 (by decide) ?_
  refine lv_iadd hx hb dL_law_884 ?_
  refine va_sld hx hb hX hbl hbA hS v3 dL_law_885 ?_
  refine lv_aload_n hx hb dL_law_886 rfl (lv_at hl 4 rfl) ?_
  refine lv_iload hx hb dL_law_887 (lv_at hl 0 rfl) ?_
  refine lv_iconst (v := 4) hx hb dL_law_889 (by decide) ?_
  refine lv_iadd hx hb dL_law_890 ?_
  refine va_sld hx hb hX hbl hbA hS v4 dL_law_891 ?_
  refine hv_V1 (n := 4) [.int (xs (i + (1 : Int32)).toNatClampNeg), .int (xs (i + (2 : Int32)).toNatClampNeg), .int (xs (i + (3 : Int32)).toNatClampNeg), .int (xs (i + (4 : Int32)).toNatClampNeg)] [.int r] hx hb hml hown hts hk hr hz hS (zm_X11_rest l D s.heap.size e2) k2 rfl tw_1131 tw_1132 tw_1133 tw_11 tw_1134 (by decide +kernel) (by decide) ⟨hcc, hss⟩ rfl hl.1 (Nat.le_of_ble_eq_true rfl) dL_law_892 rfl (fun H locs hr hS => ?_)
  refine lv_icmp_eq (tgt := 1404) hx hb dL_law_895 (by decide) (fun _ => ?_) (fun q => absurd rfl q)
  exact nx h2 H locs ls hr hS hl ⟨_, f, I2, (K.2 _ (Or.inr (by omega))).trans ha⟩
set_option maxRecDepth 100000 in
set_option maxHeartbeats 4000000 in
theorem law_c15 {p : Program} {l : Launch} {e : Env} {s : State} {m : MethodId} {below : List Frame} {meth : Method} {c : Code} {b L n : Nat} {xs : Nat → Int32} {i : Int32} {D : hG} {kc ks : Nat} (C0 : lw_At p s m meth c b L xs) (hk : hK D s) (v1 : vp_in (i + 1) L) (v2 : vp_in (i + 2) L) (v3 : vp_in (i + 3) L) (v4 : vp_in (i + 4) L) (v5 : vp_in (i + 5) L) (hcc : kc ≤ room_1.cells) (hss : ks ≤ room_1.slots) (nx : lawK p l e s m below meth c b D n i 1404 kc ks) : lawK p l e s m below meth c b D n i 900 kc ks := by
  obtain ⟨hx, hb, hrt, hml, hown0, hts0, hX, hbl, hlk, hgv⟩ := C0
  have hown : s.vm.findClass RL = some m.cls := hown0
  have hts : ∀ w ∈ bg, w.before #[Value.ref b] s = true := fun w hw => hts0 w (List.mem_filter.mp hw).1
  have hbA : ¬ hA s.heap.size b := Nat.not_le.mpr hbl
  have hz : s.heap.size ≤ s.heap.size := Nat.le_refl _
  intro h H locs ls hr hS hl0 hI
  obtain ⟨S, f, I, ha⟩ := hI
  have hl : lv_has ls 7 [(4, .int i), (3, .ref (n + 817)), (2, .ref (n + 171)), (1, .ref n), (0, .ref b)] := hl0
  obtain ⟨r, h1, h2, S2, e1, e2, I2, K, k1, k2⟩ := two_inverse I (xs (i + (1 : Int32)).toNatClampNeg) (xs (i + (2 : Int32)).toNatClampNeg) (xs (i + (3 : Int32)).toNatClampNeg)
  refine lv_aload_n hx hb dL_law_900 rfl (lv_at hl 3 rfl) ?_
  refine lv_aload_n hx hb dL_law_901 rfl (lv_at hl 4 rfl) ?_
  refine lv_iload hx hb dL_law_902 (lv_at hl 0 rfl) ?_
  refine lv_iconst (v := 1) hx hb dL_law_904 (by decide) ?_
  refine lv_iadd hx hb dL_law_905 ?_
  refine va_sld hx hb hX hbl hbA hS v1 dL_law_906 ?_
  refine lv_aload_n hx hb dL_law_907 rfl (lv_at hl 4 rfl) ?_
  refine lv_iload hx hb dL_law_908 (lv_at hl 0 rfl) ?_
  refine lv_iconst (v := 2) hx hb dL_law_910 (by decide) ?_
  refine lv_iadd hx hb dL_law_911 ?_
  refine va_sld hx hb hX hbl hbA hS v2 dL_law_912 ?_
  refine lv_aload_n hx hb dL_law_913 rfl (lv_at hl 4 rfl) ?_
  refine lv_iload hx hb dL_law_914 (lv_at hl 0 rfl) ?_
  refine lv_iconst (v := 3) hx hb dL_law_916 (by decide) ?_
  refine lv_iadd hx hb dL_law_917 ?_
  refine va_sld hx hb hX hbl hbA hS v3 dL_law_918 ?_
  refine hv_V1 (n := 3) [.int (xs (i + (1 : Int32)).toNatClampNeg), .int (xs (i + (2 : Int32)).toNatClampNeg), .int (xs (i + (3 : Int32)).toNatClampNeg)] [] hx hb hml hown hts hk hr hz hS (zm_X9_inverse l D s.heap.size e1) k1 rfl tw_593 tw_594 tw_595 tw_1 tw_596 (by decide +kernel) (by decide) ⟨hcc, hss⟩ rfl hl.1 (Nat.le_of_ble_eq_true rfl) dL_law_919 rfl (fun H locs hr hS => ?_)
  refine lv_aload_n hx hb dL_law_922 rfl (lv_at hl 2 rfl) ?_
  refine lv_aload_n hx hb dL_law_923 rfl (lv_at hl 4 rfl) ?_
  refine lv_iload hx hb dL_law_924 (lv_at hl 0 rfl) ?_
  refine lv_iconst (v := 1) hx hb dL_law_926 (by decide) ?_
  refine lv_iadd hx hb dL_law_927 ?_
  refine va_sld hx hb hX hbl hbA hS v1 dL_law_928 ?_
  refine lv_aload_n hx hb dL_law_929 rfl (lv_at hl 4 rfl) ?_
  refine lv_iload hx hb dL_law_930 (lv_at hl 0 rfl) ?_
  refine lv_iconst (v := 2) hx hb dL_law_932 (by decide) ?_
  refine lv_iadd hx hb dL_law_933 ?_
  refine va_sld hx hb hX hbl hbA hS v2 dL_law_934 ?_
  refine lv_aload_n hx hb dL_law_935 rfl (lv_at hl 4 rfl) ?_
  refine lv_iload hx hb dL_law_936 (lv_at hl 0 rfl) ?_
  refine lv_iconst (v := 3) hx hb dL_law_938 (by decide) ?_
  refine lv_iadd hx hb dL_law_939 ?_
  refine va_sld hx hb hX hbl hbA hS v3 dL_law_940 ?_
  refine hv_V1 (n := 3) [.int (xs (i + (1 : Int32)).toNatClampNeg), .int (xs (i + (2 : Int32)).toNatClampNeg), .int (xs (i + (3 : Int32)).toNatClampNeg)] [.int r] hx hb hml hown hts hk hr hz hS (zm_X11_inverse l D s.heap.size e2) k2 rfl tw_1140 tw_1141 tw_1142 tw_11 tw_1143 (by decide +kernel) (by decide) ⟨hcc, hss⟩ rfl hl.1 (Nat.le_of_ble_eq_true rfl) dL_law_941 rfl (fun H locs hr hS => ?_)
  refine lv_icmp_eq (tgt := 1404) hx hb dL_law_944 (by decide) (fun _ => ?_) (fun q => absurd rfl q)
  exact nx h2 H locs ls hr hS hl ⟨_, f, I2, (K.2 _ (Or.inr (by omega))).trans ha⟩
set_option maxRecDepth 100000 in
set_option maxHeartbeats 4000000 in
theorem law_c16 {p : Program} {l : Launch} {e : Env} {s : State} {m : MethodId} {below : List Frame} {meth : Method} {c : Code} {b L n : Nat} {xs : Nat → Int32} {i : Int32} {D : hG} {kc ks : Nat} (C0 : lw_At p s m meth c b L xs) (hk : hK D s) (v1 : vp_in (i + 1) L) (v2 : vp_in (i + 2) L) (v3 : vp_in (i + 3) L) (v4 : vp_in (i + 4) L) (v5 : vp_in (i + 5) L) (hcc : kc ≤ room_1.cells) (hss : ks ≤ room_1.slots) (nx : lawK p l e s m below meth c b D n i 1404 kc ks) : lawK p l e s m below meth c b D n i 949 kc ks := by
  obtain ⟨hx, hb, hrt, hml, hown0, hts0, hX, hbl, hlk, hgv⟩ := C0
  have hown : s.vm.findClass RL = some m.cls := hown0
  have hts : ∀ w ∈ bg, w.before #[Value.ref b] s = true := fun w hw => hts0 w (List.mem_filter.mp hw).1
  have hbA : ¬ hA s.heap.size b := Nat.not_le.mpr hbl
  have hz : s.heap.size ≤ s.heap.size := Nat.le_refl _
  intro h H locs ls hr hS hl0 hI
  obtain ⟨S, f, I, ha⟩ := hI
  have hl : lv_has ls 7 [(4, .int i), (3, .ref (n + 817)), (2, .ref (n + 171)), (1, .ref n), (0, .ref b)] := hl0
  obtain ⟨r, h1, h2, S2, e1, e2, I2, K, k1, k2⟩ := two_bits I (xs (i + (1 : Int32)).toNatClampNeg) (xs (i + (2 : Int32)).toNatClampNeg) (xs (i + (3 : Int32)).toNatClampNeg) (xs (i + (4 : Int32)).toNatClampNeg)
  refine lv_aload_n hx hb dL_law_949 rfl (lv_at hl 3 rfl) ?_
  refine lv_aload_n hx hb dL_law_950 rfl (lv_at hl 4 rfl) ?_
  refine lv_iload hx hb dL_law_951 (lv_at hl 0 rfl) ?_
  refine lv_iconst (v := 1) hx hb dL_law_953 (by decide) ?_
  refine lv_iadd hx hb dL_law_954 ?_
  refine va_sld hx hb hX hbl hbA hS v1 dL_law_955 ?_
  refine lv_aload_n hx hb dL_law_956 rfl (lv_at hl 4 rfl) ?_
  refine lv_iload hx hb dL_law_957 (lv_at hl 0 rfl) ?_
  refine lv_iconst (v := 2) hx hb dL_law_959 (by decide) ?_
  refine lv_iadd hx hb dL_law_960 ?_
  refine va_sld hx hb hX hbl hbA hS v2 dL_law_961 ?_
  refine lv_aload_n hx hb dL_law_962 rfl (lv_at hl 4 rfl) ?_
  refine lv_iload hx hb dL_law_963 (lv_at hl 0 rfl) ?_
  refine lv_iconst (v := 3) hx hb dL_law_965 (by decide) ?_
  refine lv_iadd hx hb dL_law_966 ?_
  refine va_sld hx hb hX hbl hbA hS v3 dL_law_967 ?_
  refine lv_aload_n hx hb dL_law_968 rfl (lv_at hl 4 rfl) ?_
  refine lv_iload hx hb dL_law_969 (lv_at hl 0 rfl) ?_
  refine lv_iconst (v := 4) hx hb dL_law_971 (by decide) ?_
  refine lv_iadd hx hb dL_law_972 ?_
  refine va_sld hx hb hX hbl hbA hS v4 dL_law_973 ?_
  refine hv_V1 (n := 4) [.int (xs (i + (1 : Int32)).toNatClampNeg), .int (xs (i + (2 : Int32)).toNatClampNeg), .int (xs (i + (3 : Int32)).toNatClampNeg), .int (xs (i + (4 : Int32)).toNatClampNeg)] [] hx hb hml hown hts hk hr hz hS (zm_X9_bits l D s.heap.size e1) k1 rfl tw_606 tw_607 tw_608 tw_1 tw_609 (by decide +kernel) (by decide) ⟨hcc, hss⟩ rfl hl.1 (Nat.le_of_ble_eq_true rfl) dL_law_974 rfl (fun H locs hr hS => ?_)
  refine lv_aload_n hx hb dL_law_977 rfl (lv_at hl 2 rfl) ?_
  refine lv_aload_n hx hb dL_law_978 rfl (lv_at hl 4 rfl) ?_
  refine lv_iload hx hb dL_law_979 (lv_at hl 0 rfl) ?_
  refine lv_iconst (v := 1) hx hb dL_law_981 (by decide) ?_
  refine lv_iadd hx hb dL_law_982 ?_
  refine va_sld hx hb hX hbl hbA hS v1 dL_law_983 ?_
  refine lv_aload_n hx hb dL_law_984 rfl (lv_at hl 4 rfl) ?_
  refine lv_iload hx hb dL_law_985 (lv_at hl 0 rfl) ?_
  refine lv_iconst (v := 2) hx hb dL_law_987 (by decide) ?_
  refine lv_iadd hx hb dL_law_988 ?_
  refine va_sld hx hb hX hbl hbA hS v2 dL_law_989 ?_
  refine lv_aload_n hx hb dL_law_990 rfl (lv_at hl 4 rfl) ?_
  refine lv_iload hx hb dL_law_991 (lv_at hl 0 rfl) ?_
  refine lv_iconst (v := 3) hx hb dL_law_993 (by decide) ?_
  refine lv_iadd hx hb dL_law_994 ?_
  refine va_sld hx hb hX hbl hbA hS v3 dL_law_995 ?_
  refine lv_aload_n hx hb dL_law_996 rfl (lv_at hl 4 rfl) ?_
  refine lv_iload hx hb dL_law_997 (lv_at hl 0 rfl) ?_
  refine lv_iconst (v := 4) hx hb dL_law_999 (by decide) ?_
  refine lv_iadd hx hb dL_law_1000 ?_
  refine va_sld hx hb hX hbl hbA hS v4 dL_law_1001 ?_
  refine hv_V1 (n := 4) [.int (xs (i + (1 : Int32)).toNatClampNeg), .int (xs (i + (2 : Int32)).toNatClampNeg), .int (xs (i + (3 : Int32)).toNatClampNeg), .int (xs (i + (4 : Int32)).toNatClampNeg)] [.int r] hx hb hml hown hts hk hr hz hS (zm_X11_bits l D s.heap.size e2) k2 rfl tw_1144 tw_1145 tw_1146 tw_11 tw_1147 (by decide +kernel) (by decide) ⟨hcc, hss⟩ rfl hl.1 (Nat.le_of_ble_eq_true rfl) dL_law_1002 rfl (fun H locs hr hS => ?_)
  refine lv_icmp_eq (tgt := 1404) hx hb dL_law_1005 (by decide) (fun _ => ?_) (fun q => absurd rfl q)
  exact nx h2 H locs ls hr hS hl ⟨_, f, I2, (K.2 _ (Or.inr (by omega))).trans ha⟩
set_option maxRecDepth 100000 in
set_option maxHeartbeats 4000000 in
theorem law_c17 {p : Program} {l : Launch} {e : Env} {s : State} {m : MethodId} {below : List Frame} {meth : Method} {c : Code} {b L n : Nat} {xs : Nat → Int32} {i : Int32} {D : hG} {kc ks : Nat} (C0 : lw_At p s m meth c b L xs) (hk : hK D s) (v1 : vp_in (i + 1) L) (v2 : vp_in (i + 2) L) (v3 : vp_in (i + 3) L) (v4 : vp_in (i + 4) L) (v5 : vp_in (i + 5) L) (hcc : kc ≤ room_1.cells) (hss : ks ≤ room_1.slots) (nx : lawK p l e s m below meth c b D n i 1404 kc ks) : lawK p l e s m below meth c b D n i 1010 kc ks := by
  obtain ⟨hx, hb, hrt, hml, hown0, hts0, hX, hbl, hlk, hgv⟩ := C0
  have hown : s.vm.findClass RL = some m.cls := hown0
  have hts : ∀ w ∈ bg, w.before #[Value.ref b] s = true := fun w hw => hts0 w (List.mem_filter.mp hw).1
  have hbA : ¬ hA s.heap.size b := Nat.not_le.mpr hbl
  have hz : s.heap.size ≤ s.heap.size := Nat.le_refl _
  intro h H locs ls hr hS hl0 hI
  obtain ⟨S, f, I, ha⟩ := hI
  have hl : lv_has ls 7 [(4, .int i), (3, .ref (n + 817)), (2, .ref (n + 171)), (1, .ref n), (0, .ref b)] := hl0
  obtain ⟨r, h1, h2, S2, e1, e2, I2, K, k1, k2⟩ := two_shift I (xs (i + (1 : Int32)).toNatClampNeg) (xs (i + (2 : Int32)).toNatClampNeg) (xs (i + (3 : Int32)).toNatClampNeg)
  refine lv_aload_n hx hb dL_law_1010 rfl (lv_at hl 3 rfl) ?_
  refine lv_aload_n hx hb dL_law_1011 rfl (lv_at hl 4 rfl) ?_
  refine lv_iload hx hb dL_law_1012 (lv_at hl 0 rfl) ?_
  refine lv_iconst (v := 1) hx hb dL_law_1014 (by decide) ?_
  refine lv_iadd hx hb dL_law_1015 ?_
  refine va_sld hx hb hX hbl hbA hS v1 dL_law_1016 ?_
  refine lv_aload_n hx hb dL_law_1017 rfl (lv_at hl 4 rfl) ?_
  refine lv_iload hx hb dL_law_1018 (lv_at hl 0 rfl) ?_
  refine lv_iconst (v := 2) hx hb dL_law_1020 (by decide) ?_
  refine lv_iadd hx hb dL_law_1021 ?_
  refine va_sld hx hb hX hbl hbA hS v2 dL_law_1022 ?_
  refine lv_aload_n hx hb dL_law_1023 rfl (lv_at hl 4 rfl) ?_
  refine lv_iload hx hb dL_law_1024 (lv_at hl 0 rfl) ?_
  refine lv_iconst (v := 3) hx hb dL_law_1026 (by decide) ?_
  refine lv_iadd hx hb dL_law_1027 ?_
  refine va_sld hx hb hX hbl hbA hS v3 dL_law_1028 ?_
  refine hv_V1 (n := 3) [.int (xs (i + (1 : Int32)).toNatClampNeg), .int (xs (i + (2 : Int32)).toNatClampNeg), .int (xs (i + (3 : Int32)).toNatClampNeg)] [] hx hb hml hown hts hk hr hz hS (zm_X9_shift l D s.heap.size e1) k1 rfl tw_635 tw_636 tw_637 tw_1 tw_638 (by decide +kernel) (by decide) ⟨hcc, hss⟩ rfl hl.1 (Nat.le_of_ble_eq_true rfl) dL_law_1029 rfl (fun H locs hr hS => ?_)
  refine lv_aload_n hx hb dL_law_1032 rfl (lv_at hl 2 rfl) ?_
  refine lv_aload_n hx hb dL_law_1033 rfl (lv_at hl 4 rfl) ?_
  refine lv_iload hx hb dL_law_1034 (lv_at hl 0 rfl) ?_
  refine lv_iconst (v := 1) hx hb dL_law_1036 (by decide) ?_
  refine lv_iadd hx hb dL_law_1037 ?_
  refine va_sld hx hb hX hbl hbA hS v1 dL_law_1038 ?_
  refine lv_aload_n hx hb dL_law_1039 rfl (lv_at hl 4 rfl) ?_
  refine lv_iload hx hb dL_law_1040 (lv_at hl 0 rfl) ?_
  refine lv_iconst (v := 2) hx hb dL_law_1042 (by decide) ?_
  refine lv_iadd hx hb dL_law_1043 ?_
  refine va_sld hx hb hX hbl hbA hS v2 dL_law_1044 ?_
  refine lv_aload_n hx hb dL_law_1045 rfl (lv_at hl 4 rfl) ?_
  refine lv_iload hx hb dL_law_1046 (lv_at hl 0 rfl) ?_
  refine lv_iconst (v := 3) hx hb dL_law_1048 (by decide) ?_
  refine lv_iadd hx hb dL_law_1049 ?_
  refine va_sld hx hb hX hbl hbA hS v3 dL_law_1050 ?_
  refine hv_V1 (n := 3) [.int (xs (i + (1 : Int32)).toNatClampNeg), .int (xs (i + (2 : Int32)).toNatClampNeg), .int (xs (i + (3 : Int32)).toNatClampNeg)] [.int r] hx hb hml hown hts hk hr hz hS (zm_X11_shift l D s.heap.size e2) k2 rfl tw_1157 tw_1158 tw_1159 tw_11 tw_1160 (by decide +kernel) (by decide) ⟨hcc, hss⟩ rfl hl.1 (Nat.le_of_ble_eq_true rfl) dL_law_1051 rfl (fun H locs hr hS => ?_)
  refine lv_icmp_eq (tgt := 1404) hx hb dL_law_1054 (by decide) (fun _ => ?_) (fun q => absurd rfl q)
  exact nx h2 H locs ls hr hS hl ⟨_, f, I2, (K.2 _ (Or.inr (by omega))).trans ha⟩
set_option maxRecDepth 100000 in
set_option maxHeartbeats 4000000 in
theorem law_c18 {p : Program} {l : Launch} {e : Env} {s : State} {m : MethodId} {below : List Frame} {meth : Method} {c : Code} {b L n : Nat} {xs : Nat → Int32} {i : Int32} {D : hG} {kc ks : Nat} (C0 : lw_At p s m meth c b L xs) (hk : hK D s) (v1 : vp_in (i + 1) L) (v2 : vp_in (i + 2) L) (v3 : vp_in (i + 3) L) (v4 : vp_in (i + 4) L) (v5 : vp_in (i + 5) L) (hcc : kc ≤ room_1.cells) (hss : ks ≤ room_1.slots) (nx : lawK p l e s m below meth c b D n i 1404 kc ks) : lawK p l e s m below meth c b D n i 1059 kc ks := by
  obtain ⟨hx, hb, hrt, hml, hown0, hts0, hX, hbl, hlk, hgv⟩ := C0
  have hown : s.vm.findClass RL = some m.cls := hown0
  have hts : ∀ w ∈ bg, w.before #[Value.ref b] s = true := fun w hw => hts0 w (List.mem_filter.mp hw).1
  have hbA : ¬ hA s.heap.size b := Nat.not_le.mpr hbl
  have hz : s.heap.size ≤ s.heap.size := Nat.le_refl _
  intro h H locs ls hr hS hl0 hI
  obtain ⟨S, f, I, ha⟩ := hI
  have hl : lv_has ls 7 [(4, .int i), (3, .ref (n + 817)), (2, .ref (n + 171)), (1, .ref n), (0, .ref b)] := hl0
  obtain ⟨r, h1, h2, e1, e2, I2, K, k1, k2⟩ := two_bit I (xs (i + (1 : Int32)).toNatClampNeg) (xs (i + (2 : Int32)).toNatClampNeg)
  refine lv_aload_n hx hb dL_law_1059 rfl (lv_at hl 3 rfl) ?_
  refine lv_aload_n hx hb dL_law_1060 rfl (lv_at hl 4 rfl) ?_
  refine lv_iload hx hb dL_law_1061 (lv_at hl 0 rfl) ?_
  refine lv_iconst (v := 1) hx hb dL_law_1063 (by decide) ?_
  refine lv_iadd hx hb dL_law_1064 ?_
  refine va_sld hx hb hX hbl hbA hS v1 dL_law_1065 ?_
  refine lv_aload_n hx hb dL_law_1066 rfl (lv_at hl 4 rfl) ?_
  refine lv_iload hx hb dL_law_1067 (lv_at hl 0 rfl) ?_
  refine lv_iconst (v := 2) hx hb dL_law_1069 (by decide) ?_
  refine lv_iadd hx hb dL_law_1070 ?_
  refine va_sld hx hb hX hbl hbA hS v2 dL_law_1071 ?_
  refine hv_V1 (n := 2) [.int (xs (i + (1 : Int32)).toNatClampNeg), .int (xs (i + (2 : Int32)).toNatClampNeg)] [] hx hb hml hown hts hk hr hz hS (zm_X9_bit l D s.heap.size e1) k1 rfl tw_647 tw_648 tw_649 tw_1 tw_650 (by decide +kernel) (by decide) ⟨hcc, hss⟩ rfl hl.1 (Nat.le_of_ble_eq_true rfl) dL_law_1072 rfl (fun H locs hr hS => ?_)
  refine lv_aload_n hx hb dL_law_1075 rfl (lv_at hl 2 rfl) ?_
  refine lv_aload_n hx hb dL_law_1076 rfl (lv_at hl 4 rfl) ?_
  refine lv_iload hx hb dL_law_1077 (lv_at hl 0 rfl) ?_
  refine lv_iconst (v := 1) hx hb dL_law_1079 (by decide) ?_
  refine lv_iadd hx hb dL_law_1080 ?_
  refine va_sld hx hb hX hbl hbA hS v1 dL_law_1081 ?_
  refine lv_aload_n hx hb dL_law_1082 rfl (lv_at hl 4 rfl) ?_
  refine lv_iload hx hb dL_law_1083 (lv_at hl 0 rfl) ?_
  refine lv_iconst (v := 2) hx hb dL_law_1085 (by decide) ?_
  refine lv_iadd hx hb dL_law_1086 ?_
  refine va_sld hx hb hX hbl hbA hS v2 dL_law_1087 ?_
  refine hv_V1 (n := 2) [.int (xs (i + (1 : Int32)).toNatClampNeg), .int (xs (i + (2 : Int32)).toNatClampNeg)] [.int r] hx hb hml hown hts hk hr hz hS (zm_X11_bit l D s.heap.size e2) k2 rfl tw_1161 tw_1162 tw_1163 tw_11 tw_1164 (by decide +kernel) (by decide) ⟨hcc, hss⟩ rfl hl.1 (Nat.le_of_ble_eq_true rfl) dL_law_1088 rfl (fun H locs hr hS => ?_)
  refine lv_icmp_eq (tgt := 1404) hx hb dL_law_1091 (by decide) (fun _ => ?_) (fun q => absurd rfl q)
  exact nx h2 H locs ls hr hS hl ⟨_, f, I2, (K.2 _ (Or.inr (by omega))).trans ha⟩
set_option maxRecDepth 100000 in
set_option maxHeartbeats 4000000 in
theorem law_c19 {p : Program} {l : Launch} {e : Env} {s : State} {m : MethodId} {below : List Frame} {meth : Method} {c : Code} {b L n : Nat} {xs : Nat → Int32} {i : Int32} {D : hG} {kc ks : Nat} (C0 : lw_At p s m meth c b L xs) (hk : hK D s) (v1 : vp_in (i + 1) L) (v2 : vp_in (i + 2) L) (v3 : vp_in (i + 3) L) (v4 : vp_in (i + 4) L) (v5 : vp_in (i + 5) L) (hcc : kc ≤ room_1.cells) (hss : ks ≤ room_1.slots) (nx : lawK p l e s m below meth c b D n i 1404 kc ks) : lawK p l e s m below meth c b D n i 1096 kc ks := by
  obtain ⟨hx, hb, hrt, hml, hown0, hts0, hX, hbl, hlk, hgv⟩ := C0
  have hown : s.vm.findClass RL = some m.cls := hown0
  have hts : ∀ w ∈ bg, w.before #[Value.ref b] s = true := fun w hw => hts0 w (List.mem_filter.mp hw).1
  have hbA : ¬ hA s.heap.size b := Nat.not_le.mpr hbl
  have hz : s.heap.size ≤ s.heap.size := Nat.le_refl _
  intro h H locs ls hr hS hl0 hI
  obtain ⟨S, f, I, ha⟩ := hI
  have hl : lv_has ls 7 [(4, .int i), (3, .ref (n + 817)), (2, .ref (n + 171)), (1, .ref n), (0, .ref b)] := hl0
  obtain ⟨r, h2, e1, e2, I2, K, k1, k2⟩ := two_length I (xs (i + (1 : Int32)).toNatClampNeg)
  refine lv_aload_n hx hb dL_law_1096 rfl (lv_at hl 3 rfl) ?_
  refine lv_aload_n hx hb dL_law_1097 rfl (lv_at hl 4 rfl) ?_
  refine lv_iload hx hb dL_law_1098 (lv_at hl 0 rfl) ?_
  refine lv_iconst (v := 1) hx hb dL_law_1100 (by decide) ?_
  refine lv_iadd hx hb dL_law_1101 ?_
  refine va_sld hx hb hX hbl hbA hS v1 dL_law_1102 ?_
  refine hv_V1 (n := 1) [.int (xs (i + (1 : Int32)).toNatClampNeg)] [] hx hb hml hown hts hk hr hz hS (zm_X9_length l D s.heap.size e1) k1 rfl tw_657 tw_658 tw_659 tw_1 tw_660 (by decide +kernel) (by decide) ⟨hcc, hss⟩ rfl hl.1 (Nat.le_of_ble_eq_true rfl) dL_law_1103 rfl (fun H locs hr hS => ?_)
  refine lv_aload_n hx hb dL_law_1106 rfl (lv_at hl 2 rfl) ?_
  refine lv_aload_n hx hb dL_law_1107 rfl (lv_at hl 4 rfl) ?_
  refine lv_iload hx hb dL_law_1108 (lv_at hl 0 rfl) ?_
  refine lv_iconst (v := 1) hx hb dL_law_1110 (by decide) ?_
  refine lv_iadd hx hb dL_law_1111 ?_
  refine va_sld hx hb hX hbl hbA hS v1 dL_law_1112 ?_
  refine hv_V1 (n := 1) [.int (xs (i + (1 : Int32)).toNatClampNeg)] [.int r] hx hb hml hown hts hk hr hz hS (zm_X11_length l D s.heap.size e2) k2 rfl tw_1166 tw_1167 tw_1168 tw_11 tw_1169 (by decide +kernel) (by decide) ⟨hcc, hss⟩ rfl hl.1 (Nat.le_of_ble_eq_true rfl) dL_law_1113 rfl (fun H locs hr hS => ?_)
  refine lv_icmp_eq (tgt := 1404) hx hb dL_law_1116 (by decide) (fun _ => ?_) (fun q => absurd rfl q)
  exact nx h2 H locs ls hr hS hl ⟨_, f, I2, (K.2 _ (Or.inr (by omega))).trans ha⟩
set_option maxRecDepth 100000 in
set_option maxHeartbeats 4000000 in
theorem law_c20 {p : Program} {l : Launch} {e : Env} {s : State} {m : MethodId} {below : List Frame} {meth : Method} {c : Code} {b L n : Nat} {xs : Nat → Int32} {i : Int32} {D : hG} {kc ks : Nat} (C0 : lw_At p s m meth c b L xs) (hk : hK D s) (v1 : vp_in (i + 1) L) (v2 : vp_in (i + 2) L) (v3 : vp_in (i + 3) L) (v4 : vp_in (i + 4) L) (v5 : vp_in (i + 5) L) (hcc : kc ≤ room_1.cells) (hss : ks ≤ room_1.slots) (nx : lawK p l e s m below meth c b D n i 1404 kc ks) : lawK p l e s m below meth c b D n i 1121 kc ks := by
  obtain ⟨hx, hb, hrt, hml, hown0, hts0, hX, hbl, hlk, hgv⟩ := C0
  have hown : s.vm.findClass RL = some m.cls := hown0
  have hts : ∀ w ∈ bg, w.before #[Value.ref b] s = true := fun w hw => hts0 w (List.mem_filter.mp hw).1
  have hbA : ¬ hA s.heap.size b := Nat.not_le.mpr hbl
  have hz : s.heap.size ≤ s.heap.size := Nat.le_refl _
  intro h H locs ls hr hS hl0 hI
  obtain ⟨S, f, I, ha⟩ := hI
  have hl : lv_has ls 7 [(4, .int i), (3, .ref (n + 817)), (2, .ref (n + 171)), (1, .ref n), (0, .ref b)] := hl0
  obtain ⟨r, h1, h2, e1, e2, I2, K, k1, k2⟩ := two_ones I (xs (i + (1 : Int32)).toNatClampNeg)
  refine lv_aload_n hx hb dL_law_1121 rfl (lv_at hl 3 rfl) ?_
  refine lv_aload_n hx hb dL_law_1122 rfl (lv_at hl 4 rfl) ?_
  refine lv_iload hx hb dL_law_1123 (lv_at hl 0 rfl) ?_
  refine lv_iconst (v := 1) hx hb dL_law_1125 (by decide) ?_
  refine lv_iadd hx hb dL_law_1126 ?_
  refine va_sld hx hb hX hbl hbA hS v1 dL_law_1127 ?_
  refine hv_V1 (n := 1) [.int (xs (i + (1 : Int32)).toNatClampNeg)] [] hx hb hml hown hts hk hr hz hS (zm_X9_ones l D s.heap.size e1) k1 rfl tw_661 tw_662 tw_663 tw_1 tw_664 (by decide +kernel) (by decide) ⟨hcc, hss⟩ rfl hl.1 (Nat.le_of_ble_eq_true rfl) dL_law_1128 rfl (fun H locs hr hS => ?_)
  refine lv_aload_n hx hb dL_law_1131 rfl (lv_at hl 2 rfl) ?_
  refine lv_aload_n hx hb dL_law_1132 rfl (lv_at hl 4 rfl) ?_
  refine lv_iload hx hb dL_law_1133 (lv_at hl 0 rfl) ?_
  refine lv_iconst (v := 1) hx hb dL_law_1135 (by decide) ?_
  refine lv_iadd hx hb dL_law_1136 ?_
  refine va_sld hx hb hX hbl hbA hS v1 dL_law_1137 ?_
  refine hv_V1 (n := 1) [.int (xs (i + (1 : Int32)).toNatClampNeg)] [.int r] hx hb hml hown hts hk hr hz hS (zm_X11_ones l D s.heap.size e2) k2 rfl tw_1170 tw_1171 tw_1172 tw_11 tw_1173 (by decide +kernel) (by decide) ⟨hcc, hss⟩ rfl hl.1 (Nat.le_of_ble_eq_true rfl) dL_law_1138 rfl (fun H locs hr hS => ?_)
  refine lv_icmp_eq (tgt := 1404) hx hb dL_law_1141 (by decide) (fun _ => ?_) (fun q => absurd rfl q)
  exact nx h2 H locs ls hr hS hl ⟨_, f, I2, (K.2 _ (Or.inr (by omega))).trans ha⟩
set_option maxRecDepth 100000 in
set_option maxHeartbeats 4000000 in
theorem law_c21 {p : Program} {l : Launch} {e : Env} {s : State} {m : MethodId} {below : List Frame} {meth : Method} {c : Code} {b L n : Nat} {xs : Nat → Int32} {i : Int32} {D : hG} {kc ks : Nat} (C0 : lw_At p s m meth c b L xs) (hk : hK D s) (v1 : vp_in (i + 1) L) (v2 : vp_in (i + 2) L) (v3 : vp_in (i + 3) L) (v4 : vp_in (i + 4) L) (v5 : vp_in (i + 5) L) (hcc : kc ≤ room_1.cells) (hss : ks ≤ room_1.slots) (nx : lawK p l e s m below meth c b D n i 1404 kc ks) : lawK p l e s m below meth c b D n i 1146 kc ks := by
  obtain ⟨hx, hb, hrt, hml, hown0, hts0, hX, hbl, hlk, hgv⟩ := C0
  have hown : s.vm.findClass RL = some m.cls := hown0
  have hts : ∀ w ∈ bg, w.before #[Value.ref b] s = true := fun w hw => hts0 w (List.mem_filter.mp hw).1
  have hbA : ¬ hA s.heap.size b := Nat.not_le.mpr hbl
  have hz : s.heap.size ≤ s.heap.size := Nat.le_refl _
  intro h H locs ls hr hS hl0 hI
  obtain ⟨S, f, I, ha⟩ := hI
  have hl : lv_has ls 7 [(4, .int i), (3, .ref (n + 817)), (2, .ref (n + 171)), (1, .ref n), (0, .ref b)] := hl0
  obtain ⟨r, h1, h2, S2, e1, e2, I2, K, k1, k2⟩ := two_ratio I (xs (i + (1 : Int32)).toNatClampNeg) (xs (i + (2 : Int32)).toNatClampNeg) (xs (i + (3 : Int32)).toNatClampNeg)
  refine lv_aload_n hx hb dL_law_1146 rfl (lv_at hl 3 rfl) ?_
  refine lv_aload_n hx hb dL_law_1147 rfl (lv_at hl 4 rfl) ?_
  refine lv_iload hx hb dL_law_1148 (lv_at hl 0 rfl) ?_
  refine lv_iconst (v := 1) hx hb dL_law_1150 (by decide) ?_
  refine lv_iadd hx hb dL_law_1151 ?_
  refine va_sld hx hb hX hbl hbA hS v1 dL_law_1152 ?_
  refine lv_aload_n hx hb dL_law_1153 rfl (lv_at hl 4 rfl) ?_
  refine lv_iload hx hb dL_law_1154 (lv_at hl 0 rfl) ?_
  refine lv_iconst (v := 2) hx hb dL_law_1156 (by decide) ?_
  refine lv_iadd hx hb dL_law_1157 ?_
  refine va_sld hx hb hX hbl hbA hS v2 dL_law_1158 ?_
  refine lv_aload_n hx hb dL_law_1159 rfl (lv_at hl 4 rfl) ?_
  refine lv_iload hx hb dL_law_1160 (lv_at hl 0 rfl) ?_
  refine lv_iconst (v := 3) hx hb dL_law_1162 (by decide) ?_
  refine lv_iadd hx hb dL_law_1163 ?_
  refine va_sld hx hb hX hbl hbA hS v3 dL_law_1164 ?_
  refine hv_V1 (n := 3) [.int (xs (i + (1 : Int32)).toNatClampNeg), .int (xs (i + (2 : Int32)).toNatClampNeg), .int (xs (i + (3 : Int32)).toNatClampNeg)] [] hx hb hml hown hts hk hr hz hS (zm_X9_ratio l D s.heap.size e1) k1 rfl tw_670 tw_671 tw_672 tw_1 tw_673 (by decide +kernel) (by decide) ⟨hcc, hss⟩ rfl hl.1 (Nat.le_of_ble_eq_true rfl) dL_law_1165 rfl (fun H locs hr hS => ?_)
  refine lv_aload_n hx hb dL_law_1168 rfl (lv_at hl 2 rfl) ?_
  refine lv_aload_n hx hb dL_law_1169 rfl (lv_at hl 4 rfl) ?_
  refine lv_iload hx hb dL_law_1170 (lv_at hl 0 rfl) ?_
  refine lv_iconst (v := 1) hx hb dL_law_1172 (by decide) ?_
  refine lv_iadd hx hb dL_law_1173 ?_
  refine va_sld hx hb hX hbl hbA hS v1 dL_law_1174 ?_
  refine lv_aload_n hx hb dL_law_1175 rfl (lv_at hl 4 rfl) ?_
  refine lv_iload hx hb dL_law_1176 (lv_at hl 0 rfl) ?_
  refine lv_iconst (v := 2) hx hb dL_law_1178 (by decide) ?_
  refine lv_iadd hx hb dL_law_1179 ?_
  refine va_sld hx hb hX hbl hbA hS v2 dL_law_1180 ?_
  refine lv_aload_n hx hb dL_law_1181 rfl (lv_at hl 4 rfl) ?_
  refine lv_iload hx hb dL_law_1182 (lv_at hl 0 rfl) ?_
  refine lv_iconst (v := 3) hx hb dL_law_1184 (by decide) ?_
  refine lv_iadd hx hb dL_law_1185 ?_
  refine va_sld hx hb hX hbl hbA hS v3 dL_law_1186 ?_
  refine hv_V1 (n := 3) [.int (xs (i + (1 : Int32)).toNatClampNeg), .int (xs (i + (2 : Int32)).toNatClampNeg), .int (xs (i + (3 : Int32)).toNatClampNeg)] [.int r] hx hb hml hown hts hk hr hz hS (zm_X11_ratio l D s.heap.size e2) k2 rfl tw_1180 tw_1181 tw_1182 tw_11 tw_1183 (by decide +kernel) (by decide) ⟨hcc, hss⟩ rfl hl.1 (Nat.le_of_ble_eq_true rfl) dL_law_1187 rfl (fun H locs hr hS => ?_)
  refine lv_icmp_eq (tgt := 1404) hx hb dL_law_1190 (by decide) (fun _ => ?_) (fun q => absurd rfl q)
  exact nx h2 H locs ls hr hS hl ⟨_, f, I2, (K.2 _ (Or.inr (by omega))).trans ha⟩
set_option maxRecDepth 100000 in
set_option maxHeartbeats 4000000 in
theorem law_c22 {p : Program} {l : Launch} {e : Env} {s : State} {m : MethodId} {below : List Frame} {meth : Method} {c : Code} {b L n : Nat} {xs : Nat → Int32} {i : Int32} {D : hG} {kc ks : Nat} (C0 : lw_At p s m meth c b L xs) (hk : hK D s) (v1 : vp_in (i + 1) L) (v2 : vp_in (i + 2) L) (v3 : vp_in (i + 3) L) (v4 : vp_in (i + 4) L) (v5 : vp_in (i + 5) L) (hcc : kc ≤ room_1.cells) (hss : ks ≤ room_1.slots) (nx : lawK p l e s m below meth c b D n i 1404 kc ks) : lawK p l e s m below meth c b D n i 1195 kc ks := by
  obtain ⟨hx, hb, hrt, hml, hown0, hts0, hX, hbl, hlk, hgv⟩ := C0
  have hown : s.vm.findClass RL = some m.cls := hown0
  have hts : ∀ w ∈ bg, w.before #[Value.ref b] s = true := fun w hw => hts0 w (List.mem_filter.mp hw).1
  have hbA : ¬ hA s.heap.size b := Nat.not_le.mpr hbl
  have hz : s.heap.size ≤ s.heap.size := Nat.le_refl _
  intro h H locs ls hr hS hl0 hI
  obtain ⟨S, f, I, ha⟩ := hI
  have hl : lv_has ls 7 [(4, .int i), (3, .ref (n + 817)), (2, .ref (n + 171)), (1, .ref n), (0, .ref b)] := hl0
  obtain ⟨r, h1, h2, S2, e1, e2, I2, K, k1, k2⟩ := two_actRatio I (xs (i + (1 : Int32)).toNatClampNeg) (xs (i + (2 : Int32)).toNatClampNeg) (xs (i + (3 : Int32)).toNatClampNeg) (xs (i + (4 : Int32)).toNatClampNeg)
  refine lv_aload_n hx hb dL_law_1195 rfl (lv_at hl 3 rfl) ?_
  refine lv_aload_n hx hb dL_law_1196 rfl (lv_at hl 4 rfl) ?_
  refine lv_iload hx hb dL_law_1197 (lv_at hl 0 rfl) ?_
  refine lv_iconst (v := 1) hx hb dL_law_1199 (by decide) ?_
  refine lv_iadd hx hb dL_law_1200 ?_
  refine va_sld hx hb hX hbl hbA hS v1 dL_law_1201 ?_
  refine lv_aload_n hx hb dL_law_1202 rfl (lv_at hl 4 rfl) ?_
  refine lv_iload hx hb dL_law_1203 (lv_at hl 0 rfl) ?_
  refine lv_iconst (v := 2) hx hb dL_law_1205 (by decide) ?_
  refine lv_iadd hx hb dL_law_1206 ?_
  refine va_sld hx hb hX hbl hbA hS v2 dL_law_1207 ?_
  refine lv_aload_n hx hb dL_law_1208 rfl (lv_at hl 4 rfl) ?_
  refine lv_iload hx hb dL_law_1209 (lv_at hl 0 rfl) ?_
  refine lv_iconst (v := 3) hx hb dL_law_1211 (by decide) ?_
  refine lv_iadd hx hb dL_law_1212 ?_
  refine va_sld hx hb hX hbl hbA hS v3 dL_law_1213 ?_
  refine lv_aload_n hx hb dL_law_1214 rfl (lv_at hl 4 rfl) ?_
  refine lv_iload hx hb dL_law_1215 (lv_at hl 0 rfl) ?_
  refine lv_iconst (v := 4) hx hb dL_law_1217 (by decide) ?_
  refine lv_iadd hx hb dL_law_1218 ?_
  refine va_sld hx hb hX hbl hbA hS v4 dL_law_1219 ?_
  refine hv_V1 (n := 4) [.int (xs (i + (1 : Int32)).toNatClampNeg), .int (xs (i + (2 : Int32)).toNatClampNeg), .int (xs (i + (3 : Int32)).toNatClampNeg), .int (xs (i + (4 : Int32)).toNatClampNeg)] [] hx hb hml hown hts hk hr hz hS (zm_X9_actRatio l D s.heap.size e1) k1 rfl tw_697 tw_698 tw_699 tw_1 tw_700 (by decide +kernel) (by decide) ⟨hcc, hss⟩ rfl hl.1 (Nat.le_of_ble_eq_true rfl) dL_law_1220 rfl (fun H locs hr hS => ?_)
  refine lv_aload_n hx hb dL_law_1223 rfl (lv_at hl 2 rfl) ?_
  refine lv_aload_n hx hb dL_law_1224 rfl (lv_at hl 4 rfl) ?_
  refine lv_iload hx hb dL_law_1225 (lv_at hl 0 rfl) ?_
  refine lv_iconst (v := 1) hx hb dL_law_1227 (by decide) ?_
  refine lv_iadd hx hb dL_law_1228 ?_
  refine va_sld hx hb hX hbl hbA hS v1 dL_law_1229 ?_
  refine lv_aload_n hx hb dL_law_1230 rfl (lv_at hl 4 rfl) ?_
  refine lv_iload hx hb dL_law_1231 (lv_at hl 0 rfl) ?_
  refine lv_iconst (v := 2) hx hb dL_law_1233 (by decide) ?_
  refine lv_iadd hx hb dL_law_1234 ?_
  refine va_sld hx hb hX hbl hbA hS v2 dL_law_1235 ?_
  refine lv_aload_n hx hb dL_law_1236 rfl (lv_at hl 4 rfl) ?_
  refine lv_iload hx hb dL_law_1237 (lv_at hl 0 rfl) ?_
  refine lv_iconst (v := 3) hx hb dL_law_1239 (by decide) ?_
  refine lv_iadd hx hb dL_law_1240 ?_
  refine va_sld hx hb hX hbl hbA hS v3 dL_law_1241 ?_
  refine lv_aload_n hx hb dL_law_1242 rfl (lv_at hl 4 rfl) ?_
  refine lv_iload hx hb dL_law_1243 (lv_at hl 0 rfl) ?_
  refine lv_iconst (v := 4) hx hb dL_law_1245 (by decide) ?_
  refine lv_iadd hx hb dL_law_1246 ?_
  refine va_sld hx hb hX hbl hbA hS v4 dL_law_1247 ?_
  refine hv_V1 (n := 4) [.int (xs (i + (1 : Int32)).toNatClampNeg), .int (xs (i + (2 : Int32)).toNatClampNeg), .int (xs (i + (3 : Int32)).toNatClampNeg), .int (xs (i + (4 : Int32)).toNatClampNeg)] [.int r] hx hb hml hown hts hk hr hz hS (zm_X11_actRatio l D s.heap.size e2) k2 rfl tw_1192 tw_1193 tw_1194 tw_11 tw_1195 (by decide +kernel) (by decide) ⟨hcc, hss⟩ rfl hl.1 (Nat.le_of_ble_eq_true rfl) dL_law_1248 rfl (fun H locs hr hS => ?_)
  refine lv_icmp_eq (tgt := 1404) hx hb dL_law_1251 (by decide) (fun _ => ?_) (fun q => absurd rfl q)
  exact nx h2 H locs ls hr hS hl ⟨_, f, I2, (K.2 _ (Or.inr (by omega))).trans ha⟩
set_option maxRecDepth 100000 in
set_option maxHeartbeats 4000000 in
theorem law_c23 {p : Program} {l : Launch} {e : Env} {s : State} {m : MethodId} {below : List Frame} {meth : Method} {c : Code} {b L n : Nat} {xs : Nat → Int32} {i : Int32} {D : hG} {kc ks : Nat} (C0 : lw_At p s m meth c b L xs) (hk : hK D s) (v1 : vp_in (i + 1) L) (v2 : vp_in (i + 2) L) (v3 : vp_in (i + 3) L) (v4 : vp_in (i + 4) L) (v5 : vp_in (i + 5) L) (hcc : kc ≤ room_1.cells) (hss : ks ≤ room_1.slots) (nx : lawK p l e s m below meth c b D n i 1404 kc ks) : lawK p l e s m below meth c b D n i 1256 kc ks := by
  obtain ⟨hx, hb, hrt, hml, hown0, hts0, hX, hbl, hlk, hgv⟩ := C0
  have hown : s.vm.findClass RL = some m.cls := hown0
  have hts : ∀ w ∈ bg, w.before #[Value.ref b] s = true := fun w hw => hts0 w (List.mem_filter.mp hw).1
  have hbA : ¬ hA s.heap.size b := Nat.not_le.mpr hbl
  have hz : s.heap.size ≤ s.heap.size := Nat.le_refl _
  intro h H locs ls hr hS hl0 hI
  obtain ⟨S, f, I, ha⟩ := hI
  have hl : lv_has ls 7 [(4, .int i), (3, .ref (n + 817)), (2, .ref (n + 171)), (1, .ref n), (0, .ref b)] := hl0
  obtain ⟨r, h1, h2, e1, e2, I2, K, k1, k2⟩ := two_compareRatio I (xs (i + (1 : Int32)).toNatClampNeg) (xs (i + (2 : Int32)).toNatClampNeg)
  refine lv_aload_n hx hb dL_law_1256 rfl (lv_at hl 3 rfl) ?_
  refine lv_aload_n hx hb dL_law_1257 rfl (lv_at hl 4 rfl) ?_
  refine lv_iload hx hb dL_law_1258 (lv_at hl 0 rfl) ?_
  refine lv_iconst (v := 1) hx hb dL_law_1260 (by decide) ?_
  refine lv_iadd hx hb dL_law_1261 ?_
  refine va_sld hx hb hX hbl hbA hS v1 dL_law_1262 ?_
  refine lv_aload_n hx hb dL_law_1263 rfl (lv_at hl 4 rfl) ?_
  refine lv_iload hx hb dL_law_1264 (lv_at hl 0 rfl) ?_
  refine lv_iconst (v := 2) hx hb dL_law_1266 (by decide) ?_
  refine lv_iadd hx hb dL_law_1267 ?_
  refine va_sld hx hb hX hbl hbA hS v2 dL_law_1268 ?_
  refine hv_V1 (n := 2) [.int (xs (i + (1 : Int32)).toNatClampNeg), .int (xs (i + (2 : Int32)).toNatClampNeg)] [] hx hb hml hown hts hk hr hz hS (zm_X9_compareRatio l D s.heap.size e1) k1 rfl tw_712 tw_713 tw_714 tw_1 tw_715 (by decide +kernel) (by decide) ⟨hcc, hss⟩ rfl hl.1 (Nat.le_of_ble_eq_true rfl) dL_law_1269 rfl (fun H locs hr hS => ?_)
  refine lv_aload_n hx hb dL_law_1272 rfl (lv_at hl 2 rfl) ?_
  refine lv_aload_n hx hb dL_law_1273 rfl (lv_at hl 4 rfl) ?_
  refine lv_iload hx hb dL_law_1274 (lv_at hl 0 rfl) ?_
  refine lv_iconst (v := 1) hx hb dL_law_1276 (by decide) ?_
  refine lv_iadd hx hb dL_law_1277 ?_
  refine va_sld hx hb hX hbl hbA hS v1 dL_law_1278 ?_
  refine lv_aload_n hx hb dL_law_1279 rfl (lv_at hl 4 rfl) ?_
  refine lv_iload hx hb dL_law_1280 (lv_at hl 0 rfl) ?_
  refine lv_iconst (v := 2) hx hb dL_law_1282 (by decide) ?_
  refine lv_iadd hx hb dL_law_1283 ?_
  refine va_sld hx hb hX hbl hbA hS v2 dL_law_1284 ?_
  refine hv_V1 (n := 2) [.int (xs (i + (1 : Int32)).toNatClampNeg), .int (xs (i + (2 : Int32)).toNatClampNeg)] [.int r] hx hb hml hown hts hk hr hz hS (zm_X11_compareRatio l D s.heap.size e2) k2 rfl tw_1196 tw_1197 tw_1198 tw_11 tw_1199 (by decide +kernel) (by decide) ⟨hcc, hss⟩ rfl hl.1 (Nat.le_of_ble_eq_true rfl) dL_law_1285 rfl (fun H locs hr hS => ?_)
  refine lv_icmp_eq (tgt := 1404) hx hb dL_law_1288 (by decide) (fun _ => ?_) (fun q => absurd rfl q)
  exact nx h2 H locs ls hr hS hl ⟨_, f, I2, (K.2 _ (Or.inr (by omega))).trans ha⟩
set_option maxRecDepth 100000 in
set_option maxHeartbeats 4000000 in
theorem law_c24 {p : Program} {l : Launch} {e : Env} {s : State} {m : MethodId} {below : List Frame} {meth : Method} {c : Code} {b L n : Nat} {xs : Nat → Int32} {i : Int32} {D : hG} {kc ks : Nat} (C0 : lw_At p s m meth c b L xs) (hk : hK D s) (v1 : vp_in (i + 1) L) (v2 : vp_in (i + 2) L) (v3 : vp_in (i + 3) L) (v4 : vp_in (i + 4) L) (v5 : vp_in (i + 5) L) (hcc : kc ≤ room_1.cells) (hss : ks ≤ room_1.slots) (nx : lawK p l e s m below meth c b D n i 1404 kc ks) : lawK p l e s m below meth c b D n i 1293 kc ks := by
  obtain ⟨hx, hb, hrt, hml, hown0, hts0, hX, hbl, hlk, hgv⟩ := C0
  have hown : s.vm.findClass RL = some m.cls := hown0
  have hts : ∀ w ∈ bg, w.before #[Value.ref b] s = true := fun w hw => hts0 w (List.mem_filter.mp hw).1
  have hbA : ¬ hA s.heap.size b := Nat.not_le.mpr hbl
  have hz : s.heap.size ≤ s.heap.size := Nat.le_refl _
  intro h H locs ls hr hS hl0 hI
  obtain ⟨S, f, I, ha⟩ := hI
  have hl : lv_has ls 7 [(4, .int i), (3, .ref (n + 817)), (2, .ref (n + 171)), (1, .ref n), (0, .ref b)] := hl0
  obtain ⟨r, h1, h2, S2, e1, e2, I2, K, k1, k2⟩ := two_part I (xs (i + (1 : Int32)).toNatClampNeg) (xs (i + (2 : Int32)).toNatClampNeg) (xs (i + (3 : Int32)).toNatClampNeg)
  refine lv_aload_n hx hb dL_law_1293 rfl (lv_at hl 3 rfl) ?_
  refine lv_aload_n hx hb dL_law_1294 rfl (lv_at hl 4 rfl) ?_
  refine lv_iload hx hb dL_law_1295 (lv_at hl 0 rfl) ?_
  refine lv_iconst (v := 1) hx hb dL_law_1297 (by decide) ?_
  refine lv_iadd hx hb dL_law_1298 ?_
  refine va_sld hx hb hX hbl hbA hS v1 dL_law_1299 ?_
  refine lv_aload_n hx hb dL_law_1300 rfl (lv_at hl 4 rfl) ?_
  refine lv_iload hx hb dL_law_1301 (lv_at hl 0 rfl) ?_
  refine lv_iconst (v := 2) hx hb dL_law_1303 (by decide) ?_
  refine lv_iadd hx hb dL_law_1304 ?_
  refine va_sld hx hb hX hbl hbA hS v2 dL_law_1305 ?_
  refine lv_aload_n hx hb dL_law_1306 rfl (lv_at hl 4 rfl) ?_
  refine lv_iload hx hb dL_law_1307 (lv_at hl 0 rfl) ?_
  refine lv_iconst (v := 3) hx hb dL_law_1309 (by decide) ?_
  refine lv_iadd hx hb dL_law_1310 ?_
  refine va_sld hx hb hX hbl hbA hS v3 dL_law_1311 ?_
  refine hv_V1 (n := 3) [.int (xs (i + (1 : Int32)).toNatClampNeg), .int (xs (i + (2 : Int32)).toNatClampNeg), .int (xs (i + (3 : Int32)).toNatClampNeg)] [] hx hb hml hown hts hk hr hz hS (zm_X9_part l D s.heap.size e1) k1 rfl tw_721 tw_722 tw_723 tw_1 tw_724 (by decide +kernel) (by decide) ⟨hcc, hss⟩ rfl hl.1 (Nat.le_of_ble_eq_true rfl) dL_law_1312 rfl (fun H locs hr hS => ?_)
  refine lv_aload_n hx hb dL_law_1315 rfl (lv_at hl 2 rfl) ?_
  refine lv_aload_n hx hb dL_law_1316 rfl (lv_at hl 4 rfl) ?_
  refine lv_iload hx hb dL_law_1317 (lv_at hl 0 rfl) ?_
  refine lv_iconst (v := 1) hx hb dL_law_1319 (by decide) ?_
  refine lv_iadd hx hb dL_law_1320 ?_
  refine va_sld hx hb hX hbl hbA hS v1 dL_law_1321 ?_
  refine lv_aload_n hx hb dL_law_1322 rfl (lv_at hl 4 rfl) ?_
  refine lv_iload hx hb dL_law_1323 (lv_at hl 0 rfl) ?_
  refine lv_iconst (v := 2) hx hb dL_law_1325 (by decide) ?_
  refine lv_iadd hx hb dL_law_1326 ?_
  refine va_sld hx hb hX hbl hbA hS v2 dL_law_1327 ?_
  refine lv_aload_n hx hb dL_law_1328 rfl (lv_at hl 4 rfl) ?_
  refine lv_iload hx hb dL_law_1329 (lv_at hl 0 rfl) ?_
  refine lv_iconst (v := 3) hx hb dL_law_1331 (by decide) ?_
  refine lv_iadd hx hb dL_law_1332 ?_
  refine va_sld hx hb hX hbl hbA hS v3 dL_law_1333 ?_
  refine hv_V1 (n := 3) [.int (xs (i + (1 : Int32)).toNatClampNeg), .int (xs (i + (2 : Int32)).toNatClampNeg), .int (xs (i + (3 : Int32)).toNatClampNeg)] [.int r] hx hb hml hown hts hk hr hz hS (zm_X11_part l D s.heap.size e2) k2 rfl tw_1200 tw_1201 tw_1202 tw_11 tw_1203 (by decide +kernel) (by decide) ⟨hcc, hss⟩ rfl hl.1 (Nat.le_of_ble_eq_true rfl) dL_law_1334 rfl (fun H locs hr hS => ?_)
  refine lv_icmp_eq (tgt := 1404) hx hb dL_law_1337 (by decide) (fun _ => ?_) (fun q => absurd rfl q)
  exact nx h2 H locs ls hr hS hl ⟨_, f, I2, (K.2 _ (Or.inr (by omega))).trans ha⟩
set_option maxRecDepth 100000 in
set_option maxHeartbeats 4000000 in
theorem law_c25 {p : Program} {l : Launch} {e : Env} {s : State} {m : MethodId} {below : List Frame} {meth : Method} {c : Code} {b L n : Nat} {xs : Nat → Int32} {i : Int32} {D : hG} {kc ks : Nat} (C0 : lw_At p s m meth c b L xs) (hk : hK D s) (v1 : vp_in (i + 1) L) (v2 : vp_in (i + 2) L) (v3 : vp_in (i + 3) L) (v4 : vp_in (i + 4) L) (v5 : vp_in (i + 5) L) (hcc : kc ≤ room_1.cells) (hss : ks ≤ room_1.slots) (nx : lawK p l e s m below meth c b D n i 1404 kc ks) : lawK p l e s m below meth c b D n i 1342 kc ks := by
  obtain ⟨hx, hb, hrt, hml, hown0, hts0, hX, hbl, hlk, hgv⟩ := C0
  have hown : s.vm.findClass RL = some m.cls := hown0
  have hts : ∀ w ∈ bg, w.before #[Value.ref b] s = true := fun w hw => hts0 w (List.mem_filter.mp hw).1
  have hbA : ¬ hA s.heap.size b := Nat.not_le.mpr hbl
  have hz : s.heap.size ≤ s.heap.size := Nat.le_refl _
  intro h H locs ls hr hS hl0 hI
  obtain ⟨S, f, I, ha⟩ := hI
  have hl : lv_has ls 7 [(4, .int i), (3, .ref (n + 817)), (2, .ref (n + 171)), (1, .ref n), (0, .ref b)] := hl0
  obtain ⟨r, h1, h2, S2, e1, e2, I2, K, k1, k2⟩ := two_digits I (xs (i + (1 : Int32)).toNatClampNeg) (xs (i + (2 : Int32)).toNatClampNeg)
  refine lv_aload_n hx hb dL_law_1342 rfl (lv_at hl 3 rfl) ?_
  refine lv_aload_n hx hb dL_law_1343 rfl (lv_at hl 4 rfl) ?_
  refine lv_iload hx hb dL_law_1344 (lv_at hl 0 rfl) ?_
  refine lv_iconst (v := 1) hx hb dL_law_1346 (by decide) ?_
  refine lv_iadd hx hb dL_law_1347 ?_
  refine va_sld hx hb hX hbl hbA hS v1 dL_law_1348 ?_
  refine lv_aload_n hx hb dL_law_1349 rfl (lv_at hl 4 rfl) ?_
  refine lv_iload hx hb dL_law_1350 (lv_at hl 0 rfl) ?_
  refine lv_iconst (v := 2) hx hb dL_law_1352 (by decide) ?_
  refine lv_iadd hx hb dL_law_1353 ?_
  refine va_sld hx hb hX hbl hbA hS v2 dL_law_1354 ?_
  refine hv_V1 (n := 2) [.int (xs (i + (1 : Int32)).toNatClampNeg), .int (xs (i + (2 : Int32)).toNatClampNeg)] [] hx hb hml hown hts hk hr hz hS (zm_X9_digits l D s.heap.size e1) k1 rfl tw_733 tw_734 tw_735 tw_1 tw_736 (by decide +kernel) (by decide) ⟨hcc, hss⟩ rfl hl.1 (Nat.le_of_ble_eq_true rfl) dL_law_1355 rfl (fun H locs hr hS => ?_)
  refine lv_aload_n hx hb dL_law_1358 rfl (lv_at hl 2 rfl) ?_
  refine lv_aload_n hx hb dL_law_1359 rfl (lv_at hl 4 rfl) ?_
  refine lv_iload hx hb dL_law_1360 (lv_at hl 0 rfl) ?_
  refine lv_iconst (v := 1) hx hb dL_law_1362 (by decide) ?_
  refine lv_iadd hx hb dL_law_1363 ?_
  refine va_sld hx hb hX hbl hbA hS v1 dL_law_1364 ?_
  refine lv_aload_n hx hb dL_law_1365 rfl (lv_at hl 4 rfl) ?_
  refine lv_iload hx hb dL_law_1366 (lv_at hl 0 rfl) ?_
  refine lv_iconst (v := 2) hx hb dL_law_1368 (by decide) ?_
  refine lv_iadd hx hb dL_law_1369 ?_
  refine va_sld hx hb hX hbl hbA hS v2 dL_law_1370 ?_
  refine hv_V1 (n := 2) [.int (xs (i + (1 : Int32)).toNatClampNeg), .int (xs (i + (2 : Int32)).toNatClampNeg)] [.int r] hx hb hml hown hts hk hr hz hS (zm_X11_digits l D s.heap.size e2) k2 rfl tw_1204 tw_1205 tw_1206 tw_11 tw_1207 (by decide +kernel) (by decide) ⟨hcc, hss⟩ rfl hl.1 (Nat.le_of_ble_eq_true rfl) dL_law_1371 rfl (fun H locs hr hS => ?_)
  refine lv_icmp_eq (tgt := 1404) hx hb dL_law_1374 (by decide) (fun _ => ?_) (fun q => absurd rfl q)
  exact nx h2 H locs ls hr hS hl ⟨_, f, I2, (K.2 _ (Or.inr (by omega))).trans ha⟩
set_option maxRecDepth 100000 in
set_option maxHeartbeats 4000000 in
theorem law_c26 {p : Program} {l : Launch} {e : Env} {s : State} {m : MethodId} {below : List Frame} {meth : Method} {c : Code} {b L n : Nat} {xs : Nat → Int32} {i : Int32} {D : hG} {kc ks : Nat} (C0 : lw_At p s m meth c b L xs) (hk : hK D s) (v1 : vp_in (i + 1) L) (v2 : vp_in (i + 2) L) (v3 : vp_in (i + 3) L) (v4 : vp_in (i + 4) L) (v5 : vp_in (i + 5) L) (hcc : kc ≤ room_1.cells) (hss : ks ≤ room_1.slots) (nx : lawK p l e s m below meth c b D n i 1404 kc ks) : lawK p l e s m below meth c b D n i 1379 kc ks := by
  obtain ⟨hx, hb, hrt, hml, hown0, hts0, hX, hbl, hlk, hgv⟩ := C0
  have hown : s.vm.findClass RL = some m.cls := hown0
  have hts : ∀ w ∈ bg, w.before #[Value.ref b] s = true := fun w hw => hts0 w (List.mem_filter.mp hw).1
  have hbA : ¬ hA s.heap.size b := Nat.not_le.mpr hbl
  have hz : s.heap.size ≤ s.heap.size := Nat.le_refl _
  intro h H locs ls hr hS hl0 hI
  obtain ⟨S, f, I, ha⟩ := hI
  have hl : lv_has ls 7 [(4, .int i), (3, .ref (n + 817)), (2, .ref (n + 171)), (1, .ref n), (0, .ref b)] := hl0
  obtain ⟨r, h2, e1, e2, I2, K, k1, k2⟩ := two_digit I (xs (i + (1 : Int32)).toNatClampNeg)
  refine lv_aload_n hx hb dL_law_1379 rfl (lv_at hl 3 rfl) ?_
  refine lv_aload_n hx hb dL_law_1380 rfl (lv_at hl 4 rfl) ?_
  refine lv_iload hx hb dL_law_1381 (lv_at hl 0 rfl) ?_
  refine lv_iconst (v := 1) hx hb dL_law_1383 (by decide) ?_
  refine lv_iadd hx hb dL_law_1384 ?_
  refine va_sld hx hb hX hbl hbA hS v1 dL_law_1385 ?_
  refine hv_V1 (n := 1) [.int (xs (i + (1 : Int32)).toNatClampNeg)] [] hx hb hml hown hts hk hr hz hS (zm_X9_digit l D s.heap.size e1) k1 rfl tw_767 tw_768 tw_769 tw_1 tw_770 (by decide +kernel) (by decide) ⟨hcc, hss⟩ rfl hl.1 (Nat.le_of_ble_eq_true rfl) dL_law_1386 rfl (fun H locs hr hS => ?_)
  refine lv_aload_n hx hb dL_law_1389 rfl (lv_at hl 2 rfl) ?_
  refine lv_aload_n hx hb dL_law_1390 rfl (lv_at hl 4 rfl) ?_
  refine lv_iload hx hb dL_law_1391 (lv_at hl 0 rfl) ?_
  refine lv_iconst (v := 1) hx hb dL_law_1393 (by decide) ?_
  refine lv_iadd hx hb dL_law_1394 ?_
  refine va_sld hx hb hX hbl hbA hS v1 dL_law_1395 ?_
  refine hv_V1 (n := 1) [.int (xs (i + (1 : Int32)).toNatClampNeg)] [.int r] hx hb hml hown hts hk hr hz hS (zm_X11_digit l D s.heap.size e2) k2 rfl tw_1213 tw_1214 tw_1215 tw_11 tw_1216 (by decide +kernel) (by decide) ⟨hcc, hss⟩ rfl hl.1 (Nat.le_of_ble_eq_true rfl) dL_law_1396 rfl (fun H locs hr hS => ?_)
  refine lv_icmp_eq (tgt := 1404) hx hb dL_law_1399 (by decide) (fun _ => ?_) (fun q => absurd rfl q)
  exact nx h2 H locs ls hr hS hl ⟨_, f, I2, (K.2 _ (Or.inr (by omega))).trans ha⟩
