theorem dL_law_0 : decode cL_law 0 = .ok (.new 7, 3) := by decide +kernel
theorem dL_law_3 : decode cL_law 3 = .ok (.dup, 1) := by decide +kernel
theorem dL_law_4 : decode cL_law 4 = .ok (.invokespecial 9, 3) := by decide +kernel
theorem dL_law_7 : decode cL_law 7 = .ok (.astore_n 1, 1) := by decide +kernel
theorem dL_law_8 : decode cL_law 8 = .ok (.new 10, 3) := by decide +kernel
theorem dL_law_11 : decode cL_law 11 = .ok (.dup, 1) := by decide +kernel
theorem dL_law_12 : decode cL_law 12 = .ok (.invokespecial 12, 3) := by decide +kernel
theorem dL_law_15 : decode cL_law 15 = .ok (.astore_n 2, 1) := by decide +kernel
theorem dL_law_16 : decode cL_law 16 = .ok (.iconst 0, 1) := by decide +kernel
theorem dL_law_17 : decode cL_law 17 = .ok (.istore_n 3, 1) := by decide +kernel
theorem dL_law_18 : decode cL_law 18 = .ok (.iload_n 3, 1) := by decide +kernel
theorem dL_law_19 : decode cL_law 19 = .ok (.aload_n 0, 1) := by decide +kernel
theorem dL_law_20 : decode cL_law 20 = .ok (.arraylength, 1) := by decide +kernel
theorem dL_law_21 : decode cL_law 21 = .ok (.iconst 4, 1) := by decide +kernel
theorem dL_law_22 : decode cL_law 22 = .ok (.isub, 1) := by decide +kernel
theorem dL_law_23 : decode cL_law 23 = .ok (.if_icmp .gt 1165, 3) := by decide +kernel
theorem dL_law_26 : decode cL_law 26 = .ok (.aload_n 0, 1) := by decide +kernel
theorem dL_law_27 : decode cL_law 27 = .ok (.iload_n 3, 1) := by decide +kernel
theorem dL_law_28 : decode cL_law 28 = .ok (.iaload, 1) := by decide +kernel
theorem dL_law_29 : decode cL_law 29 = .ok (.bipush 63, 2) := by decide +kernel
theorem dL_law_31 : decode cL_law 31 = .ok (.iand, 1) := by decide +kernel
theorem dL_law_32 : decode cL_law 32 = .ok (.tableswitch 1150 0 33 #[152, 185, 208, 251, 274, 307, 340, 389, 412, 435, 458, 481, 514, 537, 570, 603, 626, 659, 692, 725, 748, 771, 804, 837, 880, 913, 936, 969, 1002, 1035, 1058, 1081, 1104, 1127], 152) := by decide +kernel
theorem dL_law_184 : decode cL_law 184 = .ok (.aload_n 1, 1) := by decide +kernel
theorem dL_law_185 : decode cL_law 185 = .ok (.aload_n 0, 1) := by decide +kernel
theorem dL_law_186 : decode cL_law 186 = .ok (.iload_n 3, 1) := by decide +kernel
theorem dL_law_187 : decode cL_law 187 = .ok (.iconst 1, 1) := by decide +kernel
theorem dL_law_188 : decode cL_law 188 = .ok (.iadd, 1) := by decide +kernel
theorem dL_law_189 : decode cL_law 189 = .ok (.iaload, 1) := by decide +kernel
theorem dL_law_190 : decode cL_law 190 = .ok (.aload_n 0, 1) := by decide +kernel
theorem dL_law_191 : decode cL_law 191 = .ok (.iload_n 3, 1) := by decide +kernel
theorem dL_law_192 : decode cL_law 192 = .ok (.iconst 2, 1) := by decide +kernel
theorem dL_law_193 : decode cL_law 193 = .ok (.iadd, 1) := by decide +kernel
theorem dL_law_194 : decode cL_law 194 = .ok (.iaload, 1) := by decide +kernel
theorem dL_law_195 : decode cL_law 195 = .ok (.invokevirtual 13, 3) := by decide +kernel
theorem dL_law_198 : decode cL_law 198 = .ok (.aload_n 2, 1) := by decide +kernel
theorem dL_law_199 : decode cL_law 199 = .ok (.aload_n 0, 1) := by decide +kernel
theorem dL_law_200 : decode cL_law 200 = .ok (.iload_n 3, 1) := by decide +kernel
theorem dL_law_201 : decode cL_law 201 = .ok (.iconst 1, 1) := by decide +kernel
theorem dL_law_202 : decode cL_law 202 = .ok (.iadd, 1) := by decide +kernel
theorem dL_law_203 : decode cL_law 203 = .ok (.iaload, 1) := by decide +kernel
theorem dL_law_204 : decode cL_law 204 = .ok (.aload_n 0, 1) := by decide +kernel
theorem dL_law_205 : decode cL_law 205 = .ok (.iload_n 3, 1) := by decide +kernel
theorem dL_law_206 : decode cL_law 206 = .ok (.iconst 2, 1) := by decide +kernel
theorem dL_law_207 : decode cL_law 207 = .ok (.iadd, 1) := by decide +kernel
theorem dL_law_208 : decode cL_law 208 = .ok (.iaload, 1) := by decide +kernel
theorem dL_law_209 : decode cL_law 209 = .ok (.invokevirtual 17, 3) := by decide +kernel
theorem dL_law_212 : decode cL_law 212 = .ok (.if_icmp .eq 970, 3) := by decide +kernel
theorem dL_law_215 : decode cL_law 215 = .ok (.iconst 0, 1) := by decide +kernel
theorem dL_law_216 : decode cL_law 216 = .ok (.ireturn, 1) := by decide +kernel
theorem dL_law_217 : decode cL_law 217 = .ok (.aload_n 1, 1) := by decide +kernel
theorem dL_law_218 : decode cL_law 218 = .ok (.aload_n 0, 1) := by decide +kernel
theorem dL_law_219 : decode cL_law 219 = .ok (.iload_n 3, 1) := by decide +kernel
theorem dL_law_220 : decode cL_law 220 = .ok (.iconst 1, 1) := by decide +kernel
theorem dL_law_221 : decode cL_law 221 = .ok (.iadd, 1) := by decide +kernel
theorem dL_law_222 : decode cL_law 222 = .ok (.iaload, 1) := by decide +kernel
theorem dL_law_223 : decode cL_law 223 = .ok (.invokevirtual 18, 3) := by decide +kernel
theorem dL_law_226 : decode cL_law 226 = .ok (.aload_n 2, 1) := by decide +kernel
theorem dL_law_227 : decode cL_law 227 = .ok (.aload_n 0, 1) := by decide +kernel
theorem dL_law_228 : decode cL_law 228 = .ok (.iload_n 3, 1) := by decide +kernel
theorem dL_law_229 : decode cL_law 229 = .ok (.iconst 1, 1) := by decide +kernel
theorem dL_law_230 : decode cL_law 230 = .ok (.iadd, 1) := by decide +kernel
theorem dL_law_231 : decode cL_law 231 = .ok (.iaload, 1) := by decide +kernel
theorem dL_law_232 : decode cL_law 232 = .ok (.invokevirtual 22, 3) := by decide +kernel
theorem dL_law_235 : decode cL_law 235 = .ok (.if_icmp .eq 947, 3) := by decide +kernel
theorem dL_law_238 : decode cL_law 238 = .ok (.iconst 0, 1) := by decide +kernel
theorem dL_law_239 : decode cL_law 239 = .ok (.ireturn, 1) := by decide +kernel
theorem dL_law_240 : decode cL_law 240 = .ok (.aload_n 1, 1) := by decide +kernel
theorem dL_law_241 : decode cL_law 241 = .ok (.aload_n 0, 1) := by decide +kernel
theorem dL_law_242 : decode cL_law 242 = .ok (.iload_n 3, 1) := by decide +kernel
theorem dL_law_243 : decode cL_law 243 = .ok (.iconst 1, 1) := by decide +kernel
theorem dL_law_244 : decode cL_law 244 = .ok (.iadd, 1) := by decide +kernel
theorem dL_law_245 : decode cL_law 245 = .ok (.iaload, 1) := by decide +kernel
theorem dL_law_246 : decode cL_law 246 = .ok (.aload_n 0, 1) := by decide +kernel
theorem dL_law_247 : decode cL_law 247 = .ok (.iload_n 3, 1) := by decide +kernel
theorem dL_law_248 : decode cL_law 248 = .ok (.iconst 2, 1) := by decide +kernel
theorem dL_law_249 : decode cL_law 249 = .ok (.iadd, 1) := by decide +kernel
theorem dL_law_250 : decode cL_law 250 = .ok (.iaload, 1) := by decide +kernel
theorem dL_law_251 : decode cL_law 251 = .ok (.aload_n 0, 1) := by decide +kernel
theorem dL_law_252 : decode cL_law 252 = .ok (.iload_n 3, 1) := by decide +kernel
theorem dL_law_253 : decode cL_law 253 = .ok (.iconst 3, 1) := by decide +kernel
theorem dL_law_254 : decode cL_law 254 = .ok (.iadd, 1) := by decide +kernel
theorem dL_law_255 : decode cL_law 255 = .ok (.iaload, 1) := by decide +kernel
theorem dL_law_256 : decode cL_law 256 = .ok (.invokevirtual 23, 3) := by decide +kernel
theorem dL_law_259 : decode cL_law 259 = .ok (.aload_n 2, 1) := by decide +kernel
theorem dL_law_260 : decode cL_law 260 = .ok (.aload_n 0, 1) := by decide +kernel
theorem dL_law_261 : decode cL_law 261 = .ok (.iload_n 3, 1) := by decide +kernel
theorem dL_law_262 : decode cL_law 262 = .ok (.iconst 1, 1) := by decide +kernel
theorem dL_law_263 : decode cL_law 263 = .ok (.iadd, 1) := by decide +kernel
theorem dL_law_264 : decode cL_law 264 = .ok (.iaload, 1) := by decide +kernel
theorem dL_law_265 : decode cL_law 265 = .ok (.aload_n 0, 1) := by decide +kernel
theorem dL_law_266 : decode cL_law 266 = .ok (.iload_n 3, 1) := by decide +kernel
theorem dL_law_267 : decode cL_law 267 = .ok (.iconst 2, 1) := by decide +kernel
theorem dL_law_268 : decode cL_law 268 = .ok (.iadd, 1) := by decide +kernel
theorem dL_law_269 : decode cL_law 269 = .ok (.iaload, 1) := by decide +kernel
theorem dL_law_270 : decode cL_law 270 = .ok (.aload_n 0, 1) := by decide +kernel
theorem dL_law_271 : decode cL_law 271 = .ok (.iload_n 3, 1) := by decide +kernel
theorem dL_law_272 : decode cL_law 272 = .ok (.iconst 3, 1) := by decide +kernel
theorem dL_law_273 : decode cL_law 273 = .ok (.iadd, 1) := by decide +kernel
theorem dL_law_274 : decode cL_law 274 = .ok (.iaload, 1) := by decide +kernel
theorem dL_law_275 : decode cL_law 275 = .ok (.invokevirtual 27, 3) := by decide +kernel
theorem dL_law_278 : decode cL_law 278 = .ok (.if_icmp .eq 904, 3) := by decide +kernel
theorem dL_law_281 : decode cL_law 281 = .ok (.iconst 0, 1) := by decide +kernel
theorem dL_law_282 : decode cL_law 282 = .ok (.ireturn, 1) := by decide +kernel
theorem dL_law_283 : decode cL_law 283 = .ok (.aload_n 1, 1) := by decide +kernel
theorem dL_law_284 : decode cL_law 284 = .ok (.aload_n 0, 1) := by decide +kernel
theorem dL_law_285 : decode cL_law 285 = .ok (.iload_n 3, 1) := by decide +kernel
theorem dL_law_286 : decode cL_law 286 = .ok (.iconst 1, 1) := by decide +kernel
theorem dL_law_287 : decode cL_law 287 = .ok (.iadd, 1) := by decide +kernel
theorem dL_law_288 : decode cL_law 288 = .ok (.iaload, 1) := by decide +kernel
theorem dL_law_289 : decode cL_law 289 = .ok (.invokevirtual 28, 3) := by decide +kernel
theorem dL_law_292 : decode cL_law 292 = .ok (.aload_n 2, 1) := by decide +kernel
theorem dL_law_293 : decode cL_law 293 = .ok (.aload_n 0, 1) := by decide +kernel
theorem dL_law_294 : decode cL_law 294 = .ok (.iload_n 3, 1) := by decide +kernel
theorem dL_law_295 : decode cL_law 295 = .ok (.iconst 1, 1) := by decide +kernel
theorem dL_law_296 : decode cL_law 296 = .ok (.iadd, 1) := by decide +kernel
theorem dL_law_297 : decode cL_law 297 = .ok (.iaload, 1) := by decide +kernel
theorem dL_law_298 : decode cL_law 298 = .ok (.invokevirtual 31, 3) := by decide +kernel
theorem dL_law_301 : decode cL_law 301 = .ok (.if_icmp .eq 881, 3) := by decide +kernel
theorem dL_law_304 : decode cL_law 304 = .ok (.iconst 0, 1) := by decide +kernel
theorem dL_law_305 : decode cL_law 305 = .ok (.ireturn, 1) := by decide +kernel
theorem dL_law_306 : decode cL_law 306 = .ok (.aload_n 1, 1) := by decide +kernel
theorem dL_law_307 : decode cL_law 307 = .ok (.aload_n 0, 1) := by decide +kernel
theorem dL_law_308 : decode cL_law 308 = .ok (.iload_n 3, 1) := by decide +kernel
theorem dL_law_309 : decode cL_law 309 = .ok (.iconst 1, 1) := by decide +kernel
theorem dL_law_310 : decode cL_law 310 = .ok (.iadd, 1) := by decide +kernel
theorem dL_law_311 : decode cL_law 311 = .ok (.iaload, 1) := by decide +kernel
theorem dL_law_312 : decode cL_law 312 = .ok (.aload_n 0, 1) := by decide +kernel
theorem dL_law_313 : decode cL_law 313 = .ok (.iload_n 3, 1) := by decide +kernel
theorem dL_law_314 : decode cL_law 314 = .ok (.iconst 2, 1) := by decide +kernel
theorem dL_law_315 : decode cL_law 315 = .ok (.iadd, 1) := by decide +kernel
theorem dL_law_316 : decode cL_law 316 = .ok (.iaload, 1) := by decide +kernel
theorem dL_law_317 : decode cL_law 317 = .ok (.invokevirtual 32, 3) := by decide +kernel
theorem dL_law_320 : decode cL_law 320 = .ok (.aload_n 2, 1) := by decide +kernel
theorem dL_law_321 : decode cL_law 321 = .ok (.aload_n 0, 1) := by decide +kernel
theorem dL_law_322 : decode cL_law 322 = .ok (.iload_n 3, 1) := by decide +kernel
theorem dL_law_323 : decode cL_law 323 = .ok (.iconst 1, 1) := by decide +kernel
theorem dL_law_324 : decode cL_law 324 = .ok (.iadd, 1) := by decide +kernel
theorem dL_law_325 : decode cL_law 325 = .ok (.iaload, 1) := by decide +kernel
theorem dL_law_326 : decode cL_law 326 = .ok (.aload_n 0, 1) := by decide +kernel
theorem dL_law_327 : decode cL_law 327 = .ok (.iload_n 3, 1) := by decide +kernel
theorem dL_law_328 : decode cL_law 328 = .ok (.iconst 2, 1) := by decide +kernel
theorem dL_law_329 : decode cL_law 329 = .ok (.iadd, 1) := by decide +kernel
theorem dL_law_330 : decode cL_law 330 = .ok (.iaload, 1) := by decide +kernel
theorem dL_law_331 : decode cL_law 331 = .ok (.invokevirtual 36, 3) := by decide +kernel
theorem dL_law_334 : decode cL_law 334 = .ok (.if_icmp .eq 848, 3) := by decide +kernel
theorem dL_law_337 : decode cL_law 337 = .ok (.iconst 0, 1) := by decide +kernel
theorem dL_law_338 : decode cL_law 338 = .ok (.ireturn, 1) := by decide +kernel
theorem dL_law_339 : decode cL_law 339 = .ok (.aload_n 1, 1) := by decide +kernel
theorem dL_law_340 : decode cL_law 340 = .ok (.aload_n 0, 1) := by decide +kernel
theorem dL_law_341 : decode cL_law 341 = .ok (.iload_n 3, 1) := by decide +kernel
theorem dL_law_342 : decode cL_law 342 = .ok (.iconst 1, 1) := by decide +kernel
theorem dL_law_343 : decode cL_law 343 = .ok (.iadd, 1) := by decide +kernel
theorem dL_law_344 : decode cL_law 344 = .ok (.iaload, 1) := by decide +kernel
theorem dL_law_345 : decode cL_law 345 = .ok (.aload_n 0, 1) := by decide +kernel
theorem dL_law_346 : decode cL_law 346 = .ok (.iload_n 3, 1) := by decide +kernel
theorem dL_law_347 : decode cL_law 347 = .ok (.iconst 2, 1) := by decide +kernel
theorem dL_law_348 : decode cL_law 348 = .ok (.iadd, 1) := by decide +kernel
theorem dL_law_349 : decode cL_law 349 = .ok (.iaload, 1) := by decide +kernel
theorem dL_law_350 : decode cL_law 350 = .ok (.invokevirtual 37, 3) := by decide +kernel
theorem dL_law_353 : decode cL_law 353 = .ok (.aload_n 2, 1) := by decide +kernel
theorem dL_law_354 : decode cL_law 354 = .ok (.aload_n 0, 1) := by decide +kernel
theorem dL_law_355 : decode cL_law 355 = .ok (.iload_n 3, 1) := by decide +kernel
theorem dL_law_356 : decode cL_law 356 = .ok (.iconst 1, 1) := by decide +kernel
theorem dL_law_357 : decode cL_law 357 = .ok (.iadd, 1) := by decide +kernel
theorem dL_law_358 : decode cL_law 358 = .ok (.iaload, 1) := by decide +kernel
theorem dL_law_359 : decode cL_law 359 = .ok (.aload_n 0, 1) := by decide +kernel
theorem dL_law_360 : decode cL_law 360 = .ok (.iload_n 3, 1) := by decide +kernel
theorem dL_law_361 : decode cL_law 361 = .ok (.iconst 2, 1) := by decide +kernel
theorem dL_law_362 : decode cL_law 362 = .ok (.iadd, 1) := by decide +kernel
theorem dL_law_363 : decode cL_law 363 = .ok (.iaload, 1) := by decide +kernel
theorem dL_law_364 : decode cL_law 364 = .ok (.invokevirtual 40, 3) := by decide +kernel
theorem dL_law_367 : decode cL_law 367 = .ok (.if_icmp .eq 815, 3) := by decide +kernel
theorem dL_law_370 : decode cL_law 370 = .ok (.iconst 0, 1) := by decide +kernel
theorem dL_law_371 : decode cL_law 371 = .ok (.ireturn, 1) := by decide +kernel
theorem dL_law_372 : decode cL_law 372 = .ok (.aload_n 1, 1) := by decide +kernel
theorem dL_law_373 : decode cL_law 373 = .ok (.aload_n 0, 1) := by decide +kernel
theorem dL_law_374 : decode cL_law 374 = .ok (.iload_n 3, 1) := by decide +kernel
theorem dL_law_375 : decode cL_law 375 = .ok (.iconst 1, 1) := by decide +kernel
theorem dL_law_376 : decode cL_law 376 = .ok (.iadd, 1) := by decide +kernel
theorem dL_law_377 : decode cL_law 377 = .ok (.iaload, 1) := by decide +kernel
theorem dL_law_378 : decode cL_law 378 = .ok (.aload_n 0, 1) := by decide +kernel
theorem dL_law_379 : decode cL_law 379 = .ok (.iload_n 3, 1) := by decide +kernel
theorem dL_law_380 : decode cL_law 380 = .ok (.iconst 2, 1) := by decide +kernel
theorem dL_law_381 : decode cL_law 381 = .ok (.iadd, 1) := by decide +kernel
theorem dL_law_382 : decode cL_law 382 = .ok (.iaload, 1) := by decide +kernel
theorem dL_law_383 : decode cL_law 383 = .ok (.ifCond .eq 7, 3) := by decide +kernel
theorem dL_law_386 : decode cL_law 386 = .ok (.iconst 1, 1) := by decide +kernel
theorem dL_law_387 : decode cL_law 387 = .ok (.goto 4, 3) := by decide +kernel
theorem dL_law_390 : decode cL_law 390 = .ok (.iconst 0, 1) := by decide +kernel
theorem dL_law_391 : decode cL_law 391 = .ok (.invokevirtual 41, 3) := by decide +kernel
theorem dL_law_394 : decode cL_law 394 = .ok (.aload_n 2, 1) := by decide +kernel
theorem dL_law_395 : decode cL_law 395 = .ok (.aload_n 0, 1) := by decide +kernel
theorem dL_law_396 : decode cL_law 396 = .ok (.iload_n 3, 1) := by decide +kernel
theorem dL_law_397 : decode cL_law 397 = .ok (.iconst 1, 1) := by decide +kernel
theorem dL_law_398 : decode cL_law 398 = .ok (.iadd, 1) := by decide +kernel
theorem dL_law_399 : decode cL_law 399 = .ok (.iaload, 1) := by decide +kernel
theorem dL_law_400 : decode cL_law 400 = .ok (.aload_n 0, 1) := by decide +kernel
theorem dL_law_401 : decode cL_law 401 = .ok (.iload_n 3, 1) := by decide +kernel
theorem dL_law_402 : decode cL_law 402 = .ok (.iconst 2, 1) := by decide +kernel
theorem dL_law_403 : decode cL_law 403 = .ok (.iadd, 1) := by decide +kernel
theorem dL_law_404 : decode cL_law 404 = .ok (.iaload, 1) := by decide +kernel
theorem dL_law_405 : decode cL_law 405 = .ok (.ifCond .eq 7, 3) := by decide +kernel
theorem dL_law_408 : decode cL_law 408 = .ok (.iconst 1, 1) := by decide +kernel
theorem dL_law_409 : decode cL_law 409 = .ok (.goto 4, 3) := by decide +kernel
theorem dL_law_412 : decode cL_law 412 = .ok (.iconst 0, 1) := by decide +kernel
theorem dL_law_413 : decode cL_law 413 = .ok (.invokevirtual 45, 3) := by decide +kernel
theorem dL_law_416 : decode cL_law 416 = .ok (.if_icmp .eq 766, 3) := by decide +kernel
theorem dL_law_419 : decode cL_law 419 = .ok (.iconst 0, 1) := by decide +kernel
theorem dL_law_420 : decode cL_law 420 = .ok (.ireturn, 1) := by decide +kernel
theorem dL_law_421 : decode cL_law 421 = .ok (.aload_n 1, 1) := by decide +kernel
theorem dL_law_422 : decode cL_law 422 = .ok (.aload_n 0, 1) := by decide +kernel
theorem dL_law_423 : decode cL_law 423 = .ok (.iload_n 3, 1) := by decide +kernel
theorem dL_law_424 : decode cL_law 424 = .ok (.iconst 1, 1) := by decide +kernel
theorem dL_law_425 : decode cL_law 425 = .ok (.iadd, 1) := by decide +kernel
theorem dL_law_426 : decode cL_law 426 = .ok (.iaload, 1) := by decide +kernel
theorem dL_law_427 : decode cL_law 427 = .ok (.invokevirtual 46, 3) := by decide +kernel
theorem dL_law_430 : decode cL_law 430 = .ok (.aload_n 2, 1) := by decide +kernel
theorem dL_law_431 : decode cL_law 431 = .ok (.aload_n 0, 1) := by decide +kernel
theorem dL_law_432 : decode cL_law 432 = .ok (.iload_n 3, 1) := by decide +kernel
theorem dL_law_433 : decode cL_law 433 = .ok (.iconst 1, 1) := by decide +kernel
theorem dL_law_434 : decode cL_law 434 = .ok (.iadd, 1) := by decide +kernel
theorem dL_law_435 : decode cL_law 435 = .ok (.iaload, 1) := by decide +kernel
theorem dL_law_436 : decode cL_law 436 = .ok (.invokevirtual 50, 3) := by decide +kernel
theorem dL_law_439 : decode cL_law 439 = .ok (.if_icmp .eq 743, 3) := by decide +kernel
theorem dL_law_442 : decode cL_law 442 = .ok (.iconst 0, 1) := by decide +kernel
theorem dL_law_443 : decode cL_law 443 = .ok (.ireturn, 1) := by decide +kernel
theorem dL_law_444 : decode cL_law 444 = .ok (.aload_n 1, 1) := by decide +kernel
theorem dL_law_445 : decode cL_law 445 = .ok (.aload_n 0, 1) := by decide +kernel
theorem dL_law_446 : decode cL_law 446 = .ok (.iload_n 3, 1) := by decide +kernel
theorem dL_law_447 : decode cL_law 447 = .ok (.iconst 1, 1) := by decide +kernel
theorem dL_law_448 : decode cL_law 448 = .ok (.iadd, 1) := by decide +kernel
theorem dL_law_449 : decode cL_law 449 = .ok (.iaload, 1) := by decide +kernel
theorem dL_law_450 : decode cL_law 450 = .ok (.invokevirtual 51, 3) := by decide +kernel
theorem dL_law_453 : decode cL_law 453 = .ok (.aload_n 2, 1) := by decide +kernel
theorem dL_law_454 : decode cL_law 454 = .ok (.aload_n 0, 1) := by decide +kernel
theorem dL_law_455 : decode cL_law 455 = .ok (.iload_n 3, 1) := by decide +kernel
theorem dL_law_456 : decode cL_law 456 = .ok (.iconst 1, 1) := by decide +kernel
theorem dL_law_457 : decode cL_law 457 = .ok (.iadd, 1) := by decide +kernel
theorem dL_law_458 : decode cL_law 458 = .ok (.iaload, 1) := by decide +kernel
theorem dL_law_459 : decode cL_law 459 = .ok (.invokevirtual 54, 3) := by decide +kernel
theorem dL_law_462 : decode cL_law 462 = .ok (.if_icmp .eq 720, 3) := by decide +kernel
theorem dL_law_465 : decode cL_law 465 = .ok (.iconst 0, 1) := by decide +kernel
theorem dL_law_466 : decode cL_law 466 = .ok (.ireturn, 1) := by decide +kernel
theorem dL_law_467 : decode cL_law 467 = .ok (.aload_n 1, 1) := by decide +kernel
theorem dL_law_468 : decode cL_law 468 = .ok (.aload_n 0, 1) := by decide +kernel
theorem dL_law_469 : decode cL_law 469 = .ok (.iload_n 3, 1) := by decide +kernel
theorem dL_law_470 : decode cL_law 470 = .ok (.iconst 1, 1) := by decide +kernel
theorem dL_law_471 : decode cL_law 471 = .ok (.iadd, 1) := by decide +kernel
theorem dL_law_472 : decode cL_law 472 = .ok (.iaload, 1) := by decide +kernel
theorem dL_law_473 : decode cL_law 473 = .ok (.invokevirtual 55, 3) := by decide +kernel
theorem dL_law_476 : decode cL_law 476 = .ok (.aload_n 2, 1) := by decide +kernel
theorem dL_law_477 : decode cL_law 477 = .ok (.aload_n 0, 1) := by decide +kernel
theorem dL_law_478 : decode cL_law 478 = .ok (.iload_n 3, 1) := by decide +kernel
theorem dL_law_479 : decode cL_law 479 = .ok (.iconst 1, 1) := by decide +kernel
theorem dL_law_480 : decode cL_law 480 = .ok (.iadd, 1) := by decide +kernel
theorem dL_law_481 : decode cL_law 481 = .ok (.iaload, 1) := by decide +kernel
theorem dL_law_482 : decode cL_law 482 = .ok (.invokevirtual 58, 3) := by decide +kernel
theorem dL_law_485 : decode cL_law 485 = .ok (.if_icmp .eq 697, 3) := by decide +kernel
theorem dL_law_488 : decode cL_law 488 = .ok (.iconst 0, 1) := by decide +kernel
theorem dL_law_489 : decode cL_law 489 = .ok (.ireturn, 1) := by decide +kernel
theorem dL_law_490 : decode cL_law 490 = .ok (.aload_n 1, 1) := by decide +kernel
theorem dL_law_491 : decode cL_law 491 = .ok (.aload_n 0, 1) := by decide +kernel
theorem dL_law_492 : decode cL_law 492 = .ok (.iload_n 3, 1) := by decide +kernel
theorem dL_law_493 : decode cL_law 493 = .ok (.iconst 1, 1) := by decide +kernel
theorem dL_law_494 : decode cL_law 494 = .ok (.iadd, 1) := by decide +kernel
theorem dL_law_495 : decode cL_law 495 = .ok (.iaload, 1) := by decide +kernel
theorem dL_law_496 : decode cL_law 496 = .ok (.invokevirtual 59, 3) := by decide +kernel
theorem dL_law_499 : decode cL_law 499 = .ok (.aload_n 2, 1) := by decide +kernel
theorem dL_law_500 : decode cL_law 500 = .ok (.aload_n 0, 1) := by decide +kernel
theorem dL_law_501 : decode cL_law 501 = .ok (.iload_n 3, 1) := by decide +kernel
theorem dL_law_502 : decode cL_law 502 = .ok (.iconst 1, 1) := by decide +kernel
theorem dL_law_503 : decode cL_law 503 = .ok (.iadd, 1) := by decide +kernel
theorem dL_law_504 : decode cL_law 504 = .ok (.iaload, 1) := by decide +kernel
theorem dL_law_505 : decode cL_law 505 = .ok (.invokevirtual 62, 3) := by decide +kernel
theorem dL_law_508 : decode cL_law 508 = .ok (.if_icmp .eq 674, 3) := by decide +kernel
theorem dL_law_511 : decode cL_law 511 = .ok (.iconst 0, 1) := by decide +kernel
theorem dL_law_512 : decode cL_law 512 = .ok (.ireturn, 1) := by decide +kernel
theorem dL_law_513 : decode cL_law 513 = .ok (.aload_n 1, 1) := by decide +kernel
theorem dL_law_514 : decode cL_law 514 = .ok (.aload_n 0, 1) := by decide +kernel
theorem dL_law_515 : decode cL_law 515 = .ok (.iload_n 3, 1) := by decide +kernel
theorem dL_law_516 : decode cL_law 516 = .ok (.iconst 1, 1) := by decide +kernel
theorem dL_law_517 : decode cL_law 517 = .ok (.iadd, 1) := by decide +kernel
theorem dL_law_518 : decode cL_law 518 = .ok (.iaload, 1) := by decide +kernel
theorem dL_law_519 : decode cL_law 519 = .ok (.aload_n 0, 1) := by decide +kernel
theorem dL_law_520 : decode cL_law 520 = .ok (.iload_n 3, 1) := by decide +kernel
theorem dL_law_521 : decode cL_law 521 = .ok (.iconst 2, 1) := by decide +kernel
theorem dL_law_522 : decode cL_law 522 = .ok (.iadd, 1) := by decide +kernel
theorem dL_law_523 : decode cL_law 523 = .ok (.iaload, 1) := by decide +kernel
theorem dL_law_524 : decode cL_law 524 = .ok (.invokevirtual 63, 3) := by decide +kernel
theorem dL_law_527 : decode cL_law 527 = .ok (.aload_n 2, 1) := by decide +kernel
theorem dL_law_528 : decode cL_law 528 = .ok (.aload_n 0, 1) := by decide +kernel
theorem dL_law_529 : decode cL_law 529 = .ok (.iload_n 3, 1) := by decide +kernel
theorem dL_law_530 : decode cL_law 530 = .ok (.iconst 1, 1) := by decide +kernel
theorem dL_law_531 : decode cL_law 531 = .ok (.iadd, 1) := by decide +kernel
theorem dL_law_532 : decode cL_law 532 = .ok (.iaload, 1) := by decide +kernel
theorem dL_law_533 : decode cL_law 533 = .ok (.aload_n 0, 1) := by decide +kernel
theorem dL_law_534 : decode cL_law 534 = .ok (.iload_n 3, 1) := by decide +kernel
theorem dL_law_535 : decode cL_law 535 = .ok (.iconst 2, 1) := by decide +kernel
theorem dL_law_536 : decode cL_law 536 = .ok (.iadd, 1) := by decide +kernel
theorem dL_law_537 : decode cL_law 537 = .ok (.iaload, 1) := by decide +kernel
theorem dL_law_538 : decode cL_law 538 = .ok (.invokevirtual 66, 3) := by decide +kernel
theorem dL_law_541 : decode cL_law 541 = .ok (.if_icmp .eq 641, 3) := by decide +kernel
theorem dL_law_544 : decode cL_law 544 = .ok (.iconst 0, 1) := by decide +kernel
theorem dL_law_545 : decode cL_law 545 = .ok (.ireturn, 1) := by decide +kernel
theorem dL_law_546 : decode cL_law 546 = .ok (.aload_n 1, 1) := by decide +kernel
theorem dL_law_547 : decode cL_law 547 = .ok (.aload_n 0, 1) := by decide +kernel
theorem dL_law_548 : decode cL_law 548 = .ok (.iload_n 3, 1) := by decide +kernel
theorem dL_law_549 : decode cL_law 549 = .ok (.iconst 1, 1) := by decide +kernel
theorem dL_law_550 : decode cL_law 550 = .ok (.iadd, 1) := by decide +kernel
theorem dL_law_551 : decode cL_law 551 = .ok (.iaload, 1) := by decide +kernel
theorem dL_law_552 : decode cL_law 552 = .ok (.invokevirtual 67, 3) := by decide +kernel
theorem dL_law_555 : decode cL_law 555 = .ok (.aload_n 2, 1) := by decide +kernel
theorem dL_law_556 : decode cL_law 556 = .ok (.aload_n 0, 1) := by decide +kernel
theorem dL_law_557 : decode cL_law 557 = .ok (.iload_n 3, 1) := by decide +kernel
theorem dL_law_558 : decode cL_law 558 = .ok (.iconst 1, 1) := by decide +kernel
theorem dL_law_559 : decode cL_law 559 = .ok (.iadd, 1) := by decide +kernel
theorem dL_law_560 : decode cL_law 560 = .ok (.iaload, 1) := by decide +kernel
theorem dL_law_561 : decode cL_law 561 = .ok (.invokevirtual 70, 3) := by decide +kernel
theorem dL_law_564 : decode cL_law 564 = .ok (.if_icmp .eq 618, 3) := by decide +kernel
theorem dL_law_567 : decode cL_law 567 = .ok (.iconst 0, 1) := by decide +kernel
theorem dL_law_568 : decode cL_law 568 = .ok (.ireturn, 1) := by decide +kernel
theorem dL_law_569 : decode cL_law 569 = .ok (.aload_n 1, 1) := by decide +kernel
theorem dL_law_570 : decode cL_law 570 = .ok (.aload_n 0, 1) := by decide +kernel
theorem dL_law_571 : decode cL_law 571 = .ok (.iload_n 3, 1) := by decide +kernel
theorem dL_law_572 : decode cL_law 572 = .ok (.iconst 1, 1) := by decide +kernel
theorem dL_law_573 : decode cL_law 573 = .ok (.iadd, 1) := by decide +kernel
theorem dL_law_574 : decode cL_law 574 = .ok (.iaload, 1) := by decide +kernel
theorem dL_law_575 : decode cL_law 575 = .ok (.aload_n 0, 1) := by decide +kernel
theorem dL_law_576 : decode cL_law 576 = .ok (.iload_n 3, 1) := by decide +kernel
theorem dL_law_577 : decode cL_law 577 = .ok (.iconst 2, 1) := by decide +kernel
theorem dL_law_578 : decode cL_law 578 = .ok (.iadd, 1) := by decide +kernel
theorem dL_law_579 : decode cL_law 579 = .ok (.iaload, 1) := by decide +kernel
theorem dL_law_580 : decode cL_law 580 = .ok (.invokevirtual 71, 3) := by decide +kernel
theorem dL_law_583 : decode cL_law 583 = .ok (.aload_n 2, 1) := by decide +kernel
theorem dL_law_584 : decode cL_law 584 = .ok (.aload_n 0, 1) := by decide +kernel
theorem dL_law_585 : decode cL_law 585 = .ok (.iload_n 3, 1) := by decide +kernel
theorem dL_law_586 : decode cL_law 586 = .ok (.iconst 1, 1) := by decide +kernel
theorem dL_law_587 : decode cL_law 587 = .ok (.iadd, 1) := by decide +kernel
theorem dL_law_588 : decode cL_law 588 = .ok (.iaload, 1) := by decide +kernel
theorem dL_law_589 : decode cL_law 589 = .ok (.aload_n 0, 1) := by decide +kernel
theorem dL_law_590 : decode cL_law 590 = .ok (.iload_n 3, 1) := by decide +kernel
theorem dL_law_591 : decode cL_law 591 = .ok (.iconst 2, 1) := by decide +kernel
theorem dL_law_592 : decode cL_law 592 = .ok (.iadd, 1) := by decide +kernel
theorem dL_law_593 : decode cL_law 593 = .ok (.iaload, 1) := by decide +kernel
theorem dL_law_594 : decode cL_law 594 = .ok (.invokevirtual 74, 3) := by decide +kernel
theorem dL_law_597 : decode cL_law 597 = .ok (.if_icmp .eq 585, 3) := by decide +kernel
theorem dL_law_600 : decode cL_law 600 = .ok (.iconst 0, 1) := by decide +kernel
theorem dL_law_601 : decode cL_law 601 = .ok (.ireturn, 1) := by decide +kernel
theorem dL_law_602 : decode cL_law 602 = .ok (.aload_n 1, 1) := by decide +kernel
theorem dL_law_603 : decode cL_law 603 = .ok (.aload_n 0, 1) := by decide +kernel
theorem dL_law_604 : decode cL_law 604 = .ok (.iload_n 3, 1) := by decide +kernel
theorem dL_law_605 : decode cL_law 605 = .ok (.iconst 1, 1) := by decide +kernel
theorem dL_law_606 : decode cL_law 606 = .ok (.iadd, 1) := by decide +kernel
theorem dL_law_607 : decode cL_law 607 = .ok (.iaload, 1) := by decide +kernel
theorem dL_law_608 : decode cL_law 608 = .ok (.aload_n 0, 1) := by decide +kernel
theorem dL_law_609 : decode cL_law 609 = .ok (.iload_n 3, 1) := by decide +kernel
theorem dL_law_610 : decode cL_law 610 = .ok (.iconst 2, 1) := by decide +kernel
theorem dL_law_611 : decode cL_law 611 = .ok (.iadd, 1) := by decide +kernel
theorem dL_law_612 : decode cL_law 612 = .ok (.iaload, 1) := by decide +kernel
theorem dL_law_613 : decode cL_law 613 = .ok (.invokevirtual 75, 3) := by decide +kernel
theorem dL_law_616 : decode cL_law 616 = .ok (.aload_n 2, 1) := by decide +kernel
theorem dL_law_617 : decode cL_law 617 = .ok (.aload_n 0, 1) := by decide +kernel
theorem dL_law_618 : decode cL_law 618 = .ok (.iload_n 3, 1) := by decide +kernel
theorem dL_law_619 : decode cL_law 619 = .ok (.iconst 1, 1) := by decide +kernel
theorem dL_law_620 : decode cL_law 620 = .ok (.iadd, 1) := by decide +kernel
theorem dL_law_621 : decode cL_law 621 = .ok (.iaload, 1) := by decide +kernel
theorem dL_law_622 : decode cL_law 622 = .ok (.aload_n 0, 1) := by decide +kernel
theorem dL_law_623 : decode cL_law 623 = .ok (.iload_n 3, 1) := by decide +kernel
theorem dL_law_624 : decode cL_law 624 = .ok (.iconst 2, 1) := by decide +kernel
theorem dL_law_625 : decode cL_law 625 = .ok (.iadd, 1) := by decide +kernel
theorem dL_law_626 : decode cL_law 626 = .ok (.iaload, 1) := by decide +kernel
theorem dL_law_627 : decode cL_law 627 = .ok (.invokevirtual 78, 3) := by decide +kernel
theorem dL_law_630 : decode cL_law 630 = .ok (.if_icmp .eq 552, 3) := by decide +kernel
theorem dL_law_633 : decode cL_law 633 = .ok (.iconst 0, 1) := by decide +kernel
theorem dL_law_634 : decode cL_law 634 = .ok (.ireturn, 1) := by decide +kernel
theorem dL_law_635 : decode cL_law 635 = .ok (.aload_n 1, 1) := by decide +kernel
theorem dL_law_636 : decode cL_law 636 = .ok (.aload_n 0, 1) := by decide +kernel
theorem dL_law_637 : decode cL_law 637 = .ok (.iload_n 3, 1) := by decide +kernel
theorem dL_law_638 : decode cL_law 638 = .ok (.iconst 1, 1) := by decide +kernel
theorem dL_law_639 : decode cL_law 639 = .ok (.iadd, 1) := by decide +kernel
theorem dL_law_640 : decode cL_law 640 = .ok (.iaload, 1) := by decide +kernel
theorem dL_law_641 : decode cL_law 641 = .ok (.invokevirtual 79, 3) := by decide +kernel
theorem dL_law_644 : decode cL_law 644 = .ok (.aload_n 2, 1) := by decide +kernel
theorem dL_law_645 : decode cL_law 645 = .ok (.aload_n 0, 1) := by decide +kernel
theorem dL_law_646 : decode cL_law 646 = .ok (.iload_n 3, 1) := by decide +kernel
theorem dL_law_647 : decode cL_law 647 = .ok (.iconst 1, 1) := by decide +kernel
theorem dL_law_648 : decode cL_law 648 = .ok (.iadd, 1) := by decide +kernel
theorem dL_law_649 : decode cL_law 649 = .ok (.iaload, 1) := by decide +kernel
theorem dL_law_650 : decode cL_law 650 = .ok (.invokevirtual 82, 3) := by decide +kernel
theorem dL_law_653 : decode cL_law 653 = .ok (.if_icmp .eq 529, 3) := by decide +kernel
theorem dL_law_656 : decode cL_law 656 = .ok (.iconst 0, 1) := by decide +kernel
theorem dL_law_657 : decode cL_law 657 = .ok (.ireturn, 1) := by decide +kernel
theorem dL_law_658 : decode cL_law 658 = .ok (.aload_n 1, 1) := by decide +kernel
theorem dL_law_659 : decode cL_law 659 = .ok (.aload_n 0, 1) := by decide +kernel
theorem dL_law_660 : decode cL_law 660 = .ok (.iload_n 3, 1) := by decide +kernel
theorem dL_law_661 : decode cL_law 661 = .ok (.iconst 1, 1) := by decide +kernel
theorem dL_law_662 : decode cL_law 662 = .ok (.iadd, 1) := by decide +kernel
theorem dL_law_663 : decode cL_law 663 = .ok (.iaload, 1) := by decide +kernel
theorem dL_law_664 : decode cL_law 664 = .ok (.aload_n 0, 1) := by decide +kernel
theorem dL_law_665 : decode cL_law 665 = .ok (.iload_n 3, 1) := by decide +kernel
theorem dL_law_666 : decode cL_law 666 = .ok (.iconst 2, 1) := by decide +kernel
theorem dL_law_667 : decode cL_law 667 = .ok (.iadd, 1) := by decide +kernel
theorem dL_law_668 : decode cL_law 668 = .ok (.iaload, 1) := by decide +kernel
theorem dL_law_669 : decode cL_law 669 = .ok (.invokevirtual 83, 3) := by decide +kernel
theorem dL_law_672 : decode cL_law 672 = .ok (.aload_n 2, 1) := by decide +kernel
theorem dL_law_673 : decode cL_law 673 = .ok (.aload_n 0, 1) := by decide +kernel
theorem dL_law_674 : decode cL_law 674 = .ok (.iload_n 3, 1) := by decide +kernel
theorem dL_law_675 : decode cL_law 675 = .ok (.iconst 1, 1) := by decide +kernel
theorem dL_law_676 : decode cL_law 676 = .ok (.iadd, 1) := by decide +kernel
theorem dL_law_677 : decode cL_law 677 = .ok (.iaload, 1) := by decide +kernel
theorem dL_law_678 : decode cL_law 678 = .ok (.aload_n 0, 1) := by decide +kernel
theorem dL_law_679 : decode cL_law 679 = .ok (.iload_n 3, 1) := by decide +kernel
theorem dL_law_680 : decode cL_law 680 = .ok (.iconst 2, 1) := by decide +kernel
theorem dL_law_681 : decode cL_law 681 = .ok (.iadd, 1) := by decide +kernel
theorem dL_law_682 : decode cL_law 682 = .ok (.iaload, 1) := by decide +kernel
theorem dL_law_683 : decode cL_law 683 = .ok (.invokevirtual 86, 3) := by decide +kernel
theorem dL_law_686 : decode cL_law 686 = .ok (.if_icmp .eq 496, 3) := by decide +kernel
theorem dL_law_689 : decode cL_law 689 = .ok (.iconst 0, 1) := by decide +kernel
theorem dL_law_690 : decode cL_law 690 = .ok (.ireturn, 1) := by decide +kernel
theorem dL_law_691 : decode cL_law 691 = .ok (.aload_n 1, 1) := by decide +kernel
theorem dL_law_692 : decode cL_law 692 = .ok (.aload_n 0, 1) := by decide +kernel
theorem dL_law_693 : decode cL_law 693 = .ok (.iload_n 3, 1) := by decide +kernel
theorem dL_law_694 : decode cL_law 694 = .ok (.iconst 1, 1) := by decide +kernel
theorem dL_law_695 : decode cL_law 695 = .ok (.iadd, 1) := by decide +kernel
theorem dL_law_696 : decode cL_law 696 = .ok (.iaload, 1) := by decide +kernel
theorem dL_law_697 : decode cL_law 697 = .ok (.aload_n 0, 1) := by decide +kernel
theorem dL_law_698 : decode cL_law 698 = .ok (.iload_n 3, 1) := by decide +kernel
theorem dL_law_699 : decode cL_law 699 = .ok (.iconst 2, 1) := by decide +kernel
theorem dL_law_700 : decode cL_law 700 = .ok (.iadd, 1) := by decide +kernel
theorem dL_law_701 : decode cL_law 701 = .ok (.iaload, 1) := by decide +kernel
theorem dL_law_702 : decode cL_law 702 = .ok (.invokevirtual 87, 3) := by decide +kernel
theorem dL_law_705 : decode cL_law 705 = .ok (.aload_n 2, 1) := by decide +kernel
theorem dL_law_706 : decode cL_law 706 = .ok (.aload_n 0, 1) := by decide +kernel
theorem dL_law_707 : decode cL_law 707 = .ok (.iload_n 3, 1) := by decide +kernel
theorem dL_law_708 : decode cL_law 708 = .ok (.iconst 1, 1) := by decide +kernel
theorem dL_law_709 : decode cL_law 709 = .ok (.iadd, 1) := by decide +kernel
theorem dL_law_710 : decode cL_law 710 = .ok (.iaload, 1) := by decide +kernel
theorem dL_law_711 : decode cL_law 711 = .ok (.aload_n 0, 1) := by decide +kernel
theorem dL_law_712 : decode cL_law 712 = .ok (.iload_n 3, 1) := by decide +kernel
theorem dL_law_713 : decode cL_law 713 = .ok (.iconst 2, 1) := by decide +kernel
theorem dL_law_714 : decode cL_law 714 = .ok (.iadd, 1) := by decide +kernel
theorem dL_law_715 : decode cL_law 715 = .ok (.iaload, 1) := by decide +kernel
theorem dL_law_716 : decode cL_law 716 = .ok (.invokevirtual 90, 3) := by decide +kernel
theorem dL_law_719 : decode cL_law 719 = .ok (.if_icmp .eq 463, 3) := by decide +kernel
theorem dL_law_722 : decode cL_law 722 = .ok (.iconst 0, 1) := by decide +kernel
theorem dL_law_723 : decode cL_law 723 = .ok (.ireturn, 1) := by decide +kernel
theorem dL_law_724 : decode cL_law 724 = .ok (.aload_n 1, 1) := by decide +kernel
theorem dL_law_725 : decode cL_law 725 = .ok (.aload_n 0, 1) := by decide +kernel
theorem dL_law_726 : decode cL_law 726 = .ok (.iload_n 3, 1) := by decide +kernel
theorem dL_law_727 : decode cL_law 727 = .ok (.iconst 1, 1) := by decide +kernel
theorem dL_law_728 : decode cL_law 728 = .ok (.iadd, 1) := by decide +kernel
theorem dL_law_729 : decode cL_law 729 = .ok (.iaload, 1) := by decide +kernel
theorem dL_law_730 : decode cL_law 730 = .ok (.aload_n 0, 1) := by decide +kernel
theorem dL_law_731 : decode cL_law 731 = .ok (.iload_n 3, 1) := by decide +kernel
theorem dL_law_732 : decode cL_law 732 = .ok (.iconst 2, 1) := by decide +kernel
theorem dL_law_733 : decode cL_law 733 = .ok (.iadd, 1) := by decide +kernel
theorem dL_law_734 : decode cL_law 734 = .ok (.iaload, 1) := by decide +kernel
theorem dL_law_735 : decode cL_law 735 = .ok (.invokevirtual 91, 3) := by decide +kernel
theorem dL_law_738 : decode cL_law 738 = .ok (.aload_n 2, 1) := by decide +kernel
theorem dL_law_739 : decode cL_law 739 = .ok (.aload_n 0, 1) := by decide +kernel
theorem dL_law_740 : decode cL_law 740 = .ok (.iload_n 3, 1) := by decide +kernel
theorem dL_law_741 : decode cL_law 741 = .ok (.iconst 1, 1) := by decide +kernel
theorem dL_law_742 : decode cL_law 742 = .ok (.iadd, 1) := by decide +kernel
theorem dL_law_743 : decode cL_law 743 = .ok (.iaload, 1) := by decide +kernel
theorem dL_law_744 : decode cL_law 744 = .ok (.aload_n 0, 1) := by decide +kernel
theorem dL_law_745 : decode cL_law 745 = .ok (.iload_n 3, 1) := by decide +kernel
theorem dL_law_746 : decode cL_law 746 = .ok (.iconst 2, 1) := by decide +kernel
theorem dL_law_747 : decode cL_law 747 = .ok (.iadd, 1) := by decide +kernel
theorem dL_law_748 : decode cL_law 748 = .ok (.iaload, 1) := by decide +kernel
theorem dL_law_749 : decode cL_law 749 = .ok (.invokevirtual 94, 3) := by decide +kernel
theorem dL_law_752 : decode cL_law 752 = .ok (.if_icmp .eq 430, 3) := by decide +kernel
theorem dL_law_755 : decode cL_law 755 = .ok (.iconst 0, 1) := by decide +kernel
theorem dL_law_756 : decode cL_law 756 = .ok (.ireturn, 1) := by decide +kernel
theorem dL_law_757 : decode cL_law 757 = .ok (.aload_n 1, 1) := by decide +kernel
theorem dL_law_758 : decode cL_law 758 = .ok (.aload_n 0, 1) := by decide +kernel
theorem dL_law_759 : decode cL_law 759 = .ok (.iload_n 3, 1) := by decide +kernel
theorem dL_law_760 : decode cL_law 760 = .ok (.iconst 1, 1) := by decide +kernel
theorem dL_law_761 : decode cL_law 761 = .ok (.iadd, 1) := by decide +kernel
theorem dL_law_762 : decode cL_law 762 = .ok (.iaload, 1) := by decide +kernel
theorem dL_law_763 : decode cL_law 763 = .ok (.invokevirtual 95, 3) := by decide +kernel
theorem dL_law_766 : decode cL_law 766 = .ok (.aload_n 2, 1) := by decide +kernel
theorem dL_law_767 : decode cL_law 767 = .ok (.aload_n 0, 1) := by decide +kernel
theorem dL_law_768 : decode cL_law 768 = .ok (.iload_n 3, 1) := by decide +kernel
theorem dL_law_769 : decode cL_law 769 = .ok (.iconst 1, 1) := by decide +kernel
theorem dL_law_770 : decode cL_law 770 = .ok (.iadd, 1) := by decide +kernel
theorem dL_law_771 : decode cL_law 771 = .ok (.iaload, 1) := by decide +kernel
theorem dL_law_772 : decode cL_law 772 = .ok (.invokevirtual 98, 3) := by decide +kernel
theorem dL_law_775 : decode cL_law 775 = .ok (.if_icmp .eq 407, 3) := by decide +kernel
theorem dL_law_778 : decode cL_law 778 = .ok (.iconst 0, 1) := by decide +kernel
theorem dL_law_779 : decode cL_law 779 = .ok (.ireturn, 1) := by decide +kernel
theorem dL_law_780 : decode cL_law 780 = .ok (.aload_n 1, 1) := by decide +kernel
theorem dL_law_781 : decode cL_law 781 = .ok (.aload_n 0, 1) := by decide +kernel
theorem dL_law_782 : decode cL_law 782 = .ok (.iload_n 3, 1) := by decide +kernel
theorem dL_law_783 : decode cL_law 783 = .ok (.iconst 1, 1) := by decide +kernel
theorem dL_law_784 : decode cL_law 784 = .ok (.iadd, 1) := by decide +kernel
theorem dL_law_785 : decode cL_law 785 = .ok (.iaload, 1) := by decide +kernel
theorem dL_law_786 : decode cL_law 786 = .ok (.invokevirtual 99, 3) := by decide +kernel
theorem dL_law_789 : decode cL_law 789 = .ok (.aload_n 2, 1) := by decide +kernel
theorem dL_law_790 : decode cL_law 790 = .ok (.aload_n 0, 1) := by decide +kernel
theorem dL_law_791 : decode cL_law 791 = .ok (.iload_n 3, 1) := by decide +kernel
theorem dL_law_792 : decode cL_law 792 = .ok (.iconst 1, 1) := by decide +kernel
theorem dL_law_793 : decode cL_law 793 = .ok (.iadd, 1) := by decide +kernel
theorem dL_law_794 : decode cL_law 794 = .ok (.iaload, 1) := by decide +kernel
theorem dL_law_795 : decode cL_law 795 = .ok (.invokevirtual 102, 3) := by decide +kernel
theorem dL_law_798 : decode cL_law 798 = .ok (.if_icmp .eq 384, 3) := by decide +kernel
theorem dL_law_801 : decode cL_law 801 = .ok (.iconst 0, 1) := by decide +kernel
theorem dL_law_802 : decode cL_law 802 = .ok (.ireturn, 1) := by decide +kernel
theorem dL_law_803 : decode cL_law 803 = .ok (.aload_n 1, 1) := by decide +kernel
theorem dL_law_804 : decode cL_law 804 = .ok (.aload_n 0, 1) := by decide +kernel
theorem dL_law_805 : decode cL_law 805 = .ok (.iload_n 3, 1) := by decide +kernel
theorem dL_law_806 : decode cL_law 806 = .ok (.iconst 1, 1) := by decide +kernel
theorem dL_law_807 : decode cL_law 807 = .ok (.iadd, 1) := by decide +kernel
theorem dL_law_808 : decode cL_law 808 = .ok (.iaload, 1) := by decide +kernel
theorem dL_law_809 : decode cL_law 809 = .ok (.aload_n 0, 1) := by decide +kernel
theorem dL_law_810 : decode cL_law 810 = .ok (.iload_n 3, 1) := by decide +kernel
theorem dL_law_811 : decode cL_law 811 = .ok (.iconst 2, 1) := by decide +kernel
theorem dL_law_812 : decode cL_law 812 = .ok (.iadd, 1) := by decide +kernel
theorem dL_law_813 : decode cL_law 813 = .ok (.iaload, 1) := by decide +kernel
theorem dL_law_814 : decode cL_law 814 = .ok (.invokevirtual 103, 3) := by decide +kernel
theorem dL_law_817 : decode cL_law 817 = .ok (.aload_n 2, 1) := by decide +kernel
theorem dL_law_818 : decode cL_law 818 = .ok (.aload_n 0, 1) := by decide +kernel
theorem dL_law_819 : decode cL_law 819 = .ok (.iload_n 3, 1) := by decide +kernel
theorem dL_law_820 : decode cL_law 820 = .ok (.iconst 1, 1) := by decide +kernel
theorem dL_law_821 : decode cL_law 821 = .ok (.iadd, 1) := by decide +kernel
theorem dL_law_822 : decode cL_law 822 = .ok (.iaload, 1) := by decide +kernel
theorem dL_law_823 : decode cL_law 823 = .ok (.aload_n 0, 1) := by decide +kernel
theorem dL_law_824 : decode cL_law 824 = .ok (.iload_n 3, 1) := by decide +kernel
theorem dL_law_825 : decode cL_law 825 = .ok (.iconst 2, 1) := by decide +kernel
theorem dL_law_826 : decode cL_law 826 = .ok (.iadd, 1) := by decide +kernel
theorem dL_law_827 : decode cL_law 827 = .ok (.iaload, 1) := by decide +kernel
theorem dL_law_828 : decode cL_law 828 = .ok (.invokevirtual 106, 3) := by decide +kernel
theorem dL_law_831 : decode cL_law 831 = .ok (.if_icmp .eq 351, 3) := by decide +kernel
theorem dL_law_834 : decode cL_law 834 = .ok (.iconst 0, 1) := by decide +kernel
theorem dL_law_835 : decode cL_law 835 = .ok (.ireturn, 1) := by decide +kernel
theorem dL_law_836 : decode cL_law 836 = .ok (.aload_n 1, 1) := by decide +kernel
theorem dL_law_837 : decode cL_law 837 = .ok (.aload_n 0, 1) := by decide +kernel
theorem dL_law_838 : decode cL_law 838 = .ok (.iload_n 3, 1) := by decide +kernel
theorem dL_law_839 : decode cL_law 839 = .ok (.iconst 1, 1) := by decide +kernel
theorem dL_law_840 : decode cL_law 840 = .ok (.iadd, 1) := by decide +kernel
theorem dL_law_841 : decode cL_law 841 = .ok (.iaload, 1) := by decide +kernel
theorem dL_law_842 : decode cL_law 842 = .ok (.aload_n 0, 1) := by decide +kernel
theorem dL_law_843 : decode cL_law 843 = .ok (.iload_n 3, 1) := by decide +kernel
theorem dL_law_844 : decode cL_law 844 = .ok (.iconst 2, 1) := by decide +kernel
theorem dL_law_845 : decode cL_law 845 = .ok (.iadd, 1) := by decide +kernel
theorem dL_law_846 : decode cL_law 846 = .ok (.iaload, 1) := by decide +kernel
theorem dL_law_847 : decode cL_law 847 = .ok (.invokevirtual 107, 3) := by decide +kernel
theorem dL_law_850 : decode cL_law 850 = .ok (.aload_n 2, 1) := by decide +kernel
theorem dL_law_851 : decode cL_law 851 = .ok (.aload_n 0, 1) := by decide +kernel
theorem dL_law_852 : decode cL_law 852 = .ok (.iload_n 3, 1) := by decide +kernel
theorem dL_law_853 : decode cL_law 853 = .ok (.iconst 1, 1) := by decide +kernel
theorem dL_law_854 : decode cL_law 854 = .ok (.iadd, 1) := by decide +kernel
theorem dL_law_855 : decode cL_law 855 = .ok (.iaload, 1) := by decide +kernel
theorem dL_law_856 : decode cL_law 856 = .ok (.aload_n 0, 1) := by decide +kernel
theorem dL_law_857 : decode cL_law 857 = .ok (.iload_n 3, 1) := by decide +kernel
theorem dL_law_858 : decode cL_law 858 = .ok (.iconst 2, 1) := by decide +kernel
theorem dL_law_859 : decode cL_law 859 = .ok (.iadd, 1) := by decide +kernel
theorem dL_law_860 : decode cL_law 860 = .ok (.iaload, 1) := by decide +kernel
theorem dL_law_861 : decode cL_law 861 = .ok (.invokevirtual 110, 3) := by decide +kernel
theorem dL_law_864 : decode cL_law 864 = .ok (.if_icmp .eq 318, 3) := by decide +kernel
theorem dL_law_867 : decode cL_law 867 = .ok (.iconst 0, 1) := by decide +kernel
theorem dL_law_868 : decode cL_law 868 = .ok (.ireturn, 1) := by decide +kernel
theorem dL_law_869 : decode cL_law 869 = .ok (.aload_n 1, 1) := by decide +kernel
theorem dL_law_870 : decode cL_law 870 = .ok (.aload_n 0, 1) := by decide +kernel
theorem dL_law_871 : decode cL_law 871 = .ok (.iload_n 3, 1) := by decide +kernel
theorem dL_law_872 : decode cL_law 872 = .ok (.iconst 1, 1) := by decide +kernel
theorem dL_law_873 : decode cL_law 873 = .ok (.iadd, 1) := by decide +kernel
theorem dL_law_874 : decode cL_law 874 = .ok (.iaload, 1) := by decide +kernel
theorem dL_law_875 : decode cL_law 875 = .ok (.aload_n 0, 1) := by decide +kernel
theorem dL_law_876 : decode cL_law 876 = .ok (.iload_n 3, 1) := by decide +kernel
theorem dL_law_877 : decode cL_law 877 = .ok (.iconst 2, 1) := by decide +kernel
theorem dL_law_878 : decode cL_law 878 = .ok (.iadd, 1) := by decide +kernel
theorem dL_law_879 : decode cL_law 879 = .ok (.iaload, 1) := by decide +kernel
theorem dL_law_880 : decode cL_law 880 = .ok (.aload_n 0, 1) := by decide +kernel
theorem dL_law_881 : decode cL_law 881 = .ok (.iload_n 3, 1) := by decide +kernel
theorem dL_law_882 : decode cL_law 882 = .ok (.iconst 3, 1) := by decide +kernel
theorem dL_law_883 : decode cL_law 883 = .ok (.iadd, 1) := by decide +kernel
theorem dL_law_884 : decode cL_law 884 = .ok (.iaload, 1) := by decide +kernel
theorem dL_law_885 : decode cL_law 885 = .ok (.invokevirtual 111, 3) := by decide +kernel
theorem dL_law_888 : decode cL_law 888 = .ok (.aload_n 2, 1) := by decide +kernel
theorem dL_law_889 : decode cL_law 889 = .ok (.aload_n 0, 1) := by decide +kernel
theorem dL_law_890 : decode cL_law 890 = .ok (.iload_n 3, 1) := by decide +kernel
theorem dL_law_891 : decode cL_law 891 = .ok (.iconst 1, 1) := by decide +kernel
theorem dL_law_892 : decode cL_law 892 = .ok (.iadd, 1) := by decide +kernel
theorem dL_law_893 : decode cL_law 893 = .ok (.iaload, 1) := by decide +kernel
theorem dL_law_894 : decode cL_law 894 = .ok (.aload_n 0, 1) := by decide +kernel
theorem dL_law_895 : decode cL_law 895 = .ok (.iload_n 3, 1) := by decide +kernel
theorem dL_law_896 : decode cL_law 896 = .ok (.iconst 2, 1) := by decide +kernel
theorem dL_law_897 : decode cL_law 897 = .ok (.iadd, 1) := by decide +kernel
theorem dL_law_898 : decode cL_law 898 = .ok (.iaload, 1) := by decide +kernel
theorem dL_law_899 : decode cL_law 899 = .ok (.aload_n 0, 1) := by decide +kernel
theorem dL_law_900 : decode cL_law 900 = .ok (.iload_n 3, 1) := by decide +kernel
theorem dL_law_901 : decode cL_law 901 = .ok (.iconst 3, 1) := by decide +kernel
theorem dL_law_902 : decode cL_law 902 = .ok (.iadd, 1) := by decide +kernel
theorem dL_law_903 : decode cL_law 903 = .ok (.iaload, 1) := by decide +kernel
theorem dL_law_904 : decode cL_law 904 = .ok (.invokevirtual 114, 3) := by decide +kernel
theorem dL_law_907 : decode cL_law 907 = .ok (.if_icmp .eq 275, 3) := by decide +kernel
theorem dL_law_910 : decode cL_law 910 = .ok (.iconst 0, 1) := by decide +kernel
theorem dL_law_911 : decode cL_law 911 = .ok (.ireturn, 1) := by decide +kernel
theorem dL_law_912 : decode cL_law 912 = .ok (.aload_n 1, 1) := by decide +kernel
theorem dL_law_913 : decode cL_law 913 = .ok (.aload_n 0, 1) := by decide +kernel
theorem dL_law_914 : decode cL_law 914 = .ok (.iload_n 3, 1) := by decide +kernel
theorem dL_law_915 : decode cL_law 915 = .ok (.iconst 1, 1) := by decide +kernel
theorem dL_law_916 : decode cL_law 916 = .ok (.iadd, 1) := by decide +kernel
theorem dL_law_917 : decode cL_law 917 = .ok (.iaload, 1) := by decide +kernel
theorem dL_law_918 : decode cL_law 918 = .ok (.aload_n 0, 1) := by decide +kernel
theorem dL_law_919 : decode cL_law 919 = .ok (.iload_n 3, 1) := by decide +kernel
theorem dL_law_920 : decode cL_law 920 = .ok (.iconst 2, 1) := by decide +kernel
theorem dL_law_921 : decode cL_law 921 = .ok (.iadd, 1) := by decide +kernel
theorem dL_law_922 : decode cL_law 922 = .ok (.iaload, 1) := by decide +kernel
theorem dL_law_923 : decode cL_law 923 = .ok (.invokevirtual 115, 3) := by decide +kernel
theorem dL_law_926 : decode cL_law 926 = .ok (.aload_n 2, 1) := by decide +kernel
theorem dL_law_927 : decode cL_law 927 = .ok (.aload_n 0, 1) := by decide +kernel
theorem dL_law_928 : decode cL_law 928 = .ok (.iload_n 3, 1) := by decide +kernel
theorem dL_law_929 : decode cL_law 929 = .ok (.iconst 1, 1) := by decide +kernel
theorem dL_law_930 : decode cL_law 930 = .ok (.iadd, 1) := by decide +kernel
theorem dL_law_931 : decode cL_law 931 = .ok (.iaload, 1) := by decide +kernel
theorem dL_law_932 : decode cL_law 932 = .ok (.aload_n 0, 1) := by decide +kernel
theorem dL_law_933 : decode cL_law 933 = .ok (.iload_n 3, 1) := by decide +kernel
theorem dL_law_934 : decode cL_law 934 = .ok (.iconst 2, 1) := by decide +kernel
theorem dL_law_935 : decode cL_law 935 = .ok (.iadd, 1) := by decide +kernel
theorem dL_law_936 : decode cL_law 936 = .ok (.iaload, 1) := by decide +kernel
theorem dL_law_937 : decode cL_law 937 = .ok (.invokevirtual 118, 3) := by decide +kernel
theorem dL_law_940 : decode cL_law 940 = .ok (.if_icmp .eq 242, 3) := by decide +kernel
theorem dL_law_943 : decode cL_law 943 = .ok (.iconst 0, 1) := by decide +kernel
theorem dL_law_944 : decode cL_law 944 = .ok (.ireturn, 1) := by decide +kernel
theorem dL_law_945 : decode cL_law 945 = .ok (.aload_n 1, 1) := by decide +kernel
theorem dL_law_946 : decode cL_law 946 = .ok (.aload_n 0, 1) := by decide +kernel
theorem dL_law_947 : decode cL_law 947 = .ok (.iload_n 3, 1) := by decide +kernel
theorem dL_law_948 : decode cL_law 948 = .ok (.iconst 1, 1) := by decide +kernel
theorem dL_law_949 : decode cL_law 949 = .ok (.iadd, 1) := by decide +kernel
theorem dL_law_950 : decode cL_law 950 = .ok (.iaload, 1) := by decide +kernel
theorem dL_law_951 : decode cL_law 951 = .ok (.invokevirtual 119, 3) := by decide +kernel
theorem dL_law_954 : decode cL_law 954 = .ok (.aload_n 2, 1) := by decide +kernel
theorem dL_law_955 : decode cL_law 955 = .ok (.aload_n 0, 1) := by decide +kernel
theorem dL_law_956 : decode cL_law 956 = .ok (.iload_n 3, 1) := by decide +kernel
theorem dL_law_957 : decode cL_law 957 = .ok (.iconst 1, 1) := by decide +kernel
theorem dL_law_958 : decode cL_law 958 = .ok (.iadd, 1) := by decide +kernel
theorem dL_law_959 : decode cL_law 959 = .ok (.iaload, 1) := by decide +kernel
theorem dL_law_960 : decode cL_law 960 = .ok (.invokevirtual 122, 3) := by decide +kernel
theorem dL_law_963 : decode cL_law 963 = .ok (.if_icmp .eq 219, 3) := by decide +kernel
theorem dL_law_966 : decode cL_law 966 = .ok (.iconst 0, 1) := by decide +kernel
theorem dL_law_967 : decode cL_law 967 = .ok (.ireturn, 1) := by decide +kernel
theorem dL_law_968 : decode cL_law 968 = .ok (.aload_n 1, 1) := by decide +kernel
theorem dL_law_969 : decode cL_law 969 = .ok (.aload_n 0, 1) := by decide +kernel
theorem dL_law_970 : decode cL_law 970 = .ok (.iload_n 3, 1) := by decide +kernel
theorem dL_law_971 : decode cL_law 971 = .ok (.iconst 1, 1) := by decide +kernel
theorem dL_law_972 : decode cL_law 972 = .ok (.iadd, 1) := by decide +kernel
theorem dL_law_973 : decode cL_law 973 = .ok (.iaload, 1) := by decide +kernel
theorem dL_law_974 : decode cL_law 974 = .ok (.aload_n 0, 1) := by decide +kernel
theorem dL_law_975 : decode cL_law 975 = .ok (.iload_n 3, 1) := by decide +kernel
theorem dL_law_976 : decode cL_law 976 = .ok (.iconst 2, 1) := by decide +kernel
theorem dL_law_977 : decode cL_law 977 = .ok (.iadd, 1) := by decide +kernel
theorem dL_law_978 : decode cL_law 978 = .ok (.iaload, 1) := by decide +kernel
theorem dL_law_979 : decode cL_law 979 = .ok (.invokevirtual 123, 3) := by decide +kernel
theorem dL_law_982 : decode cL_law 982 = .ok (.aload_n 2, 1) := by decide +kernel
theorem dL_law_983 : decode cL_law 983 = .ok (.aload_n 0, 1) := by decide +kernel
theorem dL_law_984 : decode cL_law 984 = .ok (.iload_n 3, 1) := by decide +kernel
theorem dL_law_985 : decode cL_law 985 = .ok (.iconst 1, 1) := by decide +kernel
theorem dL_law_986 : decode cL_law 986 = .ok (.iadd, 1) := by decide +kernel
theorem dL_law_987 : decode cL_law 987 = .ok (.iaload, 1) := by decide +kernel
theorem dL_law_988 : decode cL_law 988 = .ok (.aload_n 0, 1) := by decide +kernel
theorem dL_law_989 : decode cL_law 989 = .ok (.iload_n 3, 1) := by decide +kernel
theorem dL_law_990 : decode cL_law 990 = .ok (.iconst 2, 1) := by decide +kernel
theorem dL_law_991 : decode cL_law 991 = .ok (.iadd, 1) := by decide +kernel
theorem dL_law_992 : decode cL_law 992 = .ok (.iaload, 1) := by decide +kernel
theorem dL_law_993 : decode cL_law 993 = .ok (.invokevirtual 126, 3) := by decide +kernel
theorem dL_law_996 : decode cL_law 996 = .ok (.if_icmp .eq 186, 3) := by decide +kernel
theorem dL_law_999 : decode cL_law 999 = .ok (.iconst 0, 1) := by decide +kernel
theorem dL_law_1000 : decode cL_law 1000 = .ok (.ireturn, 1) := by decide +kernel
theorem dL_law_1001 : decode cL_law 1001 = .ok (.aload_n 1, 1) := by decide +kernel
theorem dL_law_1002 : decode cL_law 1002 = .ok (.aload_n 0, 1) := by decide +kernel
theorem dL_law_1003 : decode cL_law 1003 = .ok (.iload_n 3, 1) := by decide +kernel
theorem dL_law_1004 : decode cL_law 1004 = .ok (.iconst 1, 1) := by decide +kernel
theorem dL_law_1005 : decode cL_law 1005 = .ok (.iadd, 1) := by decide +kernel
theorem dL_law_1006 : decode cL_law 1006 = .ok (.iaload, 1) := by decide +kernel
theorem dL_law_1007 : decode cL_law 1007 = .ok (.aload_n 0, 1) := by decide +kernel
theorem dL_law_1008 : decode cL_law 1008 = .ok (.iload_n 3, 1) := by decide +kernel
theorem dL_law_1009 : decode cL_law 1009 = .ok (.iconst 2, 1) := by decide +kernel
theorem dL_law_1010 : decode cL_law 1010 = .ok (.iadd, 1) := by decide +kernel
theorem dL_law_1011 : decode cL_law 1011 = .ok (.iaload, 1) := by decide +kernel
theorem dL_law_1012 : decode cL_law 1012 = .ok (.invokevirtual 127, 3) := by decide +kernel
theorem dL_law_1015 : decode cL_law 1015 = .ok (.aload_n 2, 1) := by decide +kernel
theorem dL_law_1016 : decode cL_law 1016 = .ok (.aload_n 0, 1) := by decide +kernel
theorem dL_law_1017 : decode cL_law 1017 = .ok (.iload_n 3, 1) := by decide +kernel
theorem dL_law_1018 : decode cL_law 1018 = .ok (.iconst 1, 1) := by decide +kernel
theorem dL_law_1019 : decode cL_law 1019 = .ok (.iadd, 1) := by decide +kernel
theorem dL_law_1020 : decode cL_law 1020 = .ok (.iaload, 1) := by decide +kernel
theorem dL_law_1021 : decode cL_law 1021 = .ok (.aload_n 0, 1) := by decide +kernel
theorem dL_law_1022 : decode cL_law 1022 = .ok (.iload_n 3, 1) := by decide +kernel
theorem dL_law_1023 : decode cL_law 1023 = .ok (.iconst 2, 1) := by decide +kernel
theorem dL_law_1024 : decode cL_law 1024 = .ok (.iadd, 1) := by decide +kernel
theorem dL_law_1025 : decode cL_law 1025 = .ok (.iaload, 1) := by decide +kernel
theorem dL_law_1026 : decode cL_law 1026 = .ok (.invokevirtual 130, 3) := by decide +kernel
theorem dL_law_1029 : decode cL_law 1029 = .ok (.if_icmp .eq 153, 3) := by decide +kernel
theorem dL_law_1032 : decode cL_law 1032 = .ok (.iconst 0, 1) := by decide +kernel
theorem dL_law_1033 : decode cL_law 1033 = .ok (.ireturn, 1) := by decide +kernel
theorem dL_law_1034 : decode cL_law 1034 = .ok (.aload_n 1, 1) := by decide +kernel
theorem dL_law_1035 : decode cL_law 1035 = .ok (.aload_n 0, 1) := by decide +kernel
theorem dL_law_1036 : decode cL_law 1036 = .ok (.iload_n 3, 1) := by decide +kernel
theorem dL_law_1037 : decode cL_law 1037 = .ok (.iconst 1, 1) := by decide +kernel
theorem dL_law_1038 : decode cL_law 1038 = .ok (.iadd, 1) := by decide +kernel
theorem dL_law_1039 : decode cL_law 1039 = .ok (.iaload, 1) := by decide +kernel
theorem dL_law_1040 : decode cL_law 1040 = .ok (.aload_n 0, 1) := by decide +kernel
theorem dL_law_1041 : decode cL_law 1041 = .ok (.iload_n 3, 1) := by decide +kernel
theorem dL_law_1042 : decode cL_law 1042 = .ok (.iconst 2, 1) := by decide +kernel
theorem dL_law_1043 : decode cL_law 1043 = .ok (.iadd, 1) := by decide +kernel
theorem dL_law_1044 : decode cL_law 1044 = .ok (.iaload, 1) := by decide +kernel
theorem dL_law_1045 : decode cL_law 1045 = .ok (.invokevirtual 131, 3) := by decide +kernel
theorem dL_law_1048 : decode cL_law 1048 = .ok (.aload_n 2, 1) := by decide +kernel
theorem dL_law_1049 : decode cL_law 1049 = .ok (.aload_n 0, 1) := by decide +kernel
theorem dL_law_1050 : decode cL_law 1050 = .ok (.iload_n 3, 1) := by decide +kernel
theorem dL_law_1051 : decode cL_law 1051 = .ok (.iconst 1, 1) := by decide +kernel
theorem dL_law_1052 : decode cL_law 1052 = .ok (.iadd, 1) := by decide +kernel
theorem dL_law_1053 : decode cL_law 1053 = .ok (.iaload, 1) := by decide +kernel
theorem dL_law_1054 : decode cL_law 1054 = .ok (.aload_n 0, 1) := by decide +kernel
theorem dL_law_1055 : decode cL_law 1055 = .ok (.iload_n 3, 1) := by decide +kernel
theorem dL_law_1056 : decode cL_law 1056 = .ok (.iconst 2, 1) := by decide +kernel
theorem dL_law_1057 : decode cL_law 1057 = .ok (.iadd, 1) := by decide +kernel
theorem dL_law_1058 : decode cL_law 1058 = .ok (.iaload, 1) := by decide +kernel
theorem dL_law_1059 : decode cL_law 1059 = .ok (.invokevirtual 134, 3) := by decide +kernel
theorem dL_law_1062 : decode cL_law 1062 = .ok (.if_icmp .eq 120, 3) := by decide +kernel
theorem dL_law_1065 : decode cL_law 1065 = .ok (.iconst 0, 1) := by decide +kernel
theorem dL_law_1066 : decode cL_law 1066 = .ok (.ireturn, 1) := by decide +kernel
theorem dL_law_1067 : decode cL_law 1067 = .ok (.aload_n 1, 1) := by decide +kernel
theorem dL_law_1068 : decode cL_law 1068 = .ok (.aload_n 0, 1) := by decide +kernel
theorem dL_law_1069 : decode cL_law 1069 = .ok (.iload_n 3, 1) := by decide +kernel
theorem dL_law_1070 : decode cL_law 1070 = .ok (.iconst 1, 1) := by decide +kernel
theorem dL_law_1071 : decode cL_law 1071 = .ok (.iadd, 1) := by decide +kernel
theorem dL_law_1072 : decode cL_law 1072 = .ok (.iaload, 1) := by decide +kernel
theorem dL_law_1073 : decode cL_law 1073 = .ok (.invokevirtual 135, 3) := by decide +kernel
theorem dL_law_1076 : decode cL_law 1076 = .ok (.aload_n 2, 1) := by decide +kernel
theorem dL_law_1077 : decode cL_law 1077 = .ok (.aload_n 0, 1) := by decide +kernel
theorem dL_law_1078 : decode cL_law 1078 = .ok (.iload_n 3, 1) := by decide +kernel
theorem dL_law_1079 : decode cL_law 1079 = .ok (.iconst 1, 1) := by decide +kernel
theorem dL_law_1080 : decode cL_law 1080 = .ok (.iadd, 1) := by decide +kernel
theorem dL_law_1081 : decode cL_law 1081 = .ok (.iaload, 1) := by decide +kernel
theorem dL_law_1082 : decode cL_law 1082 = .ok (.invokevirtual 138, 3) := by decide +kernel
theorem dL_law_1085 : decode cL_law 1085 = .ok (.if_icmp .eq 97, 3) := by decide +kernel
theorem dL_law_1088 : decode cL_law 1088 = .ok (.iconst 0, 1) := by decide +kernel
theorem dL_law_1089 : decode cL_law 1089 = .ok (.ireturn, 1) := by decide +kernel
theorem dL_law_1090 : decode cL_law 1090 = .ok (.aload_n 1, 1) := by decide +kernel
theorem dL_law_1091 : decode cL_law 1091 = .ok (.aload_n 0, 1) := by decide +kernel
theorem dL_law_1092 : decode cL_law 1092 = .ok (.iload_n 3, 1) := by decide +kernel
theorem dL_law_1093 : decode cL_law 1093 = .ok (.iconst 1, 1) := by decide +kernel
theorem dL_law_1094 : decode cL_law 1094 = .ok (.iadd, 1) := by decide +kernel
theorem dL_law_1095 : decode cL_law 1095 = .ok (.iaload, 1) := by decide +kernel
theorem dL_law_1096 : decode cL_law 1096 = .ok (.invokevirtual 139, 3) := by decide +kernel
theorem dL_law_1099 : decode cL_law 1099 = .ok (.aload_n 2, 1) := by decide +kernel
theorem dL_law_1100 : decode cL_law 1100 = .ok (.aload_n 0, 1) := by decide +kernel
theorem dL_law_1101 : decode cL_law 1101 = .ok (.iload_n 3, 1) := by decide +kernel
theorem dL_law_1102 : decode cL_law 1102 = .ok (.iconst 1, 1) := by decide +kernel
theorem dL_law_1103 : decode cL_law 1103 = .ok (.iadd, 1) := by decide +kernel
theorem dL_law_1104 : decode cL_law 1104 = .ok (.iaload, 1) := by decide +kernel
theorem dL_law_1105 : decode cL_law 1105 = .ok (.invokevirtual 142, 3) := by decide +kernel
theorem dL_law_1108 : decode cL_law 1108 = .ok (.if_icmp .eq 74, 3) := by decide +kernel
theorem dL_law_1111 : decode cL_law 1111 = .ok (.iconst 0, 1) := by decide +kernel
theorem dL_law_1112 : decode cL_law 1112 = .ok (.ireturn, 1) := by decide +kernel
theorem dL_law_1113 : decode cL_law 1113 = .ok (.aload_n 1, 1) := by decide +kernel
theorem dL_law_1114 : decode cL_law 1114 = .ok (.aload_n 0, 1) := by decide +kernel
theorem dL_law_1115 : decode cL_law 1115 = .ok (.iload_n 3, 1) := by decide +kernel
theorem dL_law_1116 : decode cL_law 1116 = .ok (.iconst 1, 1) := by decide +kernel
theorem dL_law_1117 : decode cL_law 1117 = .ok (.iadd, 1) := by decide +kernel
theorem dL_law_1118 : decode cL_law 1118 = .ok (.iaload, 1) := by decide +kernel
theorem dL_law_1119 : decode cL_law 1119 = .ok (.invokevirtual 143, 3) := by decide +kernel
theorem dL_law_1122 : decode cL_law 1122 = .ok (.aload_n 2, 1) := by decide +kernel
theorem dL_law_1123 : decode cL_law 1123 = .ok (.aload_n 0, 1) := by decide +kernel
theorem dL_law_1124 : decode cL_law 1124 = .ok (.iload_n 3, 1) := by decide +kernel
theorem dL_law_1125 : decode cL_law 1125 = .ok (.iconst 1, 1) := by decide +kernel
theorem dL_law_1126 : decode cL_law 1126 = .ok (.iadd, 1) := by decide +kernel
theorem dL_law_1127 : decode cL_law 1127 = .ok (.iaload, 1) := by decide +kernel
theorem dL_law_1128 : decode cL_law 1128 = .ok (.invokevirtual 146, 3) := by decide +kernel
theorem dL_law_1131 : decode cL_law 1131 = .ok (.if_icmp .eq 51, 3) := by decide +kernel
theorem dL_law_1134 : decode cL_law 1134 = .ok (.iconst 0, 1) := by decide +kernel
theorem dL_law_1135 : decode cL_law 1135 = .ok (.ireturn, 1) := by decide +kernel
theorem dL_law_1136 : decode cL_law 1136 = .ok (.aload_n 1, 1) := by decide +kernel
theorem dL_law_1137 : decode cL_law 1137 = .ok (.aload_n 0, 1) := by decide +kernel
theorem dL_law_1138 : decode cL_law 1138 = .ok (.iload_n 3, 1) := by decide +kernel
theorem dL_law_1139 : decode cL_law 1139 = .ok (.iconst 1, 1) := by decide +kernel
theorem dL_law_1140 : decode cL_law 1140 = .ok (.iadd, 1) := by decide +kernel
theorem dL_law_1141 : decode cL_law 1141 = .ok (.iaload, 1) := by decide +kernel
theorem dL_law_1142 : decode cL_law 1142 = .ok (.invokevirtual 147, 3) := by decide +kernel
theorem dL_law_1145 : decode cL_law 1145 = .ok (.aload_n 2, 1) := by decide +kernel
theorem dL_law_1146 : decode cL_law 1146 = .ok (.aload_n 0, 1) := by decide +kernel
theorem dL_law_1147 : decode cL_law 1147 = .ok (.iload_n 3, 1) := by decide +kernel
theorem dL_law_1148 : decode cL_law 1148 = .ok (.iconst 1, 1) := by decide +kernel
theorem dL_law_1149 : decode cL_law 1149 = .ok (.iadd, 1) := by decide +kernel
theorem dL_law_1150 : decode cL_law 1150 = .ok (.iaload, 1) := by decide +kernel
theorem dL_law_1151 : decode cL_law 1151 = .ok (.invokevirtual 150, 3) := by decide +kernel
theorem dL_law_1154 : decode cL_law 1154 = .ok (.if_icmp .eq 28, 3) := by decide +kernel
theorem dL_law_1157 : decode cL_law 1157 = .ok (.iconst 0, 1) := by decide +kernel
theorem dL_law_1158 : decode cL_law 1158 = .ok (.ireturn, 1) := by decide +kernel
theorem dL_law_1159 : decode cL_law 1159 = .ok (.aload_n 1, 1) := by decide +kernel
theorem dL_law_1160 : decode cL_law 1160 = .ok (.aload_n 0, 1) := by decide +kernel
theorem dL_law_1161 : decode cL_law 1161 = .ok (.iload_n 3, 1) := by decide +kernel
theorem dL_law_1162 : decode cL_law 1162 = .ok (.iconst 1, 1) := by decide +kernel
theorem dL_law_1163 : decode cL_law 1163 = .ok (.iadd, 1) := by decide +kernel
theorem dL_law_1164 : decode cL_law 1164 = .ok (.iaload, 1) := by decide +kernel
theorem dL_law_1165 : decode cL_law 1165 = .ok (.invokevirtual 151, 3) := by decide +kernel
theorem dL_law_1168 : decode cL_law 1168 = .ok (.aload_n 2, 1) := by decide +kernel
theorem dL_law_1169 : decode cL_law 1169 = .ok (.aload_n 0, 1) := by decide +kernel
theorem dL_law_1170 : decode cL_law 1170 = .ok (.iload_n 3, 1) := by decide +kernel
theorem dL_law_1171 : decode cL_law 1171 = .ok (.iconst 1, 1) := by decide +kernel
theorem dL_law_1172 : decode cL_law 1172 = .ok (.iadd, 1) := by decide +kernel
theorem dL_law_1173 : decode cL_law 1173 = .ok (.iaload, 1) := by decide +kernel
theorem dL_law_1174 : decode cL_law 1174 = .ok (.invokevirtual 154, 3) := by decide +kernel
theorem dL_law_1177 : decode cL_law 1177 = .ok (.if_icmp .eq 5, 3) := by decide +kernel
theorem dL_law_1180 : decode cL_law 1180 = .ok (.iconst 0, 1) := by decide +kernel
theorem dL_law_1181 : decode cL_law 1181 = .ok (.ireturn, 1) := by decide +kernel
theorem dL_law_1182 : decode cL_law 1182 = .ok (.iinc 3 4, 3) := by decide +kernel
theorem dL_law_1185 : decode cL_law 1185 = .ok (.goto (-1167), 3) := by decide +kernel
theorem dL_law_1188 : decode cL_law 1188 = .ok (.iconst 1, 1) := by decide +kernel
theorem dL_law_1189 : decode cL_law 1189 = .ok (.ireturn, 1) := by decide +kernel
set_option maxRecDepth 20000 in
set_option maxHeartbeats 4000000 in
theorem kcV_L_13 : zKV RL 13 yX7_sets cX7_sets 3 (some .boolean) 2 := ⟨zIn2 41 rfl rfl, zIn2 42 rfl rfl, zIn2 43 rfl rfl, zIn1 1 rfl rfl, zIn2 44 rfl rfl, by decide, by decide, by decide⟩
set_option maxRecDepth 20000 in
set_option maxHeartbeats 4000000 in
theorem kcV_L_17 : zKV RL 17 yX8_sets cX8_sets 3 (some .boolean) 2 := ⟨zIn4 227 rfl rfl, zIn4 228 rfl rfl, zIn4 229 rfl rfl, zIn1 10 rfl rfl, zIn4 230 rfl rfl, by decide, by decide, by decide⟩
set_option maxRecDepth 20000 in
set_option maxHeartbeats 4000000 in
theorem kcV_L_18 : zKV RL 18 yX7_read cX7_read 3 (some .int) 1 := ⟨zIn2 88 rfl rfl, zIn2 89 rfl rfl, zIn2 90 rfl rfl, zIn1 1 rfl rfl, zIn2 91 rfl rfl, by decide, by decide, by decide⟩
set_option maxRecDepth 20000 in
set_option maxHeartbeats 4000000 in
theorem kcV_L_22 : zKV RL 22 yX8_read cX8_read 2 (some .int) 1 := ⟨zIn4 236 rfl rfl, zIn4 237 rfl rfl, zIn4 238 rfl rfl, zIn1 10 rfl rfl, zIn4 239 rfl rfl, by decide, by decide, by decide⟩
set_option maxRecDepth 20000 in
set_option maxHeartbeats 4000000 in
theorem kcV_L_23 : zKV RL 23 yX7_reads cX7_reads 8 (some .int) 3 := ⟨zIn2 236 rfl rfl, zIn2 237 rfl rfl, zIn2 238 rfl rfl, zIn1 1 rfl rfl, zIn2 239 rfl rfl, by decide, by decide, by decide⟩
set_option maxRecDepth 20000 in
set_option maxHeartbeats 4000000 in
theorem kcV_L_27 : zKV RL 27 yX8_reads cX8_reads 8 (some .int) 3 := ⟨zIn5 117 rfl rfl, zIn5 118 rfl rfl, zIn5 119 rfl rfl, zIn1 10 rfl rfl, zIn5 120 rfl rfl, by decide, by decide, by decide⟩
set_option maxRecDepth 20000 in
set_option maxHeartbeats 4000000 in
theorem kcV_L_28 : zKV RL 28 yX7_idle cX7_idle 3 (some .int) 1 := ⟨zIn3 0 rfl rfl, zIn3 1 rfl rfl, zIn3 2 rfl rfl, zIn1 1 rfl rfl, zIn3 3 rfl rfl, by decide, by decide, by decide⟩
set_option maxRecDepth 20000 in
set_option maxHeartbeats 4000000 in
theorem kcV_L_31 : zKV RL 31 yX8_idle cX8_idle 3 (some .int) 1 := ⟨zIn5 122 rfl rfl, zIn5 123 rfl rfl, zIn5 124 rfl rfl, zIn1 10 rfl rfl, zIn5 125 rfl rfl, by decide, by decide, by decide⟩
set_option maxRecDepth 20000 in
set_option maxHeartbeats 4000000 in
theorem kcV_L_32 : zKV RL 32 yX7_advise cX7_advise 3 (some .int) 2 := ⟨zIn3 20 rfl rfl, zIn3 21 rfl rfl, zIn3 22 rfl rfl, zIn1 1 rfl rfl, zIn3 23 rfl rfl, by decide, by decide, by decide⟩
set_option maxRecDepth 20000 in
set_option maxHeartbeats 4000000 in
theorem kcV_L_36 : zKV RL 36 yX8_advise cX8_advise 4 (some .int) 2 := ⟨zIn5 139 rfl rfl, zIn5 140 rfl rfl, zIn5 141 rfl rfl, zIn1 10 rfl rfl, zIn5 142 rfl rfl, by decide, by decide, by decide⟩
set_option maxRecDepth 20000 in
set_option maxHeartbeats 4000000 in
theorem kcV_L_37 : zKV RL 37 yX7_write cX7_write 4 (some .int) 2 := ⟨zIn3 29 rfl rfl, zIn3 30 rfl rfl, zIn3 31 rfl rfl, zIn1 1 rfl rfl, zIn3 32 rfl rfl, by decide, by decide, by decide⟩
set_option maxRecDepth 20000 in
set_option maxHeartbeats 4000000 in
theorem kcV_L_40 : zKV RL 40 yX8_write cX8_write 5 (some .int) 2 := ⟨zIn5 145 rfl rfl, zIn5 146 rfl rfl, zIn5 147 rfl rfl, zIn1 10 rfl rfl, zIn5 148 rfl rfl, by decide, by decide, by decide⟩
set_option maxRecDepth 20000 in
set_option maxHeartbeats 4000000 in
theorem kcV_L_41 : zKV RL 41 yX7_bad cX7_bad 3 (some .boolean) 2 := ⟨zIn3 38 rfl rfl, zIn3 39 rfl rfl, zIn3 40 rfl rfl, zIn1 1 rfl rfl, zIn3 41 rfl rfl, by decide, by decide, by decide⟩
set_option maxRecDepth 20000 in
set_option maxHeartbeats 4000000 in
theorem kcV_L_45 : zKV RL 45 yX8_bad cX8_bad 3 (some .boolean) 2 := ⟨zIn5 150 rfl rfl, zIn5 151 rfl rfl, zIn5 152 rfl rfl, zIn1 10 rfl rfl, zIn5 153 rfl rfl, by decide, by decide, by decide⟩
set_option maxRecDepth 20000 in
set_option maxHeartbeats 4000000 in
theorem kcV_L_46 : zKV RL 46 yX7_drop cX7_drop 4 (some .boolean) 1 := ⟨zIn3 47 rfl rfl, zIn3 48 rfl rfl, zIn3 49 rfl rfl, zIn1 1 rfl rfl, zIn3 50 rfl rfl, by decide, by decide, by decide⟩
set_option maxRecDepth 20000 in
set_option maxHeartbeats 4000000 in
theorem kcV_L_50 : zKV RL 50 yX8_drop cX8_drop 3 (some .boolean) 1 := ⟨zIn5 154 rfl rfl, zIn5 155 rfl rfl, zIn5 156 rfl rfl, zIn1 10 rfl rfl, zIn5 157 rfl rfl, by decide, by decide, by decide⟩
set_option maxRecDepth 20000 in
set_option maxHeartbeats 4000000 in
theorem kcV_L_51 : zKV RL 51 yX7_stop cX7_stop 4 (some .int) 1 := ⟨zIn3 54 rfl rfl, zIn3 55 rfl rfl, zIn3 56 rfl rfl, zIn1 1 rfl rfl, zIn3 57 rfl rfl, by decide, by decide, by decide⟩
set_option maxRecDepth 20000 in
set_option maxHeartbeats 4000000 in
theorem kcV_L_54 : zKV RL 54 yX8_stop cX8_stop 2 (some .int) 1 := ⟨zIn5 158 rfl rfl, zIn5 159 rfl rfl, zIn5 160 rfl rfl, zIn1 10 rfl rfl, zIn5 161 rfl rfl, by decide, by decide, by decide⟩
set_option maxRecDepth 20000 in
set_option maxHeartbeats 4000000 in
theorem kcV_L_55 : zKV RL 55 yX7_keep cX7_keep 2 (some .boolean) 1 := ⟨zIn3 60 rfl rfl, zIn3 61 rfl rfl, zIn3 62 rfl rfl, zIn1 1 rfl rfl, zIn3 63 rfl rfl, by decide, by decide, by decide⟩
set_option maxRecDepth 20000 in
set_option maxHeartbeats 4000000 in
theorem kcV_L_58 : zKV RL 58 yX8_keep cX8_keep 3 (some .boolean) 1 := ⟨zIn4 213 rfl rfl, zIn4 214 rfl rfl, zIn4 215 rfl rfl, zIn1 10 rfl rfl, zIn4 216 rfl rfl, by decide, by decide, by decide⟩
set_option maxRecDepth 20000 in
set_option maxHeartbeats 4000000 in
theorem kcV_L_59 : zKV RL 59 yX7_again cX7_again 2 (some .boolean) 1 := ⟨zIn3 98 rfl rfl, zIn3 99 rfl rfl, zIn3 100 rfl rfl, zIn1 1 rfl rfl, zIn3 101 rfl rfl, by decide, by decide, by decide⟩
set_option maxRecDepth 20000 in
set_option maxHeartbeats 4000000 in
theorem kcV_L_62 : zKV RL 62 yX8_again cX8_again 3 (some .boolean) 1 := ⟨zIn4 223 rfl rfl, zIn4 224 rfl rfl, zIn4 225 rfl rfl, zIn1 10 rfl rfl, zIn4 226 rfl rfl, by decide, by decide, by decide⟩
set_option maxRecDepth 20000 in
set_option maxHeartbeats 4000000 in
theorem kcV_L_63 : zKV RL 63 yX7_block cX7_block 4 (some .int) 2 := ⟨zIn3 102 rfl rfl, zIn3 103 rfl rfl, zIn3 104 rfl rfl, zIn1 1 rfl rfl, zIn3 105 rfl rfl, by decide, by decide, by decide⟩
set_option maxRecDepth 20000 in
set_option maxHeartbeats 4000000 in
theorem kcV_L_66 : zKV RL 66 yX8_block cX8_block 4 (some .int) 2 := ⟨zIn5 167 rfl rfl, zIn5 168 rfl rfl, zIn5 169 rfl rfl, zIn1 10 rfl rfl, zIn5 170 rfl rfl, by decide, by decide, by decide⟩
set_option maxRecDepth 20000 in
set_option maxHeartbeats 4000000 in
theorem kcV_L_67 : zKV RL 67 yX7_cached cX7_cached 2 (some .int) 1 := ⟨zIn3 107 rfl rfl, zIn3 108 rfl rfl, zIn3 109 rfl rfl, zIn1 1 rfl rfl, zIn3 110 rfl rfl, by decide, by decide, by decide⟩
set_option maxRecDepth 20000 in
set_option maxHeartbeats 4000000 in
theorem kcV_L_70 : zKV RL 70 yX8_cached cX8_cached 4 (some .int) 1 := ⟨zIn5 176 rfl rfl, zIn5 177 rfl rfl, zIn5 178 rfl rfl, zIn1 10 rfl rfl, zIn5 179 rfl rfl, by decide, by decide, by decide⟩
set_option maxRecDepth 20000 in
set_option maxHeartbeats 4000000 in
theorem kcV_L_71 : zKV RL 71 yX7_stream cX7_stream 4 (some .int) 2 := ⟨zIn3 119 rfl rfl, zIn3 120 rfl rfl, zIn3 121 rfl rfl, zIn1 1 rfl rfl, zIn3 122 rfl rfl, by decide, by decide, by decide⟩
set_option maxRecDepth 20000 in
set_option maxHeartbeats 4000000 in
theorem kcV_L_74 : zKV RL 74 yX8_stream cX8_stream 4 (some .int) 2 := ⟨zIn5 188 rfl rfl, zIn5 189 rfl rfl, zIn5 190 rfl rfl, zIn1 10 rfl rfl, zIn5 191 rfl rfl, by decide, by decide, by decide⟩
set_option maxRecDepth 20000 in
set_option maxHeartbeats 4000000 in
theorem kcV_L_75 : zKV RL 75 yX7_aheadOf cX7_aheadOf 4 (some .int) 2 := ⟨zIn3 130 rfl rfl, zIn3 131 rfl rfl, zIn3 132 rfl rfl, zIn1 1 rfl rfl, zIn3 133 rfl rfl, by decide, by decide, by decide⟩
set_option maxRecDepth 20000 in
set_option maxHeartbeats 4000000 in
theorem kcV_L_78 : zKV RL 78 yX8_aheadOf cX8_aheadOf 8 (some .int) 2 := ⟨zIn5 194 rfl rfl, zIn5 195 rfl rfl, zIn5 196 rfl rfl, zIn1 10 rfl rfl, zIn5 197 rfl rfl, by decide, by decide, by decide⟩
set_option maxRecDepth 20000 in
set_option maxHeartbeats 4000000 in
theorem kcV_L_79 : zKV RL 79 yX7_gain cX7_gain 3 (some .int) 1 := ⟨zIn3 142 rfl rfl, zIn3 143 rfl rfl, zIn3 144 rfl rfl, zIn1 1 rfl rfl, zIn3 145 rfl rfl, by decide, by decide, by decide⟩
set_option maxRecDepth 20000 in
set_option maxHeartbeats 4000000 in
theorem kcV_L_82 : zKV RL 82 yX8_gain cX8_gain 4 (some .int) 1 := ⟨zIn6 85 rfl rfl, zIn6 86 rfl rfl, zIn6 87 rfl rfl, zIn1 10 rfl rfl, zIn6 88 rfl rfl, by decide, by decide, by decide⟩
set_option maxRecDepth 20000 in
set_option maxHeartbeats 4000000 in
theorem kcV_L_83 : zKV RL 83 yX7_log cX7_log 3 (some .int) 2 := ⟨zIn3 177 rfl rfl, zIn3 178 rfl rfl, zIn3 179 rfl rfl, zIn1 1 rfl rfl, zIn3 180 rfl rfl, by decide, by decide, by decide⟩
set_option maxRecDepth 20000 in
set_option maxHeartbeats 4000000 in
theorem kcV_L_86 : zKV RL 86 yX8_log cX8_log 3 (some .int) 2 := ⟨zIn5 198 rfl rfl, zIn5 199 rfl rfl, zIn5 200 rfl rfl, zIn1 10 rfl rfl, zIn5 201 rfl rfl, by decide, by decide, by decide⟩
set_option maxRecDepth 20000 in
set_option maxHeartbeats 4000000 in
theorem kcV_L_87 : zKV RL 87 yX7_piece cX7_piece 4 (some .int) 2 := ⟨zIn3 185 rfl rfl, zIn3 186 rfl rfl, zIn3 187 rfl rfl, zIn1 1 rfl rfl, zIn3 188 rfl rfl, by decide, by decide, by decide⟩
set_option maxRecDepth 20000 in
set_option maxHeartbeats 4000000 in
theorem kcV_L_90 : zKV RL 90 yX8_piece cX8_piece 7 (some .int) 2 := ⟨zIn5 203 rfl rfl, zIn5 204 rfl rfl, zIn5 205 rfl rfl, zIn1 10 rfl rfl, zIn5 206 rfl rfl, by decide, by decide, by decide⟩
set_option maxRecDepth 20000 in
set_option maxHeartbeats 4000000 in
theorem kcV_L_91 : zKV RL 91 yX7_whose cX7_whose 4 (some .int) 2 := ⟨zIn3 210 rfl rfl, zIn3 211 rfl rfl, zIn3 212 rfl rfl, zIn1 1 rfl rfl, zIn3 213 rfl rfl, by decide, by decide, by decide⟩
set_option maxRecDepth 20000 in
set_option maxHeartbeats 4000000 in
theorem kcV_L_94 : zKV RL 94 yX8_whose cX8_whose 3 (some .int) 2 := ⟨zIn5 215 rfl rfl, zIn5 216 rfl rfl, zIn5 217 rfl rfl, zIn1 10 rfl rfl, zIn5 218 rfl rfl, by decide, by decide, by decide⟩
set_option maxRecDepth 20000 in
set_option maxHeartbeats 4000000 in
theorem kcV_L_95 : zKV RL 95 yX7_mixed cX7_mixed 2 (some .int) 1 := ⟨zIn3 226 rfl rfl, zIn3 227 rfl rfl, zIn3 228 rfl rfl, zIn1 1 rfl rfl, zIn3 229 rfl rfl, by decide, by decide, by decide⟩
set_option maxRecDepth 20000 in
set_option maxHeartbeats 4000000 in
theorem kcV_L_98 : zKV RL 98 yX8_mixed cX8_mixed 9 (some .int) 1 := ⟨zIn5 219 rfl rfl, zIn5 220 rfl rfl, zIn5 221 rfl rfl, zIn1 10 rfl rfl, zIn5 222 rfl rfl, by decide, by decide, by decide⟩
set_option maxRecDepth 20000 in
set_option maxHeartbeats 4000000 in
theorem kcV_L_99 : zKV RL 99 yX7_trace cX7_trace 2 (some .int) 1 := ⟨zIn4 7 rfl rfl, zIn4 8 rfl rfl, zIn4 9 rfl rfl, zIn1 1 rfl rfl, zIn4 10 rfl rfl, by decide, by decide, by decide⟩
set_option maxRecDepth 20000 in
set_option maxHeartbeats 4000000 in
theorem kcV_L_102 : zKV RL 102 yX8_trace cX8_trace 2 (some .int) 1 := ⟨zIn5 228 rfl rfl, zIn5 229 rfl rfl, zIn5 230 rfl rfl, zIn1 10 rfl rfl, zIn5 231 rfl rfl, by decide, by decide, by decide⟩
set_option maxRecDepth 20000 in
set_option maxHeartbeats 4000000 in
theorem kcV_L_103 : zKV RL 103 yX7_would cX7_would 4 (some .int) 2 := ⟨zIn4 11 rfl rfl, zIn4 12 rfl rfl, zIn4 13 rfl rfl, zIn1 1 rfl rfl, zIn4 14 rfl rfl, by decide, by decide, by decide⟩
set_option maxRecDepth 20000 in
set_option maxHeartbeats 4000000 in
theorem kcV_L_106 : zKV RL 106 yX8_would cX8_would 5 (some .int) 2 := ⟨zIn6 12 rfl rfl, zIn6 13 rfl rfl, zIn6 14 rfl rfl, zIn1 10 rfl rfl, zIn6 15 rfl rfl, by decide, by decide, by decide⟩
set_option maxRecDepth 20000 in
set_option maxHeartbeats 4000000 in
theorem kcV_L_107 : zKV RL 107 yX7_plan cX7_plan 3 (some .int) 2 := ⟨zIn4 15 rfl rfl, zIn4 16 rfl rfl, zIn4 17 rfl rfl, zIn1 1 rfl rfl, zIn4 18 rfl rfl, by decide, by decide, by decide⟩
set_option maxRecDepth 20000 in
set_option maxHeartbeats 4000000 in
theorem kcV_L_110 : zKV RL 110 yX8_plan cX8_plan 3 (some .int) 2 := ⟨zIn6 24 rfl rfl, zIn6 25 rfl rfl, zIn6 26 rfl rfl, zIn1 10 rfl rfl, zIn6 27 rfl rfl, by decide, by decide, by decide⟩
set_option maxRecDepth 20000 in
set_option maxHeartbeats 4000000 in
theorem kcV_L_111 : zKV RL 111 yX7_replay cX7_replay 4 (some .int) 3 := ⟨zIn4 23 rfl rfl, zIn4 24 rfl rfl, zIn4 25 rfl rfl, zIn1 1 rfl rfl, zIn4 26 rfl rfl, by decide, by decide, by decide⟩
set_option maxRecDepth 20000 in
set_option maxHeartbeats 4000000 in
theorem kcV_L_114 : zKV RL 114 yX8_replay cX8_replay 5 (some .int) 3 := ⟨zIn6 28 rfl rfl, zIn6 29 rfl rfl, zIn6 30 rfl rfl, zIn1 10 rfl rfl, zIn6 31 rfl rfl, by decide, by decide, by decide⟩
set_option maxRecDepth 20000 in
set_option maxHeartbeats 4000000 in
theorem kcV_L_115 : zKV RL 115 yX7_forecast cX7_forecast 6 (some .int) 2 := ⟨zIn4 39 rfl rfl, zIn4 40 rfl rfl, zIn4 41 rfl rfl, zIn1 1 rfl rfl, zIn4 42 rfl rfl, by decide, by decide, by decide⟩
set_option maxRecDepth 20000 in
set_option maxHeartbeats 4000000 in
theorem kcV_L_118 : zKV RL 118 yX8_forecast cX8_forecast 7 (some .int) 2 := ⟨zIn6 57 rfl rfl, zIn6 58 rfl rfl, zIn6 59 rfl rfl, zIn1 10 rfl rfl, zIn6 60 rfl rfl, by decide, by decide, by decide⟩
set_option maxRecDepth 20000 in
set_option maxHeartbeats 4000000 in
theorem kcV_L_119 : zKV RL 119 yX7_tune cX7_tune 7 (some .int) 1 := ⟨zIn4 43 rfl rfl, zIn4 44 rfl rfl, zIn4 45 rfl rfl, zIn1 1 rfl rfl, zIn4 46 rfl rfl, by decide, by decide, by decide⟩
set_option maxRecDepth 20000 in
set_option maxHeartbeats 4000000 in
theorem kcV_L_122 : zKV RL 122 yX8_tune cX8_tune 7 (some .int) 1 := ⟨zIn6 61 rfl rfl, zIn6 62 rfl rfl, zIn6 63 rfl rfl, zIn1 10 rfl rfl, zIn6 64 rfl rfl, by decide, by decide, by decide⟩
set_option maxRecDepth 20000 in
set_option maxHeartbeats 4000000 in
theorem kcV_L_123 : zKV RL 123 yX7_best cX7_best 6 (some .int) 2 := ⟨zIn4 48 rfl rfl, zIn4 49 rfl rfl, zIn4 50 rfl rfl, zIn1 1 rfl rfl, zIn4 51 rfl rfl, by decide, by decide, by decide⟩
set_option maxRecDepth 20000 in
set_option maxHeartbeats 4000000 in
theorem kcV_L_126 : zKV RL 126 yX8_best cX8_best 6 (some .int) 2 := ⟨zIn6 65 rfl rfl, zIn6 66 rfl rfl, zIn6 67 rfl rfl, zIn1 10 rfl rfl, zIn6 68 rfl rfl, by decide, by decide, by decide⟩
set_option maxRecDepth 20000 in
set_option maxHeartbeats 4000000 in
theorem kcV_L_127 : zKV RL 127 yX7_misses cX7_misses 3 (some .int) 2 := ⟨zIn4 52 rfl rfl, zIn4 53 rfl rfl, zIn4 54 rfl rfl, zIn1 1 rfl rfl, zIn4 55 rfl rfl, by decide, by decide, by decide⟩
set_option maxRecDepth 20000 in
set_option maxHeartbeats 4000000 in
theorem kcV_L_130 : zKV RL 130 yX8_misses cX8_misses 3 (some .int) 2 := ⟨zIn6 69 rfl rfl, zIn6 70 rfl rfl, zIn6 71 rfl rfl, zIn1 10 rfl rfl, zIn6 72 rfl rfl, by decide, by decide, by decide⟩
set_option maxRecDepth 20000 in
set_option maxHeartbeats 4000000 in
theorem kcV_L_131 : zKV RL 131 yX7_row cX7_row 4 (some .int) 2 := ⟨zIn4 81 rfl rfl, zIn4 82 rfl rfl, zIn4 83 rfl rfl, zIn1 1 rfl rfl, zIn4 84 rfl rfl, by decide, by decide, by decide⟩
set_option maxRecDepth 20000 in
set_option maxHeartbeats 4000000 in
theorem kcV_L_134 : zKV RL 134 yX8_row cX8_row 3 (some .int) 2 := ⟨zIn6 89 rfl rfl, zIn6 90 rfl rfl, zIn6 91 rfl rfl, zIn1 10 rfl rfl, zIn6 92 rfl rfl, by decide, by decide, by decide⟩
set_option maxRecDepth 20000 in
set_option maxHeartbeats 4000000 in
theorem kcV_L_135 : zKV RL 135 yX7_pace cX7_pace 7 (some .int) 1 := ⟨zIn4 89 rfl rfl, zIn4 90 rfl rfl, zIn4 91 rfl rfl, zIn1 1 rfl rfl, zIn4 92 rfl rfl, by decide, by decide, by decide⟩
set_option maxRecDepth 20000 in
set_option maxHeartbeats 4000000 in
theorem kcV_L_138 : zKV RL 138 yX8_pace cX8_pace 6 (some .int) 1 := ⟨zIn6 103 rfl rfl, zIn6 104 rfl rfl, zIn6 105 rfl rfl, zIn1 10 rfl rfl, zIn6 106 rfl rfl, by decide, by decide, by decide⟩
set_option maxRecDepth 20000 in
set_option maxHeartbeats 4000000 in
theorem kcV_L_139 : zKV RL 139 yX7_until cX7_until 6 (some .int) 1 := ⟨zIn4 93 rfl rfl, zIn4 94 rfl rfl, zIn4 95 rfl rfl, zIn1 1 rfl rfl, zIn4 96 rfl rfl, by decide, by decide, by decide⟩
set_option maxRecDepth 20000 in
set_option maxHeartbeats 4000000 in
theorem kcV_L_142 : zKV RL 142 yX8_until cX8_until 9 (some .int) 1 := ⟨zIn6 107 rfl rfl, zIn6 108 rfl rfl, zIn6 109 rfl rfl, zIn1 10 rfl rfl, zIn6 110 rfl rfl, by decide, by decide, by decide⟩
set_option maxRecDepth 20000 in
set_option maxHeartbeats 4000000 in
theorem kcV_L_143 : zKV RL 143 yX7_ahead cX7_ahead 3 (some .int) 1 := ⟨zIn4 98 rfl rfl, zIn4 99 rfl rfl, zIn4 100 rfl rfl, zIn1 1 rfl rfl, zIn4 101 rfl rfl, by decide, by decide, by decide⟩
set_option maxRecDepth 20000 in
set_option maxHeartbeats 4000000 in
theorem kcV_L_146 : zKV RL 146 yX8_ahead cX8_ahead 3 (some .int) 1 := ⟨zIn5 184 rfl rfl, zIn5 185 rfl rfl, zIn5 186 rfl rfl, zIn1 10 rfl rfl, zIn5 187 rfl rfl, by decide, by decide, by decide⟩
set_option maxRecDepth 20000 in
set_option maxHeartbeats 4000000 in
theorem kcV_L_147 : zKV RL 147 yX7_habits cX7_habits 2 (some .int) 1 := ⟨zIn4 103 rfl rfl, zIn4 104 rfl rfl, zIn4 105 rfl rfl, zIn1 1 rfl rfl, zIn4 106 rfl rfl, by decide, by decide, by decide⟩
set_option maxRecDepth 20000 in
set_option maxHeartbeats 4000000 in
theorem kcV_L_150 : zKV RL 150 yX8_habits cX8_habits 4 (some .int) 1 := ⟨zIn5 232 rfl rfl, zIn5 233 rfl rfl, zIn5 234 rfl rfl, zIn1 10 rfl rfl, zIn5 235 rfl rfl, by decide, by decide, by decide⟩
set_option maxRecDepth 20000 in
set_option maxHeartbeats 4000000 in
theorem kcV_L_151 : zKV RL 151 yX7_count cX7_count 2 (some .int) 1 := ⟨zIn4 123 rfl rfl, zIn4 124 rfl rfl, zIn4 125 rfl rfl, zIn1 1 rfl rfl, zIn4 126 rfl rfl, by decide, by decide, by decide⟩
set_option maxRecDepth 20000 in
set_option maxHeartbeats 4000000 in
theorem kcV_L_154 : zKV RL 154 yX8_count cX8_count 2 (some .int) 1 := ⟨zIn6 111 rfl rfl, zIn6 112 rfl rfl, zIn6 113 rfl rfl, zIn1 10 rfl rfl, zIn6 114 rfl rfl, by decide, by decide, by decide⟩
def Sm_sets (N : Nat) (I J : ST → ST → Prop) : Prop := ∀ (τ ρ : ST) (a0 : Int32) (a1 : Int32), I τ ρ → ∃ (r : Int32) (τ' ρ' : ST), mT_X7_sets N τ a0 a1 = some (r, τ') ∧ mR_sets N ρ a0 a1 = some (r, ρ') ∧ J τ' ρ'
def Sm_read (N : Nat) (I J : ST → ST → Prop) : Prop := ∀ (τ ρ : ST) (a0 : Int32), I τ ρ → ∃ (r : Int32) (τ' ρ' : ST), mT_X7_read N τ a0 = some (r, τ') ∧ mR_read N ρ a0 = some (r, ρ') ∧ J τ' ρ'
def Sm_reads (N : Nat) (I J : ST → ST → Prop) : Prop := ∀ (τ ρ : ST) (a0 : Int32) (a1 : Int32) (a2 : Int32), I τ ρ → ∃ (r : Int32) (τ' ρ' : ST), mT_X7_reads N τ a0 a1 a2 = some (r, τ') ∧ mR_reads N ρ a0 a1 a2 = some (r, ρ') ∧ J τ' ρ'
def Sm_idle (N : Nat) (I J : ST → ST → Prop) : Prop := ∀ (τ ρ : ST) (a0 : Int32), I τ ρ → ∃ (r : Int32) (τ' ρ' : ST), mT_X7_idle N τ a0 = some (r, τ') ∧ mR_idle N ρ a0 = some (r, ρ') ∧ J τ' ρ'
def Sm_advise (N : Nat) (I J : ST → ST → Prop) : Prop := ∀ (τ ρ : ST) (a0 : Int32) (a1 : Int32), I τ ρ → ∃ (r : Int32) (τ' ρ' : ST), mT_X7_advise N τ a0 a1 = some (r, τ') ∧ mR_advise N ρ a0 a1 = some (r, ρ') ∧ J τ' ρ'
def Sm_write (N : Nat) (I J : ST → ST → Prop) : Prop := ∀ (τ ρ : ST) (a0 : Int32) (a1 : Int32), I τ ρ → ∃ (r : Int32) (τ' ρ' : ST), mT_X7_write N τ a0 a1 = some (r, τ') ∧ mR_write N ρ a0 a1 = some (r, ρ') ∧ J τ' ρ'
def Sm_bad (N : Nat) (I J : ST → ST → Prop) : Prop := ∀ (τ ρ : ST) (a0 : Int32) (a1 : Int32), (a1 = 0 ∨ a1 = 1) → I τ ρ → ∃ (r : Int32) (τ' ρ' : ST), mT_X7_bad N τ a0 a1 = some (r, τ') ∧ mR_bad N ρ a0 a1 = some (r, ρ') ∧ J τ' ρ'
def Sm_drop (N : Nat) (I J : ST → ST → Prop) : Prop := ∀ (τ ρ : ST) (a0 : Int32), I τ ρ → ∃ (r : Int32) (τ' ρ' : ST), mT_X7_drop N τ a0 = some (r, τ') ∧ mR_drop N ρ a0 = some (r, ρ') ∧ J τ' ρ'
def Sm_stop (N : Nat) (I J : ST → ST → Prop) : Prop := ∀ (τ ρ : ST) (a0 : Int32), I τ ρ → ∃ (r : Int32) (τ' ρ' : ST), mT_X7_stop N τ a0 = some (r, τ') ∧ mR_stop N ρ a0 = some (r, ρ') ∧ J τ' ρ'
def Sm_keep (N : Nat) (I J : ST → ST → Prop) : Prop := ∀ (τ ρ : ST) (a0 : Int32), I τ ρ → ∃ (r : Int32) (τ' ρ' : ST), mT_X7_keep N τ a0 = some (r, τ') ∧ mR_keep N ρ a0 = some (r, ρ') ∧ J τ' ρ'
def Sm_again (N : Nat) (I J : ST → ST → Prop) : Prop := ∀ (τ ρ : ST) (a0 : Int32), I τ ρ → ∃ (r : Int32) (τ' ρ' : ST), mT_X7_again N τ a0 = some (r, τ') ∧ mR_again N ρ a0 = some (r, ρ') ∧ J τ' ρ'
def Sm_block (N : Nat) (I J : ST → ST → Prop) : Prop := ∀ (τ ρ : ST) (a0 : Int32) (a1 : Int32), I τ ρ → ∃ (r : Int32) (τ' ρ' : ST), mT_X7_block N τ a0 a1 = some (r, τ') ∧ mR_block N ρ a0 a1 = some (r, ρ') ∧ J τ' ρ'
def Sm_cached (N : Nat) (I J : ST → ST → Prop) : Prop := ∀ (τ ρ : ST) (a0 : Int32), I τ ρ → ∃ (r : Int32) (τ' ρ' : ST), mT_X7_cached N τ a0 = some (r, τ') ∧ mR_cached N ρ a0 = some (r, ρ') ∧ J τ' ρ'
def Sm_stream (N : Nat) (I J : ST → ST → Prop) : Prop := ∀ (τ ρ : ST) (a0 : Int32) (a1 : Int32), I τ ρ → ∃ (r : Int32) (τ' ρ' : ST), mT_X7_stream N τ a0 a1 = some (r, τ') ∧ mR_stream N ρ a0 a1 = some (r, ρ') ∧ J τ' ρ'
def Sm_aheadOf (N : Nat) (I J : ST → ST → Prop) : Prop := ∀ (τ ρ : ST) (a0 : Int32) (a1 : Int32), I τ ρ → ∃ (r : Int32) (τ' ρ' : ST), mT_X7_aheadOf N τ a0 a1 = some (r, τ') ∧ mR_aheadOf N ρ a0 a1 = some (r, ρ') ∧ J τ' ρ'
def Sm_gain (N : Nat) (I J : ST → ST → Prop) : Prop := ∀ (τ ρ : ST) (a0 : Int32), I τ ρ → ∃ (r : Int32) (τ' ρ' : ST), mT_X7_gain N τ a0 = some (r, τ') ∧ mR_gain N ρ a0 = some (r, ρ') ∧ J τ' ρ'
def Sm_log (N : Nat) (I J : ST → ST → Prop) : Prop := ∀ (τ ρ : ST) (a0 : Int32) (a1 : Int32), I τ ρ → ∃ (r : Int32) (τ' ρ' : ST), mT_X7_log N τ a0 a1 = some (r, τ') ∧ mR_log N ρ a0 a1 = some (r, ρ') ∧ J τ' ρ'
def Sm_piece (N : Nat) (I J : ST → ST → Prop) : Prop := ∀ (τ ρ : ST) (a0 : Int32) (a1 : Int32), I τ ρ → ∃ (r : Int32) (τ' ρ' : ST), mT_X7_piece N τ a0 a1 = some (r, τ') ∧ mR_piece N ρ a0 a1 = some (r, ρ') ∧ J τ' ρ'
def Sm_whose (N : Nat) (I J : ST → ST → Prop) : Prop := ∀ (τ ρ : ST) (a0 : Int32) (a1 : Int32), I τ ρ → ∃ (r : Int32) (τ' ρ' : ST), mT_X7_whose N τ a0 a1 = some (r, τ') ∧ mR_whose N ρ a0 a1 = some (r, ρ') ∧ J τ' ρ'
def Sm_mixed (N : Nat) (I J : ST → ST → Prop) : Prop := ∀ (τ ρ : ST) (a0 : Int32), I τ ρ → ∃ (r : Int32) (τ' ρ' : ST), mT_X7_mixed N τ a0 = some (r, τ') ∧ mR_mixed N ρ a0 = some (r, ρ') ∧ J τ' ρ'
def Sm_trace (N : Nat) (I J : ST → ST → Prop) : Prop := ∀ (τ ρ : ST) (a0 : Int32), I τ ρ → ∃ (r : Int32) (τ' ρ' : ST), mT_X7_trace N τ a0 = some (r, τ') ∧ mR_trace N ρ a0 = some (r, ρ') ∧ J τ' ρ'
def Sm_would (N : Nat) (I J : ST → ST → Prop) : Prop := ∀ (τ ρ : ST) (a0 : Int32) (a1 : Int32), I τ ρ → ∃ (r : Int32) (τ' ρ' : ST), mT_X7_would N τ a0 a1 = some (r, τ') ∧ mR_would N ρ a0 a1 = some (r, ρ') ∧ J τ' ρ'
def Sm_plan (N : Nat) (I J : ST → ST → Prop) : Prop := ∀ (τ ρ : ST) (a0 : Int32) (a1 : Int32), I τ ρ → ∃ (r : Int32) (τ' ρ' : ST), mT_X7_plan N τ a0 a1 = some (r, τ') ∧ mR_plan N ρ a0 a1 = some (r, ρ') ∧ J τ' ρ'
def Sm_replay (N : Nat) (I J : ST → ST → Prop) : Prop := ∀ (τ ρ : ST) (a0 : Int32) (a1 : Int32) (a2 : Int32), I τ ρ → ∃ (r : Int32) (τ' ρ' : ST), mT_X7_replay N τ a0 a1 a2 = some (r, τ') ∧ mR_replay N ρ a0 a1 a2 = some (r, ρ') ∧ J τ' ρ'
def Sm_forecast (N : Nat) (I J : ST → ST → Prop) : Prop := ∀ (τ ρ : ST) (a0 : Int32) (a1 : Int32), I τ ρ → ∃ (r : Int32) (τ' ρ' : ST), mT_X7_forecast N τ a0 a1 = some (r, τ') ∧ mR_forecast N ρ a0 a1 = some (r, ρ') ∧ J τ' ρ'
def Sm_tune (N : Nat) (I J : ST → ST → Prop) : Prop := ∀ (τ ρ : ST) (a0 : Int32), I τ ρ → ∃ (r : Int32) (τ' ρ' : ST), mT_X7_tune N τ a0 = some (r, τ') ∧ mR_tune N ρ a0 = some (r, ρ') ∧ J τ' ρ'
def Sm_best (N : Nat) (I J : ST → ST → Prop) : Prop := ∀ (τ ρ : ST) (a0 : Int32) (a1 : Int32), I τ ρ → ∃ (r : Int32) (τ' ρ' : ST), mT_X7_best N τ a0 a1 = some (r, τ') ∧ mR_best N ρ a0 a1 = some (r, ρ') ∧ J τ' ρ'
def Sm_misses (N : Nat) (I J : ST → ST → Prop) : Prop := ∀ (τ ρ : ST) (a0 : Int32) (a1 : Int32), I τ ρ → ∃ (r : Int32) (τ' ρ' : ST), mT_X7_misses N τ a0 a1 = some (r, τ') ∧ mR_misses N ρ a0 a1 = some (r, ρ') ∧ J τ' ρ'
def Sm_row (N : Nat) (I J : ST → ST → Prop) : Prop := ∀ (τ ρ : ST) (a0 : Int32) (a1 : Int32), I τ ρ → ∃ (r : Int32) (τ' ρ' : ST), mT_X7_row N τ a0 a1 = some (r, τ') ∧ mR_row N ρ a0 a1 = some (r, ρ') ∧ J τ' ρ'
def Sm_pace (N : Nat) (I J : ST → ST → Prop) : Prop := ∀ (τ ρ : ST) (a0 : Int32), I τ ρ → ∃ (r : Int32) (τ' ρ' : ST), mT_X7_pace N τ a0 = some (r, τ') ∧ mR_pace N ρ a0 = some (r, ρ') ∧ J τ' ρ'
def Sm_until (N : Nat) (I J : ST → ST → Prop) : Prop := ∀ (τ ρ : ST) (a0 : Int32), I τ ρ → ∃ (r : Int32) (τ' ρ' : ST), mT_X7_until N τ a0 = some (r, τ') ∧ mR_until N ρ a0 = some (r, ρ') ∧ J τ' ρ'
def Sm_ahead (N : Nat) (I J : ST → ST → Prop) : Prop := ∀ (τ ρ : ST) (a0 : Int32), I τ ρ → ∃ (r : Int32) (τ' ρ' : ST), mT_X7_ahead N τ a0 = some (r, τ') ∧ mR_ahead N ρ a0 = some (r, ρ') ∧ J τ' ρ'
def Sm_habits (N : Nat) (I J : ST → ST → Prop) : Prop := ∀ (τ ρ : ST) (a0 : Int32), I τ ρ → ∃ (r : Int32) (τ' ρ' : ST), mT_X7_habits N τ a0 = some (r, τ') ∧ mR_habits N ρ a0 = some (r, ρ') ∧ J τ' ρ'
def Sm_count (N : Nat) (I J : ST → ST → Prop) : Prop := ∀ (τ ρ : ST) (a0 : Int32), I τ ρ → ∃ (r : Int32) (τ' ρ' : ST), mT_X7_count N τ a0 = some (r, τ') ∧ mR_count N ρ a0 = some (r, ρ') ∧ J τ' ρ'
def LawSim (N : Nat) (I J : ST → ST → Prop) : Prop := Sm_sets N I J ∧ Sm_read N I J ∧ Sm_reads N I J ∧ Sm_idle N I J ∧ Sm_advise N I J ∧ Sm_write N I J ∧ Sm_bad N I J ∧ Sm_drop N I J ∧ Sm_stop N I J ∧ Sm_keep N I J ∧ Sm_again N I J ∧ Sm_block N I J ∧ Sm_cached N I J ∧ Sm_stream N I J ∧ Sm_aheadOf N I J ∧ Sm_gain N I J ∧ Sm_log N I J ∧ Sm_piece N I J ∧ Sm_whose N I J ∧ Sm_mixed N I J ∧ Sm_trace N I J ∧ Sm_would N I J ∧ Sm_plan N I J ∧ Sm_replay N I J ∧ Sm_forecast N I J ∧ Sm_tune N I J ∧ Sm_best N I J ∧ Sm_misses N I J ∧ Sm_row N I J ∧ Sm_pace N I J ∧ Sm_until N I J ∧ Sm_ahead N I J ∧ Sm_habits N I J ∧ Sm_count N I J
set_option maxRecDepth 20000 in
set_option maxHeartbeats 4000000 in
theorem lw_c0 {X : zX} {adr adrR : Nat → Nat} {cI cZ cS cD cE : ClassId} {tL tH tA b Ls k n N i : Nat} {xs : Nat → Int32} {Q : State → Prop} {I J : ST → ST → Prop} (B : zC X 4 (wdC cI cZ cS cD cE tL tH tA) cL_law RL ret room_1) (hX : va_X b Ls xs X.2.2.2.2.1 X.2.2.2.2.1.heap) (hbl : b < X.2.2.2.2.1.heap.size) (hbA : ¬ X.2.2.2.2.2.2.2.2.2.2.2 b) (hkn : k ≤ room_1.cells ∧ n ≤ room_1.slots) (hLs : Ls < 2 ^ 31) (hi : i + 4 ≤ Ls) (hs : Sm_sets N I J) (ih : ∀ τ ρ : ST, J τ ρ → zA X 4 Q k n 1182 [(0, .ref b), (1, .ref (adr 600)), (2, .ref (adrR 0)), (3, .int (nI i))] [] ((wfT adr cI cZ cS cD cE τ) ++ (wfR adrR cI cZ ρ))) (τ ρ : ST) (hI : I τ ρ) : zA X 4 Q k n 184 [(0, .ref b), (1, .ref (adr 600)), (2, .ref (adrR 0)), (3, .int (nI i))] [] ((wfT adr cI cZ cS cD cE τ) ++ (wfR adrR cI cZ ρ)) := by
  obtain ⟨r, τ', ρ', h1, h2, h3⟩ := hs τ ρ (xs (i + 1)) (xs (i + 2)) hI
  refine za_aload_n B dL_law_184 1 rfl rfl ?_
  refine za_aload_n B dL_law_185 0 rfl rfl ?_
  refine za_iload_n B dL_law_186 3 rfl rfl ?_
  refine za_iconst B (1) dL_law_187 zc_iconst_1 ?_
  refine za_iadd B (v := nI (i + 1)) (nI_1 i) dL_law_188 ?_
  refine za_sld B hX hbl hbA (j := i + 1) (by omega) hLs dL_law_189 ?_
  refine za_aload_n B dL_law_190 0 rfl rfl ?_
  refine za_iload_n B dL_law_191 3 rfl rfl ?_
  refine za_iconst B (2) dL_law_192 zc_iconst_2 ?_
  refine za_iadd B (v := nI (i + 2)) (nI_add i 2) dL_law_193 ?_
  refine za_sld B hX hbl hbA (j := i + 2) (by omega) hLs dL_law_194 ?_
  refine za_callW B (wd' := wdT adr cI cZ cS cD cE tL tH) (σ := τ) (wr := (wfR adrR cI cZ ρ)) (ws1 := (wfT adr cI cZ cS cD cE τ') ++ (wfR adrR cI cZ ρ)) (q := (r, τ')) (As := [.int (xs (i + 1)), .int (xs (i + 2))]) (rest := []) kcV_L_13 dL_law_195 (cT_X7_sets (r, τ') h1) wT_o_P rfl rfl sfE_ok (fun _ _ _ h => h.1.1) (fun _ _ h => h) rfl rfl (Nat.le_of_ble_eq_true rfl) rfl rfl ⟨(Nat.le_of_ble_eq_true rfl), (Nat.le_of_ble_eq_true rfl)⟩ hkn (List.Perm.refl _) (List.Perm.refl _) ?_
  refine za_aload_n B dL_law_198 2 rfl rfl ?_
  refine za_aload_n B dL_law_199 0 rfl rfl ?_
  refine za_iload_n B dL_law_200 3 rfl rfl ?_
  refine za_iconst B (1) dL_law_201 zc_iconst_1 ?_
  refine za_iadd B (v := nI (i + 1)) (nI_1 i) dL_law_202 ?_
  refine za_sld B hX hbl hbA (j := i + 1) (by omega) hLs dL_law_203 ?_
  refine za_aload_n B dL_law_204 0 rfl rfl ?_
  refine za_iload_n B dL_law_205 3 rfl rfl ?_
  refine za_iconst B (2) dL_law_206 zc_iconst_2 ?_
  refine za_iadd B (v := nI (i + 2)) (nI_add i 2) dL_law_207 ?_
  refine za_sld B hX hbl hbA (j := i + 2) (by omega) hLs dL_law_208 ?_
  refine za_callW B (wd' := wdR adrR cI cZ) (σ := ρ) (wr := (wfT adr cI cZ cS cD cE τ')) (ws1 := (wfT adr cI cZ cS cD cE τ') ++ (wfR adrR cI cZ ρ')) (q := (r, ρ')) (As := [.int (xs (i + 1)), .int (xs (i + 2))]) (rest := [.int r]) kcV_L_17 dL_law_209 (cR_sets (r, ρ') h2) wR_o rfl rfl sfR_ok (fun _ _ _ _ => trivial) (fun _ _ h => h.sub [0, 1] rfl) rfl rfl (Nat.le_of_ble_eq_true rfl) rfl rfl ⟨(Nat.le_of_ble_eq_true rfl), (Nat.le_of_ble_eq_true rfl)⟩ hkn List.perm_append_comm List.perm_append_comm ?_
  exact za_same B 1182 dL_law_212 (by decide) (ih τ' ρ' h3)
set_option maxRecDepth 20000 in
set_option maxHeartbeats 4000000 in
theorem lw_c1 {X : zX} {adr adrR : Nat → Nat} {cI cZ cS cD cE : ClassId} {tL tH tA b Ls k n N i : Nat} {xs : Nat → Int32} {Q : State → Prop} {I J : ST → ST → Prop} (B : zC X 4 (wdC cI cZ cS cD cE tL tH tA) cL_law RL ret room_1) (hX : va_X b Ls xs X.2.2.2.2.1 X.2.2.2.2.1.heap) (hbl : b < X.2.2.2.2.1.heap.size) (hbA : ¬ X.2.2.2.2.2.2.2.2.2.2.2 b) (hkn : k ≤ room_1.cells ∧ n ≤ room_1.slots) (hLs : Ls < 2 ^ 31) (hi : i + 4 ≤ Ls) (hs : Sm_read N I J) (ih : ∀ τ ρ : ST, J τ ρ → zA X 4 Q k n 1182 [(0, .ref b), (1, .ref (adr 600)), (2, .ref (adrR 0)), (3, .int (nI i))] [] ((wfT adr cI cZ cS cD cE τ) ++ (wfR adrR cI cZ ρ))) (τ ρ : ST) (hI : I τ ρ) : zA X 4 Q k n 217 [(0, .ref b), (1, .ref (adr 600)), (2, .ref (adrR 0)), (3, .int (nI i))] [] ((wfT adr cI cZ cS cD cE τ) ++ (wfR adrR cI cZ ρ)) := by
  obtain ⟨r, τ', ρ', h1, h2, h3⟩ := hs τ ρ (xs (i + 1)) hI
  refine za_aload_n B dL_law_217 1 rfl rfl ?_
  refine za_aload_n B dL_law_218 0 rfl rfl ?_
  refine za_iload_n B dL_law_219 3 rfl rfl ?_
  refine za_iconst B (1) dL_law_220 zc_iconst_1 ?_
  refine za_iadd B (v := nI (i + 1)) (nI_1 i) dL_law_221 ?_
  refine za_sld B hX hbl hbA (j := i + 1) (by omega) hLs dL_law_222 ?_
  refine za_callW B (wd' := wdT adr cI cZ cS cD cE tL tH) (σ := τ) (wr := (wfR adrR cI cZ ρ)) (ws1 := (wfT adr cI cZ cS cD cE τ') ++ (wfR adrR cI cZ ρ)) (q := (r, τ')) (As := [.int (xs (i + 1))]) (rest := []) kcV_L_18 dL_law_223 (cT_X7_read (r, τ') h1) wT_o_P rfl rfl sfE_ok (fun _ _ _ h => h.1.1) (fun _ _ h => h) rfl rfl (Nat.le_of_ble_eq_true rfl) rfl rfl ⟨(Nat.le_of_ble_eq_true rfl), (Nat.le_of_ble_eq_true rfl)⟩ hkn (List.Perm.refl _) (List.Perm.refl _) ?_
  refine za_aload_n B dL_law_226 2 rfl rfl ?_
  refine za_aload_n B dL_law_227 0 rfl rfl ?_
  refine za_iload_n B dL_law_228 3 rfl rfl ?_
  refine za_iconst B (1) dL_law_229 zc_iconst_1 ?_
  refine za_iadd B (v := nI (i + 1)) (nI_1 i) dL_law_230 ?_
  refine za_sld B hX hbl hbA (j := i + 1) (by omega) hLs dL_law_231 ?_
  refine za_callW B (wd' := wdR adrR cI cZ) (σ := ρ) (wr := (wfT adr cI cZ cS cD cE τ')) (ws1 := (wfT adr cI cZ cS cD cE τ') ++ (wfR adrR cI cZ ρ')) (q := (r, ρ')) (As := [.int (xs (i + 1))]) (rest := [.int r]) kcV_L_22 dL_law_232 (cR_read (r, ρ') h2) wR_o rfl rfl sfR_ok (fun _ _ _ _ => trivial) (fun _ _ h => h.sub [0, 1] rfl) rfl rfl (Nat.le_of_ble_eq_true rfl) rfl rfl ⟨(Nat.le_of_ble_eq_true rfl), (Nat.le_of_ble_eq_true rfl)⟩ hkn List.perm_append_comm List.perm_append_comm ?_
  exact za_same B 1182 dL_law_235 (by decide) (ih τ' ρ' h3)
set_option maxRecDepth 20000 in
set_option maxHeartbeats 4000000 in
theorem lw_c2 {X : zX} {adr adrR : Nat → Nat} {cI cZ cS cD cE : ClassId} {tL tH tA b Ls k n N i : Nat} {xs : Nat → Int32} {Q : State → Prop} {I J : ST → ST → Prop} (B : zC X 4 (wdC cI cZ cS cD cE tL tH tA) cL_law RL ret room_1) (hX : va_X b Ls xs X.2.2.2.2.1 X.2.2.2.2.1.heap) (hbl : b < X.2.2.2.2.1.heap.size) (hbA : ¬ X.2.2.2.2.2.2.2.2.2.2.2 b) (hkn : k ≤ room_1.cells ∧ n ≤ room_1.slots) (hLs : Ls < 2 ^ 31) (hi : i + 4 ≤ Ls) (hs : Sm_reads N I J) (ih : ∀ τ ρ : ST, J τ ρ → zA X 4 Q k n 1182 [(0, .ref b), (1, .ref (adr 600)), (2, .ref (adrR 0)), (3, .int (nI i))] [] ((wfT adr cI cZ cS cD cE τ) ++ (wfR adrR cI cZ ρ))) (τ ρ : ST) (hI : I τ ρ) : zA X 4 Q k n 240 [(0, .ref b), (1, .ref (adr 600)), (2, .ref (adrR 0)), (3, .int (nI i))] [] ((wfT adr cI cZ cS cD cE τ) ++ (wfR adrR cI cZ ρ)) := by
  obtain ⟨r, τ', ρ', h1, h2, h3⟩ := hs τ ρ (xs (i + 1)) (xs (i + 2)) (xs (i + 3)) hI
  refine za_aload_n B dL_law_240 1 rfl rfl ?_
  refine za_aload_n B dL_law_241 0 rfl rfl ?_
  refine za_iload_n B dL_law_242 3 rfl rfl ?_
  refine za_iconst B (1) dL_law_243 zc_iconst_1 ?_
  refine za_iadd B (v := nI (i + 1)) (nI_1 i) dL_law_244 ?_
  refine za_sld B hX hbl hbA (j := i + 1) (by omega) hLs dL_law_245 ?_
  refine za_aload_n B dL_law_246 0 rfl rfl ?_
  refine za_iload_n B dL_law_247 3 rfl rfl ?_
  refine za_iconst B (2) dL_law_248 zc_iconst_2 ?_
  refine za_iadd B (v := nI (i + 2)) (nI_add i 2) dL_law_249 ?_
  refine za_sld B hX hbl hbA (j := i + 2) (by omega) hLs dL_law_250 ?_
  refine za_aload_n B dL_law_251 0 rfl rfl ?_
  refine za_iload_n B dL_law_252 3 rfl rfl ?_
  refine za_iconst B (3) dL_law_253 zc_iconst_3 ?_
  refine za_iadd B (v := nI (i + 3)) (nI_add i 3) dL_law_254 ?_
  refine za_sld B hX hbl hbA (j := i + 3) (by omega) hLs dL_law_255 ?_
  refine za_callW B (wd' := wdT adr cI cZ cS cD cE tL tH) (σ := τ) (wr := (wfR adrR cI cZ ρ)) (ws1 := (wfT adr cI cZ cS cD cE τ') ++ (wfR adrR cI cZ ρ)) (q := (r, τ')) (As := [.int (xs (i + 1)), .int (xs (i + 2)), .int (xs (i + 3))]) (rest := []) kcV_L_23 dL_law_256 (cT_X7_reads (r, τ') h1) wT_o_P rfl rfl sfE_ok (fun _ _ _ h => h.1.1) (fun _ _ h => h) rfl rfl (Nat.le_of_ble_eq_true rfl) rfl rfl ⟨(Nat.le_of_ble_eq_true rfl), (Nat.le_of_ble_eq_true rfl)⟩ hkn (List.Perm.refl _) (List.Perm.refl _) ?_
  refine za_aload_n B dL_law_259 2 rfl rfl ?_
  refine za_aload_n B dL_law_260 0 rfl rfl ?_
  refine za_iload_n B dL_law_261 3 rfl rfl ?_
  refine za_iconst B (1) dL_law_262 zc_iconst_1 ?_
  refine za_iadd B (v := nI (i + 1)) (nI_1 i) dL_law_263 ?_
  refine za_sld B hX hbl hbA (j := i + 1) (by omega) hLs dL_law_264 ?_
  refine za_aload_n B dL_law_265 0 rfl rfl ?_
  refine za_iload_n B dL_law_266 3 rfl rfl ?_
  refine za_iconst B (2) dL_law_267 zc_iconst_2 ?_
  refine za_iadd B (v := nI (i + 2)) (nI_add i 2) dL_law_268 ?_
  refine za_sld B hX hbl hbA (j := i + 2) (by omega) hLs dL_law_269 ?_
  refine za_aload_n B dL_law_270 0 rfl rfl ?_
  refine za_iload_n B dL_law_271 3 rfl rfl ?_
  refine za_iconst B (3) dL_law_272 zc_iconst_3 ?_
  refine za_iadd B (v := nI (i + 3)) (nI_add i 3) dL_law_273 ?_
  refine za_sld B hX hbl hbA (j := i + 3) (by omega) hLs dL_law_274 ?_
  refine za_callW B (wd' := wdR adrR cI cZ) (σ := ρ) (wr := (wfT adr cI cZ cS cD cE τ')) (ws1 := (wfT adr cI cZ cS cD cE τ') ++ (wfR adrR cI cZ ρ')) (q := (r, ρ')) (As := [.int (xs (i + 1)), .int (xs (i + 2)), .int (xs (i + 3))]) (rest := [.int r]) kcV_L_27 dL_law_275 (cR_reads (r, ρ') h2) wR_o rfl rfl sfR_ok (fun _ _ _ _ => trivial) (fun _ _ h => h.sub [0, 1] rfl) rfl rfl (Nat.le_of_ble_eq_true rfl) rfl rfl ⟨(Nat.le_of_ble_eq_true rfl), (Nat.le_of_ble_eq_true rfl)⟩ hkn List.perm_append_comm List.perm_append_comm ?_
  exact za_same B 1182 dL_law_278 (by decide) (ih τ' ρ' h3)
set_option maxRecDepth 20000 in
set_option maxHeartbeats 4000000 in
theorem lw_c3 {X : zX} {adr adrR : Nat → Nat} {cI cZ cS cD cE : ClassId} {tL tH tA b Ls k n N i : Nat} {xs : Nat → Int32} {Q : State → Prop} {I J : ST → ST → Prop} (B : zC X 4 (wdC cI cZ cS cD cE tL tH tA) cL_law RL ret room_1) (hX : va_X b Ls xs X.2.2.2.2.1 X.2.2.2.2.1.heap) (hbl : b < X.2.2.2.2.1.heap.size) (hbA : ¬ X.2.2.2.2.2.2.2.2.2.2.2 b) (hkn : k ≤ room_1.cells ∧ n ≤ room_1.slots) (hLs : Ls < 2 ^ 31) (hi : i + 4 ≤ Ls) (hs : Sm_idle N I J) (ih : ∀ τ ρ : ST, J τ ρ → zA X 4 Q k n 1182 [(0, .ref b), (1, .ref (adr 600)), (2, .ref (adrR 0)), (3, .int (nI i))] [] ((wfT adr cI cZ cS cD cE τ) ++ (wfR adrR cI cZ ρ))) (τ ρ : ST) (hI : I τ ρ) : zA X 4 Q k n 283 [(0, .ref b), (1, .ref (adr 600)), (2, .ref (adrR 0)), (3, .int (nI i))] [] ((wfT adr cI cZ cS cD cE τ) ++ (wfR adrR cI cZ ρ)) := by
  obtain ⟨r, τ', ρ', h1, h2, h3⟩ := hs τ ρ (xs (i + 1)) hI
  refine za_aload_n B dL_law_283 1 rfl rfl ?_
  refine za_aload_n B dL_law_284 0 rfl rfl ?_
  refine za_iload_n B dL_law_285 3 rfl rfl ?_
  refine za_iconst B (1) dL_law_286 zc_iconst_1 ?_
  refine za_iadd B (v := nI (i + 1)) (nI_1 i) dL_law_287 ?_
  refine za_sld B hX hbl hbA (j := i + 1) (by omega) hLs dL_law_288 ?_
  refine za_callW B (wd' := wdT adr cI cZ cS cD cE tL tH) (σ := τ) (wr := (wfR adrR cI cZ ρ)) (ws1 := (wfT adr cI cZ cS cD cE τ') ++ (wfR adrR cI cZ ρ)) (q := (r, τ')) (As := [.int (xs (i + 1))]) (rest := []) kcV_L_28 dL_law_289 (cT_X7_idle (r, τ') h1) wT_o_P rfl rfl sfE_ok (fun _ _ _ h => h.1.1) (fun _ _ h => h) rfl rfl (Nat.le_of_ble_eq_true rfl) rfl rfl ⟨(Nat.le_of_ble_eq_true rfl), (Nat.le_of_ble_eq_true rfl)⟩ hkn (List.Perm.refl _) (List.Perm.refl _) ?_
  refine za_aload_n B dL_law_292 2 rfl rfl ?_
  refine za_aload_n B dL_law_293 0 rfl rfl ?_
  refine za_iload_n B dL_law_294 3 rfl rfl ?_
  refine za_iconst B (1) dL_law_295 zc_iconst_1 ?_
  refine za_iadd B (v := nI (i + 1)) (nI_1 i) dL_law_296 ?_
  refine za_sld B hX hbl hbA (j := i + 1) (by omega) hLs dL_law_297 ?_
  refine za_callW B (wd' := wdR adrR cI cZ) (σ := ρ) (wr := (wfT adr cI cZ cS cD cE τ')) (ws1 := (wfT adr cI cZ cS cD cE τ') ++ (wfR adrR cI cZ ρ')) (q := (r, ρ')) (As := [.int (xs (i + 1))]) (rest := [.int r]) kcV_L_31 dL_law_298 (cR_idle (r, ρ') h2) wR_o rfl rfl sfR_ok (fun _ _ _ _ => trivial) (fun _ _ h => h.sub [0, 1] rfl) rfl rfl (Nat.le_of_ble_eq_true rfl) rfl rfl ⟨(Nat.le_of_ble_eq_true rfl), (Nat.le_of_ble_eq_true rfl)⟩ hkn List.perm_append_comm List.perm_append_comm ?_
  exact za_same B 1182 dL_law_301 (by decide) (ih τ' ρ' h3)
set_option maxRecDepth 20000 in
set_option maxHeartbeats 4000000 in
theorem lw_c4 {X : zX} {adr adrR : Nat → Nat} {cI cZ cS cD cE : ClassId} {tL tH tA b Ls k n N i : Nat} {xs : Nat → Int32} {Q : State → Prop} {I J : ST → ST → Prop} (B : zC X 4 (wdC cI cZ cS cD cE tL tH tA) cL_law RL ret room_1) (hX : va_X b Ls xs X.2.2.2.2.1 X.2.2.2.2.1.heap) (hbl : b < X.2.2.2.2.1.heap.size) (hbA : ¬ X.2.2.2.2.2.2.2.2.2.2.2 b) (hkn : k ≤ room_1.cells ∧ n ≤ room_1.slots) (hLs : Ls < 2 ^ 31) (hi : i + 4 ≤ Ls) (hs : Sm_advise N I J) (ih : ∀ τ ρ : ST, J τ ρ → zA X 4 Q k n 1182 [(0, .ref b), (1, .ref (adr 600)), (2, .ref (adrR 0)), (3, .int (nI i))] [] ((wfT adr cI cZ cS cD cE τ) ++ (wfR adrR cI cZ ρ))) (τ ρ : ST) (hI : I τ ρ) : zA X 4 Q k n 306 [(0, .ref b), (1, .ref (adr 600)), (2, .ref (adrR 0)), (3, .int (nI i))] [] ((wfT adr cI cZ cS cD cE τ) ++ (wfR adrR cI cZ ρ)) := by
  obtain ⟨r, τ', ρ', h1, h2, h3⟩ := hs τ ρ (xs (i + 1)) (xs (i + 2)) hI
  refine za_aload_n B dL_law_306 1 rfl rfl ?_
  refine za_aload_n B dL_law_307 0 rfl rfl ?_
  refine za_iload_n B dL_law_308 3 rfl rfl ?_
  refine za_iconst B (1) dL_law_309 zc_iconst_1 ?_
  refine za_iadd B (v := nI (i + 1)) (nI_1 i) dL_law_310 ?_
  refine za_sld B hX hbl hbA (j := i + 1) (by omega) hLs dL_law_311 ?_
  refine za_aload_n B dL_law_312 0 rfl rfl ?_
  refine za_iload_n B dL_law_313 3 rfl rfl ?_
  refine za_iconst B (2) dL_law_314 zc_iconst_2 ?_
  refine za_iadd B (v := nI (i + 2)) (nI_add i 2) dL_law_315 ?_
  refine za_sld B hX hbl hbA (j := i + 2) (by omega) hLs dL_law_316 ?_
  refine za_callW B (wd' := wdT adr cI cZ cS cD cE tL tH) (σ := τ) (wr := (wfR adrR cI cZ ρ)) (ws1 := (wfT adr cI cZ cS cD cE τ') ++ (wfR adrR cI cZ ρ)) (q := (r, τ')) (As := [.int (xs (i + 1)), .int (xs (i + 2))]) (rest := []) kcV_L_32 dL_law_317 (cT_X7_advise (r, τ') h1) wT_o_P rfl rfl sfE_ok (fun _ _ _ h => h.1.1) (fun _ _ h => h) rfl rfl (Nat.le_of_ble_eq_true rfl) rfl rfl ⟨(Nat.le_of_ble_eq_true rfl), (Nat.le_of_ble_eq_true rfl)⟩ hkn (List.Perm.refl _) (List.Perm.refl _) ?_
  refine za_aload_n B dL_law_320 2 rfl rfl ?_
  refine za_aload_n B dL_law_321 0 rfl rfl ?_
  refine za_iload_n B dL_law_322 3 rfl rfl ?_
  refine za_iconst B (1) dL_law_323 zc_iconst_1 ?_
  refine za_iadd B (v := nI (i + 1)) (nI_1 i) dL_law_324 ?_
  refine za_sld B hX hbl hbA (j := i + 1) (by omega) hLs dL_law_325 ?_
  refine za_aload_n B dL_law_326 0 rfl rfl ?_
  refine za_iload_n B dL_law_327 3 rfl rfl ?_
  refine za_iconst B (2) dL_law_328 zc_iconst_2 ?_
  refine za_iadd B (v := nI (i + 2)) (nI_add i 2) dL_law_329 ?_
  refine za_sld B hX hbl hbA (j := i + 2) (by omega) hLs dL_law_330 ?_
  refine za_callW B (wd' := wdR adrR cI cZ) (σ := ρ) (wr := (wfT adr cI cZ cS cD cE τ')) (ws1 := (wfT adr cI cZ cS cD cE τ') ++ (wfR adrR cI cZ ρ')) (q := (r, ρ')) (As := [.int (xs (i + 1)), .int (xs (i + 2))]) (rest := [.int r]) kcV_L_36 dL_law_331 (cR_advise (r, ρ') h2) wR_o rfl rfl sfR_ok (fun _ _ _ _ => trivial) (fun _ _ h => h.sub [0, 1] rfl) rfl rfl (Nat.le_of_ble_eq_true rfl) rfl rfl ⟨(Nat.le_of_ble_eq_true rfl), (Nat.le_of_ble_eq_true rfl)⟩ hkn List.perm_append_comm List.perm_append_comm ?_
  exact za_same B 1182 dL_law_334 (by decide) (ih τ' ρ' h3)
set_option maxRecDepth 20000 in
set_option maxHeartbeats 4000000 in
theorem lw_c5 {X : zX} {adr adrR : Nat → Nat} {cI cZ cS cD cE : ClassId} {tL tH tA b Ls k n N i : Nat} {xs : Nat → Int32} {Q : State → Prop} {I J : ST → ST → Prop} (B : zC X 4 (wdC cI cZ cS cD cE tL tH tA) cL_law RL ret room_1) (hX : va_X b Ls xs X.2.2.2.2.1 X.2.2.2.2.1.heap) (hbl : b < X.2.2.2.2.1.heap.size) (hbA : ¬ X.2.2.2.2.2.2.2.2.2.2.2 b) (hkn : k ≤ room_1.cells ∧ n ≤ room_1.slots) (hLs : Ls < 2 ^ 31) (hi : i + 4 ≤ Ls) (hs : Sm_write N I J) (ih : ∀ τ ρ : ST, J τ ρ → zA X 4 Q k n 1182 [(0, .ref b), (1, .ref (adr 600)), (2, .ref (adrR 0)), (3, .int (nI i))] [] ((wfT adr cI cZ cS cD cE τ) ++ (wfR adrR cI cZ ρ))) (τ ρ : ST) (hI : I τ ρ) : zA X 4 Q k n 339 [(0, .ref b), (1, .ref (adr 600)), (2, .ref (adrR 0)), (3, .int (nI i))] [] ((wfT adr cI cZ cS cD cE τ) ++ (wfR adrR cI cZ ρ)) := by
  obtain ⟨r, τ', ρ', h1, h2, h3⟩ := hs τ ρ (xs (i + 1)) (xs (i + 2)) hI
  refine za_aload_n B dL_law_339 1 rfl rfl ?_
  refine za_aload_n B dL_law_340 0 rfl rfl ?_
  refine za_iload_n B dL_law_341 3 rfl rfl ?_
  refine za_iconst B (1) dL_law_342 zc_iconst_1 ?_
  refine za_iadd B (v := nI (i + 1)) (nI_1 i) dL_law_343 ?_
  refine za_sld B hX hbl hbA (j := i + 1) (by omega) hLs dL_law_344 ?_
  refine za_aload_n B dL_law_345 0 rfl rfl ?_
  refine za_iload_n B dL_law_346 3 rfl rfl ?_
  refine za_iconst B (2) dL_law_347 zc_iconst_2 ?_
  refine za_iadd B (v := nI (i + 2)) (nI_add i 2) dL_law_348 ?_
  refine za_sld B hX hbl hbA (j := i + 2) (by omega) hLs dL_law_349 ?_
  refine za_callW B (wd' := wdT adr cI cZ cS cD cE tL tH) (σ := τ) (wr := (wfR adrR cI cZ ρ)) (ws1 := (wfT adr cI cZ cS cD cE τ') ++ (wfR adrR cI cZ ρ)) (q := (r, τ')) (As := [.int (xs (i + 1)), .int (xs (i + 2))]) (rest := []) kcV_L_37 dL_law_350 (cT_X7_write (r, τ') h1) wT_o_P rfl rfl sfE_ok (fun _ _ _ h => h.1.1) (fun _ _ h => h) rfl rfl (Nat.le_of_ble_eq_true rfl) rfl rfl ⟨(Nat.le_of_ble_eq_true rfl), (Nat.le_of_ble_eq_true rfl)⟩ hkn (List.Perm.refl _) (List.Perm.refl _) ?_
  refine za_aload_n B dL_law_353 2 rfl rfl ?_
  refine za_aload_n B dL_law_354 0 rfl rfl ?_
  refine za_iload_n B dL_law_355 3 rfl rfl ?_
  refine za_iconst B (1) dL_law_356 zc_iconst_1 ?_
  refine za_iadd B (v := nI (i + 1)) (nI_1 i) dL_law_357 ?_
  refine za_sld B hX hbl hbA (j := i + 1) (by omega) hLs dL_law_358 ?_
  refine za_aload_n B dL_law_359 0 rfl rfl ?_
  refine za_iload_n B dL_law_360 3 rfl rfl ?_
  refine za_iconst B (2) dL_law_361 zc_iconst_2 ?_
  refine za_iadd B (v := nI (i + 2)) (nI_add i 2) dL_law_362 ?_
  refine za_sld B hX hbl hbA (j := i + 2) (by omega) hLs dL_law_363 ?_
  refine za_callW B (wd' := wdR adrR cI cZ) (σ := ρ) (wr := (wfT adr cI cZ cS cD cE τ')) (ws1 := (wfT adr cI cZ cS cD cE τ') ++ (wfR adrR cI cZ ρ')) (q := (r, ρ')) (As := [.int (xs (i + 1)), .int (xs (i + 2))]) (rest := [.int r]) kcV_L_40 dL_law_364 (cR_write (r, ρ') h2) wR_o rfl rfl sfR_ok (fun _ _ _ _ => trivial) (fun _ _ h => h.sub [0, 1] rfl) rfl rfl (Nat.le_of_ble_eq_true rfl) rfl rfl ⟨(Nat.le_of_ble_eq_true rfl), (Nat.le_of_ble_eq_true rfl)⟩ hkn List.perm_append_comm List.perm_append_comm ?_
  exact za_same B 1182 dL_law_367 (by decide) (ih τ' ρ' h3)
set_option maxRecDepth 20000 in
set_option maxHeartbeats 4000000 in
theorem lw_c6 {X : zX} {adr adrR : Nat → Nat} {cI cZ cS cD cE : ClassId} {tL tH tA b Ls k n N i : Nat} {xs : Nat → Int32} {Q : State → Prop} {I J : ST → ST → Prop} (B : zC X 4 (wdC cI cZ cS cD cE tL tH tA) cL_law RL ret room_1) (hX : va_X b Ls xs X.2.2.2.2.1 X.2.2.2.2.1.heap) (hbl : b < X.2.2.2.2.1.heap.size) (hbA : ¬ X.2.2.2.2.2.2.2.2.2.2.2 b) (hkn : k ≤ room_1.cells ∧ n ≤ room_1.slots) (hLs : Ls < 2 ^ 31) (hi : i + 4 ≤ Ls) (hs : Sm_bad N I J) (ih : ∀ τ ρ : ST, J τ ρ → zA X 4 Q k n 1182 [(0, .ref b), (1, .ref (adr 600)), (2, .ref (adrR 0)), (3, .int (nI i))] [] ((wfT adr cI cZ cS cD cE τ) ++ (wfR adrR cI cZ ρ))) (τ ρ : ST) (hI : I τ ρ) : zA X 4 Q k n 372 [(0, .ref b), (1, .ref (adr 600)), (2, .ref (adrR 0)), (3, .int (nI i))] [] ((wfT adr cI cZ cS cD cE τ) ++ (wfR adrR cI cZ ρ)) := by
  by_cases hz : xs (i + 2) = 0
  · obtain ⟨r, τ', ρ', h1, h2, h3⟩ := hs τ ρ (xs (i + 1)) (0) (Or.inl rfl) hI
    refine za_aload_n B dL_law_372 1 rfl rfl ?_
    refine za_aload_n B dL_law_373 0 rfl rfl ?_
    refine za_iload_n B dL_law_374 3 rfl rfl ?_
    refine za_iconst B (1) dL_law_375 zc_iconst_1 ?_
    refine za_iadd B (v := nI (i + 1)) (nI_1 i) dL_law_376 ?_
    refine za_sld B hX hbl hbA (j := i + 1) (by omega) hLs dL_law_377 ?_
    refine za_aload_n B dL_law_378 0 rfl rfl ?_
    refine za_iload_n B dL_law_379 3 rfl rfl ?_
    refine za_iconst B (2) dL_law_380 zc_iconst_2 ?_
    refine za_iadd B (v := nI (i + 2)) (nI_add i 2) dL_law_381 ?_
    refine za_sld B hX hbl hbA (j := i + 2) (by omega) hLs dL_law_382 ?_
    refine za_if_eq B 390 dL_law_383 (by decide) (fun _ => ?_) (fun hh => absurd hz hh)
    refine za_iconst B (0) dL_law_390 zc_iconst_0 ?_
    refine za_callW B (wd' := wdT adr cI cZ cS cD cE tL tH) (σ := τ) (wr := (wfR adrR cI cZ ρ)) (ws1 := (wfT adr cI cZ cS cD cE τ') ++ (wfR adrR cI cZ ρ)) (q := (r, τ')) (As := [.int (xs (i + 1)), .int (0)]) (rest := []) kcV_L_41 dL_law_391 (cT_X7_bad (r, τ') h1) wT_o_P rfl rfl sfE_ok (fun _ _ _ h => h.1.1) (fun _ _ h => h) rfl rfl (Nat.le_of_ble_eq_true rfl) rfl rfl ⟨(Nat.le_of_ble_eq_true rfl), (Nat.le_of_ble_eq_true rfl)⟩ hkn (List.Perm.refl _) (List.Perm.refl _) ?_
    refine za_aload_n B dL_law_394 2 rfl rfl ?_
    refine za_aload_n B dL_law_395 0 rfl rfl ?_
    refine za_iload_n B dL_law_396 3 rfl rfl ?_
    refine za_iconst B (1) dL_law_397 zc_iconst_1 ?_
    refine za_iadd B (v := nI (i + 1)) (nI_1 i) dL_law_398 ?_
    refine za_sld B hX hbl hbA (j := i + 1) (by omega) hLs dL_law_399 ?_
    refine za_aload_n B dL_law_400 0 rfl rfl ?_
    refine za_iload_n B dL_law_401 3 rfl rfl ?_
    refine za_iconst B (2) dL_law_402 zc_iconst_2 ?_
    refine za_iadd B (v := nI (i + 2)) (nI_add i 2) dL_law_403 ?_
    refine za_sld B hX hbl hbA (j := i + 2) (by omega) hLs dL_law_404 ?_
    refine za_if_eq B 412 dL_law_405 (by decide) (fun _ => ?_) (fun hh => absurd hz hh)
    refine za_iconst B (0) dL_law_412 zc_iconst_0 ?_
    refine za_callW B (wd' := wdR adrR cI cZ) (σ := ρ) (wr := (wfT adr cI cZ cS cD cE τ')) (ws1 := (wfT adr cI cZ cS cD cE τ') ++ (wfR adrR cI cZ ρ')) (q := (r, ρ')) (As := [.int (xs (i + 1)), .int (0)]) (rest := [.int r]) kcV_L_45 dL_law_413 (cR_bad (r, ρ') h2) wR_o rfl rfl sfR_ok (fun _ _ _ _ => trivial) (fun _ _ h => h.sub [0, 1] rfl) rfl rfl (Nat.le_of_ble_eq_true rfl) rfl rfl ⟨(Nat.le_of_ble_eq_true rfl), (Nat.le_of_ble_eq_true rfl)⟩ hkn List.perm_append_comm List.perm_append_comm ?_
    exact za_same B 1182 dL_law_416 (by decide) (ih τ' ρ' h3)
  · obtain ⟨r, τ', ρ', h1, h2, h3⟩ := hs τ ρ (xs (i + 1)) (1) (Or.inr rfl) hI
    refine za_aload_n B dL_law_372 1 rfl rfl ?_
    refine za_aload_n B dL_law_373 0 rfl rfl ?_
    refine za_iload_n B dL_law_374 3 rfl rfl ?_
    refine za_iconst B (1) dL_law_375 zc_iconst_1 ?_
    refine za_iadd B (v := nI (i + 1)) (nI_1 i) dL_law_376 ?_
    refine za_sld B hX hbl hbA (j := i + 1) (by omega) hLs dL_law_377 ?_
    refine za_aload_n B dL_law_378 0 rfl rfl ?_
    refine za_iload_n B dL_law_379 3 rfl rfl ?_
    refine za_iconst B (2) dL_law_380 zc_iconst_2 ?_
    refine za_iadd B (v := nI (i + 2)) (nI_add i 2) dL_law_381 ?_
    refine za_sld B hX hbl hbA (j := i + 2) (by omega) hLs dL_law_382 ?_
    refine za_if_eq B 390 dL_law_383 (by decide) (fun hh => absurd hh hz) (fun _ => ?_)
    refine za_iconst B (1) dL_law_386 zc_iconst_1 ?_
    refine za_goto B 391 dL_law_387 (by decide) ?_
    refine za_callW B (wd' := wdT adr cI cZ cS cD cE tL tH) (σ := τ) (wr := (wfR adrR cI cZ ρ)) (ws1 := (wfT adr cI cZ cS cD cE τ') ++ (wfR adrR cI cZ ρ)) (q := (r, τ')) (As := [.int (xs (i + 1)), .int (1)]) (rest := []) kcV_L_41 dL_law_391 (cT_X7_bad (r, τ') h1) wT_o_P rfl rfl sfE_ok (fun _ _ _ h => h.1.1) (fun _ _ h => h) rfl rfl (Nat.le_of_ble_eq_true rfl) rfl rfl ⟨(Nat.le_of_ble_eq_true rfl), (Nat.le_of_ble_eq_true rfl)⟩ hkn (List.Perm.refl _) (List.Perm.refl _) ?_
    refine za_aload_n B dL_law_394 2 rfl rfl ?_
    refine za_aload_n B dL_law_395 0 rfl rfl ?_
    refine za_iload_n B dL_law_396 3 rfl rfl ?_
    refine za_iconst B (1) dL_law_397 zc_iconst_1 ?_
    refine za_iadd B (v := nI (i + 1)) (nI_1 i) dL_law_398 ?_
    refine za_sld B hX hbl hbA (j := i + 1) (by omega) hLs dL_law_399 ?_
    refine za_aload_n B dL_law_400 0 rfl rfl ?_
    refine za_iload_n B dL_law_401 3 rfl rfl ?_
    refine za_iconst B (2) dL_law_402 zc_iconst_2 ?_
    refine za_iadd B (v := nI (i + 2)) (nI_add i 2) dL_law_403 ?_
    refine za_sld B hX hbl hbA (j := i + 2) (by omega) hLs dL_law_404 ?_
    refine za_if_eq B 412 dL_law_405 (by decide) (fun hh => absurd hh hz) (fun _ => ?_)
    refine za_iconst B (1) dL_law_408 zc_iconst_1 ?_
    refine za_goto B 413 dL_law_409 (by decide) ?_
    refine za_callW B (wd' := wdR adrR cI cZ) (σ := ρ) (wr := (wfT adr cI cZ cS cD cE τ')) (ws1 := (wfT adr cI cZ cS cD cE τ') ++ (wfR adrR cI cZ ρ')) (q := (r, ρ')) (As := [.int (xs (i + 1)), .int (1)]) (rest := [.int r]) kcV_L_45 dL_law_413 (cR_bad (r, ρ') h2) wR_o rfl rfl sfR_ok (fun _ _ _ _ => trivial) (fun _ _ h => h.sub [0, 1] rfl) rfl rfl (Nat.le_of_ble_eq_true rfl) rfl rfl ⟨(Nat.le_of_ble_eq_true rfl), (Nat.le_of_ble_eq_true rfl)⟩ hkn List.perm_append_comm List.perm_append_comm ?_
    exact za_same B 1182 dL_law_416 (by decide) (ih τ' ρ' h3)
set_option maxRecDepth 20000 in
set_option maxHeartbeats 4000000 in
theorem lw_c7 {X : zX} {adr adrR : Nat → Nat} {cI cZ cS cD cE : ClassId} {tL tH tA b Ls k n N i : Nat} {xs : Nat → Int32} {Q : State → Prop} {I J : ST → ST → Prop} (B : zC X 4 (wdC cI cZ cS cD cE tL tH tA) cL_law RL ret room_1) (hX : va_X b Ls xs X.2.2.2.2.1 X.2.2.2.2.1.heap) (hbl : b < X.2.2.2.2.1.heap.size) (hbA : ¬ X.2.2.2.2.2.2.2.2.2.2.2 b) (hkn : k ≤ room_1.cells ∧ n ≤ room_1.slots) (hLs : Ls < 2 ^ 31) (hi : i + 4 ≤ Ls) (hs : Sm_drop N I J) (ih : ∀ τ ρ : ST, J τ ρ → zA X 4 Q k n 1182 [(0, .ref b), (1, .ref (adr 600)), (2, .ref (adrR 0)), (3, .int (nI i))] [] ((wfT adr cI cZ cS cD cE τ) ++ (wfR adrR cI cZ ρ))) (τ ρ : ST) (hI : I τ ρ) : zA X 4 Q k n 421 [(0, .ref b), (1, .ref (adr 600)), (2, .ref (adrR 0)), (3, .int (nI i))] [] ((wfT adr cI cZ cS cD cE τ) ++ (wfR adrR cI cZ ρ)) := by
  obtain ⟨r, τ', ρ', h1, h2, h3⟩ := hs τ ρ (xs (i + 1)) hI
  refine za_aload_n B dL_law_421 1 rfl rfl ?_
  refine za_aload_n B dL_law_422 0 rfl rfl ?_
  refine za_iload_n B dL_law_423 3 rfl rfl ?_
  refine za_iconst B (1) dL_law_424 zc_iconst_1 ?_
  refine za_iadd B (v := nI (i + 1)) (nI_1 i) dL_law_425 ?_
  refine za_sld B hX hbl hbA (j := i + 1) (by omega) hLs dL_law_426 ?_
  refine za_callW B (wd' := wdT adr cI cZ cS cD cE tL tH) (σ := τ) (wr := (wfR adrR cI cZ ρ)) (ws1 := (wfT adr cI cZ cS cD cE τ') ++ (wfR adrR cI cZ ρ)) (q := (r, τ')) (As := [.int (xs (i + 1))]) (rest := []) kcV_L_46 dL_law_427 (cT_X7_drop (r, τ') h1) wT_o_P rfl rfl sfE_ok (fun _ _ _ h => h.1.1) (fun _ _ h => h) rfl rfl (Nat.le_of_ble_eq_true rfl) rfl rfl ⟨(Nat.le_of_ble_eq_true rfl), (Nat.le_of_ble_eq_true rfl)⟩ hkn (List.Perm.refl _) (List.Perm.refl _) ?_
  refine za_aload_n B dL_law_430 2 rfl rfl ?_
  refine za_aload_n B dL_law_431 0 rfl rfl ?_
  refine za_iload_n B dL_law_432 3 rfl rfl ?_
  refine za_iconst B (1) dL_law_433 zc_iconst_1 ?_
  refine za_iadd B (v := nI (i + 1)) (nI_1 i) dL_law_434 ?_
  refine za_sld B hX hbl hbA (j := i + 1) (by omega) hLs dL_law_435 ?_
  refine za_callW B (wd' := wdR adrR cI cZ) (σ := ρ) (wr := (wfT adr cI cZ cS cD cE τ')) (ws1 := (wfT adr cI cZ cS cD cE τ') ++ (wfR adrR cI cZ ρ')) (q := (r, ρ')) (As := [.int (xs (i + 1))]) (rest := [.int r]) kcV_L_50 dL_law_436 (cR_drop (r, ρ') h2) wR_o rfl rfl sfR_ok (fun _ _ _ _ => trivial) (fun _ _ h => h.sub [0, 1] rfl) rfl rfl (Nat.le_of_ble_eq_true rfl) rfl rfl ⟨(Nat.le_of_ble_eq_true rfl), (Nat.le_of_ble_eq_true rfl)⟩ hkn List.perm_append_comm List.perm_append_comm ?_
  exact za_same B 1182 dL_law_439 (by decide) (ih τ' ρ' h3)
set_option maxRecDepth 20000 in
set_option maxHeartbeats 4000000 in
theorem lw_c8 {X : zX} {adr adrR : Nat → Nat} {cI cZ cS cD cE : ClassId} {tL tH tA b Ls k n N i : Nat} {xs : Nat → Int32} {Q : State → Prop} {I J : ST → ST → Prop} (B : zC X 4 (wdC cI cZ cS cD cE tL tH tA) cL_law RL ret room_1) (hX : va_X b Ls xs X.2.2.2.2.1 X.2.2.2.2.1.heap) (hbl : b < X.2.2.2.2.1.heap.size) (hbA : ¬ X.2.2.2.2.2.2.2.2.2.2.2 b) (hkn : k ≤ room_1.cells ∧ n ≤ room_1.slots) (hLs : Ls < 2 ^ 31) (hi : i + 4 ≤ Ls) (hs : Sm_stop N I J) (ih : ∀ τ ρ : ST, J τ ρ → zA X 4 Q k n 1182 [(0, .ref b), (1, .ref (adr 600)), (2, .ref (adrR 0)), (3, .int (nI i))] [] ((wfT adr cI cZ cS cD cE τ) ++ (wfR adrR cI cZ ρ))) (τ ρ : ST) (hI : I τ ρ) : zA X 4 Q k n 444 [(0, .ref b), (1, .ref (adr 600)), (2, .ref (adrR 0)), (3, .int (nI i))] [] ((wfT adr cI cZ cS cD cE τ) ++ (wfR adrR cI cZ ρ)) := by
  obtain ⟨r, τ', ρ', h1, h2, h3⟩ := hs τ ρ (xs (i + 1)) hI
  refine za_aload_n B dL_law_444 1 rfl rfl ?_
  refine za_aload_n B dL_law_445 0 rfl rfl ?_
  refine za_iload_n B dL_law_446 3 rfl rfl ?_
  refine za_iconst B (1) dL_law_447 zc_iconst_1 ?_
  refine za_iadd B (v := nI (i + 1)) (nI_1 i) dL_law_448 ?_
  refine za_sld B hX hbl hbA (j := i + 1) (by omega) hLs dL_law_449 ?_
  refine za_callW B (wd' := wdT adr cI cZ cS cD cE tL tH) (σ := τ) (wr := (wfR adrR cI cZ ρ)) (ws1 := (wfT adr cI cZ cS cD cE τ') ++ (wfR adrR cI cZ ρ)) (q := (r, τ')) (As := [.int (xs (i + 1))]) (rest := []) kcV_L_51 dL_law_450 (cT_X7_stop (r, τ') h1) wT_o_P rfl rfl sfE_ok (fun _ _ _ h => h.1.1) (fun _ _ h => h) rfl rfl (Nat.le_of_ble_eq_true rfl) rfl rfl ⟨(Nat.le_of_ble_eq_true rfl), (Nat.le_of_ble_eq_true rfl)⟩ hkn (List.Perm.refl _) (List.Perm.refl _) ?_
  refine za_aload_n B dL_law_453 2 rfl rfl ?_
  refine za_aload_n B dL_law_454 0 rfl rfl ?_
  refine za_iload_n B dL_law_455 3 rfl rfl ?_
  refine za_iconst B (1) dL_law_456 zc_iconst_1 ?_
  refine za_iadd B (v := nI (i + 1)) (nI_1 i) dL_law_457 ?_
  refine za_sld B hX hbl hbA (j := i + 1) (by omega) hLs dL_law_458 ?_
  refine za_callW B (wd' := wdR adrR cI cZ) (σ := ρ) (wr := (wfT adr cI cZ cS cD cE τ')) (ws1 := (wfT adr cI cZ cS cD cE τ') ++ (wfR adrR cI cZ ρ')) (q := (r, ρ')) (As := [.int (xs (i + 1))]) (rest := [.int r]) kcV_L_54 dL_law_459 (cR_stop (r, ρ') h2) wR_o rfl rfl sfR_ok (fun _ _ _ _ => trivial) (fun _ _ h => h.sub [0, 1] rfl) rfl rfl (Nat.le_of_ble_eq_true rfl) rfl rfl ⟨(Nat.le_of_ble_eq_true rfl), (Nat.le_of_ble_eq_true rfl)⟩ hkn List.perm_append_comm List.perm_append_comm ?_
  exact za_same B 1182 dL_law_462 (by decide) (ih τ' ρ' h3)
set_option maxRecDepth 20000 in
set_option maxHeartbeats 4000000 in
theorem lw_c9 {X : zX} {adr adrR : Nat → Nat} {cI cZ cS cD cE : ClassId} {tL tH tA b Ls k n N i : Nat} {xs : Nat → Int32} {Q : State → Prop} {I J : ST → ST → Prop} (B : zC X 4 (wdC cI cZ cS cD cE tL tH tA) cL_law RL ret room_1) (hX : va_X b Ls xs X.2.2.2.2.1 X.2.2.2.2.1.heap) (hbl : b < X.2.2.2.2.1.heap.size) (hbA : ¬ X.2.2.2.2.2.2.2.2.2.2.2 b) (hkn : k ≤ room_1.cells ∧ n ≤ room_1.slots) (hLs : Ls < 2 ^ 31) (hi : i + 4 ≤ Ls) (hs : Sm_keep N I J) (ih : ∀ τ ρ : ST, J τ ρ → zA X 4 Q k n 1182 [(0, .ref b), (1, .ref (adr 600)), (2, .ref (adrR 0)), (3, .int (nI i))] [] ((wfT adr cI cZ cS cD cE τ) ++ (wfR adrR cI cZ ρ))) (τ ρ : ST) (hI : I τ ρ) : zA X 4 Q k n 467 [(0, .ref b), (1, .ref (adr 600)), (2, .ref (adrR 0)), (3, .int (nI i))] [] ((wfT adr cI cZ cS cD cE τ) ++ (wfR adrR cI cZ ρ)) := by
  obtain ⟨r, τ', ρ', h1, h2, h3⟩ := hs τ ρ (xs (i + 1)) hI
  refine za_aload_n B dL_law_467 1 rfl rfl ?_
  refine za_aload_n B dL_law_468 0 rfl rfl ?_
  refine za_iload_n B dL_law_469 3 rfl rfl ?_
  refine za_iconst B (1) dL_law_470 zc_iconst_1 ?_
  refine za_iadd B (v := nI (i + 1)) (nI_1 i) dL_law_471 ?_
  refine za_sld B hX hbl hbA (j := i + 1) (by omega) hLs dL_law_472 ?_
  refine za_callW B (wd' := wdT adr cI cZ cS cD cE tL tH) (σ := τ) (wr := (wfR adrR cI cZ ρ)) (ws1 := (wfT adr cI cZ cS cD cE τ') ++ (wfR adrR cI cZ ρ)) (q := (r, τ')) (As := [.int (xs (i + 1))]) (rest := []) kcV_L_55 dL_law_473 (cT_X7_keep (r, τ') h1) wT_o_P rfl rfl sfE_ok (fun _ _ _ h => h.1.1) (fun _ _ h => h) rfl rfl (Nat.le_of_ble_eq_true rfl) rfl rfl ⟨(Nat.le_of_ble_eq_true rfl), (Nat.le_of_ble_eq_true rfl)⟩ hkn (List.Perm.refl _) (List.Perm.refl _) ?_
  refine za_aload_n B dL_law_476 2 rfl rfl ?_
  refine za_aload_n B dL_law_477 0 rfl rfl ?_
  refine za_iload_n B dL_law_478 3 rfl rfl ?_
  refine za_iconst B (1) dL_law_479 zc_iconst_1 ?_
  refine za_iadd B (v := nI (i + 1)) (nI_1 i) dL_law_480 ?_
  refine za_sld B hX hbl hbA (j := i + 1) (by omega) hLs dL_law_481 ?_
  refine za_callW B (wd' := wdR adrR cI cZ) (σ := ρ) (wr := (wfT adr cI cZ cS cD cE τ')) (ws1 := (wfT adr cI cZ cS cD cE τ') ++ (wfR adrR cI cZ ρ')) (q := (r, ρ')) (As := [.int (xs (i + 1))]) (rest := [.int r]) kcV_L_58 dL_law_482 (cR_keep (r, ρ') h2) wR_o rfl rfl sfR_ok (fun _ _ _ _ => trivial) (fun _ _ h => h.sub [0, 1] rfl) rfl rfl (Nat.le_of_ble_eq_true rfl) rfl rfl ⟨(Nat.le_of_ble_eq_true rfl), (Nat.le_of_ble_eq_true rfl)⟩ hkn List.perm_append_comm List.perm_append_comm ?_
  exact za_same B 1182 dL_law_485 (by decide) (ih τ' ρ' h3)
set_option maxRecDepth 20000 in
set_option maxHeartbeats 4000000 in
theorem lw_c10 {X : zX} {adr adrR : Nat → Nat} {cI cZ cS cD cE : ClassId} {tL tH tA b Ls k n N i : Nat} {xs : Nat → Int32} {Q : State → Prop} {I J : ST → ST → Prop} (B : zC X 4 (wdC cI cZ cS cD cE tL tH tA) cL_law RL ret room_1) (hX : va_X b Ls xs X.2.2.2.2.1 X.2.2.2.2.1.heap) (hbl : b < X.2.2.2.2.1.heap.size) (hbA : ¬ X.2.2.2.2.2.2.2.2.2.2.2 b) (hkn : k ≤ room_1.cells ∧ n ≤ room_1.slots) (hLs : Ls < 2 ^ 31) (hi : i + 4 ≤ Ls) (hs : Sm_again N I J) (ih : ∀ τ ρ : ST, J τ ρ → zA X 4 Q k n 1182 [(0, .ref b), (1, .ref (adr 600)), (2, .ref (adrR 0)), (3, .int (nI i))] [] ((wfT adr cI cZ cS cD cE τ) ++ (wfR adrR cI cZ ρ))) (τ ρ : ST) (hI : I τ ρ) : zA X 4 Q k n 490 [(0, .ref b), (1, .ref (adr 600)), (2, .ref (adrR 0)), (3, .int (nI i))] [] ((wfT adr cI cZ cS cD cE τ) ++ (wfR adrR cI cZ ρ)) := by
  obtain ⟨r, τ', ρ', h1, h2, h3⟩ := hs τ ρ (xs (i + 1)) hI
  refine za_aload_n B dL_law_490 1 rfl rfl ?_
  refine za_aload_n B dL_law_491 0 rfl rfl ?_
  refine za_iload_n B dL_law_492 3 rfl rfl ?_
  refine za_iconst B (1) dL_law_493 zc_iconst_1 ?_
  refine za_iadd B (v := nI (i + 1)) (nI_1 i) dL_law_494 ?_
  refine za_sld B hX hbl hbA (j := i + 1) (by omega) hLs dL_law_495 ?_
  refine za_callW B (wd' := wdT adr cI cZ cS cD cE tL tH) (σ := τ) (wr := (wfR adrR cI cZ ρ)) (ws1 := (wfT adr cI cZ cS cD cE τ') ++ (wfR adrR cI cZ ρ)) (q := (r, τ')) (As := [.int (xs (i + 1))]) (rest := []) kcV_L_59 dL_law_496 (cT_X7_again (r, τ') h1) wT_o_P rfl rfl sfE_ok (fun _ _ _ h => h.1.1) (fun _ _ h => h) rfl rfl (Nat.le_of_ble_eq_true rfl) rfl rfl ⟨(Nat.le_of_ble_eq_true rfl), (Nat.le_of_ble_eq_true rfl)⟩ hkn (List.Perm.refl _) (List.Perm.refl _) ?_
  refine za_aload_n B dL_law_499 2 rfl rfl ?_
  refine za_aload_n B dL_law_500 0 rfl rfl ?_
  refine za_iload_n B dL_law_501 3 rfl rfl ?_
  refine za_iconst B (1) dL_law_502 zc_iconst_1 ?_
  refine za_iadd B (v := nI (i + 1)) (nI_1 i) dL_law_503 ?_
  refine za_sld B hX hbl hbA (j := i + 1) (by omega) hLs dL_law_504 ?_
  refine za_callW B (wd' := wdR adrR cI cZ) (σ := ρ) (wr := (wfT adr cI cZ cS cD cE τ')) (ws1 := (wfT adr cI cZ cS cD cE τ') ++ (wfR adrR cI cZ ρ')) (q := (r, ρ')) (As := [.int (xs (i + 1))]) (rest := [.int r]) kcV_L_62 dL_law_505 (cR_again (r, ρ') h2) wR_o rfl rfl sfR_ok (fun _ _ _ _ => trivial) (fun _ _ h => h.sub [0, 1] rfl) rfl rfl (Nat.le_of_ble_eq_true rfl) rfl rfl ⟨(Nat.le_of_ble_eq_true rfl), (Nat.le_of_ble_eq_true rfl)⟩ hkn List.perm_append_comm List.perm_append_comm ?_
  exact za_same B 1182 dL_law_508 (by decide) (ih τ' ρ' h3)
set_option maxRecDepth 20000 in
set_option maxHeartbeats 4000000 in
theorem lw_c11 {X : zX} {adr adrR : Nat → Nat} {cI cZ cS cD cE : ClassId} {tL tH tA b Ls k n N i : Nat} {xs : Nat → Int32} {Q : State → Prop} {I J : ST → ST → Prop} (B : zC X 4 (wdC cI cZ cS cD cE tL tH tA) cL_law RL ret room_1) (hX : va_X b Ls xs X.2.2.2.2.1 X.2.2.2.2.1.heap) (hbl : b < X.2.2.2.2.1.heap.size) (hbA : ¬ X.2.2.2.2.2.2.2.2.2.2.2 b) (hkn : k ≤ room_1.cells ∧ n ≤ room_1.slots) (hLs : Ls < 2 ^ 31) (hi : i + 4 ≤ Ls) (hs : Sm_block N I J) (ih : ∀ τ ρ : ST, J τ ρ → zA X 4 Q k n 1182 [(0, .ref b), (1, .ref (adr 600)), (2, .ref (adrR 0)), (3, .int (nI i))] [] ((wfT adr cI cZ cS cD cE τ) ++ (wfR adrR cI cZ ρ))) (τ ρ : ST) (hI : I τ ρ) : zA X 4 Q k n 513 [(0, .ref b), (1, .ref (adr 600)), (2, .ref (adrR 0)), (3, .int (nI i))] [] ((wfT adr cI cZ cS cD cE τ) ++ (wfR adrR cI cZ ρ)) := by
  obtain ⟨r, τ', ρ', h1, h2, h3⟩ := hs τ ρ (xs (i + 1)) (xs (i + 2)) hI
  refine za_aload_n B dL_law_513 1 rfl rfl ?_
  refine za_aload_n B dL_law_514 0 rfl rfl ?_
  refine za_iload_n B dL_law_515 3 rfl rfl ?_
  refine za_iconst B (1) dL_law_516 zc_iconst_1 ?_
  refine za_iadd B (v := nI (i + 1)) (nI_1 i) dL_law_517 ?_
  refine za_sld B hX hbl hbA (j := i + 1) (by omega) hLs dL_law_518 ?_
  refine za_aload_n B dL_law_519 0 rfl rfl ?_
  refine za_iload_n B dL_law_520 3 rfl rfl ?_
  refine za_iconst B (2) dL_law_521 zc_iconst_2 ?_
  refine za_iadd B (v := nI (i + 2)) (nI_add i 2) dL_law_522 ?_
  refine za_sld B hX hbl hbA (j := i + 2) (by omega) hLs dL_law_523 ?_
  refine za_callW B (wd' := wdT adr cI cZ cS cD cE tL tH) (σ := τ) (wr := (wfR adrR cI cZ ρ)) (ws1 := (wfT adr cI cZ cS cD cE τ') ++ (wfR adrR cI cZ ρ)) (q := (r, τ')) (As := [.int (xs (i + 1)), .int (xs (i + 2))]) (rest := []) kcV_L_63 dL_law_524 (cT_X7_block (r, τ') h1) wT_o_P rfl rfl sfE_ok (fun _ _ _ h => h.1.1) (fun _ _ h => h) rfl rfl (Nat.le_of_ble_eq_true rfl) rfl rfl ⟨(Nat.le_of_ble_eq_true rfl), (Nat.le_of_ble_eq_true rfl)⟩ hkn (List.Perm.refl _) (List.Perm.refl _) ?_
  refine za_aload_n B dL_law_527 2 rfl rfl ?_
  refine za_aload_n B dL_law_528 0 rfl rfl ?_
  refine za_iload_n B dL_law_529 3 rfl rfl ?_
  refine za_iconst B (1) dL_law_530 zc_iconst_1 ?_
  refine za_iadd B (v := nI (i + 1)) (nI_1 i) dL_law_531 ?_
  refine za_sld B hX hbl hbA (j := i + 1) (by omega) hLs dL_law_532 ?_
  refine za_aload_n B dL_law_533 0 rfl rfl ?_
  refine za_iload_n B dL_law_534 3 rfl rfl ?_
  refine za_iconst B (2) dL_law_535 zc_iconst_2 ?_
  refine za_iadd B (v := nI (i + 2)) (nI_add i 2) dL_law_536 ?_
  refine za_sld B hX hbl hbA (j := i + 2) (by omega) hLs dL_law_537 ?_
  refine za_callW B (wd' := wdR adrR cI cZ) (σ := ρ) (wr := (wfT adr cI cZ cS cD cE τ')) (ws1 := (wfT adr cI cZ cS cD cE τ') ++ (wfR adrR cI cZ ρ')) (q := (r, ρ')) (As := [.int (xs (i + 1)), .int (xs (i + 2))]) (rest := [.int r]) kcV_L_66 dL_law_538 (cR_block (r, ρ') h2) wR_o rfl rfl sfR_ok (fun _ _ _ _ => trivial) (fun _ _ h => h.sub [0, 1] rfl) rfl rfl (Nat.le_of_ble_eq_true rfl) rfl rfl ⟨(Nat.le_of_ble_eq_true rfl), (Nat.le_of_ble_eq_true rfl)⟩ hkn List.perm_append_comm List.perm_append_comm ?_
  exact za_same B 1182 dL_law_541 (by decide) (ih τ' ρ' h3)
set_option maxRecDepth 20000 in
set_option maxHeartbeats 4000000 in
theorem lw_c12 {X : zX} {adr adrR : Nat → Nat} {cI cZ cS cD cE : ClassId} {tL tH tA b Ls k n N i : Nat} {xs : Nat → Int32} {Q : State → Prop} {I J : ST → ST → Prop} (B : zC X 4 (wdC cI cZ cS cD cE tL tH tA) cL_law RL ret room_1) (hX : va_X b Ls xs X.2.2.2.2.1 X.2.2.2.2.1.heap) (hbl : b < X.2.2.2.2.1.heap.size) (hbA : ¬ X.2.2.2.2.2.2.2.2.2.2.2 b) (hkn : k ≤ room_1.cells ∧ n ≤ room_1.slots) (hLs : Ls < 2 ^ 31) (hi : i + 4 ≤ Ls) (hs : Sm_cached N I J) (ih : ∀ τ ρ : ST, J τ ρ → zA X 4 Q k n 1182 [(0, .ref b), (1, .ref (adr 600)), (2, .ref (adrR 0)), (3, .int (nI i))] [] ((wfT adr cI cZ cS cD cE τ) ++ (wfR adrR cI cZ ρ))) (τ ρ : ST) (hI : I τ ρ) : zA X 4 Q k n 546 [(0, .ref b), (1, .ref (adr 600)), (2, .ref (adrR 0)), (3, .int (nI i))] [] ((wfT adr cI cZ cS cD cE τ) ++ (wfR adrR cI cZ ρ)) := by
  obtain ⟨r, τ', ρ', h1, h2, h3⟩ := hs τ ρ (xs (i + 1)) hI
  refine za_aload_n B dL_law_546 1 rfl rfl ?_
  refine za_aload_n B dL_law_547 0 rfl rfl ?_
  refine za_iload_n B dL_law_548 3 rfl rfl ?_
  refine za_iconst B (1) dL_law_549 zc_iconst_1 ?_
  refine za_iadd B (v := nI (i + 1)) (nI_1 i) dL_law_550 ?_
  refine za_sld B hX hbl hbA (j := i + 1) (by omega) hLs dL_law_551 ?_
  refine za_callW B (wd' := wdT adr cI cZ cS cD cE tL tH) (σ := τ) (wr := (wfR adrR cI cZ ρ)) (ws1 := (wfT adr cI cZ cS cD cE τ') ++ (wfR adrR cI cZ ρ)) (q := (r, τ')) (As := [.int (xs (i + 1))]) (rest := []) kcV_L_67 dL_law_552 (cT_X7_cached (r, τ') h1) wT_o_P rfl rfl sfE_ok (fun _ _ _ h => h.1.1) (fun _ _ h => h) rfl rfl (Nat.le_of_ble_eq_true rfl) rfl rfl ⟨(Nat.le_of_ble_eq_true rfl), (Nat.le_of_ble_eq_true rfl)⟩ hkn (List.Perm.refl _) (List.Perm.refl _) ?_
  refine za_aload_n B dL_law_555 2 rfl rfl ?_
  refine za_aload_n B dL_law_556 0 rfl rfl ?_
  refine za_iload_n B dL_law_557 3 rfl rfl ?_
  refine za_iconst B (1) dL_law_558 zc_iconst_1 ?_
  refine za_iadd B (v := nI (i + 1)) (nI_1 i) dL_law_559 ?_
  refine za_sld B hX hbl hbA (j := i + 1) (by omega) hLs dL_law_560 ?_
  refine za_callW B (wd' := wdR adrR cI cZ) (σ := ρ) (wr := (wfT adr cI cZ cS cD cE τ')) (ws1 := (wfT adr cI cZ cS cD cE τ') ++ (wfR adrR cI cZ ρ')) (q := (r, ρ')) (As := [.int (xs (i + 1))]) (rest := [.int r]) kcV_L_70 dL_law_561 (cR_cached (r, ρ') h2) wR_o rfl rfl sfR_ok (fun _ _ _ _ => trivial) (fun _ _ h => h.sub [0, 1] rfl) rfl rfl (Nat.le_of_ble_eq_true rfl) rfl rfl ⟨(Nat.le_of_ble_eq_true rfl), (Nat.le_of_ble_eq_true rfl)⟩ hkn List.perm_append_comm List.perm_append_comm ?_
  exact za_same B 1182 dL_law_564 (by decide) (ih τ' ρ' h3)
set_option maxRecDepth 20000 in
set_option maxHeartbeats 4000000 in
theorem lw_c13 {X : zX} {adr adrR : Nat → Nat} {cI cZ cS cD cE : ClassId} {tL tH tA b Ls k n N i : Nat} {xs : Nat → Int32} {Q : State → Prop} {I J : ST → ST → Prop} (B : zC X 4 (wdC cI cZ cS cD cE tL tH tA) cL_law RL ret room_1) (hX : va_X b Ls xs X.2.2.2.2.1 X.2.2.2.2.1.heap) (hbl : b < X.2.2.2.2.1.heap.size) (hbA : ¬ X.2.2.2.2.2.2.2.2.2.2.2 b) (hkn : k ≤ room_1.cells ∧ n ≤ room_1.slots) (hLs : Ls < 2 ^ 31) (hi : i + 4 ≤ Ls) (hs : Sm_stream N I J) (ih : ∀ τ ρ : ST, J τ ρ → zA X 4 Q k n 1182 [(0, .ref b), (1, .ref (adr 600)), (2, .ref (adrR 0)), (3, .int (nI i))] [] ((wfT adr cI cZ cS cD cE τ) ++ (wfR adrR cI cZ ρ))) (τ ρ : ST) (hI : I τ ρ) : zA X 4 Q k n 569 [(0, .ref b), (1, .ref (adr 600)), (2, .ref (adrR 0)), (3, .int (nI i))] [] ((wfT adr cI cZ cS cD cE τ) ++ (wfR adrR cI cZ ρ)) := by
  obtain ⟨r, τ', ρ', h1, h2, h3⟩ := hs τ ρ (xs (i + 1)) (xs (i + 2)) hI
  refine za_aload_n B dL_law_569 1 rfl rfl ?_
  refine za_aload_n B dL_law_570 0 rfl rfl ?_
  refine za_iload_n B dL_law_571 3 rfl rfl ?_
  refine za_iconst B (1) dL_law_572 zc_iconst_1 ?_
  refine za_iadd B (v := nI (i + 1)) (nI_1 i) dL_law_573 ?_
  refine za_sld B hX hbl hbA (j := i + 1) (by omega) hLs dL_law_574 ?_
  refine za_aload_n B dL_law_575 0 rfl rfl ?_
  refine za_iload_n B dL_law_576 3 rfl rfl ?_
  refine za_iconst B (2) dL_law_577 zc_iconst_2 ?_
  refine za_iadd B (v := nI (i + 2)) (nI_add i 2) dL_law_578 ?_
  refine za_sld B hX hbl hbA (j := i + 2) (by omega) hLs dL_law_579 ?_
  refine za_callW B (wd' := wdT adr cI cZ cS cD cE tL tH) (σ := τ) (wr := (wfR adrR cI cZ ρ)) (ws1 := (wfT adr cI cZ cS cD cE τ') ++ (wfR adrR cI cZ ρ)) (q := (r, τ')) (As := [.int (xs (i + 1)), .int (xs (i + 2))]) (rest := []) kcV_L_71 dL_law_580 (cT_X7_stream (r, τ') h1) wT_o_P rfl rfl sfE_ok (fun _ _ _ h => h.1.1) (fun _ _ h => h) rfl rfl (Nat.le_of_ble_eq_true rfl) rfl rfl ⟨(Nat.le_of_ble_eq_true rfl), (Nat.le_of_ble_eq_true rfl)⟩ hkn (List.Perm.refl _) (List.Perm.refl _) ?_
  refine za_aload_n B dL_law_583 2 rfl rfl ?_
  refine za_aload_n B dL_law_584 0 rfl rfl ?_
  refine za_iload_n B dL_law_585 3 rfl rfl ?_
  refine za_iconst B (1) dL_law_586 zc_iconst_1 ?_
  refine za_iadd B (v := nI (i + 1)) (nI_1 i) dL_law_587 ?_
  refine za_sld B hX hbl hbA (j := i + 1) (by omega) hLs dL_law_588 ?_
  refine za_aload_n B dL_law_589 0 rfl rfl ?_
  refine za_iload_n B dL_law_590 3 rfl rfl ?_
  refine za_iconst B (2) dL_law_591 zc_iconst_2 ?_
  refine za_iadd B (v := nI (i + 2)) (nI_add i 2) dL_law_592 ?_
  refine za_sld B hX hbl hbA (j := i + 2) (by omega) hLs dL_law_593 ?_
  refine za_callW B (wd' := wdR adrR cI cZ) (σ := ρ) (wr := (wfT adr cI cZ cS cD cE τ')) (ws1 := (wfT adr cI cZ cS cD cE τ') ++ (wfR adrR cI cZ ρ')) (q := (r, ρ')) (As := [.int (xs (i + 1)), .int (xs (i + 2))]) (rest := [.int r]) kcV_L_74 dL_law_594 (cR_stream (r, ρ') h2) wR_o rfl rfl sfR_ok (fun _ _ _ _ => trivial) (fun _ _ h => h.sub [0, 1] rfl) rfl rfl (Nat.le_of_ble_eq_true rfl) rfl rfl ⟨(Nat.le_of_ble_eq_true rfl), (Nat.le_of_ble_eq_true rfl)⟩ hkn List.perm_append_comm List.perm_append_comm ?_
  exact za_same B 1182 dL_law_597 (by decide) (ih τ' ρ' h3)
set_option maxRecDepth 20000 in
set_option maxHeartbeats 4000000 in
theorem lw_c14 {X : zX} {adr adrR : Nat → Nat} {cI cZ cS cD cE : ClassId} {tL tH tA b Ls k n N i : Nat} {xs : Nat → Int32} {Q : State → Prop} {I J : ST → ST → Prop} (B : zC X 4 (wdC cI cZ cS cD cE tL tH tA) cL_law RL ret room_1) (hX : va_X b Ls xs X.2.2.2.2.1 X.2.2.2.2.1.heap) (hbl : b < X.2.2.2.2.1.heap.size) (hbA : ¬ X.2.2.2.2.2.2.2.2.2.2.2 b) (hkn : k ≤ room_1.cells ∧ n ≤ room_1.slots) (hLs : Ls < 2 ^ 31) (hi : i + 4 ≤ Ls) (hs : Sm_aheadOf N I J) (ih : ∀ τ ρ : ST, J τ ρ → zA X 4 Q k n 1182 [(0, .ref b), (1, .ref (adr 600)), (2, .ref (adrR 0)), (3, .int (nI i))] [] ((wfT adr cI cZ cS cD cE τ) ++ (wfR adrR cI cZ ρ))) (τ ρ : ST) (hI : I τ ρ) : zA X 4 Q k n 602 [(0, .ref b), (1, .ref (adr 600)), (2, .ref (adrR 0)), (3, .int (nI i))] [] ((wfT adr cI cZ cS cD cE τ) ++ (wfR adrR cI cZ ρ)) := by
  obtain ⟨r, τ', ρ', h1, h2, h3⟩ := hs τ ρ (xs (i + 1)) (xs (i + 2)) hI
  refine za_aload_n B dL_law_602 1 rfl rfl ?_
  refine za_aload_n B dL_law_603 0 rfl rfl ?_
  refine za_iload_n B dL_law_604 3 rfl rfl ?_
  refine za_iconst B (1) dL_law_605 zc_iconst_1 ?_
  refine za_iadd B (v := nI (i + 1)) (nI_1 i) dL_law_606 ?_
  refine za_sld B hX hbl hbA (j := i + 1) (by omega) hLs dL_law_607 ?_
  refine za_aload_n B dL_law_608 0 rfl rfl ?_
  refine za_iload_n B dL_law_609 3 rfl rfl ?_
  refine za_iconst B (2) dL_law_610 zc_iconst_2 ?_
  refine za_iadd B (v := nI (i + 2)) (nI_add i 2) dL_law_611 ?_
  refine za_sld B hX hbl hbA (j := i + 2) (by omega) hLs dL_law_612 ?_
  refine za_callW B (wd' := wdT adr cI cZ cS cD cE tL tH) (σ := τ) (wr := (wfR adrR cI cZ ρ)) (ws1 := (wfT adr cI cZ cS cD cE τ') ++ (wfR adrR cI cZ ρ)) (q := (r, τ')) (As := [.int (xs (i + 1)), .int (xs (i + 2))]) (rest := []) kcV_L_75 dL_law_613 (cT_X7_aheadOf (r, τ') h1) wT_o_P rfl rfl sfE_ok (fun _ _ _ h => h.1.1) (fun _ _ h => h) rfl rfl (Nat.le_of_ble_eq_true rfl) rfl rfl ⟨(Nat.le_of_ble_eq_true rfl), (Nat.le_of_ble_eq_true rfl)⟩ hkn (List.Perm.refl _) (List.Perm.refl _) ?_
  refine za_aload_n B dL_law_616 2 rfl rfl ?_
  refine za_aload_n B dL_law_617 0 rfl rfl ?_
  refine za_iload_n B dL_law_618 3 rfl rfl ?_
  refine za_iconst B (1) dL_law_619 zc_iconst_1 ?_
  refine za_iadd B (v := nI (i + 1)) (nI_1 i) dL_law_620 ?_
  refine za_sld B hX hbl hbA (j := i + 1) (by omega) hLs dL_law_621 ?_
  refine za_aload_n B dL_law_622 0 rfl rfl ?_
  refine za_iload_n B dL_law_623 3 rfl rfl ?_
  refine za_iconst B (2) dL_law_624 zc_iconst_2 ?_
  refine za_iadd B (v := nI (i + 2)) (nI_add i 2) dL_law_625 ?_
  refine za_sld B hX hbl hbA (j := i + 2) (by omega) hLs dL_law_626 ?_
  refine za_callW B (wd' := wdR adrR cI cZ) (σ := ρ) (wr := (wfT adr cI cZ cS cD cE τ')) (ws1 := (wfT adr cI cZ cS cD cE τ') ++ (wfR adrR cI cZ ρ')) (q := (r, ρ')) (As := [.int (xs (i + 1)), .int (xs (i + 2))]) (rest := [.int r]) kcV_L_78 dL_law_627 (cR_aheadOf (r, ρ') h2) wR_o rfl rfl sfR_ok (fun _ _ _ _ => trivial) (fun _ _ h => h.sub [0, 1] rfl) rfl rfl (Nat.le_of_ble_eq_true rfl) rfl rfl ⟨(Nat.le_of_ble_eq_true rfl), (Nat.le_of_ble_eq_true rfl)⟩ hkn List.perm_append_comm List.perm_append_comm ?_
  exact za_same B 1182 dL_law_630 (by decide) (ih τ' ρ' h3)
set_option maxRecDepth 20000 in
set_option maxHeartbeats 4000000 in
theorem lw_c15 {X : zX} {adr adrR : Nat → Nat} {cI cZ cS cD cE : ClassId} {tL tH tA b Ls k n N i : Nat} {xs : Nat → Int32} {Q : State → Prop} {I J : ST → ST → Prop} (B : zC X 4 (wdC cI cZ cS cD cE tL tH tA) cL_law RL ret room_1) (hX : va_X b Ls xs X.2.2.2.2.1 X.2.2.2.2.1.heap) (hbl : b < X.2.2.2.2.1.heap.size) (hbA : ¬ X.2.2.2.2.2.2.2.2.2.2.2 b) (hkn : k ≤ room_1.cells ∧ n ≤ room_1.slots) (hLs : Ls < 2 ^ 31) (hi : i + 4 ≤ Ls) (hs : Sm_gain N I J) (ih : ∀ τ ρ : ST, J τ ρ → zA X 4 Q k n 1182 [(0, .ref b), (1, .ref (adr 600)), (2, .ref (adrR 0)), (3, .int (nI i))] [] ((wfT adr cI cZ cS cD cE τ) ++ (wfR adrR cI cZ ρ))) (τ ρ : ST) (hI : I τ ρ) : zA X 4 Q k n 635 [(0, .ref b), (1, .ref (adr 600)), (2, .ref (adrR 0)), (3, .int (nI i))] [] ((wfT adr cI cZ cS cD cE τ) ++ (wfR adrR cI cZ ρ)) := by
  obtain ⟨r, τ', ρ', h1, h2, h3⟩ := hs τ ρ (xs (i + 1)) hI
  refine za_aload_n B dL_law_635 1 rfl rfl ?_
  refine za_aload_n B dL_law_636 0 rfl rfl ?_
  refine za_iload_n B dL_law_637 3 rfl rfl ?_
  refine za_iconst B (1) dL_law_638 zc_iconst_1 ?_
  refine za_iadd B (v := nI (i + 1)) (nI_1 i) dL_law_639 ?_
  refine za_sld B hX hbl hbA (j := i + 1) (by omega) hLs dL_law_640 ?_
  refine za_callW B (wd' := wdT adr cI cZ cS cD cE tL tH) (σ := τ) (wr := (wfR adrR cI cZ ρ)) (ws1 := (wfT adr cI cZ cS cD cE τ') ++ (wfR adrR cI cZ ρ)) (q := (r, τ')) (As := [.int (xs (i + 1))]) (rest := []) kcV_L_79 dL_law_641 (cT_X7_gain (r, τ') h1) wT_o_P rfl rfl sfE_ok (fun _ _ _ h => h.1.1) (fun _ _ h => h) rfl rfl (Nat.le_of_ble_eq_true rfl) rfl rfl ⟨(Nat.le_of_ble_eq_true rfl), (Nat.le_of_ble_eq_true rfl)⟩ hkn (List.Perm.refl _) (List.Perm.refl _) ?_
  refine za_aload_n B dL_law_644 2 rfl rfl ?_
  refine za_aload_n B dL_law_645 0 rfl rfl ?_
  refine za_iload_n B dL_law_646 3 rfl rfl ?_
  refine za_iconst B (1) dL_law_647 zc_iconst_1 ?_
  refine za_iadd B (v := nI (i + 1)) (nI_1 i) dL_law_648 ?_
  refine za_sld B hX hbl hbA (j := i + 1) (by omega) hLs dL_law_649 ?_
  refine za_callW B (wd' := wdR adrR cI cZ) (σ := ρ) (wr := (wfT adr cI cZ cS cD cE τ')) (ws1 := (wfT adr cI cZ cS cD cE τ') ++ (wfR adrR cI cZ ρ')) (q := (r, ρ')) (As := [.int (xs (i + 1))]) (rest := [.int r]) kcV_L_82 dL_law_650 (cR_gain (r, ρ') h2) wR_o rfl rfl sfR_ok (fun _ _ _ _ => trivial) (fun _ _ h => h.sub [0, 1] rfl) rfl rfl (Nat.le_of_ble_eq_true rfl) rfl rfl ⟨(Nat.le_of_ble_eq_true rfl), (Nat.le_of_ble_eq_true rfl)⟩ hkn List.perm_append_comm List.perm_append_comm ?_
  exact za_same B 1182 dL_law_653 (by decide) (ih τ' ρ' h3)
set_option maxRecDepth 20000 in
set_option maxHeartbeats 4000000 in
theorem lw_c16 {X : zX} {adr adrR : Nat → Nat} {cI cZ cS cD cE : ClassId} {tL tH tA b Ls k n N i : Nat} {xs : Nat → Int32} {Q : State → Prop} {I J : ST → ST → Prop} (B : zC X 4 (wdC cI cZ cS cD cE tL tH tA) cL_law RL ret room_1) (hX : va_X b Ls xs X.2.2.2.2.1 X.2.2.2.2.1.heap) (hbl : b < X.2.2.2.2.1.heap.size) (hbA : ¬ X.2.2.2.2.2.2.2.2.2.2.2 b) (hkn : k ≤ room_1.cells ∧ n ≤ room_1.slots) (hLs : Ls < 2 ^ 31) (hi : i + 4 ≤ Ls) (hs : Sm_log N I J) (ih : ∀ τ ρ : ST, J τ ρ → zA X 4 Q k n 1182 [(0, .ref b), (1, .ref (adr 600)), (2, .ref (adrR 0)), (3, .int (nI i))] [] ((wfT adr cI cZ cS cD cE τ) ++ (wfR adrR cI cZ ρ))) (τ ρ : ST) (hI : I τ ρ) : zA X 4 Q k n 658 [(0, .ref b), (1, .ref (adr 600)), (2, .ref (adrR 0)), (3, .int (nI i))] [] ((wfT adr cI cZ cS cD cE τ) ++ (wfR adrR cI cZ ρ)) := by
  obtain ⟨r, τ', ρ', h1, h2, h3⟩ := hs τ ρ (xs (i + 1)) (xs (i + 2)) hI
  refine za_aload_n B dL_law_658 1 rfl rfl ?_
  refine za_aload_n B dL_law_659 0 rfl rfl ?_
  refine za_iload_n B dL_law_660 3 rfl rfl ?_
  refine za_iconst B (1) dL_law_661 zc_iconst_1 ?_
  refine za_iadd B (v := nI (i + 1)) (nI_1 i) dL_law_662 ?_
  refine za_sld B hX hbl hbA (j := i + 1) (by omega) hLs dL_law_663 ?_
  refine za_aload_n B dL_law_664 0 rfl rfl ?_
  refine za_iload_n B dL_law_665 3 rfl rfl ?_
  refine za_iconst B (2) dL_law_666 zc_iconst_2 ?_
  refine za_iadd B (v := nI (i + 2)) (nI_add i 2) dL_law_667 ?_
  refine za_sld B hX hbl hbA (j := i + 2) (by omega) hLs dL_law_668 ?_
  refine za_callW B (wd' := wdT adr cI cZ cS cD cE tL tH) (σ := τ) (wr := (wfR adrR cI cZ ρ)) (ws1 := (wfT adr cI cZ cS cD cE τ') ++ (wfR adrR cI cZ ρ)) (q := (r, τ')) (As := [.int (xs (i + 1)), .int (xs (i + 2))]) (rest := []) kcV_L_83 dL_law_669 (cT_X7_log (r, τ') h1) wT_o_P rfl rfl sfE_ok (fun _ _ _ h => h.1.1) (fun _ _ h => h) rfl rfl (Nat.le_of_ble_eq_true rfl) rfl rfl ⟨(Nat.le_of_ble_eq_true rfl), (Nat.le_of_ble_eq_true rfl)⟩ hkn (List.Perm.refl _) (List.Perm.refl _) ?_
  refine za_aload_n B dL_law_672 2 rfl rfl ?_
  refine za_aload_n B dL_law_673 0 rfl rfl ?_
  refine za_iload_n B dL_law_674 3 rfl rfl ?_
  refine za_iconst B (1) dL_law_675 zc_iconst_1 ?_
  refine za_iadd B (v := nI (i + 1)) (nI_1 i) dL_law_676 ?_
  refine za_sld B hX hbl hbA (j := i + 1) (by omega) hLs dL_law_677 ?_
  refine za_aload_n B dL_law_678 0 rfl rfl ?_
  refine za_iload_n B dL_law_679 3 rfl rfl ?_
  refine za_iconst B (2) dL_law_680 zc_iconst_2 ?_
  refine za_iadd B (v := nI (i + 2)) (nI_add i 2) dL_law_681 ?_
  refine za_sld B hX hbl hbA (j := i + 2) (by omega) hLs dL_law_682 ?_
  refine za_callW B (wd' := wdR adrR cI cZ) (σ := ρ) (wr := (wfT adr cI cZ cS cD cE τ')) (ws1 := (wfT adr cI cZ cS cD cE τ') ++ (wfR adrR cI cZ ρ')) (q := (r, ρ')) (As := [.int (xs (i + 1)), .int (xs (i + 2))]) (rest := [.int r]) kcV_L_86 dL_law_683 (cR_log (r, ρ') h2) wR_o rfl rfl sfR_ok (fun _ _ _ _ => trivial) (fun _ _ h => h.sub [0, 1] rfl) rfl rfl (Nat.le_of_ble_eq_true rfl) rfl rfl ⟨(Nat.le_of_ble_eq_true rfl), (Nat.le_of_ble_eq_true rfl)⟩ hkn List.perm_append_comm List.perm_append_comm ?_
  exact za_same B 1182 dL_law_686 (by decide) (ih τ' ρ' h3)
set_option maxRecDepth 20000 in
set_option maxHeartbeats 4000000 in
theorem lw_c17 {X : zX} {adr adrR : Nat → Nat} {cI cZ cS cD cE : ClassId} {tL tH tA b Ls k n N i : Nat} {xs : Nat → Int32} {Q : State → Prop} {I J : ST → ST → Prop} (B : zC X 4 (wdC cI cZ cS cD cE tL tH tA) cL_law RL ret room_1) (hX : va_X b Ls xs X.2.2.2.2.1 X.2.2.2.2.1.heap) (hbl : b < X.2.2.2.2.1.heap.size) (hbA : ¬ X.2.2.2.2.2.2.2.2.2.2.2 b) (hkn : k ≤ room_1.cells ∧ n ≤ room_1.slots) (hLs : Ls < 2 ^ 31) (hi : i + 4 ≤ Ls) (hs : Sm_piece N I J) (ih : ∀ τ ρ : ST, J τ ρ → zA X 4 Q k n 1182 [(0, .ref b), (1, .ref (adr 600)), (2, .ref (adrR 0)), (3, .int (nI i))] [] ((wfT adr cI cZ cS cD cE τ) ++ (wfR adrR cI cZ ρ))) (τ ρ : ST) (hI : I τ ρ) : zA X 4 Q k n 691 [(0, .ref b), (1, .ref (adr 600)), (2, .ref (adrR 0)), (3, .int (nI i))] [] ((wfT adr cI cZ cS cD cE τ) ++ (wfR adrR cI cZ ρ)) := by
  obtain ⟨r, τ', ρ', h1, h2, h3⟩ := hs τ ρ (xs (i + 1)) (xs (i + 2)) hI
  refine za_aload_n B dL_law_691 1 rfl rfl ?_
  refine za_aload_n B dL_law_692 0 rfl rfl ?_
  refine za_iload_n B dL_law_693 3 rfl rfl ?_
  refine za_iconst B (1) dL_law_694 zc_iconst_1 ?_
  refine za_iadd B (v := nI (i + 1)) (nI_1 i) dL_law_695 ?_
  refine za_sld B hX hbl hbA (j := i + 1) (by omega) hLs dL_law_696 ?_
  refine za_aload_n B dL_law_697 0 rfl rfl ?_
  refine za_iload_n B dL_law_698 3 rfl rfl ?_
  refine za_iconst B (2) dL_law_699 zc_iconst_2 ?_
  refine za_iadd B (v := nI (i + 2)) (nI_add i 2) dL_law_700 ?_
  refine za_sld B hX hbl hbA (j := i + 2) (by omega) hLs dL_law_701 ?_
  refine za_callW B (wd' := wdT adr cI cZ cS cD cE tL tH) (σ := τ) (wr := (wfR adrR cI cZ ρ)) (ws1 := (wfT adr cI cZ cS cD cE τ') ++ (wfR adrR cI cZ ρ)) (q := (r, τ')) (As := [.int (xs (i + 1)), .int (xs (i + 2))]) (rest := []) kcV_L_87 dL_law_702 (cT_X7_piece (r, τ') h1) wT_o_P rfl rfl sfE_ok (fun _ _ _ h => h.1.1) (fun _ _ h => h) rfl rfl (Nat.le_of_ble_eq_true rfl) rfl rfl ⟨(Nat.le_of_ble_eq_true rfl), (Nat.le_of_ble_eq_true rfl)⟩ hkn (List.Perm.refl _) (List.Perm.refl _) ?_
  refine za_aload_n B dL_law_705 2 rfl rfl ?_
  refine za_aload_n B dL_law_706 0 rfl rfl ?_
  refine za_iload_n B dL_law_707 3 rfl rfl ?_
  refine za_iconst B (1) dL_law_708 zc_iconst_1 ?_
  refine za_iadd B (v := nI (i + 1)) (nI_1 i) dL_law_709 ?_
  refine za_sld B hX hbl hbA (j := i + 1) (by omega) hLs dL_law_710 ?_
  refine za_aload_n B dL_law_711 0 rfl rfl ?_
  refine za_iload_n B dL_law_712 3 rfl rfl ?_
  refine za_iconst B (2) dL_law_713 zc_iconst_2 ?_
  refine za_iadd B (v := nI (i + 2)) (nI_add i 2) dL_law_714 ?_
  refine za_sld B hX hbl hbA (j := i + 2) (by omega) hLs dL_law_715 ?_
  refine za_callW B (wd' := wdR adrR cI cZ) (σ := ρ) (wr := (wfT adr cI cZ cS cD cE τ')) (ws1 := (wfT adr cI cZ cS cD cE τ') ++ (wfR adrR cI cZ ρ')) (q := (r, ρ')) (As := [.int (xs (i + 1)), .int (xs (i + 2))]) (rest := [.int r]) kcV_L_90 dL_law_716 (cR_piece (r, ρ') h2) wR_o rfl rfl sfR_ok (fun _ _ _ _ => trivial) (fun _ _ h => h.sub [0, 1] rfl) rfl rfl (Nat.le_of_ble_eq_true rfl) rfl rfl ⟨(Nat.le_of_ble_eq_true rfl), (Nat.le_of_ble_eq_true rfl)⟩ hkn List.perm_append_comm List.perm_append_comm ?_
  exact za_same B 1182 dL_law_719 (by decide) (ih τ' ρ' h3)
set_option maxRecDepth 20000 in
set_option maxHeartbeats 4000000 in
theorem lw_c18 {X : zX} {adr adrR : Nat → Nat} {cI cZ cS cD cE : ClassId} {tL tH tA b Ls k n N i : Nat} {xs : Nat → Int32} {Q : State → Prop} {I J : ST → ST → Prop} (B : zC X 4 (wdC cI cZ cS cD cE tL tH tA) cL_law RL ret room_1) (hX : va_X b Ls xs X.2.2.2.2.1 X.2.2.2.2.1.heap) (hbl : b < X.2.2.2.2.1.heap.size) (hbA : ¬ X.2.2.2.2.2.2.2.2.2.2.2 b) (hkn : k ≤ room_1.cells ∧ n ≤ room_1.slots) (hLs : Ls < 2 ^ 31) (hi : i + 4 ≤ Ls) (hs : Sm_whose N I J) (ih : ∀ τ ρ : ST, J τ ρ → zA X 4 Q k n 1182 [(0, .ref b), (1, .ref (adr 600)), (2, .ref (adrR 0)), (3, .int (nI i))] [] ((wfT adr cI cZ cS cD cE τ) ++ (wfR adrR cI cZ ρ))) (τ ρ : ST) (hI : I τ ρ) : zA X 4 Q k n 724 [(0, .ref b), (1, .ref (adr 600)), (2, .ref (adrR 0)), (3, .int (nI i))] [] ((wfT adr cI cZ cS cD cE τ) ++ (wfR adrR cI cZ ρ)) := by
  obtain ⟨r, τ', ρ', h1, h2, h3⟩ := hs τ ρ (xs (i + 1)) (xs (i + 2)) hI
  refine za_aload_n B dL_law_724 1 rfl rfl ?_
  refine za_aload_n B dL_law_725 0 rfl rfl ?_
  refine za_iload_n B dL_law_726 3 rfl rfl ?_
  refine za_iconst B (1) dL_law_727 zc_iconst_1 ?_
  refine za_iadd B (v := nI (i + 1)) (nI_1 i) dL_law_728 ?_
  refine za_sld B hX hbl hbA (j := i + 1) (by omega) hLs dL_law_729 ?_
  refine za_aload_n B dL_law_730 0 rfl rfl ?_
  refine za_iload_n B dL_law_731 3 rfl rfl ?_
  refine za_iconst B (2) dL_law_732 zc_iconst_2 ?_
  refine za_iadd B (v := nI (i + 2)) (nI_add i 2) dL_law_733 ?_
  refine za_sld B hX hbl hbA (j := i + 2) (by omega) hLs dL_law_734 ?_
  refine za_callW B (wd' := wdT adr cI cZ cS cD cE tL tH) (σ := τ) (wr := (wfR adrR cI cZ ρ)) (ws1 := (wfT adr cI cZ cS cD cE τ') ++ (wfR adrR cI cZ ρ)) (q := (r, τ')) (As := [.int (xs (i + 1)), .int (xs (i + 2))]) (rest := []) kcV_L_91 dL_law_735 (cT_X7_whose (r, τ') h1) wT_o_P rfl rfl sfE_ok (fun _ _ _ h => h.1.1) (fun _ _ h => h) rfl rfl (Nat.le_of_ble_eq_true rfl) rfl rfl ⟨(Nat.le_of_ble_eq_true rfl), (Nat.le_of_ble_eq_true rfl)⟩ hkn (List.Perm.refl _) (List.Perm.refl _) ?_
  refine za_aload_n B dL_law_738 2 rfl rfl ?_
  refine za_aload_n B dL_law_739 0 rfl rfl ?_
  refine za_iload_n B dL_law_740 3 rfl rfl ?_
  refine za_iconst B (1) dL_law_741 zc_iconst_1 ?_
  refine za_iadd B (v := nI (i + 1)) (nI_1 i) dL_law_742 ?_
  refine za_sld B hX hbl hbA (j := i + 1) (by omega) hLs dL_law_743 ?_
  refine za_aload_n B dL_law_744 0 rfl rfl ?_
  refine za_iload_n B dL_law_745 3 rfl rfl ?_
  refine za_iconst B (2) dL_law_746 zc_iconst_2 ?_
  refine za_iadd B (v := nI (i + 2)) (nI_add i 2) dL_law_747 ?_
  refine za_sld B hX hbl hbA (j := i + 2) (by omega) hLs dL_law_748 ?_
  refine za_callW B (wd' := wdR adrR cI cZ) (σ := ρ) (wr := (wfT adr cI cZ cS cD cE τ')) (ws1 := (wfT adr cI cZ cS cD cE τ') ++ (wfR adrR cI cZ ρ')) (q := (r, ρ')) (As := [.int (xs (i + 1)), .int (xs (i + 2))]) (rest := [.int r]) kcV_L_94 dL_law_749 (cR_whose (r, ρ') h2) wR_o rfl rfl sfR_ok (fun _ _ _ _ => trivial) (fun _ _ h => h.sub [0, 1] rfl) rfl rfl (Nat.le_of_ble_eq_true rfl) rfl rfl ⟨(Nat.le_of_ble_eq_true rfl), (Nat.le_of_ble_eq_true rfl)⟩ hkn List.perm_append_comm List.perm_append_comm ?_
  exact za_same B 1182 dL_law_752 (by decide) (ih τ' ρ' h3)
set_option maxRecDepth 20000 in
set_option maxHeartbeats 4000000 in
theorem lw_c19 {X : zX} {adr adrR : Nat → Nat} {cI cZ cS cD cE : ClassId} {tL tH tA b Ls k n N i : Nat} {xs : Nat → Int32} {Q : State → Prop} {I J : ST → ST → Prop} (B : zC X 4 (wdC cI cZ cS cD cE tL tH tA) cL_law RL ret room_1) (hX : va_X b Ls xs X.2.2.2.2.1 X.2.2.2.2.1.heap) (hbl : b < X.2.2.2.2.1.heap.size) (hbA : ¬ X.2.2.2.2.2.2.2.2.2.2.2 b) (hkn : k ≤ room_1.cells ∧ n ≤ room_1.slots) (hLs : Ls < 2 ^ 31) (hi : i + 4 ≤ Ls) (hs : Sm_mixed N I J) (ih : ∀ τ ρ : ST, J τ ρ → zA X 4 Q k n 1182 [(0, .ref b), (1, .ref (adr 600)), (2, .ref (adrR 0)), (3, .int (nI i))] [] ((wfT adr cI cZ cS cD cE τ) ++ (wfR adrR cI cZ ρ))) (τ ρ : ST) (hI : I τ ρ) : zA X 4 Q k n 757 [(0, .ref b), (1, .ref (adr 600)), (2, .ref (adrR 0)), (3, .int (nI i))] [] ((wfT adr cI cZ cS cD cE τ) ++ (wfR adrR cI cZ ρ)) := by
  obtain ⟨r, τ', ρ', h1, h2, h3⟩ := hs τ ρ (xs (i + 1)) hI
  refine za_aload_n B dL_law_757 1 rfl rfl ?_
  refine za_aload_n B dL_law_758 0 rfl rfl ?_
  refine za_iload_n B dL_law_759 3 rfl rfl ?_
  refine za_iconst B (1) dL_law_760 zc_iconst_1 ?_
  refine za_iadd B (v := nI (i + 1)) (nI_1 i) dL_law_761 ?_
  refine za_sld B hX hbl hbA (j := i + 1) (by omega) hLs dL_law_762 ?_
  refine za_callW B (wd' := wdT adr cI cZ cS cD cE tL tH) (σ := τ) (wr := (wfR adrR cI cZ ρ)) (ws1 := (wfT adr cI cZ cS cD cE τ') ++ (wfR adrR cI cZ ρ)) (q := (r, τ')) (As := [.int (xs (i + 1))]) (rest := []) kcV_L_95 dL_law_763 (cT_X7_mixed (r, τ') h1) wT_o_P rfl rfl sfE_ok (fun _ _ _ h => h.1.1) (fun _ _ h => h) rfl rfl (Nat.le_of_ble_eq_true rfl) rfl rfl ⟨(Nat.le_of_ble_eq_true rfl), (Nat.le_of_ble_eq_true rfl)⟩ hkn (List.Perm.refl _) (List.Perm.refl _) ?_
  refine za_aload_n B dL_law_766 2 rfl rfl ?_
  refine za_aload_n B dL_law_767 0 rfl rfl ?_
  refine za_iload_n B dL_law_768 3 rfl rfl ?_
  refine za_iconst B (1) dL_law_769 zc_iconst_1 ?_
  refine za_iadd B (v := nI (i + 1)) (nI_1 i) dL_law_770 ?_
  refine za_sld B hX hbl hbA (j := i + 1) (by omega) hLs dL_law_771 ?_
  refine za_callW B (wd' := wdR adrR cI cZ) (σ := ρ) (wr := (wfT adr cI cZ cS cD cE τ')) (ws1 := (wfT adr cI cZ cS cD cE τ') ++ (wfR adrR cI cZ ρ')) (q := (r, ρ')) (As := [.int (xs (i + 1))]) (rest := [.int r]) kcV_L_98 dL_law_772 (cR_mixed (r, ρ') h2) wR_o rfl rfl sfR_ok (fun _ _ _ _ => trivial) (fun _ _ h => h.sub [0, 1] rfl) rfl rfl (Nat.le_of_ble_eq_true rfl) rfl rfl ⟨(Nat.le_of_ble_eq_true rfl), (Nat.le_of_ble_eq_true rfl)⟩ hkn List.perm_append_comm List.perm_append_comm ?_
  exact za_same B 1182 dL_law_775 (by decide) (ih τ' ρ' h3)
set_option maxRecDepth 20000 in
set_option maxHeartbeats 4000000 in
theorem lw_c20 {X : zX} {adr adrR : Nat → Nat} {cI cZ cS cD cE : ClassId} {tL tH tA b Ls k n N i : Nat} {xs : Nat → Int32} {Q : State → Prop} {I J : ST → ST → Prop} (B : zC X 4 (wdC cI cZ cS cD cE tL tH tA) cL_law RL ret room_1) (hX : va_X b Ls xs X.2.2.2.2.1 X.2.2.2.2.1.heap) (hbl : b < X.2.2.2.2.1.heap.size) (hbA : ¬ X.2.2.2.2.2.2.2.2.2.2.2 b) (hkn : k ≤ room_1.cells ∧ n ≤ room_1.slots) (hLs : Ls < 2 ^ 31) (hi : i + 4 ≤ Ls) (hs : Sm_trace N I J) (ih : ∀ τ ρ : ST, J τ ρ → zA X 4 Q k n 1182 [(0, .ref b), (1, .ref (adr 600)), (2, .ref (adrR 0)), (3, .int (nI i))] [] ((wfT adr cI cZ cS cD cE τ) ++ (wfR adrR cI cZ ρ))) (τ ρ : ST) (hI : I τ ρ) : zA X 4 Q k n 780 [(0, .ref b), (1, .ref (adr 600)), (2, .ref (adrR 0)), (3, .int (nI i))] [] ((wfT adr cI cZ cS cD cE τ) ++ (wfR adrR cI cZ ρ)) := by
  obtain ⟨r, τ', ρ', h1, h2, h3⟩ := hs τ ρ (xs (i + 1)) hI
  refine za_aload_n B dL_law_780 1 rfl rfl ?_
  refine za_aload_n B dL_law_781 0 rfl rfl ?_
  refine za_iload_n B dL_law_782 3 rfl rfl ?_
  refine za_iconst B (1) dL_law_783 zc_iconst_1 ?_
  refine za_iadd B (v := nI (i + 1)) (nI_1 i) dL_law_784 ?_
  refine za_sld B hX hbl hbA (j := i + 1) (by omega) hLs dL_law_785 ?_
  refine za_callW B (wd' := wdT adr cI cZ cS cD cE tL tH) (σ := τ) (wr := (wfR adrR cI cZ ρ)) (ws1 := (wfT adr cI cZ cS cD cE τ') ++ (wfR adrR cI cZ ρ)) (q := (r, τ')) (As := [.int (xs (i + 1))]) (rest := []) kcV_L_99 dL_law_786 (cT_X7_trace (r, τ') h1) wT_o_P rfl rfl sfE_ok (fun _ _ _ h => h.1.1) (fun _ _ h => h) rfl rfl (Nat.le_of_ble_eq_true rfl) rfl rfl ⟨(Nat.le_of_ble_eq_true rfl), (Nat.le_of_ble_eq_true rfl)⟩ hkn (List.Perm.refl _) (List.Perm.refl _) ?_
  refine za_aload_n B dL_law_789 2 rfl rfl ?_
  refine za_aload_n B dL_law_790 0 rfl rfl ?_
  refine za_iload_n B dL_law_791 3 rfl rfl ?_
  refine za_iconst B (1) dL_law_792 zc_iconst_1 ?_
  refine za_iadd B (v := nI (i + 1)) (nI_1 i) dL_law_793 ?_
  refine za_sld B hX hbl hbA (j := i + 1) (by omega) hLs dL_law_794 ?_
  refine za_callW B (wd' := wdR adrR cI cZ) (σ := ρ) (wr := (wfT adr cI cZ cS cD cE τ')) (ws1 := (wfT adr cI cZ cS cD cE τ') ++ (wfR adrR cI cZ ρ')) (q := (r, ρ')) (As := [.int (xs (i + 1))]) (rest := [.int r]) kcV_L_102 dL_law_795 (cR_trace (r, ρ') h2) wR_o rfl rfl sfR_ok (fun _ _ _ _ => trivial) (fun _ _ h => h.sub [0, 1] rfl) rfl rfl (Nat.le_of_ble_eq_true rfl) rfl rfl ⟨(Nat.le_of_ble_eq_true rfl), (Nat.le_of_ble_eq_true rfl)⟩ hkn List.perm_append_comm List.perm_append_comm ?_
  exact za_same B 1182 dL_law_798 (by decide) (ih τ' ρ' h3)
set_option maxRecDepth 20000 in
set_option maxHeartbeats 4000000 in
theorem lw_c21 {X : zX} {adr adrR : Nat → Nat} {cI cZ cS cD cE : ClassId} {tL tH tA b Ls k n N i : Nat} {xs : Nat → Int32} {Q : State → Prop} {I J : ST → ST → Prop} (B : zC X 4 (wdC cI cZ cS cD cE tL tH tA) cL_law RL ret room_1) (hX : va_X b Ls xs X.2.2.2.2.1 X.2.2.2.2.1.heap) (hbl : b < X.2.2.2.2.1.heap.size) (hbA : ¬ X.2.2.2.2.2.2.2.2.2.2.2 b) (hkn : k ≤ room_1.cells ∧ n ≤ room_1.slots) (hLs : Ls < 2 ^ 31) (hi : i + 4 ≤ Ls) (hs : Sm_would N I J) (ih : ∀ τ ρ : ST, J τ ρ → zA X 4 Q k n 1182 [(0, .ref b), (1, .ref (adr 600)), (2, .ref (adrR 0)), (3, .int (nI i))] [] ((wfT adr cI cZ cS cD cE τ) ++ (wfR adrR cI cZ ρ))) (τ ρ : ST) (hI : I τ ρ) : zA X 4 Q k n 803 [(0, .ref b), (1, .ref (adr 600)), (2, .ref (adrR 0)), (3, .int (nI i))] [] ((wfT adr cI cZ cS cD cE τ) ++ (wfR adrR cI cZ ρ)) := by
  obtain ⟨r, τ', ρ', h1, h2, h3⟩ := hs τ ρ (xs (i + 1)) (xs (i + 2)) hI
  refine za_aload_n B dL_law_803 1 rfl rfl ?_
  refine za_aload_n B dL_law_804 0 rfl rfl ?_
  refine za_iload_n B dL_law_805 3 rfl rfl ?_
  refine za_iconst B (1) dL_law_806 zc_iconst_1 ?_
  refine za_iadd B (v := nI (i + 1)) (nI_1 i) dL_law_807 ?_
  refine za_sld B hX hbl hbA (j := i + 1) (by omega) hLs dL_law_808 ?_
  refine za_aload_n B dL_law_809 0 rfl rfl ?_
  refine za_iload_n B dL_law_810 3 rfl rfl ?_
  refine za_iconst B (2) dL_law_811 zc_iconst_2 ?_
  refine za_iadd B (v := nI (i + 2)) (nI_add i 2) dL_law_812 ?_
  refine za_sld B hX hbl hbA (j := i + 2) (by omega) hLs dL_law_813 ?_
  refine za_callW B (wd' := wdT adr cI cZ cS cD cE tL tH) (σ := τ) (wr := (wfR adrR cI cZ ρ)) (ws1 := (wfT adr cI cZ cS cD cE τ') ++ (wfR adrR cI cZ ρ)) (q := (r, τ')) (As := [.int (xs (i + 1)), .int (xs (i + 2))]) (rest := []) kcV_L_103 dL_law_814 (cT_X7_would (r, τ') h1) wT_o_P rfl rfl sfE_ok (fun _ _ _ h => h.1.1) (fun _ _ h => h) rfl rfl (Nat.le_of_ble_eq_true rfl) rfl rfl ⟨(Nat.le_of_ble_eq_true rfl), (Nat.le_of_ble_eq_true rfl)⟩ hkn (List.Perm.refl _) (List.Perm.refl _) ?_
  refine za_aload_n B dL_law_817 2 rfl rfl ?_
  refine za_aload_n B dL_law_818 0 rfl rfl ?_
  refine za_iload_n B dL_law_819 3 rfl rfl ?_
  refine za_iconst B (1) dL_law_820 zc_iconst_1 ?_
  refine za_iadd B (v := nI (i + 1)) (nI_1 i) dL_law_821 ?_
  refine za_sld B hX hbl hbA (j := i + 1) (by omega) hLs dL_law_822 ?_
  refine za_aload_n B dL_law_823 0 rfl rfl ?_
  refine za_iload_n B dL_law_824 3 rfl rfl ?_
  refine za_iconst B (2) dL_law_825 zc_iconst_2 ?_
  refine za_iadd B (v := nI (i + 2)) (nI_add i 2) dL_law_826 ?_
  refine za_sld B hX hbl hbA (j := i + 2) (by omega) hLs dL_law_827 ?_
  refine za_callW B (wd' := wdR adrR cI cZ) (σ := ρ) (wr := (wfT adr cI cZ cS cD cE τ')) (ws1 := (wfT adr cI cZ cS cD cE τ') ++ (wfR adrR cI cZ ρ')) (q := (r, ρ')) (As := [.int (xs (i + 1)), .int (xs (i + 2))]) (rest := [.int r]) kcV_L_106 dL_law_828 (cR_would (r, ρ') h2) wR_o rfl rfl sfR_ok (fun _ _ _ _ => trivial) (fun _ _ h => h.sub [0, 1] rfl) rfl rfl (Nat.le_of_ble_eq_true rfl) rfl rfl ⟨(Nat.le_of_ble_eq_true rfl), (Nat.le_of_ble_eq_true rfl)⟩ hkn List.perm_append_comm List.perm_append_comm ?_
  exact za_same B 1182 dL_law_831 (by decide) (ih τ' ρ' h3)
set_option maxRecDepth 20000 in
set_option maxHeartbeats 4000000 in
theorem lw_c22 {X : zX} {adr adrR : Nat → Nat} {cI cZ cS cD cE : ClassId} {tL tH tA b Ls k n N i : Nat} {xs : Nat → Int32} {Q : State → Prop} {I J : ST → ST → Prop} (B : zC X 4 (wdC cI cZ cS cD cE tL tH tA) cL_law RL ret room_1) (hX : va_X b Ls xs X.2.2.2.2.1 X.2.2.2.2.1.heap) (hbl : b < X.2.2.2.2.1.heap.size) (hbA : ¬ X.2.2.2.2.2.2.2.2.2.2.2 b) (hkn : k ≤ room_1.cells ∧ n ≤ room_1.slots) (hLs : Ls < 2 ^ 31) (hi : i + 4 ≤ Ls) (hs : Sm_plan N I J) (ih : ∀ τ ρ : ST, J τ ρ → zA X 4 Q k n 1182 [(0, .ref b), (1, .ref (adr 600)), (2, .ref (adrR 0)), (3, .int (nI i))] [] ((wfT adr cI cZ cS cD cE τ) ++ (wfR adrR cI cZ ρ))) (τ ρ : ST) (hI : I τ ρ) : zA X 4 Q k n 836 [(0, .ref b), (1, .ref (adr 600)), (2, .ref (adrR 0)), (3, .int (nI i))] [] ((wfT adr cI cZ cS cD cE τ) ++ (wfR adrR cI cZ ρ)) := by
  obtain ⟨r, τ', ρ', h1, h2, h3⟩ := hs τ ρ (xs (i + 1)) (xs (i + 2)) hI
  refine za_aload_n B dL_law_836 1 rfl rfl ?_
  refine za_aload_n B dL_law_837 0 rfl rfl ?_
  refine za_iload_n B dL_law_838 3 rfl rfl ?_
  refine za_iconst B (1) dL_law_839 zc_iconst_1 ?_
  refine za_iadd B (v := nI (i + 1)) (nI_1 i) dL_law_840 ?_
  refine za_sld B hX hbl hbA (j := i + 1) (by omega) hLs dL_law_841 ?_
  refine za_aload_n B dL_law_842 0 rfl rfl ?_
  refine za_iload_n B dL_law_843 3 rfl rfl ?_
  refine za_iconst B (2) dL_law_844 zc_iconst_2 ?_
  refine za_iadd B (v := nI (i + 2)) (nI_add i 2) dL_law_845 ?_
  refine za_sld B hX hbl hbA (j := i + 2) (by omega) hLs dL_law_846 ?_
  refine za_callW B (wd' := wdT adr cI cZ cS cD cE tL tH) (σ := τ) (wr := (wfR adrR cI cZ ρ)) (ws1 := (wfT adr cI cZ cS cD cE τ') ++ (wfR adrR cI cZ ρ)) (q := (r, τ')) (As := [.int (xs (i + 1)), .int (xs (i + 2))]) (rest := []) kcV_L_107 dL_law_847 (cT_X7_plan (r, τ') h1) wT_o_P rfl rfl sfE_ok (fun _ _ _ h => h.1.1) (fun _ _ h => h) rfl rfl (Nat.le_of_ble_eq_true rfl) rfl rfl ⟨(Nat.le_of_ble_eq_true rfl), (Nat.le_of_ble_eq_true rfl)⟩ hkn (List.Perm.refl _) (List.Perm.refl _) ?_
  refine za_aload_n B dL_law_850 2 rfl rfl ?_
  refine za_aload_n B dL_law_851 0 rfl rfl ?_
  refine za_iload_n B dL_law_852 3 rfl rfl ?_
  refine za_iconst B (1) dL_law_853 zc_iconst_1 ?_
  refine za_iadd B (v := nI (i + 1)) (nI_1 i) dL_law_854 ?_
  refine za_sld B hX hbl hbA (j := i + 1) (by omega) hLs dL_law_855 ?_
  refine za_aload_n B dL_law_856 0 rfl rfl ?_
  refine za_iload_n B dL_law_857 3 rfl rfl ?_
  refine za_iconst B (2) dL_law_858 zc_iconst_2 ?_
  refine za_iadd B (v := nI (i + 2)) (nI_add i 2) dL_law_859 ?_
  refine za_sld B hX hbl hbA (j := i + 2) (by omega) hLs dL_law_860 ?_
  refine za_callW B (wd' := wdR adrR cI cZ) (σ := ρ) (wr := (wfT adr cI cZ cS cD cE τ')) (ws1 := (wfT adr cI cZ cS cD cE τ') ++ (wfR adrR cI cZ ρ')) (q := (r, ρ')) (As := [.int (xs (i + 1)), .int (xs (i + 2))]) (rest := [.int r]) kcV_L_110 dL_law_861 (cR_plan (r, ρ') h2) wR_o rfl rfl sfR_ok (fun _ _ _ _ => trivial) (fun _ _ h => h.sub [0, 1] rfl) rfl rfl (Nat.le_of_ble_eq_true rfl) rfl rfl ⟨(Nat.le_of_ble_eq_true rfl), (Nat.le_of_ble_eq_true rfl)⟩ hkn List.perm_append_comm List.perm_append_comm ?_
  exact za_same B 1182 dL_law_864 (by decide) (ih τ' ρ' h3)
set_option maxRecDepth 20000 in
set_option maxHeartbeats 4000000 in
theorem lw_c23 {X : zX} {adr adrR : Nat → Nat} {cI cZ cS cD cE : ClassId} {tL tH tA b Ls k n N i : Nat} {xs : Nat → Int32} {Q : State → Prop} {I J : ST → ST → Prop} (B : zC X 4 (wdC cI cZ cS cD cE tL tH tA) cL_law RL ret room_1) (hX : va_X b Ls xs X.2.2.2.2.1 X.2.2.2.2.1.heap) (hbl : b < X.2.2.2.2.1.heap.size) (hbA : ¬ X.2.2.2.2.2.2.2.2.2.2.2 b) (hkn : k ≤ room_1.cells ∧ n ≤ room_1.slots) (hLs : Ls < 2 ^ 31) (hi : i + 4 ≤ Ls) (hs : Sm_replay N I J) (ih : ∀ τ ρ : ST, J τ ρ → zA X 4 Q k n 1182 [(0, .ref b), (1, .ref (adr 600)), (2, .ref (adrR 0)), (3, .int (nI i))] [] ((wfT adr cI cZ cS cD cE τ) ++ (wfR adrR cI cZ ρ))) (τ ρ : ST) (hI : I τ ρ) : zA X 4 Q k n 869 [(0, .ref b), (1, .ref (adr 600)), (2, .ref (adrR 0)), (3, .int (nI i))] [] ((wfT adr cI cZ cS cD cE τ) ++ (wfR adrR cI cZ ρ)) := by
  obtain ⟨r, τ', ρ', h1, h2, h3⟩ := hs τ ρ (xs (i + 1)) (xs (i + 2)) (xs (i + 3)) hI
  refine za_aload_n B dL_law_869 1 rfl rfl ?_
  refine za_aload_n B dL_law_870 0 rfl rfl ?_
  refine za_iload_n B dL_law_871 3 rfl rfl ?_
  refine za_iconst B (1) dL_law_872 zc_iconst_1 ?_
  refine za_iadd B (v := nI (i + 1)) (nI_1 i) dL_law_873 ?_
  refine za_sld B hX hbl hbA (j := i + 1) (by omega) hLs dL_law_874 ?_
  refine za_aload_n B dL_law_875 0 rfl rfl ?_
  refine za_iload_n B dL_law_876 3 rfl rfl ?_
  refine za_iconst B (2) dL_law_877 zc_iconst_2 ?_
  refine za_iadd B (v := nI (i + 2)) (nI_add i 2) dL_law_878 ?_
  refine za_sld B hX hbl hbA (j := i + 2) (by omega) hLs dL_law_879 ?_
  refine za_aload_n B dL_law_880 0 rfl rfl ?_
  refine za_iload_n B dL_law_881 3 rfl rfl ?_
  refine za_iconst B (3) dL_law_882 zc_iconst_3 ?_
  refine za_iadd B (v := nI (i + 3)) (nI_add i 3) dL_law_883 ?_
  refine za_sld B hX hbl hbA (j := i + 3) (by omega) hLs dL_law_884 ?_
  refine za_callW B (wd' := wdT adr cI cZ cS cD cE tL tH) (σ := τ) (wr := (wfR adrR cI cZ ρ)) (ws1 := (wfT adr cI cZ cS cD cE τ') ++ (wfR adrR cI cZ ρ)) (q := (r, τ')) (As := [.int (xs (i + 1)), .int (xs (i + 2)), .int (xs (i + 3))]) (rest := []) kcV_L_111 dL_law_885 (cT_X7_replay (r, τ') h1) wT_o_P rfl rfl sfE_ok (fun _ _ _ h => h.1.1) (fun _ _ h => h) rfl rfl (Nat.le_of_ble_eq_true rfl) rfl rfl ⟨(Nat.le_of_ble_eq_true rfl), (Nat.le_of_ble_eq_true rfl)⟩ hkn (List.Perm.refl _) (List.Perm.refl _) ?_
  refine za_aload_n B dL_law_888 2 rfl rfl ?_
  refine za_aload_n B dL_law_889 0 rfl rfl ?_
  refine za_iload_n B dL_law_890 3 rfl rfl ?_
  refine za_iconst B (1) dL_law_891 zc_iconst_1 ?_
  refine za_iadd B (v := nI (i + 1)) (nI_1 i) dL_law_892 ?_
  refine za_sld B hX hbl hbA (j := i + 1) (by omega) hLs dL_law_893 ?_
  refine za_aload_n B dL_law_894 0 rfl rfl ?_
  refine za_iload_n B dL_law_895 3 rfl rfl ?_
  refine za_iconst B (2) dL_law_896 zc_iconst_2 ?_
  refine za_iadd B (v := nI (i + 2)) (nI_add i 2) dL_law_897 ?_
  refine za_sld B hX hbl hbA (j := i + 2) (by omega) hLs dL_law_898 ?_
  refine za_aload_n B dL_law_899 0 rfl rfl ?_
  refine za_iload_n B dL_law_900 3 rfl rfl ?_
  refine za_iconst B (3) dL_law_901 zc_iconst_3 ?_
  refine za_iadd B (v := nI (i + 3)) (nI_add i 3) dL_law_902 ?_
  refine za_sld B hX hbl hbA (j := i + 3) (by omega) hLs dL_law_903 ?_
  refine za_callW B (wd' := wdR adrR cI cZ) (σ := ρ) (wr := (wfT adr cI cZ cS cD cE τ')) (ws1 := (wfT adr cI cZ cS cD cE τ') ++ (wfR adrR cI cZ ρ')) (q := (r, ρ')) (As := [.int (xs (i + 1)), .int (xs (i + 2)), .int (xs (i + 3))]) (rest := [.int r]) kcV_L_114 dL_law_904 (cR_replay (r, ρ') h2) wR_o rfl rfl sfR_ok (fun _ _ _ _ => trivial) (fun _ _ h => h.sub [0, 1] rfl) rfl rfl (Nat.le_of_ble_eq_true rfl) rfl rfl ⟨(Nat.le_of_ble_eq_true rfl), (Nat.le_of_ble_eq_true rfl)⟩ hkn List.perm_append_comm List.perm_append_comm ?_
  exact za_same B 1182 dL_law_907 (by decide) (ih τ' ρ' h3)
set_option maxRecDepth 20000 in
set_option maxHeartbeats 4000000 in
theorem lw_c24 {X : zX} {adr adrR : Nat → Nat} {cI cZ cS cD cE : ClassId} {tL tH tA b Ls k n N i : Nat} {xs : Nat → Int32} {Q : State → Prop} {I J : ST → ST → Prop} (B : zC X 4 (wdC cI cZ cS cD cE tL tH tA) cL_law RL ret room_1) (hX : va_X b Ls xs X.2.2.2.2.1 X.2.2.2.2.1.heap) (hbl : b < X.2.2.2.2.1.heap.size) (hbA : ¬ X.2.2.2.2.2.2.2.2.2.2.2 b) (hkn : k ≤ room_1.cells ∧ n ≤ room_1.slots) (hLs : Ls < 2 ^ 31) (hi : i + 4 ≤ Ls) (hs : Sm_forecast N I J) (ih : ∀ τ ρ : ST, J τ ρ → zA X 4 Q k n 1182 [(0, .ref b), (1, .ref (adr 600)), (2, .ref (adrR 0)), (3, .int (nI i))] [] ((wfT adr cI cZ cS cD cE τ) ++ (wfR adrR cI cZ ρ))) (τ ρ : ST) (hI : I τ ρ) : zA X 4 Q k n 912 [(0, .ref b), (1, .ref (adr 600)), (2, .ref (adrR 0)), (3, .int (nI i))] [] ((wfT adr cI cZ cS cD cE τ) ++ (wfR adrR cI cZ ρ)) := by
  obtain ⟨r, τ', ρ', h1, h2, h3⟩ := hs τ ρ (xs (i + 1)) (xs (i + 2)) hI
  refine za_aload_n B dL_law_912 1 rfl rfl ?_
  refine za_aload_n B dL_law_913 0 rfl rfl ?_
  refine za_iload_n B dL_law_914 3 rfl rfl ?_
  refine za_iconst B (1) dL_law_915 zc_iconst_1 ?_
  refine za_iadd B (v := nI (i + 1)) (nI_1 i) dL_law_916 ?_
  refine za_sld B hX hbl hbA (j := i + 1) (by omega) hLs dL_law_917 ?_
  refine za_aload_n B dL_law_918 0 rfl rfl ?_
  refine za_iload_n B dL_law_919 3 rfl rfl ?_
  refine za_iconst B (2) dL_law_920 zc_iconst_2 ?_
  refine za_iadd B (v := nI (i + 2)) (nI_add i 2) dL_law_921 ?_
  refine za_sld B hX hbl hbA (j := i + 2) (by omega) hLs dL_law_922 ?_
  refine za_callW B (wd' := wdT adr cI cZ cS cD cE tL tH) (σ := τ) (wr := (wfR adrR cI cZ ρ)) (ws1 := (wfT adr cI cZ cS cD cE τ') ++ (wfR adrR cI cZ ρ)) (q := (r, τ')) (As := [.int (xs (i + 1)), .int (xs (i + 2))]) (rest := []) kcV_L_115 dL_law_923 (cT_X7_forecast (r, τ') h1) wT_o_P rfl rfl sfE_ok (fun _ _ _ h => h.1.1) (fun _ _ h => h) rfl rfl (Nat.le_of_ble_eq_true rfl) rfl rfl ⟨(Nat.le_of_ble_eq_true rfl), (Nat.le_of_ble_eq_true rfl)⟩ hkn (List.Perm.refl _) (List.Perm.refl _) ?_
  refine za_aload_n B dL_law_926 2 rfl rfl ?_
  refine za_aload_n B dL_law_927 0 rfl rfl ?_
  refine za_iload_n B dL_law_928 3 rfl rfl ?_
  refine za_iconst B (1) dL_law_929 zc_iconst_1 ?_
  refine za_iadd B (v := nI (i + 1)) (nI_1 i) dL_law_930 ?_
  refine za_sld B hX hbl hbA (j := i + 1) (by omega) hLs dL_law_931 ?_
  refine za_aload_n B dL_law_932 0 rfl rfl ?_
  refine za_iload_n B dL_law_933 3 rfl rfl ?_
  refine za_iconst B (2) dL_law_934 zc_iconst_2 ?_
  refine za_iadd B (v := nI (i + 2)) (nI_add i 2) dL_law_935 ?_
  refine za_sld B hX hbl hbA (j := i + 2) (by omega) hLs dL_law_936 ?_
  refine za_callW B (wd' := wdR adrR cI cZ) (σ := ρ) (wr := (wfT adr cI cZ cS cD cE τ')) (ws1 := (wfT adr cI cZ cS cD cE τ') ++ (wfR adrR cI cZ ρ')) (q := (r, ρ')) (As := [.int (xs (i + 1)), .int (xs (i + 2))]) (rest := [.int r]) kcV_L_118 dL_law_937 (cR_forecast (r, ρ') h2) wR_o rfl rfl sfR_ok (fun _ _ _ _ => trivial) (fun _ _ h => h.sub [0, 1] rfl) rfl rfl (Nat.le_of_ble_eq_true rfl) rfl rfl ⟨(Nat.le_of_ble_eq_true rfl), (Nat.le_of_ble_eq_true rfl)⟩ hkn List.perm_append_comm List.perm_append_comm ?_
  exact za_same B 1182 dL_law_940 (by decide) (ih τ' ρ' h3)
set_option maxRecDepth 20000 in
set_option maxHeartbeats 4000000 in
theorem lw_c25 {X : zX} {adr adrR : Nat → Nat} {cI cZ cS cD cE : ClassId} {tL tH tA b Ls k n N i : Nat} {xs : Nat → Int32} {Q : State → Prop} {I J : ST → ST → Prop} (B : zC X 4 (wdC cI cZ cS cD cE tL tH tA) cL_law RL ret room_1) (hX : va_X b Ls xs X.2.2.2.2.1 X.2.2.2.2.1.heap) (hbl : b < X.2.2.2.2.1.heap.size) (hbA : ¬ X.2.2.2.2.2.2.2.2.2.2.2 b) (hkn : k ≤ room_1.cells ∧ n ≤ room_1.slots) (hLs : Ls < 2 ^ 31) (hi : i + 4 ≤ Ls) (hs : Sm_tune N I J) (ih : ∀ τ ρ : ST, J τ ρ → zA X 4 Q k n 1182 [(0, .ref b), (1, .ref (adr 600)), (2, .ref (adrR 0)), (3, .int (nI i))] [] ((wfT adr cI cZ cS cD cE τ) ++ (wfR adrR cI cZ ρ))) (τ ρ : ST) (hI : I τ ρ) : zA X 4 Q k n 945 [(0, .ref b), (1, .ref (adr 600)), (2, .ref (adrR 0)), (3, .int (nI i))] [] ((wfT adr cI cZ cS cD cE τ) ++ (wfR adrR cI cZ ρ)) := by
  obtain ⟨r, τ', ρ', h1, h2, h3⟩ := hs τ ρ (xs (i + 1)) hI
  refine za_aload_n B dL_law_945 1 rfl rfl ?_
  refine za_aload_n B dL_law_946 0 rfl rfl ?_
  refine za_iload_n B dL_law_947 3 rfl rfl ?_
  refine za_iconst B (1) dL_law_948 zc_iconst_1 ?_
  refine za_iadd B (v := nI (i + 1)) (nI_1 i) dL_law_949 ?_
  refine za_sld B hX hbl hbA (j := i + 1) (by omega) hLs dL_law_950 ?_
  refine za_callW B (wd' := wdT adr cI cZ cS cD cE tL tH) (σ := τ) (wr := (wfR adrR cI cZ ρ)) (ws1 := (wfT adr cI cZ cS cD cE τ') ++ (wfR adrR cI cZ ρ)) (q := (r, τ')) (As := [.int (xs (i + 1))]) (rest := []) kcV_L_119 dL_law_951 (cT_X7_tune (r, τ') h1) wT_o_P rfl rfl sfE_ok (fun _ _ _ h => h.1.1) (fun _ _ h => h) rfl rfl (Nat.le_of_ble_eq_true rfl) rfl rfl ⟨(Nat.le_of_ble_eq_true rfl), (Nat.le_of_ble_eq_true rfl)⟩ hkn (List.Perm.refl _) (List.Perm.refl _) ?_
  refine za_aload_n B dL_law_954 2 rfl rfl ?_
  refine za_aload_n B dL_law_955 0 rfl rfl ?_
  refine za_iload_n B dL_law_956 3 rfl rfl ?_
  refine za_iconst B (1) dL_law_957 zc_iconst_1 ?_
  refine za_iadd B (v := nI (i + 1)) (nI_1 i) dL_law_958 ?_
  refine za_sld B hX hbl hbA (j := i + 1) (by omega) hLs dL_law_959 ?_
  refine za_callW B (wd' := wdR adrR cI cZ) (σ := ρ) (wr := (wfT adr cI cZ cS cD cE τ')) (ws1 := (wfT adr cI cZ cS cD cE τ') ++ (wfR adrR cI cZ ρ')) (q := (r, ρ')) (As := [.int (xs (i + 1))]) (rest := [.int r]) kcV_L_122 dL_law_960 (cR_tune (r, ρ') h2) wR_o rfl rfl sfR_ok (fun _ _ _ _ => trivial) (fun _ _ h => h.sub [0, 1] rfl) rfl rfl (Nat.le_of_ble_eq_true rfl) rfl rfl ⟨(Nat.le_of_ble_eq_true rfl), (Nat.le_of_ble_eq_true rfl)⟩ hkn List.perm_append_comm List.perm_append_comm ?_
  exact za_same B 1182 dL_law_963 (by decide) (ih τ' ρ' h3)
set_option maxRecDepth 20000 in
set_option maxHeartbeats 4000000 in
theorem lw_c26 {X : zX} {adr adrR : Nat → Nat} {cI cZ cS cD cE : ClassId} {tL tH tA b Ls k n N i : Nat} {xs : Nat → Int32} {Q : State → Prop} {I J : ST → ST → Prop} (B : zC X 4 (wdC cI cZ cS cD cE tL tH tA) cL_law RL ret room_1) (hX : va_X b Ls xs X.2.2.2.2.1 X.2.2.2.2.1.heap) (hbl : b < X.2.2.2.2.1.heap.size) (hbA : ¬ X.2.2.2.2.2.2.2.2.2.2.2 b) (hkn : k ≤ room_1.cells ∧ n ≤ room_1.slots) (hLs : Ls < 2 ^ 31) (hi : i + 4 ≤ Ls) (hs : Sm_best N I J) (ih : ∀ τ ρ : ST, J τ ρ → zA X 4 Q k n 1182 [(0, .ref b), (1, .ref (adr 600)), (2, .ref (adrR 0)), (3, .int (nI i))] [] ((wfT adr cI cZ cS cD cE τ) ++ (wfR adrR cI cZ ρ))) (τ ρ : ST) (hI : I τ ρ) : zA X 4 Q k n 968 [(0, .ref b), (1, .ref (adr 600)), (2, .ref (adrR 0)), (3, .int (nI i))] [] ((wfT adr cI cZ cS cD cE τ) ++ (wfR adrR cI cZ ρ)) := by
  obtain ⟨r, τ', ρ', h1, h2, h3⟩ := hs τ ρ (xs (i + 1)) (xs (i + 2)) hI
  refine za_aload_n B dL_law_968 1 rfl rfl ?_
  refine za_aload_n B dL_law_969 0 rfl rfl ?_
  refine za_iload_n B dL_law_970 3 rfl rfl ?_
  refine za_iconst B (1) dL_law_971 zc_iconst_1 ?_
  refine za_iadd B (v := nI (i + 1)) (nI_1 i) dL_law_972 ?_
  refine za_sld B hX hbl hbA (j := i + 1) (by omega) hLs dL_law_973 ?_
  refine za_aload_n B dL_law_974 0 rfl rfl ?_
  refine za_iload_n B dL_law_975 3 rfl rfl ?_
  refine za_iconst B (2) dL_law_976 zc_iconst_2 ?_
  refine za_iadd B (v := nI (i + 2)) (nI_add i 2) dL_law_977 ?_
  refine za_sld B hX hbl hbA (j := i + 2) (by omega) hLs dL_law_978 ?_
  refine za_callW B (wd' := wdT adr cI cZ cS cD cE tL tH) (σ := τ) (wr := (wfR adrR cI cZ ρ)) (ws1 := (wfT adr cI cZ cS cD cE τ') ++ (wfR adrR cI cZ ρ)) (q := (r, τ')) (As := [.int (xs (i + 1)), .int (xs (i + 2))]) (rest := []) kcV_L_123 dL_law_979 (cT_X7_best (r, τ') h1) wT_o_P rfl rfl sfE_ok (fun _ _ _ h => h.1.1) (fun _ _ h => h) rfl rfl (Nat.le_of_ble_eq_true rfl) rfl rfl ⟨(Nat.le_of_ble_eq_true rfl), (Nat.le_of_ble_eq_true rfl)⟩ hkn (List.Perm.refl _) (List.Perm.refl _) ?_
  refine za_aload_n B dL_law_982 2 rfl rfl ?_
  refine za_aload_n B dL_law_983 0 rfl rfl ?_
  refine za_iload_n B dL_law_984 3 rfl rfl ?_
  refine za_iconst B (1) dL_law_985 zc_iconst_1 ?_
  refine za_iadd B (v := nI (i + 1)) (nI_1 i) dL_law_986 ?_
  refine za_sld B hX hbl hbA (j := i + 1) (by omega) hLs dL_law_987 ?_
  refine za_aload_n B dL_law_988 0 rfl rfl ?_
  refine za_iload_n B dL_law_989 3 rfl rfl ?_
  refine za_iconst B (2) dL_law_990 zc_iconst_2 ?_
  refine za_iadd B (v := nI (i + 2)) (nI_add i 2) dL_law_991 ?_
  refine za_sld B hX hbl hbA (j := i + 2) (by omega) hLs dL_law_992 ?_
  refine za_callW B (wd' := wdR adrR cI cZ) (σ := ρ) (wr := (wfT adr cI cZ cS cD cE τ')) (ws1 := (wfT adr cI cZ cS cD cE τ') ++ (wfR adrR cI cZ ρ')) (q := (r, ρ')) (As := [.int (xs (i + 1)), .int (xs (i + 2))]) (rest := [.int r]) kcV_L_126 dL_law_993 (cR_best (r, ρ') h2) wR_o rfl rfl sfR_ok (fun _ _ _ _ => trivial) (fun _ _ h => h.sub [0, 1] rfl) rfl rfl (Nat.le_of_ble_eq_true rfl) rfl rfl ⟨(Nat.le_of_ble_eq_true rfl), (Nat.le_of_ble_eq_true rfl)⟩ hkn List.perm_append_comm List.perm_append_comm ?_
  exact za_same B 1182 dL_law_996 (by decide) (ih τ' ρ' h3)
set_option maxRecDepth 20000 in
set_option maxHeartbeats 4000000 in
theorem lw_c27 {X : zX} {adr adrR : Nat → Nat} {cI cZ cS cD cE : ClassId} {tL tH tA b Ls k n N i : Nat} {xs : Nat → Int32} {Q : State → Prop} {I J : ST → ST → Prop} (B : zC X 4 (wdC cI cZ cS cD cE tL tH tA) cL_law RL ret room_1) (hX : va_X b Ls xs X.2.2.2.2.1 X.2.2.2.2.1.heap) (hbl : b < X.2.2.2.2.1.heap.size) (hbA : ¬ X.2.2.2.2.2.2.2.2.2.2.2 b) (hkn : k ≤ room_1.cells ∧ n ≤ room_1.slots) (hLs : Ls < 2 ^ 31) (hi : i + 4 ≤ Ls) (hs : Sm_misses N I J) (ih : ∀ τ ρ : ST, J τ ρ → zA X 4 Q k n 1182 [(0, .ref b), (1, .ref (adr 600)), (2, .ref (adrR 0)), (3, .int (nI i))] [] ((wfT adr cI cZ cS cD cE τ) ++ (wfR adrR cI cZ ρ))) (τ ρ : ST) (hI : I τ ρ) : zA X 4 Q k n 1001 [(0, .ref b), (1, .ref (adr 600)), (2, .ref (adrR 0)), (3, .int (nI i))] [] ((wfT adr cI cZ cS cD cE τ) ++ (wfR adrR cI cZ ρ)) := by
  obtain ⟨r, τ', ρ', h1, h2, h3⟩ := hs τ ρ (xs (i + 1)) (xs (i + 2)) hI
  refine za_aload_n B dL_law_1001 1 rfl rfl ?_
  refine za_aload_n B dL_law_1002 0 rfl rfl ?_
  refine za_iload_n B dL_law_1003 3 rfl rfl ?_
  refine za_iconst B (1) dL_law_1004 zc_iconst_1 ?_
  refine za_iadd B (v := nI (i + 1)) (nI_1 i) dL_law_1005 ?_
  refine za_sld B hX hbl hbA (j := i + 1) (by omega) hLs dL_law_1006 ?_
  refine za_aload_n B dL_law_1007 0 rfl rfl ?_
  refine za_iload_n B dL_law_1008 3 rfl rfl ?_
  refine za_iconst B (2) dL_law_1009 zc_iconst_2 ?_
  refine za_iadd B (v := nI (i + 2)) (nI_add i 2) dL_law_1010 ?_
  refine za_sld B hX hbl hbA (j := i + 2) (by omega) hLs dL_law_1011 ?_
  refine za_callW B (wd' := wdT adr cI cZ cS cD cE tL tH) (σ := τ) (wr := (wfR adrR cI cZ ρ)) (ws1 := (wfT adr cI cZ cS cD cE τ') ++ (wfR adrR cI cZ ρ)) (q := (r, τ')) (As := [.int (xs (i + 1)), .int (xs (i + 2))]) (rest := []) kcV_L_127 dL_law_1012 (cT_X7_misses (r, τ') h1) wT_o_P rfl rfl sfE_ok (fun _ _ _ h => h.1.1) (fun _ _ h => h) rfl rfl (Nat.le_of_ble_eq_true rfl) rfl rfl ⟨(Nat.le_of_ble_eq_true rfl), (Nat.le_of_ble_eq_true rfl)⟩ hkn (List.Perm.refl _) (List.Perm.refl _) ?_
  refine za_aload_n B dL_law_1015 2 rfl rfl ?_
  refine za_aload_n B dL_law_1016 0 rfl rfl ?_
  refine za_iload_n B dL_law_1017 3 rfl rfl ?_
  refine za_iconst B (1) dL_law_1018 zc_iconst_1 ?_
  refine za_iadd B (v := nI (i + 1)) (nI_1 i) dL_law_1019 ?_
  refine za_sld B hX hbl hbA (j := i + 1) (by omega) hLs dL_law_1020 ?_
  refine za_aload_n B dL_law_1021 0 rfl rfl ?_
  refine za_iload_n B dL_law_1022 3 rfl rfl ?_
  refine za_iconst B (2) dL_law_1023 zc_iconst_2 ?_
  refine za_iadd B (v := nI (i + 2)) (nI_add i 2) dL_law_1024 ?_
  refine za_sld B hX hbl hbA (j := i + 2) (by omega) hLs dL_law_1025 ?_
  refine za_callW B (wd' := wdR adrR cI cZ) (σ := ρ) (wr := (wfT adr cI cZ cS cD cE τ')) (ws1 := (wfT adr cI cZ cS cD cE τ') ++ (wfR adrR cI cZ ρ')) (q := (r, ρ')) (As := [.int (xs (i + 1)), .int (xs (i + 2))]) (rest := [.int r]) kcV_L_130 dL_law_1026 (cR_misses (r, ρ') h2) wR_o rfl rfl sfR_ok (fun _ _ _ _ => trivial) (fun _ _ h => h.sub [0, 1] rfl) rfl rfl (Nat.le_of_ble_eq_true rfl) rfl rfl ⟨(Nat.le_of_ble_eq_true rfl), (Nat.le_of_ble_eq_true rfl)⟩ hkn List.perm_append_comm List.perm_append_comm ?_
  exact za_same B 1182 dL_law_1029 (by decide) (ih τ' ρ' h3)
set_option maxRecDepth 20000 in
set_option maxHeartbeats 4000000 in
theorem lw_c28 {X : zX} {adr adrR : Nat → Nat} {cI cZ cS cD cE : ClassId} {tL tH tA b Ls k n N i : Nat} {xs : Nat → Int32} {Q : State → Prop} {I J : ST → ST → Prop} (B : zC X 4 (wdC cI cZ cS cD cE tL tH tA) cL_law RL ret room_1) (hX : va_X b Ls xs X.2.2.2.2.1 X.2.2.2.2.1.heap) (hbl : b < X.2.2.2.2.1.heap.size) (hbA : ¬ X.2.2.2.2.2.2.2.2.2.2.2 b) (hkn : k ≤ room_1.cells ∧ n ≤ room_1.slots) (hLs : Ls < 2 ^ 31) (hi : i + 4 ≤ Ls) (hs : Sm_row N I J) (ih : ∀ τ ρ : ST, J τ ρ → zA X 4 Q k n 1182 [(0, .ref b), (1, .ref (adr 600)), (2, .ref (adrR 0)), (3, .int (nI i))] [] ((wfT adr cI cZ cS cD cE τ) ++ (wfR adrR cI cZ ρ))) (τ ρ : ST) (hI : I τ ρ) : zA X 4 Q k n 1034 [(0, .ref b), (1, .ref (adr 600)), (2, .ref (adrR 0)), (3, .int (nI i))] [] ((wfT adr cI cZ cS cD cE τ) ++ (wfR adrR cI cZ ρ)) := by
  obtain ⟨r, τ', ρ', h1, h2, h3⟩ := hs τ ρ (xs (i + 1)) (xs (i + 2)) hI
  refine za_aload_n B dL_law_1034 1 rfl rfl ?_
  refine za_aload_n B dL_law_1035 0 rfl rfl ?_
  refine za_iload_n B dL_law_1036 3 rfl rfl ?_
  refine za_iconst B (1) dL_law_1037 zc_iconst_1 ?_
  refine za_iadd B (v := nI (i + 1)) (nI_1 i) dL_law_1038 ?_
  refine za_sld B hX hbl hbA (j := i + 1) (by omega) hLs dL_law_1039 ?_
  refine za_aload_n B dL_law_1040 0 rfl rfl ?_
  refine za_iload_n B dL_law_1041 3 rfl rfl ?_
  refine za_iconst B (2) dL_law_1042 zc_iconst_2 ?_
  refine za_iadd B (v := nI (i + 2)) (nI_add i 2) dL_law_1043 ?_
  refine za_sld B hX hbl hbA (j := i + 2) (by omega) hLs dL_law_1044 ?_
  refine za_callW B (wd' := wdT adr cI cZ cS cD cE tL tH) (σ := τ) (wr := (wfR adrR cI cZ ρ)) (ws1 := (wfT adr cI cZ cS cD cE τ') ++ (wfR adrR cI cZ ρ)) (q := (r, τ')) (As := [.int (xs (i + 1)), .int (xs (i + 2))]) (rest := []) kcV_L_131 dL_law_1045 (cT_X7_row (r, τ') h1) wT_o_P rfl rfl sfE_ok (fun _ _ _ h => h.1.1) (fun _ _ h => h) rfl rfl (Nat.le_of_ble_eq_true rfl) rfl rfl ⟨(Nat.le_of_ble_eq_true rfl), (Nat.le_of_ble_eq_true rfl)⟩ hkn (List.Perm.refl _) (List.Perm.refl _) ?_
  refine za_aload_n B dL_law_1048 2 rfl rfl ?_
  refine za_aload_n B dL_law_1049 0 rfl rfl ?_
  refine za_iload_n B dL_law_1050 3 rfl rfl ?_
  refine za_iconst B (1) dL_law_1051 zc_iconst_1 ?_
  refine za_iadd B (v := nI (i + 1)) (nI_1 i) dL_law_1052 ?_
  refine za_sld B hX hbl hbA (j := i + 1) (by omega) hLs dL_law_1053 ?_
  refine za_aload_n B dL_law_1054 0 rfl rfl ?_
  refine za_iload_n B dL_law_1055 3 rfl rfl ?_
  refine za_iconst B (2) dL_law_1056 zc_iconst_2 ?_
  refine za_iadd B (v := nI (i + 2)) (nI_add i 2) dL_law_1057 ?_
  refine za_sld B hX hbl hbA (j := i + 2) (by omega) hLs dL_law_1058 ?_
  refine za_callW B (wd' := wdR adrR cI cZ) (σ := ρ) (wr := (wfT adr cI cZ cS cD cE τ')) (ws1 := (wfT adr cI cZ cS cD cE τ') ++ (wfR adrR cI cZ ρ')) (q := (r, ρ')) (As := [.int (xs (i + 1)), .int (xs (i + 2))]) (rest := [.int r]) kcV_L_134 dL_law_1059 (cR_row (r, ρ') h2) wR_o rfl rfl sfR_ok (fun _ _ _ _ => trivial) (fun _ _ h => h.sub [0, 1] rfl) rfl rfl (Nat.le_of_ble_eq_true rfl) rfl rfl ⟨(Nat.le_of_ble_eq_true rfl), (Nat.le_of_ble_eq_true rfl)⟩ hkn List.perm_append_comm List.perm_append_comm ?_
  exact za_same B 1182 dL_law_1062 (by decide) (ih τ' ρ' h3)
set_option maxRecDepth 20000 in
set_option maxHeartbeats 4000000 in
theorem lw_c29 {X : zX} {adr adrR : Nat → Nat} {cI cZ cS cD cE : ClassId} {tL tH tA b Ls k n N i : Nat} {xs : Nat → Int32} {Q : State → Prop} {I J : ST → ST → Prop} (B : zC X 4 (wdC cI cZ cS cD cE tL tH tA) cL_law RL ret room_1) (hX : va_X b Ls xs X.2.2.2.2.1 X.2.2.2.2.1.heap) (hbl : b < X.2.2.2.2.1.heap.size) (hbA : ¬ X.2.2.2.2.2.2.2.2.2.2.2 b) (hkn : k ≤ room_1.cells ∧ n ≤ room_1.slots) (hLs : Ls < 2 ^ 31) (hi : i + 4 ≤ Ls) (hs : Sm_pace N I J) (ih : ∀ τ ρ : ST, J τ ρ → zA X 4 Q k n 1182 [(0, .ref b), (1, .ref (adr 600)), (2, .ref (adrR 0)), (3, .int (nI i))] [] ((wfT adr cI cZ cS cD cE τ) ++ (wfR adrR cI cZ ρ))) (τ ρ : ST) (hI : I τ ρ) : zA X 4 Q k n 1067 [(0, .ref b), (1, .ref (adr 600)), (2, .ref (adrR 0)), (3, .int (nI i))] [] ((wfT adr cI cZ cS cD cE τ) ++ (wfR adrR cI cZ ρ)) := by
  obtain ⟨r, τ', ρ', h1, h2, h3⟩ := hs τ ρ (xs (i + 1)) hI
  refine za_aload_n B dL_law_1067 1 rfl rfl ?_
  refine za_aload_n B dL_law_1068 0 rfl rfl ?_
  refine za_iload_n B dL_law_1069 3 rfl rfl ?_
  refine za_iconst B (1) dL_law_1070 zc_iconst_1 ?_
  refine za_iadd B (v := nI (i + 1)) (nI_1 i) dL_law_1071 ?_
  refine za_sld B hX hbl hbA (j := i + 1) (by omega) hLs dL_law_1072 ?_
  refine za_callW B (wd' := wdT adr cI cZ cS cD cE tL tH) (σ := τ) (wr := (wfR adrR cI cZ ρ)) (ws1 := (wfT adr cI cZ cS cD cE τ') ++ (wfR adrR cI cZ ρ)) (q := (r, τ')) (As := [.int (xs (i + 1))]) (rest := []) kcV_L_135 dL_law_1073 (cT_X7_pace (r, τ') h1) wT_o_P rfl rfl sfE_ok (fun _ _ _ h => h.1.1) (fun _ _ h => h) rfl rfl (Nat.le_of_ble_eq_true rfl) rfl rfl ⟨(Nat.le_of_ble_eq_true rfl), (Nat.le_of_ble_eq_true rfl)⟩ hkn (List.Perm.refl _) (List.Perm.refl _) ?_
  refine za_aload_n B dL_law_1076 2 rfl rfl ?_
  refine za_aload_n B dL_law_1077 0 rfl rfl ?_
  refine za_iload_n B dL_law_1078 3 rfl rfl ?_
  refine za_iconst B (1) dL_law_1079 zc_iconst_1 ?_
  refine za_iadd B (v := nI (i + 1)) (nI_1 i) dL_law_1080 ?_
  refine za_sld B hX hbl hbA (j := i + 1) (by omega) hLs dL_law_1081 ?_
  refine za_callW B (wd' := wdR adrR cI cZ) (σ := ρ) (wr := (wfT adr cI cZ cS cD cE τ')) (ws1 := (wfT adr cI cZ cS cD cE τ') ++ (wfR adrR cI cZ ρ')) (q := (r, ρ')) (As := [.int (xs (i + 1))]) (rest := [.int r]) kcV_L_138 dL_law_1082 (cR_pace (r, ρ') h2) wR_o rfl rfl sfR_ok (fun _ _ _ _ => trivial) (fun _ _ h => h.sub [0, 1] rfl) rfl rfl (Nat.le_of_ble_eq_true rfl) rfl rfl ⟨(Nat.le_of_ble_eq_true rfl), (Nat.le_of_ble_eq_true rfl)⟩ hkn List.perm_append_comm List.perm_append_comm ?_
  exact za_same B 1182 dL_law_1085 (by decide) (ih τ' ρ' h3)
set_option maxRecDepth 20000 in
set_option maxHeartbeats 4000000 in
theorem lw_c30 {X : zX} {adr adrR : Nat → Nat} {cI cZ cS cD cE : ClassId} {tL tH tA b Ls k n N i : Nat} {xs : Nat → Int32} {Q : State → Prop} {I J : ST → ST → Prop} (B : zC X 4 (wdC cI cZ cS cD cE tL tH tA) cL_law RL ret room_1) (hX : va_X b Ls xs X.2.2.2.2.1 X.2.2.2.2.1.heap) (hbl : b < X.2.2.2.2.1.heap.size) (hbA : ¬ X.2.2.2.2.2.2.2.2.2.2.2 b) (hkn : k ≤ room_1.cells ∧ n ≤ room_1.slots) (hLs : Ls < 2 ^ 31) (hi : i + 4 ≤ Ls) (hs : Sm_until N I J) (ih : ∀ τ ρ : ST, J τ ρ → zA X 4 Q k n 1182 [(0, .ref b), (1, .ref (adr 600)), (2, .ref (adrR 0)), (3, .int (nI i))] [] ((wfT adr cI cZ cS cD cE τ) ++ (wfR adrR cI cZ ρ))) (τ ρ : ST) (hI : I τ ρ) : zA X 4 Q k n 1090 [(0, .ref b), (1, .ref (adr 600)), (2, .ref (adrR 0)), (3, .int (nI i))] [] ((wfT adr cI cZ cS cD cE τ) ++ (wfR adrR cI cZ ρ)) := by
  obtain ⟨r, τ', ρ', h1, h2, h3⟩ := hs τ ρ (xs (i + 1)) hI
  refine za_aload_n B dL_law_1090 1 rfl rfl ?_
  refine za_aload_n B dL_law_1091 0 rfl rfl ?_
  refine za_iload_n B dL_law_1092 3 rfl rfl ?_
  refine za_iconst B (1) dL_law_1093 zc_iconst_1 ?_
  refine za_iadd B (v := nI (i + 1)) (nI_1 i) dL_law_1094 ?_
  refine za_sld B hX hbl hbA (j := i + 1) (by omega) hLs dL_law_1095 ?_
  refine za_callW B (wd' := wdT adr cI cZ cS cD cE tL tH) (σ := τ) (wr := (wfR adrR cI cZ ρ)) (ws1 := (wfT adr cI cZ cS cD cE τ') ++ (wfR adrR cI cZ ρ)) (q := (r, τ')) (As := [.int (xs (i + 1))]) (rest := []) kcV_L_139 dL_law_1096 (cT_X7_until (r, τ') h1) wT_o_P rfl rfl sfE_ok (fun _ _ _ h => h.1.1) (fun _ _ h => h) rfl rfl (Nat.le_of_ble_eq_true rfl) rfl rfl ⟨(Nat.le_of_ble_eq_true rfl), (Nat.le_of_ble_eq_true rfl)⟩ hkn (List.Perm.refl _) (List.Perm.refl _) ?_
  refine za_aload_n B dL_law_1099 2 rfl rfl ?_
  refine za_aload_n B dL_law_1100 0 rfl rfl ?_
  refine za_iload_n B dL_law_1101 3 rfl rfl ?_
  refine za_iconst B (1) dL_law_1102 zc_iconst_1 ?_
  refine za_iadd B (v := nI (i + 1)) (nI_1 i) dL_law_1103 ?_
  refine za_sld B hX hbl hbA (j := i + 1) (by omega) hLs dL_law_1104 ?_
  refine za_callW B (wd' := wdR adrR cI cZ) (σ := ρ) (wr := (wfT adr cI cZ cS cD cE τ')) (ws1 := (wfT adr cI cZ cS cD cE τ') ++ (wfR adrR cI cZ ρ')) (q := (r, ρ')) (As := [.int (xs (i + 1))]) (rest := [.int r]) kcV_L_142 dL_law_1105 (cR_until (r, ρ') h2) wR_o rfl rfl sfR_ok (fun _ _ _ _ => trivial) (fun _ _ h => h.sub [0, 1] rfl) rfl rfl (Nat.le_of_ble_eq_true rfl) rfl rfl ⟨(Nat.le_of_ble_eq_true rfl), (Nat.le_of_ble_eq_true rfl)⟩ hkn List.perm_append_comm List.perm_append_comm ?_
  exact za_same B 1182 dL_law_1108 (by decide) (ih τ' ρ' h3)
set_option maxRecDepth 20000 in
set_option maxHeartbeats 4000000 in
theorem lw_c31 {X : zX} {adr adrR : Nat → Nat} {cI cZ cS cD cE : ClassId} {tL tH tA b Ls k n N i : Nat} {xs : Nat → Int32} {Q : State → Prop} {I J : ST → ST → Prop} (B : zC X 4 (wdC cI cZ cS cD cE tL tH tA) cL_law RL ret room_1) (hX : va_X b Ls xs X.2.2.2.2.1 X.2.2.2.2.1.heap) (hbl : b < X.2.2.2.2.1.heap.size) (hbA : ¬ X.2.2.2.2.2.2.2.2.2.2.2 b) (hkn : k ≤ room_1.cells ∧ n ≤ room_1.slots) (hLs : Ls < 2 ^ 31) (hi : i + 4 ≤ Ls) (hs : Sm_ahead N I J) (ih : ∀ τ ρ : ST, J τ ρ → zA X 4 Q k n 1182 [(0, .ref b), (1, .ref (adr 600)), (2, .ref (adrR 0)), (3, .int (nI i))] [] ((wfT adr cI cZ cS cD cE τ) ++ (wfR adrR cI cZ ρ))) (τ ρ : ST) (hI : I τ ρ) : zA X 4 Q k n 1113 [(0, .ref b), (1, .ref (adr 600)), (2, .ref (adrR 0)), (3, .int (nI i))] [] ((wfT adr cI cZ cS cD cE τ) ++ (wfR adrR cI cZ ρ)) := by
  obtain ⟨r, τ', ρ', h1, h2, h3⟩ := hs τ ρ (xs (i + 1)) hI
  refine za_aload_n B dL_law_1113 1 rfl rfl ?_
  refine za_aload_n B dL_law_1114 0 rfl rfl ?_
  refine za_iload_n B dL_law_1115 3 rfl rfl ?_
  refine za_iconst B (1) dL_law_1116 zc_iconst_1 ?_
  refine za_iadd B (v := nI (i + 1)) (nI_1 i) dL_law_1117 ?_
  refine za_sld B hX hbl hbA (j := i + 1) (by omega) hLs dL_law_1118 ?_
  refine za_callW B (wd' := wdT adr cI cZ cS cD cE tL tH) (σ := τ) (wr := (wfR adrR cI cZ ρ)) (ws1 := (wfT adr cI cZ cS cD cE τ') ++ (wfR adrR cI cZ ρ)) (q := (r, τ')) (As := [.int (xs (i + 1))]) (rest := []) kcV_L_143 dL_law_1119 (cT_X7_ahead (r, τ') h1) wT_o_P rfl rfl sfE_ok (fun _ _ _ h => h.1.1) (fun _ _ h => h) rfl rfl (Nat.le_of_ble_eq_true rfl) rfl rfl ⟨(Nat.le_of_ble_eq_true rfl), (Nat.le_of_ble_eq_true rfl)⟩ hkn (List.Perm.refl _) (List.Perm.refl _) ?_
  refine za_aload_n B dL_law_1122 2 rfl rfl ?_
  refine za_aload_n B dL_law_1123 0 rfl rfl ?_
  refine za_iload_n B dL_law_1124 3 rfl rfl ?_
  refine za_iconst B (1) dL_law_1125 zc_iconst_1 ?_
  refine za_iadd B (v := nI (i + 1)) (nI_1 i) dL_law_1126 ?_
  refine za_sld B hX hbl hbA (j := i + 1) (by omega) hLs dL_law_1127 ?_
  refine za_callW B (wd' := wdR adrR cI cZ) (σ := ρ) (wr := (wfT adr cI cZ cS cD cE τ')) (ws1 := (wfT adr cI cZ cS cD cE τ') ++ (wfR adrR cI cZ ρ')) (q := (r, ρ')) (As := [.int (xs (i + 1))]) (rest := [.int r]) kcV_L_146 dL_law_1128 (cR_ahead (r, ρ') h2) wR_o rfl rfl sfR_ok (fun _ _ _ _ => trivial) (fun _ _ h => h.sub [0, 1] rfl) rfl rfl (Nat.le_of_ble_eq_true rfl) rfl rfl ⟨(Nat.le_of_ble_eq_true rfl), (Nat.le_of_ble_eq_true rfl)⟩ hkn List.perm_append_comm List.perm_append_comm ?_
  exact za_same B 1182 dL_law_1131 (by decide) (ih τ' ρ' h3)
set_option maxRecDepth 20000 in
set_option maxHeartbeats 4000000 in
theorem lw_c32 {X : zX} {adr adrR : Nat → Nat} {cI cZ cS cD cE : ClassId} {tL tH tA b Ls k n N i : Nat} {xs : Nat → Int32} {Q : State → Prop} {I J : ST → ST → Prop} (B : zC X 4 (wdC cI cZ cS cD cE tL tH tA) cL_law RL ret room_1) (hX : va_X b Ls xs X.2.2.2.2.1 X.2.2.2.2.1.heap) (hbl : b < X.2.2.2.2.1.heap.size) (hbA : ¬ X.2.2.2.2.2.2.2.2.2.2.2 b) (hkn : k ≤ room_1.cells ∧ n ≤ room_1.slots) (hLs : Ls < 2 ^ 31) (hi : i + 4 ≤ Ls) (hs : Sm_habits N I J) (ih : ∀ τ ρ : ST, J τ ρ → zA X 4 Q k n 1182 [(0, .ref b), (1, .ref (adr 600)), (2, .ref (adrR 0)), (3, .int (nI i))] [] ((wfT adr cI cZ cS cD cE τ) ++ (wfR adrR cI cZ ρ))) (τ ρ : ST) (hI : I τ ρ) : zA X 4 Q k n 1136 [(0, .ref b), (1, .ref (adr 600)), (2, .ref (adrR 0)), (3, .int (nI i))] [] ((wfT adr cI cZ cS cD cE τ) ++ (wfR adrR cI cZ ρ)) := by
  obtain ⟨r, τ', ρ', h1, h2, h3⟩ := hs τ ρ (xs (i + 1)) hI
  refine za_aload_n B dL_law_1136 1 rfl rfl ?_
  refine za_aload_n B dL_law_1137 0 rfl rfl ?_
  refine za_iload_n B dL_law_1138 3 rfl rfl ?_
  refine za_iconst B (1) dL_law_1139 zc_iconst_1 ?_
  refine za_iadd B (v := nI (i + 1)) (nI_1 i) dL_law_1140 ?_
  refine za_sld B hX hbl hbA (j := i + 1) (by omega) hLs dL_law_1141 ?_
  refine za_callW B (wd' := wdT adr cI cZ cS cD cE tL tH) (σ := τ) (wr := (wfR adrR cI cZ ρ)) (ws1 := (wfT adr cI cZ cS cD cE τ') ++ (wfR adrR cI cZ ρ)) (q := (r, τ')) (As := [.int (xs (i + 1))]) (rest := []) kcV_L_147 dL_law_1142 (cT_X7_habits (r, τ') h1) wT_o_P rfl rfl sfE_ok (fun _ _ _ h => h.1.1) (fun _ _ h => h) rfl rfl (Nat.le_of_ble_eq_true rfl) rfl rfl ⟨(Nat.le_of_ble_eq_true rfl), (Nat.le_of_ble_eq_true rfl)⟩ hkn (List.Perm.refl _) (List.Perm.refl _) ?_
  refine za_aload_n B dL_law_1145 2 rfl rfl ?_
  refine za_aload_n B dL_law_1146 0 rfl rfl ?_
  refine za_iload_n B dL_law_1147 3 rfl rfl ?_
  refine za_iconst B (1) dL_law_1148 zc_iconst_1 ?_
  refine za_iadd B (v := nI (i + 1)) (nI_1 i) dL_law_1149 ?_
  refine za_sld B hX hbl hbA (j := i + 1) (by omega) hLs dL_law_1150 ?_
  refine za_callW B (wd' := wdR adrR cI cZ) (σ := ρ) (wr := (wfT adr cI cZ cS cD cE τ')) (ws1 := (wfT adr cI cZ cS cD cE τ') ++ (wfR adrR cI cZ ρ')) (q := (r, ρ')) (As := [.int (xs (i + 1))]) (rest := [.int r]) kcV_L_150 dL_law_1151 (cR_habits (r, ρ') h2) wR_o rfl rfl sfR_ok (fun _ _ _ _ => trivial) (fun _ _ h => h.sub [0, 1] rfl) rfl rfl (Nat.le_of_ble_eq_true rfl) rfl rfl ⟨(Nat.le_of_ble_eq_true rfl), (Nat.le_of_ble_eq_true rfl)⟩ hkn List.perm_append_comm List.perm_append_comm ?_
  exact za_same B 1182 dL_law_1154 (by decide) (ih τ' ρ' h3)
set_option maxRecDepth 20000 in
set_option maxHeartbeats 4000000 in
theorem lw_c33 {X : zX} {adr adrR : Nat → Nat} {cI cZ cS cD cE : ClassId} {tL tH tA b Ls k n N i : Nat} {xs : Nat → Int32} {Q : State → Prop} {I J : ST → ST → Prop} (B : zC X 4 (wdC cI cZ cS cD cE tL tH tA) cL_law RL ret room_1) (hX : va_X b Ls xs X.2.2.2.2.1 X.2.2.2.2.1.heap) (hbl : b < X.2.2.2.2.1.heap.size) (hbA : ¬ X.2.2.2.2.2.2.2.2.2.2.2 b) (hkn : k ≤ room_1.cells ∧ n ≤ room_1.slots) (hLs : Ls < 2 ^ 31) (hi : i + 4 ≤ Ls) (hs : Sm_count N I J) (ih : ∀ τ ρ : ST, J τ ρ → zA X 4 Q k n 1182 [(0, .ref b), (1, .ref (adr 600)), (2, .ref (adrR 0)), (3, .int (nI i))] [] ((wfT adr cI cZ cS cD cE τ) ++ (wfR adrR cI cZ ρ))) (τ ρ : ST) (hI : I τ ρ) : zA X 4 Q k n 1159 [(0, .ref b), (1, .ref (adr 600)), (2, .ref (adrR 0)), (3, .int (nI i))] [] ((wfT adr cI cZ cS cD cE τ) ++ (wfR adrR cI cZ ρ)) := by
  obtain ⟨r, τ', ρ', h1, h2, h3⟩ := hs τ ρ (xs (i + 1)) hI
  refine za_aload_n B dL_law_1159 1 rfl rfl ?_
  refine za_aload_n B dL_law_1160 0 rfl rfl ?_
  refine za_iload_n B dL_law_1161 3 rfl rfl ?_
  refine za_iconst B (1) dL_law_1162 zc_iconst_1 ?_
  refine za_iadd B (v := nI (i + 1)) (nI_1 i) dL_law_1163 ?_
  refine za_sld B hX hbl hbA (j := i + 1) (by omega) hLs dL_law_1164 ?_
  refine za_callW B (wd' := wdT adr cI cZ cS cD cE tL tH) (σ := τ) (wr := (wfR adrR cI cZ ρ)) (ws1 := (wfT adr cI cZ cS cD cE τ') ++ (wfR adrR cI cZ ρ)) (q := (r, τ')) (As := [.int (xs (i + 1))]) (rest := []) kcV_L_151 dL_law_1165 (cT_X7_count (r, τ') h1) wT_o_P rfl rfl sfE_ok (fun _ _ _ h => h.1.1) (fun _ _ h => h) rfl rfl (Nat.le_of_ble_eq_true rfl) rfl rfl ⟨(Nat.le_of_ble_eq_true rfl), (Nat.le_of_ble_eq_true rfl)⟩ hkn (List.Perm.refl _) (List.Perm.refl _) ?_
  refine za_aload_n B dL_law_1168 2 rfl rfl ?_
  refine za_aload_n B dL_law_1169 0 rfl rfl ?_
  refine za_iload_n B dL_law_1170 3 rfl rfl ?_
  refine za_iconst B (1) dL_law_1171 zc_iconst_1 ?_
  refine za_iadd B (v := nI (i + 1)) (nI_1 i) dL_law_1172 ?_
  refine za_sld B hX hbl hbA (j := i + 1) (by omega) hLs dL_law_1173 ?_
  refine za_callW B (wd' := wdR adrR cI cZ) (σ := ρ) (wr := (wfT adr cI cZ cS cD cE τ')) (ws1 := (wfT adr cI cZ cS cD cE τ') ++ (wfR adrR cI cZ ρ')) (q := (r, ρ')) (As := [.int (xs (i + 1))]) (rest := [.int r]) kcV_L_154 dL_law_1174 (cR_count (r, ρ') h2) wR_o rfl rfl sfR_ok (fun _ _ _ _ => trivial) (fun _ _ h => h.sub [0, 1] rfl) rfl rfl (Nat.le_of_ble_eq_true rfl) rfl rfl ⟨(Nat.le_of_ble_eq_true rfl), (Nat.le_of_ble_eq_true rfl)⟩ hkn List.perm_append_comm List.perm_append_comm ?_
  exact za_same B 1182 dL_law_1177 (by decide) (ih τ' ρ' h3)
