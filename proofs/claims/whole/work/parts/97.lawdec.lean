theorem dRL_0 : decode code 0 = .ok (.new 7, 3) := by decide +kernel
theorem dRL_3 : decode code 3 = .ok (.dup, 1) := by decide +kernel
theorem dRL_4 : decode code 4 = .ok (.invokespecial 9, 3) := by decide +kernel
theorem dRL_7 : decode code 7 = .ok (.astore_n 1, 1) := by decide +kernel
theorem dRL_8 : decode code 8 = .ok (.new 10, 3) := by decide +kernel
theorem dRL_11 : decode code 11 = .ok (.dup, 1) := by decide +kernel
theorem dRL_12 : decode code 12 = .ok (.invokespecial 12, 3) := by decide +kernel
theorem dRL_15 : decode code 15 = .ok (.astore_n 2, 1) := by decide +kernel
theorem dRL_16 : decode code 16 = .ok (.iconst 0, 1) := by decide +kernel
theorem dRL_17 : decode code 17 = .ok (.istore_n 3, 1) := by decide +kernel
theorem dRL_18 : decode code 18 = .ok (.iload_n 3, 1) := by decide +kernel
theorem dRL_19 : decode code 19 = .ok (.aload_n 0, 1) := by decide +kernel
theorem dRL_20 : decode code 20 = .ok (.arraylength, 1) := by decide +kernel
theorem dRL_21 : decode code 21 = .ok (.bipush 7, 2) := by decide +kernel
theorem dRL_23 : decode code 23 = .ok (.isub, 1) := by decide +kernel
theorem dRL_24 : decode code 24 = .ok (.if_icmp .gt 1135, 3) := by decide +kernel
theorem dRL_27 : decode code 27 = .ok (.aload_n 0, 1) := by decide +kernel
theorem dRL_28 : decode code 28 = .ok (.iload_n 3, 1) := by decide +kernel
theorem dRL_29 : decode code 29 = .ok (.iaload, 1) := by decide +kernel
theorem dRL_30 : decode code 30 = .ok (.bipush 31, 2) := by decide +kernel
theorem dRL_32 : decode code 32 = .ok (.iand, 1) := by decide +kernel
theorem dRL_33 : decode code 33 = .ok (.tableswitch 1120 0 28 #[131, 206, 249, 292, 305, 338, 371, 414, 457, 490, 523, 556, 579, 602, 615, 638, 661, 694, 737, 780, 823, 856, 889, 922, 935, 948, 971, 1014, 1057], 131) := by decide +kernel
theorem dRL_164 : decode code 164 = .ok (.aload_n 1, 1) := by decide +kernel
theorem dRL_165 : decode code 165 = .ok (.aload_n 0, 1) := by decide +kernel
theorem dRL_166 : decode code 166 = .ok (.iload_n 3, 1) := by decide +kernel
theorem dRL_167 : decode code 167 = .ok (.iconst 1, 1) := by decide +kernel
theorem dRL_168 : decode code 168 = .ok (.iadd, 1) := by decide +kernel
theorem dRL_169 : decode code 169 = .ok (.iaload, 1) := by decide +kernel
theorem dRL_170 : decode code 170 = .ok (.aload_n 0, 1) := by decide +kernel
theorem dRL_171 : decode code 171 = .ok (.iload_n 3, 1) := by decide +kernel
theorem dRL_172 : decode code 172 = .ok (.iconst 2, 1) := by decide +kernel
theorem dRL_173 : decode code 173 = .ok (.iadd, 1) := by decide +kernel
theorem dRL_174 : decode code 174 = .ok (.iaload, 1) := by decide +kernel
theorem dRL_175 : decode code 175 = .ok (.aload_n 0, 1) := by decide +kernel
theorem dRL_176 : decode code 176 = .ok (.iload_n 3, 1) := by decide +kernel
theorem dRL_177 : decode code 177 = .ok (.iconst 3, 1) := by decide +kernel
theorem dRL_178 : decode code 178 = .ok (.iadd, 1) := by decide +kernel
theorem dRL_179 : decode code 179 = .ok (.iaload, 1) := by decide +kernel
theorem dRL_180 : decode code 180 = .ok (.aload_n 0, 1) := by decide +kernel
theorem dRL_181 : decode code 181 = .ok (.iload_n 3, 1) := by decide +kernel
theorem dRL_182 : decode code 182 = .ok (.iconst 4, 1) := by decide +kernel
theorem dRL_183 : decode code 183 = .ok (.iadd, 1) := by decide +kernel
theorem dRL_184 : decode code 184 = .ok (.iaload, 1) := by decide +kernel
theorem dRL_185 : decode code 185 = .ok (.aload_n 0, 1) := by decide +kernel
theorem dRL_186 : decode code 186 = .ok (.iload_n 3, 1) := by decide +kernel
theorem dRL_187 : decode code 187 = .ok (.iconst 5, 1) := by decide +kernel
theorem dRL_188 : decode code 188 = .ok (.iadd, 1) := by decide +kernel
theorem dRL_189 : decode code 189 = .ok (.iaload, 1) := by decide +kernel
theorem dRL_190 : decode code 190 = .ok (.aload_n 0, 1) := by decide +kernel
theorem dRL_191 : decode code 191 = .ok (.iload_n 3, 1) := by decide +kernel
theorem dRL_192 : decode code 192 = .ok (.bipush 6, 2) := by decide +kernel
theorem dRL_194 : decode code 194 = .ok (.iadd, 1) := by decide +kernel
theorem dRL_195 : decode code 195 = .ok (.iaload, 1) := by decide +kernel
theorem dRL_196 : decode code 196 = .ok (.invokevirtual 13, 3) := by decide +kernel
theorem dRL_199 : decode code 199 = .ok (.aload_n 2, 1) := by decide +kernel
theorem dRL_200 : decode code 200 = .ok (.aload_n 0, 1) := by decide +kernel
theorem dRL_201 : decode code 201 = .ok (.iload_n 3, 1) := by decide +kernel
theorem dRL_202 : decode code 202 = .ok (.iconst 1, 1) := by decide +kernel
theorem dRL_203 : decode code 203 = .ok (.iadd, 1) := by decide +kernel
theorem dRL_204 : decode code 204 = .ok (.iaload, 1) := by decide +kernel
theorem dRL_205 : decode code 205 = .ok (.aload_n 0, 1) := by decide +kernel
theorem dRL_206 : decode code 206 = .ok (.iload_n 3, 1) := by decide +kernel
theorem dRL_207 : decode code 207 = .ok (.iconst 2, 1) := by decide +kernel
theorem dRL_208 : decode code 208 = .ok (.iadd, 1) := by decide +kernel
theorem dRL_209 : decode code 209 = .ok (.iaload, 1) := by decide +kernel
theorem dRL_210 : decode code 210 = .ok (.aload_n 0, 1) := by decide +kernel
theorem dRL_211 : decode code 211 = .ok (.iload_n 3, 1) := by decide +kernel
theorem dRL_212 : decode code 212 = .ok (.iconst 3, 1) := by decide +kernel
theorem dRL_213 : decode code 213 = .ok (.iadd, 1) := by decide +kernel
theorem dRL_214 : decode code 214 = .ok (.iaload, 1) := by decide +kernel
theorem dRL_215 : decode code 215 = .ok (.aload_n 0, 1) := by decide +kernel
theorem dRL_216 : decode code 216 = .ok (.iload_n 3, 1) := by decide +kernel
theorem dRL_217 : decode code 217 = .ok (.iconst 4, 1) := by decide +kernel
theorem dRL_218 : decode code 218 = .ok (.iadd, 1) := by decide +kernel
theorem dRL_219 : decode code 219 = .ok (.iaload, 1) := by decide +kernel
theorem dRL_220 : decode code 220 = .ok (.aload_n 0, 1) := by decide +kernel
theorem dRL_221 : decode code 221 = .ok (.iload_n 3, 1) := by decide +kernel
theorem dRL_222 : decode code 222 = .ok (.iconst 5, 1) := by decide +kernel
theorem dRL_223 : decode code 223 = .ok (.iadd, 1) := by decide +kernel
theorem dRL_224 : decode code 224 = .ok (.iaload, 1) := by decide +kernel
theorem dRL_225 : decode code 225 = .ok (.aload_n 0, 1) := by decide +kernel
theorem dRL_226 : decode code 226 = .ok (.iload_n 3, 1) := by decide +kernel
theorem dRL_227 : decode code 227 = .ok (.bipush 6, 2) := by decide +kernel
theorem dRL_229 : decode code 229 = .ok (.iadd, 1) := by decide +kernel
theorem dRL_230 : decode code 230 = .ok (.iaload, 1) := by decide +kernel
theorem dRL_231 : decode code 231 = .ok (.invokevirtual 17, 3) := by decide +kernel
theorem dRL_234 : decode code 234 = .ok (.if_icmp .eq 919, 3) := by decide +kernel
theorem dRL_237 : decode code 237 = .ok (.iconst 0, 1) := by decide +kernel
theorem dRL_238 : decode code 238 = .ok (.ireturn, 1) := by decide +kernel
theorem dRL_239 : decode code 239 = .ok (.aload_n 1, 1) := by decide +kernel
theorem dRL_240 : decode code 240 = .ok (.aload_n 0, 1) := by decide +kernel
theorem dRL_241 : decode code 241 = .ok (.iload_n 3, 1) := by decide +kernel
theorem dRL_242 : decode code 242 = .ok (.iconst 1, 1) := by decide +kernel
theorem dRL_243 : decode code 243 = .ok (.iadd, 1) := by decide +kernel
theorem dRL_244 : decode code 244 = .ok (.iaload, 1) := by decide +kernel
theorem dRL_245 : decode code 245 = .ok (.aload_n 0, 1) := by decide +kernel
theorem dRL_246 : decode code 246 = .ok (.iload_n 3, 1) := by decide +kernel
theorem dRL_247 : decode code 247 = .ok (.iconst 2, 1) := by decide +kernel
theorem dRL_248 : decode code 248 = .ok (.iadd, 1) := by decide +kernel
theorem dRL_249 : decode code 249 = .ok (.iaload, 1) := by decide +kernel
theorem dRL_250 : decode code 250 = .ok (.aload_n 0, 1) := by decide +kernel
theorem dRL_251 : decode code 251 = .ok (.iload_n 3, 1) := by decide +kernel
theorem dRL_252 : decode code 252 = .ok (.iconst 3, 1) := by decide +kernel
theorem dRL_253 : decode code 253 = .ok (.iadd, 1) := by decide +kernel
theorem dRL_254 : decode code 254 = .ok (.iaload, 1) := by decide +kernel
theorem dRL_255 : decode code 255 = .ok (.invokevirtual 18, 3) := by decide +kernel
theorem dRL_258 : decode code 258 = .ok (.aload_n 2, 1) := by decide +kernel
theorem dRL_259 : decode code 259 = .ok (.aload_n 0, 1) := by decide +kernel
theorem dRL_260 : decode code 260 = .ok (.iload_n 3, 1) := by decide +kernel
theorem dRL_261 : decode code 261 = .ok (.iconst 1, 1) := by decide +kernel
theorem dRL_262 : decode code 262 = .ok (.iadd, 1) := by decide +kernel
theorem dRL_263 : decode code 263 = .ok (.iaload, 1) := by decide +kernel
theorem dRL_264 : decode code 264 = .ok (.aload_n 0, 1) := by decide +kernel
theorem dRL_265 : decode code 265 = .ok (.iload_n 3, 1) := by decide +kernel
theorem dRL_266 : decode code 266 = .ok (.iconst 2, 1) := by decide +kernel
theorem dRL_267 : decode code 267 = .ok (.iadd, 1) := by decide +kernel
theorem dRL_268 : decode code 268 = .ok (.iaload, 1) := by decide +kernel
theorem dRL_269 : decode code 269 = .ok (.aload_n 0, 1) := by decide +kernel
theorem dRL_270 : decode code 270 = .ok (.iload_n 3, 1) := by decide +kernel
theorem dRL_271 : decode code 271 = .ok (.iconst 3, 1) := by decide +kernel
theorem dRL_272 : decode code 272 = .ok (.iadd, 1) := by decide +kernel
theorem dRL_273 : decode code 273 = .ok (.iaload, 1) := by decide +kernel
theorem dRL_274 : decode code 274 = .ok (.invokevirtual 22, 3) := by decide +kernel
theorem dRL_277 : decode code 277 = .ok (.if_icmp .eq 876, 3) := by decide +kernel
theorem dRL_280 : decode code 280 = .ok (.iconst 0, 1) := by decide +kernel
theorem dRL_281 : decode code 281 = .ok (.ireturn, 1) := by decide +kernel
theorem dRL_282 : decode code 282 = .ok (.aload_n 1, 1) := by decide +kernel
theorem dRL_283 : decode code 283 = .ok (.aload_n 0, 1) := by decide +kernel
theorem dRL_284 : decode code 284 = .ok (.iload_n 3, 1) := by decide +kernel
theorem dRL_285 : decode code 285 = .ok (.iconst 1, 1) := by decide +kernel
theorem dRL_286 : decode code 286 = .ok (.iadd, 1) := by decide +kernel
theorem dRL_287 : decode code 287 = .ok (.iaload, 1) := by decide +kernel
theorem dRL_288 : decode code 288 = .ok (.aload_n 0, 1) := by decide +kernel
theorem dRL_289 : decode code 289 = .ok (.iload_n 3, 1) := by decide +kernel
theorem dRL_290 : decode code 290 = .ok (.iconst 2, 1) := by decide +kernel
theorem dRL_291 : decode code 291 = .ok (.iadd, 1) := by decide +kernel
theorem dRL_292 : decode code 292 = .ok (.iaload, 1) := by decide +kernel
theorem dRL_293 : decode code 293 = .ok (.aload_n 0, 1) := by decide +kernel
theorem dRL_294 : decode code 294 = .ok (.iload_n 3, 1) := by decide +kernel
theorem dRL_295 : decode code 295 = .ok (.iconst 3, 1) := by decide +kernel
theorem dRL_296 : decode code 296 = .ok (.iadd, 1) := by decide +kernel
theorem dRL_297 : decode code 297 = .ok (.iaload, 1) := by decide +kernel
theorem dRL_298 : decode code 298 = .ok (.invokevirtual 23, 3) := by decide +kernel
theorem dRL_301 : decode code 301 = .ok (.aload_n 2, 1) := by decide +kernel
theorem dRL_302 : decode code 302 = .ok (.aload_n 0, 1) := by decide +kernel
theorem dRL_303 : decode code 303 = .ok (.iload_n 3, 1) := by decide +kernel
theorem dRL_304 : decode code 304 = .ok (.iconst 1, 1) := by decide +kernel
theorem dRL_305 : decode code 305 = .ok (.iadd, 1) := by decide +kernel
theorem dRL_306 : decode code 306 = .ok (.iaload, 1) := by decide +kernel
theorem dRL_307 : decode code 307 = .ok (.aload_n 0, 1) := by decide +kernel
theorem dRL_308 : decode code 308 = .ok (.iload_n 3, 1) := by decide +kernel
theorem dRL_309 : decode code 309 = .ok (.iconst 2, 1) := by decide +kernel
theorem dRL_310 : decode code 310 = .ok (.iadd, 1) := by decide +kernel
theorem dRL_311 : decode code 311 = .ok (.iaload, 1) := by decide +kernel
theorem dRL_312 : decode code 312 = .ok (.aload_n 0, 1) := by decide +kernel
theorem dRL_313 : decode code 313 = .ok (.iload_n 3, 1) := by decide +kernel
theorem dRL_314 : decode code 314 = .ok (.iconst 3, 1) := by decide +kernel
theorem dRL_315 : decode code 315 = .ok (.iadd, 1) := by decide +kernel
theorem dRL_316 : decode code 316 = .ok (.iaload, 1) := by decide +kernel
theorem dRL_317 : decode code 317 = .ok (.invokevirtual 26, 3) := by decide +kernel
theorem dRL_320 : decode code 320 = .ok (.if_icmp .eq 833, 3) := by decide +kernel
theorem dRL_323 : decode code 323 = .ok (.iconst 0, 1) := by decide +kernel
theorem dRL_324 : decode code 324 = .ok (.ireturn, 1) := by decide +kernel
theorem dRL_325 : decode code 325 = .ok (.aload_n 1, 1) := by decide +kernel
theorem dRL_326 : decode code 326 = .ok (.invokevirtual 27, 3) := by decide +kernel
theorem dRL_329 : decode code 329 = .ok (.aload_n 2, 1) := by decide +kernel
theorem dRL_330 : decode code 330 = .ok (.invokevirtual 31, 3) := by decide +kernel
theorem dRL_333 : decode code 333 = .ok (.if_icmp .eq 820, 3) := by decide +kernel
theorem dRL_336 : decode code 336 = .ok (.iconst 0, 1) := by decide +kernel
theorem dRL_337 : decode code 337 = .ok (.ireturn, 1) := by decide +kernel
theorem dRL_338 : decode code 338 = .ok (.aload_n 1, 1) := by decide +kernel
theorem dRL_339 : decode code 339 = .ok (.aload_n 0, 1) := by decide +kernel
theorem dRL_340 : decode code 340 = .ok (.iload_n 3, 1) := by decide +kernel
theorem dRL_341 : decode code 341 = .ok (.iconst 1, 1) := by decide +kernel
theorem dRL_342 : decode code 342 = .ok (.iadd, 1) := by decide +kernel
theorem dRL_343 : decode code 343 = .ok (.iaload, 1) := by decide +kernel
theorem dRL_344 : decode code 344 = .ok (.aload_n 0, 1) := by decide +kernel
theorem dRL_345 : decode code 345 = .ok (.iload_n 3, 1) := by decide +kernel
theorem dRL_346 : decode code 346 = .ok (.iconst 2, 1) := by decide +kernel
theorem dRL_347 : decode code 347 = .ok (.iadd, 1) := by decide +kernel
theorem dRL_348 : decode code 348 = .ok (.iaload, 1) := by decide +kernel
theorem dRL_349 : decode code 349 = .ok (.invokevirtual 32, 3) := by decide +kernel
theorem dRL_352 : decode code 352 = .ok (.aload_n 2, 1) := by decide +kernel
theorem dRL_353 : decode code 353 = .ok (.aload_n 0, 1) := by decide +kernel
theorem dRL_354 : decode code 354 = .ok (.iload_n 3, 1) := by decide +kernel
theorem dRL_355 : decode code 355 = .ok (.iconst 1, 1) := by decide +kernel
theorem dRL_356 : decode code 356 = .ok (.iadd, 1) := by decide +kernel
theorem dRL_357 : decode code 357 = .ok (.iaload, 1) := by decide +kernel
theorem dRL_358 : decode code 358 = .ok (.aload_n 0, 1) := by decide +kernel
theorem dRL_359 : decode code 359 = .ok (.iload_n 3, 1) := by decide +kernel
theorem dRL_360 : decode code 360 = .ok (.iconst 2, 1) := by decide +kernel
theorem dRL_361 : decode code 361 = .ok (.iadd, 1) := by decide +kernel
theorem dRL_362 : decode code 362 = .ok (.iaload, 1) := by decide +kernel
theorem dRL_363 : decode code 363 = .ok (.invokevirtual 36, 3) := by decide +kernel
theorem dRL_366 : decode code 366 = .ok (.if_icmp .eq 787, 3) := by decide +kernel
theorem dRL_369 : decode code 369 = .ok (.iconst 0, 1) := by decide +kernel
theorem dRL_370 : decode code 370 = .ok (.ireturn, 1) := by decide +kernel
theorem dRL_371 : decode code 371 = .ok (.aload_n 1, 1) := by decide +kernel
theorem dRL_372 : decode code 372 = .ok (.aload_n 0, 1) := by decide +kernel
theorem dRL_373 : decode code 373 = .ok (.iload_n 3, 1) := by decide +kernel
theorem dRL_374 : decode code 374 = .ok (.iconst 1, 1) := by decide +kernel
theorem dRL_375 : decode code 375 = .ok (.iadd, 1) := by decide +kernel
theorem dRL_376 : decode code 376 = .ok (.iaload, 1) := by decide +kernel
theorem dRL_377 : decode code 377 = .ok (.aload_n 0, 1) := by decide +kernel
theorem dRL_378 : decode code 378 = .ok (.iload_n 3, 1) := by decide +kernel
theorem dRL_379 : decode code 379 = .ok (.iconst 2, 1) := by decide +kernel
theorem dRL_380 : decode code 380 = .ok (.iadd, 1) := by decide +kernel
theorem dRL_381 : decode code 381 = .ok (.iaload, 1) := by decide +kernel
theorem dRL_382 : decode code 382 = .ok (.invokevirtual 37, 3) := by decide +kernel
theorem dRL_385 : decode code 385 = .ok (.aload_n 2, 1) := by decide +kernel
theorem dRL_386 : decode code 386 = .ok (.aload_n 0, 1) := by decide +kernel
theorem dRL_387 : decode code 387 = .ok (.iload_n 3, 1) := by decide +kernel
theorem dRL_388 : decode code 388 = .ok (.iconst 1, 1) := by decide +kernel
theorem dRL_389 : decode code 389 = .ok (.iadd, 1) := by decide +kernel
theorem dRL_390 : decode code 390 = .ok (.iaload, 1) := by decide +kernel
theorem dRL_391 : decode code 391 = .ok (.aload_n 0, 1) := by decide +kernel
theorem dRL_392 : decode code 392 = .ok (.iload_n 3, 1) := by decide +kernel
theorem dRL_393 : decode code 393 = .ok (.iconst 2, 1) := by decide +kernel
theorem dRL_394 : decode code 394 = .ok (.iadd, 1) := by decide +kernel
theorem dRL_395 : decode code 395 = .ok (.iaload, 1) := by decide +kernel
theorem dRL_396 : decode code 396 = .ok (.invokevirtual 40, 3) := by decide +kernel
theorem dRL_399 : decode code 399 = .ok (.if_icmp .eq 754, 3) := by decide +kernel
theorem dRL_402 : decode code 402 = .ok (.iconst 0, 1) := by decide +kernel
theorem dRL_403 : decode code 403 = .ok (.ireturn, 1) := by decide +kernel
theorem dRL_404 : decode code 404 = .ok (.aload_n 1, 1) := by decide +kernel
theorem dRL_405 : decode code 405 = .ok (.aload_n 0, 1) := by decide +kernel
theorem dRL_406 : decode code 406 = .ok (.iload_n 3, 1) := by decide +kernel
theorem dRL_407 : decode code 407 = .ok (.iconst 1, 1) := by decide +kernel
theorem dRL_408 : decode code 408 = .ok (.iadd, 1) := by decide +kernel
theorem dRL_409 : decode code 409 = .ok (.iaload, 1) := by decide +kernel
theorem dRL_410 : decode code 410 = .ok (.aload_n 0, 1) := by decide +kernel
theorem dRL_411 : decode code 411 = .ok (.iload_n 3, 1) := by decide +kernel
theorem dRL_412 : decode code 412 = .ok (.iconst 2, 1) := by decide +kernel
theorem dRL_413 : decode code 413 = .ok (.iadd, 1) := by decide +kernel
theorem dRL_414 : decode code 414 = .ok (.iaload, 1) := by decide +kernel
theorem dRL_415 : decode code 415 = .ok (.aload_n 0, 1) := by decide +kernel
theorem dRL_416 : decode code 416 = .ok (.iload_n 3, 1) := by decide +kernel
theorem dRL_417 : decode code 417 = .ok (.iconst 3, 1) := by decide +kernel
theorem dRL_418 : decode code 418 = .ok (.iadd, 1) := by decide +kernel
theorem dRL_419 : decode code 419 = .ok (.iaload, 1) := by decide +kernel
theorem dRL_420 : decode code 420 = .ok (.invokevirtual 41, 3) := by decide +kernel
theorem dRL_423 : decode code 423 = .ok (.aload_n 2, 1) := by decide +kernel
theorem dRL_424 : decode code 424 = .ok (.aload_n 0, 1) := by decide +kernel
theorem dRL_425 : decode code 425 = .ok (.iload_n 3, 1) := by decide +kernel
theorem dRL_426 : decode code 426 = .ok (.iconst 1, 1) := by decide +kernel
theorem dRL_427 : decode code 427 = .ok (.iadd, 1) := by decide +kernel
theorem dRL_428 : decode code 428 = .ok (.iaload, 1) := by decide +kernel
theorem dRL_429 : decode code 429 = .ok (.aload_n 0, 1) := by decide +kernel
theorem dRL_430 : decode code 430 = .ok (.iload_n 3, 1) := by decide +kernel
theorem dRL_431 : decode code 431 = .ok (.iconst 2, 1) := by decide +kernel
theorem dRL_432 : decode code 432 = .ok (.iadd, 1) := by decide +kernel
theorem dRL_433 : decode code 433 = .ok (.iaload, 1) := by decide +kernel
theorem dRL_434 : decode code 434 = .ok (.aload_n 0, 1) := by decide +kernel
theorem dRL_435 : decode code 435 = .ok (.iload_n 3, 1) := by decide +kernel
theorem dRL_436 : decode code 436 = .ok (.iconst 3, 1) := by decide +kernel
theorem dRL_437 : decode code 437 = .ok (.iadd, 1) := by decide +kernel
theorem dRL_438 : decode code 438 = .ok (.iaload, 1) := by decide +kernel
theorem dRL_439 : decode code 439 = .ok (.invokevirtual 44, 3) := by decide +kernel
theorem dRL_442 : decode code 442 = .ok (.if_icmp .eq 711, 3) := by decide +kernel
theorem dRL_445 : decode code 445 = .ok (.iconst 0, 1) := by decide +kernel
theorem dRL_446 : decode code 446 = .ok (.ireturn, 1) := by decide +kernel
theorem dRL_447 : decode code 447 = .ok (.aload_n 1, 1) := by decide +kernel
theorem dRL_448 : decode code 448 = .ok (.aload_n 0, 1) := by decide +kernel
theorem dRL_449 : decode code 449 = .ok (.iload_n 3, 1) := by decide +kernel
theorem dRL_450 : decode code 450 = .ok (.iconst 1, 1) := by decide +kernel
theorem dRL_451 : decode code 451 = .ok (.iadd, 1) := by decide +kernel
theorem dRL_452 : decode code 452 = .ok (.iaload, 1) := by decide +kernel
theorem dRL_453 : decode code 453 = .ok (.aload_n 0, 1) := by decide +kernel
theorem dRL_454 : decode code 454 = .ok (.iload_n 3, 1) := by decide +kernel
theorem dRL_455 : decode code 455 = .ok (.iconst 2, 1) := by decide +kernel
theorem dRL_456 : decode code 456 = .ok (.iadd, 1) := by decide +kernel
theorem dRL_457 : decode code 457 = .ok (.iaload, 1) := by decide +kernel
theorem dRL_458 : decode code 458 = .ok (.aload_n 0, 1) := by decide +kernel
theorem dRL_459 : decode code 459 = .ok (.iload_n 3, 1) := by decide +kernel
theorem dRL_460 : decode code 460 = .ok (.iconst 3, 1) := by decide +kernel
theorem dRL_461 : decode code 461 = .ok (.iadd, 1) := by decide +kernel
theorem dRL_462 : decode code 462 = .ok (.iaload, 1) := by decide +kernel
theorem dRL_463 : decode code 463 = .ok (.invokevirtual 45, 3) := by decide +kernel
theorem dRL_466 : decode code 466 = .ok (.aload_n 2, 1) := by decide +kernel
theorem dRL_467 : decode code 467 = .ok (.aload_n 0, 1) := by decide +kernel
theorem dRL_468 : decode code 468 = .ok (.iload_n 3, 1) := by decide +kernel
theorem dRL_469 : decode code 469 = .ok (.iconst 1, 1) := by decide +kernel
theorem dRL_470 : decode code 470 = .ok (.iadd, 1) := by decide +kernel
theorem dRL_471 : decode code 471 = .ok (.iaload, 1) := by decide +kernel
theorem dRL_472 : decode code 472 = .ok (.aload_n 0, 1) := by decide +kernel
theorem dRL_473 : decode code 473 = .ok (.iload_n 3, 1) := by decide +kernel
theorem dRL_474 : decode code 474 = .ok (.iconst 2, 1) := by decide +kernel
theorem dRL_475 : decode code 475 = .ok (.iadd, 1) := by decide +kernel
theorem dRL_476 : decode code 476 = .ok (.iaload, 1) := by decide +kernel
theorem dRL_477 : decode code 477 = .ok (.aload_n 0, 1) := by decide +kernel
theorem dRL_478 : decode code 478 = .ok (.iload_n 3, 1) := by decide +kernel
theorem dRL_479 : decode code 479 = .ok (.iconst 3, 1) := by decide +kernel
theorem dRL_480 : decode code 480 = .ok (.iadd, 1) := by decide +kernel
theorem dRL_481 : decode code 481 = .ok (.iaload, 1) := by decide +kernel
theorem dRL_482 : decode code 482 = .ok (.invokevirtual 48, 3) := by decide +kernel
theorem dRL_485 : decode code 485 = .ok (.if_icmp .eq 668, 3) := by decide +kernel
theorem dRL_488 : decode code 488 = .ok (.iconst 0, 1) := by decide +kernel
theorem dRL_489 : decode code 489 = .ok (.ireturn, 1) := by decide +kernel
theorem dRL_490 : decode code 490 = .ok (.aload_n 1, 1) := by decide +kernel
theorem dRL_491 : decode code 491 = .ok (.aload_n 0, 1) := by decide +kernel
theorem dRL_492 : decode code 492 = .ok (.iload_n 3, 1) := by decide +kernel
theorem dRL_493 : decode code 493 = .ok (.iconst 1, 1) := by decide +kernel
theorem dRL_494 : decode code 494 = .ok (.iadd, 1) := by decide +kernel
theorem dRL_495 : decode code 495 = .ok (.iaload, 1) := by decide +kernel
theorem dRL_496 : decode code 496 = .ok (.aload_n 0, 1) := by decide +kernel
theorem dRL_497 : decode code 497 = .ok (.iload_n 3, 1) := by decide +kernel
theorem dRL_498 : decode code 498 = .ok (.iconst 2, 1) := by decide +kernel
theorem dRL_499 : decode code 499 = .ok (.iadd, 1) := by decide +kernel
theorem dRL_500 : decode code 500 = .ok (.iaload, 1) := by decide +kernel
theorem dRL_501 : decode code 501 = .ok (.invokevirtual 49, 3) := by decide +kernel
theorem dRL_504 : decode code 504 = .ok (.aload_n 2, 1) := by decide +kernel
theorem dRL_505 : decode code 505 = .ok (.aload_n 0, 1) := by decide +kernel
theorem dRL_506 : decode code 506 = .ok (.iload_n 3, 1) := by decide +kernel
theorem dRL_507 : decode code 507 = .ok (.iconst 1, 1) := by decide +kernel
theorem dRL_508 : decode code 508 = .ok (.iadd, 1) := by decide +kernel
theorem dRL_509 : decode code 509 = .ok (.iaload, 1) := by decide +kernel
theorem dRL_510 : decode code 510 = .ok (.aload_n 0, 1) := by decide +kernel
theorem dRL_511 : decode code 511 = .ok (.iload_n 3, 1) := by decide +kernel
theorem dRL_512 : decode code 512 = .ok (.iconst 2, 1) := by decide +kernel
theorem dRL_513 : decode code 513 = .ok (.iadd, 1) := by decide +kernel
theorem dRL_514 : decode code 514 = .ok (.iaload, 1) := by decide +kernel
theorem dRL_515 : decode code 515 = .ok (.invokevirtual 52, 3) := by decide +kernel
theorem dRL_518 : decode code 518 = .ok (.if_icmp .eq 635, 3) := by decide +kernel
theorem dRL_521 : decode code 521 = .ok (.iconst 0, 1) := by decide +kernel
theorem dRL_522 : decode code 522 = .ok (.ireturn, 1) := by decide +kernel
theorem dRL_523 : decode code 523 = .ok (.aload_n 1, 1) := by decide +kernel
theorem dRL_524 : decode code 524 = .ok (.aload_n 0, 1) := by decide +kernel
theorem dRL_525 : decode code 525 = .ok (.iload_n 3, 1) := by decide +kernel
theorem dRL_526 : decode code 526 = .ok (.iconst 1, 1) := by decide +kernel
theorem dRL_527 : decode code 527 = .ok (.iadd, 1) := by decide +kernel
theorem dRL_528 : decode code 528 = .ok (.iaload, 1) := by decide +kernel
theorem dRL_529 : decode code 529 = .ok (.aload_n 0, 1) := by decide +kernel
theorem dRL_530 : decode code 530 = .ok (.iload_n 3, 1) := by decide +kernel
theorem dRL_531 : decode code 531 = .ok (.iconst 2, 1) := by decide +kernel
theorem dRL_532 : decode code 532 = .ok (.iadd, 1) := by decide +kernel
theorem dRL_533 : decode code 533 = .ok (.iaload, 1) := by decide +kernel
theorem dRL_534 : decode code 534 = .ok (.invokevirtual 53, 3) := by decide +kernel
theorem dRL_537 : decode code 537 = .ok (.aload_n 2, 1) := by decide +kernel
theorem dRL_538 : decode code 538 = .ok (.aload_n 0, 1) := by decide +kernel
theorem dRL_539 : decode code 539 = .ok (.iload_n 3, 1) := by decide +kernel
theorem dRL_540 : decode code 540 = .ok (.iconst 1, 1) := by decide +kernel
theorem dRL_541 : decode code 541 = .ok (.iadd, 1) := by decide +kernel
theorem dRL_542 : decode code 542 = .ok (.iaload, 1) := by decide +kernel
theorem dRL_543 : decode code 543 = .ok (.aload_n 0, 1) := by decide +kernel
theorem dRL_544 : decode code 544 = .ok (.iload_n 3, 1) := by decide +kernel
theorem dRL_545 : decode code 545 = .ok (.iconst 2, 1) := by decide +kernel
theorem dRL_546 : decode code 546 = .ok (.iadd, 1) := by decide +kernel
theorem dRL_547 : decode code 547 = .ok (.iaload, 1) := by decide +kernel
theorem dRL_548 : decode code 548 = .ok (.invokevirtual 56, 3) := by decide +kernel
theorem dRL_551 : decode code 551 = .ok (.if_icmp .eq 602, 3) := by decide +kernel
theorem dRL_554 : decode code 554 = .ok (.iconst 0, 1) := by decide +kernel
theorem dRL_555 : decode code 555 = .ok (.ireturn, 1) := by decide +kernel
theorem dRL_556 : decode code 556 = .ok (.aload_n 1, 1) := by decide +kernel
theorem dRL_557 : decode code 557 = .ok (.aload_n 0, 1) := by decide +kernel
theorem dRL_558 : decode code 558 = .ok (.iload_n 3, 1) := by decide +kernel
theorem dRL_559 : decode code 559 = .ok (.iconst 1, 1) := by decide +kernel
theorem dRL_560 : decode code 560 = .ok (.iadd, 1) := by decide +kernel
theorem dRL_561 : decode code 561 = .ok (.iaload, 1) := by decide +kernel
theorem dRL_562 : decode code 562 = .ok (.aload_n 0, 1) := by decide +kernel
theorem dRL_563 : decode code 563 = .ok (.iload_n 3, 1) := by decide +kernel
theorem dRL_564 : decode code 564 = .ok (.iconst 2, 1) := by decide +kernel
theorem dRL_565 : decode code 565 = .ok (.iadd, 1) := by decide +kernel
theorem dRL_566 : decode code 566 = .ok (.iaload, 1) := by decide +kernel
theorem dRL_567 : decode code 567 = .ok (.invokevirtual 57, 3) := by decide +kernel
theorem dRL_570 : decode code 570 = .ok (.aload_n 2, 1) := by decide +kernel
theorem dRL_571 : decode code 571 = .ok (.aload_n 0, 1) := by decide +kernel
theorem dRL_572 : decode code 572 = .ok (.iload_n 3, 1) := by decide +kernel
theorem dRL_573 : decode code 573 = .ok (.iconst 1, 1) := by decide +kernel
theorem dRL_574 : decode code 574 = .ok (.iadd, 1) := by decide +kernel
theorem dRL_575 : decode code 575 = .ok (.iaload, 1) := by decide +kernel
theorem dRL_576 : decode code 576 = .ok (.aload_n 0, 1) := by decide +kernel
theorem dRL_577 : decode code 577 = .ok (.iload_n 3, 1) := by decide +kernel
theorem dRL_578 : decode code 578 = .ok (.iconst 2, 1) := by decide +kernel
theorem dRL_579 : decode code 579 = .ok (.iadd, 1) := by decide +kernel
theorem dRL_580 : decode code 580 = .ok (.iaload, 1) := by decide +kernel
theorem dRL_581 : decode code 581 = .ok (.invokevirtual 60, 3) := by decide +kernel
theorem dRL_584 : decode code 584 = .ok (.if_icmp .eq 569, 3) := by decide +kernel
theorem dRL_587 : decode code 587 = .ok (.iconst 0, 1) := by decide +kernel
theorem dRL_588 : decode code 588 = .ok (.ireturn, 1) := by decide +kernel
theorem dRL_589 : decode code 589 = .ok (.aload_n 1, 1) := by decide +kernel
theorem dRL_590 : decode code 590 = .ok (.aload_n 0, 1) := by decide +kernel
theorem dRL_591 : decode code 591 = .ok (.iload_n 3, 1) := by decide +kernel
theorem dRL_592 : decode code 592 = .ok (.iconst 1, 1) := by decide +kernel
theorem dRL_593 : decode code 593 = .ok (.iadd, 1) := by decide +kernel
theorem dRL_594 : decode code 594 = .ok (.iaload, 1) := by decide +kernel
theorem dRL_595 : decode code 595 = .ok (.invokevirtual 61, 3) := by decide +kernel
theorem dRL_598 : decode code 598 = .ok (.aload_n 2, 1) := by decide +kernel
theorem dRL_599 : decode code 599 = .ok (.aload_n 0, 1) := by decide +kernel
theorem dRL_600 : decode code 600 = .ok (.iload_n 3, 1) := by decide +kernel
theorem dRL_601 : decode code 601 = .ok (.iconst 1, 1) := by decide +kernel
theorem dRL_602 : decode code 602 = .ok (.iadd, 1) := by decide +kernel
theorem dRL_603 : decode code 603 = .ok (.iaload, 1) := by decide +kernel
theorem dRL_604 : decode code 604 = .ok (.invokevirtual 65, 3) := by decide +kernel
theorem dRL_607 : decode code 607 = .ok (.if_icmp .eq 546, 3) := by decide +kernel
theorem dRL_610 : decode code 610 = .ok (.iconst 0, 1) := by decide +kernel
theorem dRL_611 : decode code 611 = .ok (.ireturn, 1) := by decide +kernel
theorem dRL_612 : decode code 612 = .ok (.aload_n 1, 1) := by decide +kernel
theorem dRL_613 : decode code 613 = .ok (.aload_n 0, 1) := by decide +kernel
theorem dRL_614 : decode code 614 = .ok (.iload_n 3, 1) := by decide +kernel
theorem dRL_615 : decode code 615 = .ok (.iconst 1, 1) := by decide +kernel
theorem dRL_616 : decode code 616 = .ok (.iadd, 1) := by decide +kernel
theorem dRL_617 : decode code 617 = .ok (.iaload, 1) := by decide +kernel
theorem dRL_618 : decode code 618 = .ok (.invokevirtual 66, 3) := by decide +kernel
theorem dRL_621 : decode code 621 = .ok (.aload_n 2, 1) := by decide +kernel
theorem dRL_622 : decode code 622 = .ok (.aload_n 0, 1) := by decide +kernel
theorem dRL_623 : decode code 623 = .ok (.iload_n 3, 1) := by decide +kernel
theorem dRL_624 : decode code 624 = .ok (.iconst 1, 1) := by decide +kernel
theorem dRL_625 : decode code 625 = .ok (.iadd, 1) := by decide +kernel
theorem dRL_626 : decode code 626 = .ok (.iaload, 1) := by decide +kernel
theorem dRL_627 : decode code 627 = .ok (.invokevirtual 69, 3) := by decide +kernel
theorem dRL_630 : decode code 630 = .ok (.if_icmp .eq 523, 3) := by decide +kernel
theorem dRL_633 : decode code 633 = .ok (.iconst 0, 1) := by decide +kernel
theorem dRL_634 : decode code 634 = .ok (.ireturn, 1) := by decide +kernel
theorem dRL_635 : decode code 635 = .ok (.aload_n 1, 1) := by decide +kernel
theorem dRL_636 : decode code 636 = .ok (.invokevirtual 70, 3) := by decide +kernel
theorem dRL_639 : decode code 639 = .ok (.aload_n 2, 1) := by decide +kernel
theorem dRL_640 : decode code 640 = .ok (.invokevirtual 73, 3) := by decide +kernel
theorem dRL_643 : decode code 643 = .ok (.if_icmp .eq 510, 3) := by decide +kernel
theorem dRL_646 : decode code 646 = .ok (.iconst 0, 1) := by decide +kernel
theorem dRL_647 : decode code 647 = .ok (.ireturn, 1) := by decide +kernel
theorem dRL_648 : decode code 648 = .ok (.aload_n 1, 1) := by decide +kernel
theorem dRL_649 : decode code 649 = .ok (.aload_n 0, 1) := by decide +kernel
theorem dRL_650 : decode code 650 = .ok (.iload_n 3, 1) := by decide +kernel
theorem dRL_651 : decode code 651 = .ok (.iconst 1, 1) := by decide +kernel
theorem dRL_652 : decode code 652 = .ok (.iadd, 1) := by decide +kernel
theorem dRL_653 : decode code 653 = .ok (.iaload, 1) := by decide +kernel
theorem dRL_654 : decode code 654 = .ok (.invokevirtual 74, 3) := by decide +kernel
theorem dRL_657 : decode code 657 = .ok (.aload_n 2, 1) := by decide +kernel
theorem dRL_658 : decode code 658 = .ok (.aload_n 0, 1) := by decide +kernel
theorem dRL_659 : decode code 659 = .ok (.iload_n 3, 1) := by decide +kernel
theorem dRL_660 : decode code 660 = .ok (.iconst 1, 1) := by decide +kernel
theorem dRL_661 : decode code 661 = .ok (.iadd, 1) := by decide +kernel
theorem dRL_662 : decode code 662 = .ok (.iaload, 1) := by decide +kernel
theorem dRL_663 : decode code 663 = .ok (.invokevirtual 77, 3) := by decide +kernel
theorem dRL_666 : decode code 666 = .ok (.if_icmp .eq 487, 3) := by decide +kernel
theorem dRL_669 : decode code 669 = .ok (.iconst 0, 1) := by decide +kernel
theorem dRL_670 : decode code 670 = .ok (.ireturn, 1) := by decide +kernel
theorem dRL_671 : decode code 671 = .ok (.aload_n 1, 1) := by decide +kernel
theorem dRL_672 : decode code 672 = .ok (.aload_n 0, 1) := by decide +kernel
theorem dRL_673 : decode code 673 = .ok (.iload_n 3, 1) := by decide +kernel
theorem dRL_674 : decode code 674 = .ok (.iconst 1, 1) := by decide +kernel
theorem dRL_675 : decode code 675 = .ok (.iadd, 1) := by decide +kernel
theorem dRL_676 : decode code 676 = .ok (.iaload, 1) := by decide +kernel
theorem dRL_677 : decode code 677 = .ok (.invokevirtual 78, 3) := by decide +kernel
theorem dRL_680 : decode code 680 = .ok (.aload_n 2, 1) := by decide +kernel
theorem dRL_681 : decode code 681 = .ok (.aload_n 0, 1) := by decide +kernel
theorem dRL_682 : decode code 682 = .ok (.iload_n 3, 1) := by decide +kernel
theorem dRL_683 : decode code 683 = .ok (.iconst 1, 1) := by decide +kernel
theorem dRL_684 : decode code 684 = .ok (.iadd, 1) := by decide +kernel
theorem dRL_685 : decode code 685 = .ok (.iaload, 1) := by decide +kernel
theorem dRL_686 : decode code 686 = .ok (.invokevirtual 81, 3) := by decide +kernel
theorem dRL_689 : decode code 689 = .ok (.if_icmp .eq 464, 3) := by decide +kernel
theorem dRL_692 : decode code 692 = .ok (.iconst 0, 1) := by decide +kernel
theorem dRL_693 : decode code 693 = .ok (.ireturn, 1) := by decide +kernel
theorem dRL_694 : decode code 694 = .ok (.aload_n 1, 1) := by decide +kernel
theorem dRL_695 : decode code 695 = .ok (.aload_n 0, 1) := by decide +kernel
theorem dRL_696 : decode code 696 = .ok (.iload_n 3, 1) := by decide +kernel
theorem dRL_697 : decode code 697 = .ok (.iconst 1, 1) := by decide +kernel
theorem dRL_698 : decode code 698 = .ok (.iadd, 1) := by decide +kernel
theorem dRL_699 : decode code 699 = .ok (.iaload, 1) := by decide +kernel
theorem dRL_700 : decode code 700 = .ok (.aload_n 0, 1) := by decide +kernel
theorem dRL_701 : decode code 701 = .ok (.iload_n 3, 1) := by decide +kernel
theorem dRL_702 : decode code 702 = .ok (.iconst 2, 1) := by decide +kernel
theorem dRL_703 : decode code 703 = .ok (.iadd, 1) := by decide +kernel
theorem dRL_704 : decode code 704 = .ok (.iaload, 1) := by decide +kernel
theorem dRL_705 : decode code 705 = .ok (.invokevirtual 82, 3) := by decide +kernel
theorem dRL_708 : decode code 708 = .ok (.aload_n 2, 1) := by decide +kernel
theorem dRL_709 : decode code 709 = .ok (.aload_n 0, 1) := by decide +kernel
theorem dRL_710 : decode code 710 = .ok (.iload_n 3, 1) := by decide +kernel
theorem dRL_711 : decode code 711 = .ok (.iconst 1, 1) := by decide +kernel
theorem dRL_712 : decode code 712 = .ok (.iadd, 1) := by decide +kernel
theorem dRL_713 : decode code 713 = .ok (.iaload, 1) := by decide +kernel
theorem dRL_714 : decode code 714 = .ok (.aload_n 0, 1) := by decide +kernel
theorem dRL_715 : decode code 715 = .ok (.iload_n 3, 1) := by decide +kernel
theorem dRL_716 : decode code 716 = .ok (.iconst 2, 1) := by decide +kernel
theorem dRL_717 : decode code 717 = .ok (.iadd, 1) := by decide +kernel
theorem dRL_718 : decode code 718 = .ok (.iaload, 1) := by decide +kernel
theorem dRL_719 : decode code 719 = .ok (.invokevirtual 85, 3) := by decide +kernel
theorem dRL_722 : decode code 722 = .ok (.if_icmp .eq 431, 3) := by decide +kernel
theorem dRL_725 : decode code 725 = .ok (.iconst 0, 1) := by decide +kernel
theorem dRL_726 : decode code 726 = .ok (.ireturn, 1) := by decide +kernel
theorem dRL_727 : decode code 727 = .ok (.aload_n 1, 1) := by decide +kernel
theorem dRL_728 : decode code 728 = .ok (.aload_n 0, 1) := by decide +kernel
theorem dRL_729 : decode code 729 = .ok (.iload_n 3, 1) := by decide +kernel
theorem dRL_730 : decode code 730 = .ok (.iconst 1, 1) := by decide +kernel
theorem dRL_731 : decode code 731 = .ok (.iadd, 1) := by decide +kernel
theorem dRL_732 : decode code 732 = .ok (.iaload, 1) := by decide +kernel
theorem dRL_733 : decode code 733 = .ok (.aload_n 0, 1) := by decide +kernel
theorem dRL_734 : decode code 734 = .ok (.iload_n 3, 1) := by decide +kernel
theorem dRL_735 : decode code 735 = .ok (.iconst 2, 1) := by decide +kernel
theorem dRL_736 : decode code 736 = .ok (.iadd, 1) := by decide +kernel
theorem dRL_737 : decode code 737 = .ok (.iaload, 1) := by decide +kernel
theorem dRL_738 : decode code 738 = .ok (.aload_n 0, 1) := by decide +kernel
theorem dRL_739 : decode code 739 = .ok (.iload_n 3, 1) := by decide +kernel
theorem dRL_740 : decode code 740 = .ok (.iconst 3, 1) := by decide +kernel
theorem dRL_741 : decode code 741 = .ok (.iadd, 1) := by decide +kernel
theorem dRL_742 : decode code 742 = .ok (.iaload, 1) := by decide +kernel
theorem dRL_743 : decode code 743 = .ok (.invokevirtual 86, 3) := by decide +kernel
theorem dRL_746 : decode code 746 = .ok (.aload_n 2, 1) := by decide +kernel
theorem dRL_747 : decode code 747 = .ok (.aload_n 0, 1) := by decide +kernel
theorem dRL_748 : decode code 748 = .ok (.iload_n 3, 1) := by decide +kernel
theorem dRL_749 : decode code 749 = .ok (.iconst 1, 1) := by decide +kernel
theorem dRL_750 : decode code 750 = .ok (.iadd, 1) := by decide +kernel
theorem dRL_751 : decode code 751 = .ok (.iaload, 1) := by decide +kernel
theorem dRL_752 : decode code 752 = .ok (.aload_n 0, 1) := by decide +kernel
theorem dRL_753 : decode code 753 = .ok (.iload_n 3, 1) := by decide +kernel
theorem dRL_754 : decode code 754 = .ok (.iconst 2, 1) := by decide +kernel
theorem dRL_755 : decode code 755 = .ok (.iadd, 1) := by decide +kernel
theorem dRL_756 : decode code 756 = .ok (.iaload, 1) := by decide +kernel
theorem dRL_757 : decode code 757 = .ok (.aload_n 0, 1) := by decide +kernel
theorem dRL_758 : decode code 758 = .ok (.iload_n 3, 1) := by decide +kernel
theorem dRL_759 : decode code 759 = .ok (.iconst 3, 1) := by decide +kernel
theorem dRL_760 : decode code 760 = .ok (.iadd, 1) := by decide +kernel
theorem dRL_761 : decode code 761 = .ok (.iaload, 1) := by decide +kernel
theorem dRL_762 : decode code 762 = .ok (.invokevirtual 89, 3) := by decide +kernel
theorem dRL_765 : decode code 765 = .ok (.if_icmp .eq 388, 3) := by decide +kernel
theorem dRL_768 : decode code 768 = .ok (.iconst 0, 1) := by decide +kernel
theorem dRL_769 : decode code 769 = .ok (.ireturn, 1) := by decide +kernel
theorem dRL_770 : decode code 770 = .ok (.aload_n 1, 1) := by decide +kernel
theorem dRL_771 : decode code 771 = .ok (.aload_n 0, 1) := by decide +kernel
theorem dRL_772 : decode code 772 = .ok (.iload_n 3, 1) := by decide +kernel
theorem dRL_773 : decode code 773 = .ok (.iconst 1, 1) := by decide +kernel
theorem dRL_774 : decode code 774 = .ok (.iadd, 1) := by decide +kernel
theorem dRL_775 : decode code 775 = .ok (.iaload, 1) := by decide +kernel
theorem dRL_776 : decode code 776 = .ok (.aload_n 0, 1) := by decide +kernel
theorem dRL_777 : decode code 777 = .ok (.iload_n 3, 1) := by decide +kernel
theorem dRL_778 : decode code 778 = .ok (.iconst 2, 1) := by decide +kernel
theorem dRL_779 : decode code 779 = .ok (.iadd, 1) := by decide +kernel
theorem dRL_780 : decode code 780 = .ok (.iaload, 1) := by decide +kernel
theorem dRL_781 : decode code 781 = .ok (.aload_n 0, 1) := by decide +kernel
theorem dRL_782 : decode code 782 = .ok (.iload_n 3, 1) := by decide +kernel
theorem dRL_783 : decode code 783 = .ok (.iconst 3, 1) := by decide +kernel
theorem dRL_784 : decode code 784 = .ok (.iadd, 1) := by decide +kernel
theorem dRL_785 : decode code 785 = .ok (.iaload, 1) := by decide +kernel
theorem dRL_786 : decode code 786 = .ok (.invokevirtual 90, 3) := by decide +kernel
theorem dRL_789 : decode code 789 = .ok (.aload_n 2, 1) := by decide +kernel
theorem dRL_790 : decode code 790 = .ok (.aload_n 0, 1) := by decide +kernel
theorem dRL_791 : decode code 791 = .ok (.iload_n 3, 1) := by decide +kernel
theorem dRL_792 : decode code 792 = .ok (.iconst 1, 1) := by decide +kernel
theorem dRL_793 : decode code 793 = .ok (.iadd, 1) := by decide +kernel
theorem dRL_794 : decode code 794 = .ok (.iaload, 1) := by decide +kernel
theorem dRL_795 : decode code 795 = .ok (.aload_n 0, 1) := by decide +kernel
theorem dRL_796 : decode code 796 = .ok (.iload_n 3, 1) := by decide +kernel
theorem dRL_797 : decode code 797 = .ok (.iconst 2, 1) := by decide +kernel
theorem dRL_798 : decode code 798 = .ok (.iadd, 1) := by decide +kernel
theorem dRL_799 : decode code 799 = .ok (.iaload, 1) := by decide +kernel
theorem dRL_800 : decode code 800 = .ok (.aload_n 0, 1) := by decide +kernel
theorem dRL_801 : decode code 801 = .ok (.iload_n 3, 1) := by decide +kernel
theorem dRL_802 : decode code 802 = .ok (.iconst 3, 1) := by decide +kernel
theorem dRL_803 : decode code 803 = .ok (.iadd, 1) := by decide +kernel
theorem dRL_804 : decode code 804 = .ok (.iaload, 1) := by decide +kernel
theorem dRL_805 : decode code 805 = .ok (.invokevirtual 93, 3) := by decide +kernel
theorem dRL_808 : decode code 808 = .ok (.if_icmp .eq 345, 3) := by decide +kernel
theorem dRL_811 : decode code 811 = .ok (.iconst 0, 1) := by decide +kernel
theorem dRL_812 : decode code 812 = .ok (.ireturn, 1) := by decide +kernel
theorem dRL_813 : decode code 813 = .ok (.aload_n 1, 1) := by decide +kernel
theorem dRL_814 : decode code 814 = .ok (.aload_n 0, 1) := by decide +kernel
theorem dRL_815 : decode code 815 = .ok (.iload_n 3, 1) := by decide +kernel
theorem dRL_816 : decode code 816 = .ok (.iconst 1, 1) := by decide +kernel
theorem dRL_817 : decode code 817 = .ok (.iadd, 1) := by decide +kernel
theorem dRL_818 : decode code 818 = .ok (.iaload, 1) := by decide +kernel
theorem dRL_819 : decode code 819 = .ok (.aload_n 0, 1) := by decide +kernel
theorem dRL_820 : decode code 820 = .ok (.iload_n 3, 1) := by decide +kernel
theorem dRL_821 : decode code 821 = .ok (.iconst 2, 1) := by decide +kernel
theorem dRL_822 : decode code 822 = .ok (.iadd, 1) := by decide +kernel
theorem dRL_823 : decode code 823 = .ok (.iaload, 1) := by decide +kernel
theorem dRL_824 : decode code 824 = .ok (.aload_n 0, 1) := by decide +kernel
theorem dRL_825 : decode code 825 = .ok (.iload_n 3, 1) := by decide +kernel
theorem dRL_826 : decode code 826 = .ok (.iconst 3, 1) := by decide +kernel
theorem dRL_827 : decode code 827 = .ok (.iadd, 1) := by decide +kernel
theorem dRL_828 : decode code 828 = .ok (.iaload, 1) := by decide +kernel
theorem dRL_829 : decode code 829 = .ok (.invokevirtual 94, 3) := by decide +kernel
theorem dRL_832 : decode code 832 = .ok (.aload_n 2, 1) := by decide +kernel
theorem dRL_833 : decode code 833 = .ok (.aload_n 0, 1) := by decide +kernel
theorem dRL_834 : decode code 834 = .ok (.iload_n 3, 1) := by decide +kernel
theorem dRL_835 : decode code 835 = .ok (.iconst 1, 1) := by decide +kernel
theorem dRL_836 : decode code 836 = .ok (.iadd, 1) := by decide +kernel
theorem dRL_837 : decode code 837 = .ok (.iaload, 1) := by decide +kernel
theorem dRL_838 : decode code 838 = .ok (.aload_n 0, 1) := by decide +kernel
theorem dRL_839 : decode code 839 = .ok (.iload_n 3, 1) := by decide +kernel
theorem dRL_840 : decode code 840 = .ok (.iconst 2, 1) := by decide +kernel
theorem dRL_841 : decode code 841 = .ok (.iadd, 1) := by decide +kernel
theorem dRL_842 : decode code 842 = .ok (.iaload, 1) := by decide +kernel
theorem dRL_843 : decode code 843 = .ok (.aload_n 0, 1) := by decide +kernel
theorem dRL_844 : decode code 844 = .ok (.iload_n 3, 1) := by decide +kernel
theorem dRL_845 : decode code 845 = .ok (.iconst 3, 1) := by decide +kernel
theorem dRL_846 : decode code 846 = .ok (.iadd, 1) := by decide +kernel
theorem dRL_847 : decode code 847 = .ok (.iaload, 1) := by decide +kernel
theorem dRL_848 : decode code 848 = .ok (.invokevirtual 97, 3) := by decide +kernel
theorem dRL_851 : decode code 851 = .ok (.if_icmp .eq 302, 3) := by decide +kernel
theorem dRL_854 : decode code 854 = .ok (.iconst 0, 1) := by decide +kernel
theorem dRL_855 : decode code 855 = .ok (.ireturn, 1) := by decide +kernel
theorem dRL_856 : decode code 856 = .ok (.aload_n 1, 1) := by decide +kernel
theorem dRL_857 : decode code 857 = .ok (.aload_n 0, 1) := by decide +kernel
theorem dRL_858 : decode code 858 = .ok (.iload_n 3, 1) := by decide +kernel
theorem dRL_859 : decode code 859 = .ok (.iconst 1, 1) := by decide +kernel
theorem dRL_860 : decode code 860 = .ok (.iadd, 1) := by decide +kernel
theorem dRL_861 : decode code 861 = .ok (.iaload, 1) := by decide +kernel
theorem dRL_862 : decode code 862 = .ok (.aload_n 0, 1) := by decide +kernel
theorem dRL_863 : decode code 863 = .ok (.iload_n 3, 1) := by decide +kernel
theorem dRL_864 : decode code 864 = .ok (.iconst 2, 1) := by decide +kernel
theorem dRL_865 : decode code 865 = .ok (.iadd, 1) := by decide +kernel
theorem dRL_866 : decode code 866 = .ok (.iaload, 1) := by decide +kernel
theorem dRL_867 : decode code 867 = .ok (.invokevirtual 98, 3) := by decide +kernel
theorem dRL_870 : decode code 870 = .ok (.aload_n 2, 1) := by decide +kernel
theorem dRL_871 : decode code 871 = .ok (.aload_n 0, 1) := by decide +kernel
theorem dRL_872 : decode code 872 = .ok (.iload_n 3, 1) := by decide +kernel
theorem dRL_873 : decode code 873 = .ok (.iconst 1, 1) := by decide +kernel
theorem dRL_874 : decode code 874 = .ok (.iadd, 1) := by decide +kernel
theorem dRL_875 : decode code 875 = .ok (.iaload, 1) := by decide +kernel
theorem dRL_876 : decode code 876 = .ok (.aload_n 0, 1) := by decide +kernel
theorem dRL_877 : decode code 877 = .ok (.iload_n 3, 1) := by decide +kernel
theorem dRL_878 : decode code 878 = .ok (.iconst 2, 1) := by decide +kernel
theorem dRL_879 : decode code 879 = .ok (.iadd, 1) := by decide +kernel
theorem dRL_880 : decode code 880 = .ok (.iaload, 1) := by decide +kernel
theorem dRL_881 : decode code 881 = .ok (.invokevirtual 101, 3) := by decide +kernel
theorem dRL_884 : decode code 884 = .ok (.if_icmp .eq 269, 3) := by decide +kernel
theorem dRL_887 : decode code 887 = .ok (.iconst 0, 1) := by decide +kernel
theorem dRL_888 : decode code 888 = .ok (.ireturn, 1) := by decide +kernel
theorem dRL_889 : decode code 889 = .ok (.aload_n 1, 1) := by decide +kernel
theorem dRL_890 : decode code 890 = .ok (.aload_n 0, 1) := by decide +kernel
theorem dRL_891 : decode code 891 = .ok (.iload_n 3, 1) := by decide +kernel
theorem dRL_892 : decode code 892 = .ok (.iconst 1, 1) := by decide +kernel
theorem dRL_893 : decode code 893 = .ok (.iadd, 1) := by decide +kernel
theorem dRL_894 : decode code 894 = .ok (.iaload, 1) := by decide +kernel
theorem dRL_895 : decode code 895 = .ok (.aload_n 0, 1) := by decide +kernel
theorem dRL_896 : decode code 896 = .ok (.iload_n 3, 1) := by decide +kernel
theorem dRL_897 : decode code 897 = .ok (.iconst 2, 1) := by decide +kernel
theorem dRL_898 : decode code 898 = .ok (.iadd, 1) := by decide +kernel
theorem dRL_899 : decode code 899 = .ok (.iaload, 1) := by decide +kernel
theorem dRL_900 : decode code 900 = .ok (.invokevirtual 102, 3) := by decide +kernel
theorem dRL_903 : decode code 903 = .ok (.aload_n 2, 1) := by decide +kernel
theorem dRL_904 : decode code 904 = .ok (.aload_n 0, 1) := by decide +kernel
theorem dRL_905 : decode code 905 = .ok (.iload_n 3, 1) := by decide +kernel
theorem dRL_906 : decode code 906 = .ok (.iconst 1, 1) := by decide +kernel
theorem dRL_907 : decode code 907 = .ok (.iadd, 1) := by decide +kernel
theorem dRL_908 : decode code 908 = .ok (.iaload, 1) := by decide +kernel
theorem dRL_909 : decode code 909 = .ok (.aload_n 0, 1) := by decide +kernel
theorem dRL_910 : decode code 910 = .ok (.iload_n 3, 1) := by decide +kernel
theorem dRL_911 : decode code 911 = .ok (.iconst 2, 1) := by decide +kernel
theorem dRL_912 : decode code 912 = .ok (.iadd, 1) := by decide +kernel
theorem dRL_913 : decode code 913 = .ok (.iaload, 1) := by decide +kernel
theorem dRL_914 : decode code 914 = .ok (.invokevirtual 105, 3) := by decide +kernel
theorem dRL_917 : decode code 917 = .ok (.if_icmp .eq 236, 3) := by decide +kernel
theorem dRL_920 : decode code 920 = .ok (.iconst 0, 1) := by decide +kernel
theorem dRL_921 : decode code 921 = .ok (.ireturn, 1) := by decide +kernel
theorem dRL_922 : decode code 922 = .ok (.aload_n 1, 1) := by decide +kernel
theorem dRL_923 : decode code 923 = .ok (.aload_n 0, 1) := by decide +kernel
theorem dRL_924 : decode code 924 = .ok (.iload_n 3, 1) := by decide +kernel
theorem dRL_925 : decode code 925 = .ok (.iconst 1, 1) := by decide +kernel
theorem dRL_926 : decode code 926 = .ok (.iadd, 1) := by decide +kernel
theorem dRL_927 : decode code 927 = .ok (.iaload, 1) := by decide +kernel
theorem dRL_928 : decode code 928 = .ok (.aload_n 0, 1) := by decide +kernel
theorem dRL_929 : decode code 929 = .ok (.iload_n 3, 1) := by decide +kernel
theorem dRL_930 : decode code 930 = .ok (.iconst 2, 1) := by decide +kernel
theorem dRL_931 : decode code 931 = .ok (.iadd, 1) := by decide +kernel
theorem dRL_932 : decode code 932 = .ok (.iaload, 1) := by decide +kernel
theorem dRL_933 : decode code 933 = .ok (.invokevirtual 106, 3) := by decide +kernel
theorem dRL_936 : decode code 936 = .ok (.aload_n 2, 1) := by decide +kernel
theorem dRL_937 : decode code 937 = .ok (.aload_n 0, 1) := by decide +kernel
theorem dRL_938 : decode code 938 = .ok (.iload_n 3, 1) := by decide +kernel
theorem dRL_939 : decode code 939 = .ok (.iconst 1, 1) := by decide +kernel
theorem dRL_940 : decode code 940 = .ok (.iadd, 1) := by decide +kernel
theorem dRL_941 : decode code 941 = .ok (.iaload, 1) := by decide +kernel
theorem dRL_942 : decode code 942 = .ok (.aload_n 0, 1) := by decide +kernel
theorem dRL_943 : decode code 943 = .ok (.iload_n 3, 1) := by decide +kernel
theorem dRL_944 : decode code 944 = .ok (.iconst 2, 1) := by decide +kernel
theorem dRL_945 : decode code 945 = .ok (.iadd, 1) := by decide +kernel
theorem dRL_946 : decode code 946 = .ok (.iaload, 1) := by decide +kernel
theorem dRL_947 : decode code 947 = .ok (.invokevirtual 109, 3) := by decide +kernel
theorem dRL_950 : decode code 950 = .ok (.if_icmp .eq 203, 3) := by decide +kernel
theorem dRL_953 : decode code 953 = .ok (.iconst 0, 1) := by decide +kernel
theorem dRL_954 : decode code 954 = .ok (.ireturn, 1) := by decide +kernel
theorem dRL_955 : decode code 955 = .ok (.aload_n 1, 1) := by decide +kernel
theorem dRL_956 : decode code 956 = .ok (.invokevirtual 110, 3) := by decide +kernel
theorem dRL_959 : decode code 959 = .ok (.aload_n 2, 1) := by decide +kernel
theorem dRL_960 : decode code 960 = .ok (.invokevirtual 113, 3) := by decide +kernel
theorem dRL_963 : decode code 963 = .ok (.if_icmp .eq 190, 3) := by decide +kernel
theorem dRL_966 : decode code 966 = .ok (.iconst 0, 1) := by decide +kernel
theorem dRL_967 : decode code 967 = .ok (.ireturn, 1) := by decide +kernel
theorem dRL_968 : decode code 968 = .ok (.aload_n 1, 1) := by decide +kernel
theorem dRL_969 : decode code 969 = .ok (.invokevirtual 114, 3) := by decide +kernel
theorem dRL_972 : decode code 972 = .ok (.aload_n 2, 1) := by decide +kernel
theorem dRL_973 : decode code 973 = .ok (.invokevirtual 117, 3) := by decide +kernel
theorem dRL_976 : decode code 976 = .ok (.if_icmp .eq 177, 3) := by decide +kernel
theorem dRL_979 : decode code 979 = .ok (.iconst 0, 1) := by decide +kernel
theorem dRL_980 : decode code 980 = .ok (.ireturn, 1) := by decide +kernel
theorem dRL_981 : decode code 981 = .ok (.aload_n 1, 1) := by decide +kernel
theorem dRL_982 : decode code 982 = .ok (.aload_n 0, 1) := by decide +kernel
theorem dRL_983 : decode code 983 = .ok (.iload_n 3, 1) := by decide +kernel
theorem dRL_984 : decode code 984 = .ok (.iconst 1, 1) := by decide +kernel
theorem dRL_985 : decode code 985 = .ok (.iadd, 1) := by decide +kernel
theorem dRL_986 : decode code 986 = .ok (.iaload, 1) := by decide +kernel
theorem dRL_987 : decode code 987 = .ok (.invokevirtual 118, 3) := by decide +kernel
theorem dRL_990 : decode code 990 = .ok (.aload_n 2, 1) := by decide +kernel
theorem dRL_991 : decode code 991 = .ok (.aload_n 0, 1) := by decide +kernel
theorem dRL_992 : decode code 992 = .ok (.iload_n 3, 1) := by decide +kernel
theorem dRL_993 : decode code 993 = .ok (.iconst 1, 1) := by decide +kernel
theorem dRL_994 : decode code 994 = .ok (.iadd, 1) := by decide +kernel
theorem dRL_995 : decode code 995 = .ok (.iaload, 1) := by decide +kernel
theorem dRL_996 : decode code 996 = .ok (.invokevirtual 121, 3) := by decide +kernel
theorem dRL_999 : decode code 999 = .ok (.if_icmp .eq 154, 3) := by decide +kernel
theorem dRL_1002 : decode code 1002 = .ok (.iconst 0, 1) := by decide +kernel
theorem dRL_1003 : decode code 1003 = .ok (.ireturn, 1) := by decide +kernel
theorem dRL_1004 : decode code 1004 = .ok (.aload_n 1, 1) := by decide +kernel
theorem dRL_1005 : decode code 1005 = .ok (.aload_n 0, 1) := by decide +kernel
theorem dRL_1006 : decode code 1006 = .ok (.iload_n 3, 1) := by decide +kernel
theorem dRL_1007 : decode code 1007 = .ok (.iconst 1, 1) := by decide +kernel
theorem dRL_1008 : decode code 1008 = .ok (.iadd, 1) := by decide +kernel
theorem dRL_1009 : decode code 1009 = .ok (.iaload, 1) := by decide +kernel
theorem dRL_1010 : decode code 1010 = .ok (.aload_n 0, 1) := by decide +kernel
theorem dRL_1011 : decode code 1011 = .ok (.iload_n 3, 1) := by decide +kernel
theorem dRL_1012 : decode code 1012 = .ok (.iconst 2, 1) := by decide +kernel
theorem dRL_1013 : decode code 1013 = .ok (.iadd, 1) := by decide +kernel
theorem dRL_1014 : decode code 1014 = .ok (.iaload, 1) := by decide +kernel
theorem dRL_1015 : decode code 1015 = .ok (.aload_n 0, 1) := by decide +kernel
theorem dRL_1016 : decode code 1016 = .ok (.iload_n 3, 1) := by decide +kernel
theorem dRL_1017 : decode code 1017 = .ok (.iconst 3, 1) := by decide +kernel
theorem dRL_1018 : decode code 1018 = .ok (.iadd, 1) := by decide +kernel
theorem dRL_1019 : decode code 1019 = .ok (.iaload, 1) := by decide +kernel
theorem dRL_1020 : decode code 1020 = .ok (.invokevirtual 122, 3) := by decide +kernel
theorem dRL_1023 : decode code 1023 = .ok (.aload_n 2, 1) := by decide +kernel
theorem dRL_1024 : decode code 1024 = .ok (.aload_n 0, 1) := by decide +kernel
theorem dRL_1025 : decode code 1025 = .ok (.iload_n 3, 1) := by decide +kernel
theorem dRL_1026 : decode code 1026 = .ok (.iconst 1, 1) := by decide +kernel
theorem dRL_1027 : decode code 1027 = .ok (.iadd, 1) := by decide +kernel
theorem dRL_1028 : decode code 1028 = .ok (.iaload, 1) := by decide +kernel
theorem dRL_1029 : decode code 1029 = .ok (.aload_n 0, 1) := by decide +kernel
theorem dRL_1030 : decode code 1030 = .ok (.iload_n 3, 1) := by decide +kernel
theorem dRL_1031 : decode code 1031 = .ok (.iconst 2, 1) := by decide +kernel
theorem dRL_1032 : decode code 1032 = .ok (.iadd, 1) := by decide +kernel
theorem dRL_1033 : decode code 1033 = .ok (.iaload, 1) := by decide +kernel
theorem dRL_1034 : decode code 1034 = .ok (.aload_n 0, 1) := by decide +kernel
theorem dRL_1035 : decode code 1035 = .ok (.iload_n 3, 1) := by decide +kernel
theorem dRL_1036 : decode code 1036 = .ok (.iconst 3, 1) := by decide +kernel
theorem dRL_1037 : decode code 1037 = .ok (.iadd, 1) := by decide +kernel
theorem dRL_1038 : decode code 1038 = .ok (.iaload, 1) := by decide +kernel
theorem dRL_1039 : decode code 1039 = .ok (.invokevirtual 125, 3) := by decide +kernel
theorem dRL_1042 : decode code 1042 = .ok (.if_icmp .eq 111, 3) := by decide +kernel
theorem dRL_1045 : decode code 1045 = .ok (.iconst 0, 1) := by decide +kernel
theorem dRL_1046 : decode code 1046 = .ok (.ireturn, 1) := by decide +kernel
theorem dRL_1047 : decode code 1047 = .ok (.aload_n 1, 1) := by decide +kernel
theorem dRL_1048 : decode code 1048 = .ok (.aload_n 0, 1) := by decide +kernel
theorem dRL_1049 : decode code 1049 = .ok (.iload_n 3, 1) := by decide +kernel
theorem dRL_1050 : decode code 1050 = .ok (.iconst 1, 1) := by decide +kernel
theorem dRL_1051 : decode code 1051 = .ok (.iadd, 1) := by decide +kernel
theorem dRL_1052 : decode code 1052 = .ok (.iaload, 1) := by decide +kernel
theorem dRL_1053 : decode code 1053 = .ok (.aload_n 0, 1) := by decide +kernel
theorem dRL_1054 : decode code 1054 = .ok (.iload_n 3, 1) := by decide +kernel
theorem dRL_1055 : decode code 1055 = .ok (.iconst 2, 1) := by decide +kernel
theorem dRL_1056 : decode code 1056 = .ok (.iadd, 1) := by decide +kernel
theorem dRL_1057 : decode code 1057 = .ok (.iaload, 1) := by decide +kernel
theorem dRL_1058 : decode code 1058 = .ok (.aload_n 0, 1) := by decide +kernel
theorem dRL_1059 : decode code 1059 = .ok (.iload_n 3, 1) := by decide +kernel
theorem dRL_1060 : decode code 1060 = .ok (.iconst 3, 1) := by decide +kernel
theorem dRL_1061 : decode code 1061 = .ok (.iadd, 1) := by decide +kernel
theorem dRL_1062 : decode code 1062 = .ok (.iaload, 1) := by decide +kernel
theorem dRL_1063 : decode code 1063 = .ok (.invokevirtual 126, 3) := by decide +kernel
theorem dRL_1066 : decode code 1066 = .ok (.aload_n 2, 1) := by decide +kernel
theorem dRL_1067 : decode code 1067 = .ok (.aload_n 0, 1) := by decide +kernel
theorem dRL_1068 : decode code 1068 = .ok (.iload_n 3, 1) := by decide +kernel
theorem dRL_1069 : decode code 1069 = .ok (.iconst 1, 1) := by decide +kernel
theorem dRL_1070 : decode code 1070 = .ok (.iadd, 1) := by decide +kernel
theorem dRL_1071 : decode code 1071 = .ok (.iaload, 1) := by decide +kernel
theorem dRL_1072 : decode code 1072 = .ok (.aload_n 0, 1) := by decide +kernel
theorem dRL_1073 : decode code 1073 = .ok (.iload_n 3, 1) := by decide +kernel
theorem dRL_1074 : decode code 1074 = .ok (.iconst 2, 1) := by decide +kernel
theorem dRL_1075 : decode code 1075 = .ok (.iadd, 1) := by decide +kernel
theorem dRL_1076 : decode code 1076 = .ok (.iaload, 1) := by decide +kernel
theorem dRL_1077 : decode code 1077 = .ok (.aload_n 0, 1) := by decide +kernel
theorem dRL_1078 : decode code 1078 = .ok (.iload_n 3, 1) := by decide +kernel
theorem dRL_1079 : decode code 1079 = .ok (.iconst 3, 1) := by decide +kernel
theorem dRL_1080 : decode code 1080 = .ok (.iadd, 1) := by decide +kernel
theorem dRL_1081 : decode code 1081 = .ok (.iaload, 1) := by decide +kernel
theorem dRL_1082 : decode code 1082 = .ok (.invokevirtual 129, 3) := by decide +kernel
theorem dRL_1085 : decode code 1085 = .ok (.if_icmp .eq 68, 3) := by decide +kernel
theorem dRL_1088 : decode code 1088 = .ok (.iconst 0, 1) := by decide +kernel
theorem dRL_1089 : decode code 1089 = .ok (.ireturn, 1) := by decide +kernel
theorem dRL_1090 : decode code 1090 = .ok (.aload_n 1, 1) := by decide +kernel
theorem dRL_1091 : decode code 1091 = .ok (.aload_n 0, 1) := by decide +kernel
theorem dRL_1092 : decode code 1092 = .ok (.iload_n 3, 1) := by decide +kernel
theorem dRL_1093 : decode code 1093 = .ok (.iconst 1, 1) := by decide +kernel
theorem dRL_1094 : decode code 1094 = .ok (.iadd, 1) := by decide +kernel
theorem dRL_1095 : decode code 1095 = .ok (.iaload, 1) := by decide +kernel
theorem dRL_1096 : decode code 1096 = .ok (.aload_n 0, 1) := by decide +kernel
theorem dRL_1097 : decode code 1097 = .ok (.iload_n 3, 1) := by decide +kernel
theorem dRL_1098 : decode code 1098 = .ok (.iconst 2, 1) := by decide +kernel
theorem dRL_1099 : decode code 1099 = .ok (.iadd, 1) := by decide +kernel
theorem dRL_1100 : decode code 1100 = .ok (.iaload, 1) := by decide +kernel
theorem dRL_1101 : decode code 1101 = .ok (.aload_n 0, 1) := by decide +kernel
theorem dRL_1102 : decode code 1102 = .ok (.iload_n 3, 1) := by decide +kernel
theorem dRL_1103 : decode code 1103 = .ok (.iconst 3, 1) := by decide +kernel
theorem dRL_1104 : decode code 1104 = .ok (.iadd, 1) := by decide +kernel
theorem dRL_1105 : decode code 1105 = .ok (.iaload, 1) := by decide +kernel
theorem dRL_1106 : decode code 1106 = .ok (.aload_n 0, 1) := by decide +kernel
theorem dRL_1107 : decode code 1107 = .ok (.iload_n 3, 1) := by decide +kernel
theorem dRL_1108 : decode code 1108 = .ok (.iconst 4, 1) := by decide +kernel
theorem dRL_1109 : decode code 1109 = .ok (.iadd, 1) := by decide +kernel
theorem dRL_1110 : decode code 1110 = .ok (.iaload, 1) := by decide +kernel
theorem dRL_1111 : decode code 1111 = .ok (.aload_n 0, 1) := by decide +kernel
theorem dRL_1112 : decode code 1112 = .ok (.iload_n 3, 1) := by decide +kernel
theorem dRL_1113 : decode code 1113 = .ok (.iconst 5, 1) := by decide +kernel
theorem dRL_1114 : decode code 1114 = .ok (.iadd, 1) := by decide +kernel
theorem dRL_1115 : decode code 1115 = .ok (.iaload, 1) := by decide +kernel
theorem dRL_1116 : decode code 1116 = .ok (.invokevirtual 130, 3) := by decide +kernel
theorem dRL_1119 : decode code 1119 = .ok (.aload_n 2, 1) := by decide +kernel
theorem dRL_1120 : decode code 1120 = .ok (.aload_n 0, 1) := by decide +kernel
theorem dRL_1121 : decode code 1121 = .ok (.iload_n 3, 1) := by decide +kernel
theorem dRL_1122 : decode code 1122 = .ok (.iconst 1, 1) := by decide +kernel
theorem dRL_1123 : decode code 1123 = .ok (.iadd, 1) := by decide +kernel
theorem dRL_1124 : decode code 1124 = .ok (.iaload, 1) := by decide +kernel
theorem dRL_1125 : decode code 1125 = .ok (.aload_n 0, 1) := by decide +kernel
theorem dRL_1126 : decode code 1126 = .ok (.iload_n 3, 1) := by decide +kernel
theorem dRL_1127 : decode code 1127 = .ok (.iconst 2, 1) := by decide +kernel
theorem dRL_1128 : decode code 1128 = .ok (.iadd, 1) := by decide +kernel
theorem dRL_1129 : decode code 1129 = .ok (.iaload, 1) := by decide +kernel
theorem dRL_1130 : decode code 1130 = .ok (.aload_n 0, 1) := by decide +kernel
theorem dRL_1131 : decode code 1131 = .ok (.iload_n 3, 1) := by decide +kernel
theorem dRL_1132 : decode code 1132 = .ok (.iconst 3, 1) := by decide +kernel
theorem dRL_1133 : decode code 1133 = .ok (.iadd, 1) := by decide +kernel
theorem dRL_1134 : decode code 1134 = .ok (.iaload, 1) := by decide +kernel
theorem dRL_1135 : decode code 1135 = .ok (.aload_n 0, 1) := by decide +kernel
theorem dRL_1136 : decode code 1136 = .ok (.iload_n 3, 1) := by decide +kernel
theorem dRL_1137 : decode code 1137 = .ok (.iconst 4, 1) := by decide +kernel
theorem dRL_1138 : decode code 1138 = .ok (.iadd, 1) := by decide +kernel
theorem dRL_1139 : decode code 1139 = .ok (.iaload, 1) := by decide +kernel
theorem dRL_1140 : decode code 1140 = .ok (.aload_n 0, 1) := by decide +kernel
theorem dRL_1141 : decode code 1141 = .ok (.iload_n 3, 1) := by decide +kernel
theorem dRL_1142 : decode code 1142 = .ok (.iconst 5, 1) := by decide +kernel
theorem dRL_1143 : decode code 1143 = .ok (.iadd, 1) := by decide +kernel
theorem dRL_1144 : decode code 1144 = .ok (.iaload, 1) := by decide +kernel
theorem dRL_1145 : decode code 1145 = .ok (.invokevirtual 134, 3) := by decide +kernel
theorem dRL_1148 : decode code 1148 = .ok (.if_icmp .eq 5, 3) := by decide +kernel
theorem dRL_1151 : decode code 1151 = .ok (.iconst 0, 1) := by decide +kernel
theorem dRL_1152 : decode code 1152 = .ok (.ireturn, 1) := by decide +kernel
theorem dRL_1153 : decode code 1153 = .ok (.iinc 3 7, 3) := by decide +kernel
theorem dRL_1156 : decode code 1156 = .ok (.goto (-1138), 3) := by decide +kernel
theorem dRL_1159 : decode code 1159 = .ok (.iconst 1, 1) := by decide +kernel
theorem dRL_1160 : decode code 1160 = .ok (.ireturn, 1) := by decide +kernel
