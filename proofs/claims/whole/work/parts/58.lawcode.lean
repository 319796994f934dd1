/-! the law's decode rows and words, by program -/
theorem dL_0 : decode code 0 = .ok (.new 7, 3) := by decide +kernel
theorem dL_3 : decode code 3 = .ok (.dup, 1) := by decide +kernel
theorem dL_4 : decode code 4 = .ok (.invokespecial 9, 3) := by decide +kernel
theorem dL_7 : decode code 7 = .ok (.astore_n 1, 1) := by decide +kernel
theorem dL_8 : decode code 8 = .ok (.new 10, 3) := by decide +kernel
theorem dL_11 : decode code 11 = .ok (.dup, 1) := by decide +kernel
theorem dL_12 : decode code 12 = .ok (.invokespecial 12, 3) := by decide +kernel
theorem dL_15 : decode code 15 = .ok (.astore_n 2, 1) := by decide +kernel
theorem dL_16 : decode code 16 = .ok (.iconst 0, 1) := by decide +kernel
theorem dL_17 : decode code 17 = .ok (.istore_n 3, 1) := by decide +kernel
theorem dL_18 : decode code 18 = .ok (.iload_n 3, 1) := by decide +kernel
theorem dL_19 : decode code 19 = .ok (.aload_n 0, 1) := by decide +kernel
theorem dL_20 : decode code 20 = .ok (.arraylength, 1) := by decide +kernel
theorem dL_21 : decode code 21 = .ok (.iconst 5, 1) := by decide +kernel
theorem dL_22 : decode code 22 = .ok (.isub, 1) := by decide +kernel
theorem dL_23 : decode code 23 = .ok (.if_icmp .gt 905, 3) := by decide +kernel
theorem dL_26 : decode code 26 = .ok (.aload_n 0, 1) := by decide +kernel
theorem dL_27 : decode code 27 = .ok (.iload_n 3, 1) := by decide +kernel
theorem dL_28 : decode code 28 = .ok (.iaload, 1) := by decide +kernel
theorem dL_29 : decode code 29 = .ok (.bipush 31, 2) := by decide +kernel
theorem dL_31 : decode code 31 = .ok (.iand, 1) := by decide +kernel
theorem dL_32 : decode code 32 = .ok (.tableswitch 890 0 22 #[108, 131, 164, 197, 230, 253, 286, 319, 352, 385, 408, 441, 474, 517, 540, 599, 642, 695, 754, 777, 810, 843, 867], 108) := by decide +kernel
theorem dL_140 : decode code 140 = .ok (.aload_n 1, 1) := by decide +kernel
theorem dL_141 : decode code 141 = .ok (.aload_n 0, 1) := by decide +kernel
theorem dL_142 : decode code 142 = .ok (.iload_n 3, 1) := by decide +kernel
theorem dL_143 : decode code 143 = .ok (.iconst 1, 1) := by decide +kernel
theorem dL_144 : decode code 144 = .ok (.iadd, 1) := by decide +kernel
theorem dL_145 : decode code 145 = .ok (.iaload, 1) := by decide +kernel
theorem dL_146 : decode code 146 = .ok (.invokevirtual 13, 3) := by decide +kernel
theorem dL_149 : decode code 149 = .ok (.aload_n 2, 1) := by decide +kernel
theorem dL_150 : decode code 150 = .ok (.aload_n 0, 1) := by decide +kernel
theorem dL_151 : decode code 151 = .ok (.iload_n 3, 1) := by decide +kernel
theorem dL_152 : decode code 152 = .ok (.iconst 1, 1) := by decide +kernel
theorem dL_153 : decode code 153 = .ok (.iadd, 1) := by decide +kernel
theorem dL_154 : decode code 154 = .ok (.iaload, 1) := by decide +kernel
theorem dL_155 : decode code 155 = .ok (.invokevirtual 17, 3) := by decide +kernel
theorem dL_158 : decode code 158 = .ok (.if_icmp .eq 764, 3) := by decide +kernel
theorem dL_161 : decode code 161 = .ok (.iconst 0, 1) := by decide +kernel
theorem dL_162 : decode code 162 = .ok (.ireturn, 1) := by decide +kernel
theorem dL_163 : decode code 163 = .ok (.aload_n 1, 1) := by decide +kernel
theorem dL_164 : decode code 164 = .ok (.aload_n 0, 1) := by decide +kernel
theorem dL_165 : decode code 165 = .ok (.iload_n 3, 1) := by decide +kernel
theorem dL_166 : decode code 166 = .ok (.iconst 1, 1) := by decide +kernel
theorem dL_167 : decode code 167 = .ok (.iadd, 1) := by decide +kernel
theorem dL_168 : decode code 168 = .ok (.iaload, 1) := by decide +kernel
theorem dL_169 : decode code 169 = .ok (.aload_n 0, 1) := by decide +kernel
theorem dL_170 : decode code 170 = .ok (.iload_n 3, 1) := by decide +kernel
theorem dL_171 : decode code 171 = .ok (.iconst 2, 1) := by decide +kernel
theorem dL_172 : decode code 172 = .ok (.iadd, 1) := by decide +kernel
theorem dL_173 : decode code 173 = .ok (.iaload, 1) := by decide +kernel
theorem dL_174 : decode code 174 = .ok (.invokevirtual 18, 3) := by decide +kernel
theorem dL_177 : decode code 177 = .ok (.aload_n 2, 1) := by decide +kernel
theorem dL_178 : decode code 178 = .ok (.aload_n 0, 1) := by decide +kernel
theorem dL_179 : decode code 179 = .ok (.iload_n 3, 1) := by decide +kernel
theorem dL_180 : decode code 180 = .ok (.iconst 1, 1) := by decide +kernel
theorem dL_181 : decode code 181 = .ok (.iadd, 1) := by decide +kernel
theorem dL_182 : decode code 182 = .ok (.iaload, 1) := by decide +kernel
theorem dL_183 : decode code 183 = .ok (.aload_n 0, 1) := by decide +kernel
theorem dL_184 : decode code 184 = .ok (.iload_n 3, 1) := by decide +kernel
theorem dL_185 : decode code 185 = .ok (.iconst 2, 1) := by decide +kernel
theorem dL_186 : decode code 186 = .ok (.iadd, 1) := by decide +kernel
theorem dL_187 : decode code 187 = .ok (.iaload, 1) := by decide +kernel
theorem dL_188 : decode code 188 = .ok (.invokevirtual 22, 3) := by decide +kernel
theorem dL_191 : decode code 191 = .ok (.if_icmp .eq 731, 3) := by decide +kernel
theorem dL_194 : decode code 194 = .ok (.iconst 0, 1) := by decide +kernel
theorem dL_195 : decode code 195 = .ok (.ireturn, 1) := by decide +kernel
theorem dL_196 : decode code 196 = .ok (.aload_n 1, 1) := by decide +kernel
theorem dL_197 : decode code 197 = .ok (.aload_n 0, 1) := by decide +kernel
theorem dL_198 : decode code 198 = .ok (.iload_n 3, 1) := by decide +kernel
theorem dL_199 : decode code 199 = .ok (.iconst 1, 1) := by decide +kernel
theorem dL_200 : decode code 200 = .ok (.iadd, 1) := by decide +kernel
theorem dL_201 : decode code 201 = .ok (.iaload, 1) := by decide +kernel
theorem dL_202 : decode code 202 = .ok (.aload_n 0, 1) := by decide +kernel
theorem dL_203 : decode code 203 = .ok (.iload_n 3, 1) := by decide +kernel
theorem dL_204 : decode code 204 = .ok (.iconst 2, 1) := by decide +kernel
theorem dL_205 : decode code 205 = .ok (.iadd, 1) := by decide +kernel
theorem dL_206 : decode code 206 = .ok (.iaload, 1) := by decide +kernel
theorem dL_207 : decode code 207 = .ok (.invokevirtual 23, 3) := by decide +kernel
theorem dL_210 : decode code 210 = .ok (.aload_n 2, 1) := by decide +kernel
theorem dL_211 : decode code 211 = .ok (.aload_n 0, 1) := by decide +kernel
theorem dL_212 : decode code 212 = .ok (.iload_n 3, 1) := by decide +kernel
theorem dL_213 : decode code 213 = .ok (.iconst 1, 1) := by decide +kernel
theorem dL_214 : decode code 214 = .ok (.iadd, 1) := by decide +kernel
theorem dL_215 : decode code 215 = .ok (.iaload, 1) := by decide +kernel
theorem dL_216 : decode code 216 = .ok (.aload_n 0, 1) := by decide +kernel
theorem dL_217 : decode code 217 = .ok (.iload_n 3, 1) := by decide +kernel
theorem dL_218 : decode code 218 = .ok (.iconst 2, 1) := by decide +kernel
theorem dL_219 : decode code 219 = .ok (.iadd, 1) := by decide +kernel
theorem dL_220 : decode code 220 = .ok (.iaload, 1) := by decide +kernel
theorem dL_221 : decode code 221 = .ok (.invokevirtual 26, 3) := by decide +kernel
theorem dL_224 : decode code 224 = .ok (.if_icmp .eq 698, 3) := by decide +kernel
theorem dL_227 : decode code 227 = .ok (.iconst 0, 1) := by decide +kernel
theorem dL_228 : decode code 228 = .ok (.ireturn, 1) := by decide +kernel
theorem dL_229 : decode code 229 = .ok (.aload_n 1, 1) := by decide +kernel
theorem dL_230 : decode code 230 = .ok (.aload_n 0, 1) := by decide +kernel
theorem dL_231 : decode code 231 = .ok (.iload_n 3, 1) := by decide +kernel
theorem dL_232 : decode code 232 = .ok (.iconst 1, 1) := by decide +kernel
theorem dL_233 : decode code 233 = .ok (.iadd, 1) := by decide +kernel
theorem dL_234 : decode code 234 = .ok (.iaload, 1) := by decide +kernel
theorem dL_235 : decode code 235 = .ok (.aload_n 0, 1) := by decide +kernel
theorem dL_236 : decode code 236 = .ok (.iload_n 3, 1) := by decide +kernel
theorem dL_237 : decode code 237 = .ok (.iconst 2, 1) := by decide +kernel
theorem dL_238 : decode code 238 = .ok (.iadd, 1) := by decide +kernel
theorem dL_239 : decode code 239 = .ok (.iaload, 1) := by decide +kernel
theorem dL_240 : decode code 240 = .ok (.invokevirtual 27, 3) := by decide +kernel
theorem dL_243 : decode code 243 = .ok (.aload_n 2, 1) := by decide +kernel
theorem dL_244 : decode code 244 = .ok (.aload_n 0, 1) := by decide +kernel
theorem dL_245 : decode code 245 = .ok (.iload_n 3, 1) := by decide +kernel
theorem dL_246 : decode code 246 = .ok (.iconst 1, 1) := by decide +kernel
theorem dL_247 : decode code 247 = .ok (.iadd, 1) := by decide +kernel
theorem dL_248 : decode code 248 = .ok (.iaload, 1) := by decide +kernel
theorem dL_249 : decode code 249 = .ok (.aload_n 0, 1) := by decide +kernel
theorem dL_250 : decode code 250 = .ok (.iload_n 3, 1) := by decide +kernel
theorem dL_251 : decode code 251 = .ok (.iconst 2, 1) := by decide +kernel
theorem dL_252 : decode code 252 = .ok (.iadd, 1) := by decide +kernel
theorem dL_253 : decode code 253 = .ok (.iaload, 1) := by decide +kernel
theorem dL_254 : decode code 254 = .ok (.invokevirtual 30, 3) := by decide +kernel
theorem dL_257 : decode code 257 = .ok (.if_icmp .eq 665, 3) := by decide +kernel
theorem dL_260 : decode code 260 = .ok (.iconst 0, 1) := by decide +kernel
theorem dL_261 : decode code 261 = .ok (.ireturn, 1) := by decide +kernel
theorem dL_262 : decode code 262 = .ok (.aload_n 1, 1) := by decide +kernel
theorem dL_263 : decode code 263 = .ok (.aload_n 0, 1) := by decide +kernel
theorem dL_264 : decode code 264 = .ok (.iload_n 3, 1) := by decide +kernel
theorem dL_265 : decode code 265 = .ok (.iconst 1, 1) := by decide +kernel
theorem dL_266 : decode code 266 = .ok (.iadd, 1) := by decide +kernel
theorem dL_267 : decode code 267 = .ok (.iaload, 1) := by decide +kernel
theorem dL_268 : decode code 268 = .ok (.invokevirtual 31, 3) := by decide +kernel
theorem dL_271 : decode code 271 = .ok (.aload_n 2, 1) := by decide +kernel
theorem dL_272 : decode code 272 = .ok (.aload_n 0, 1) := by decide +kernel
theorem dL_273 : decode code 273 = .ok (.iload_n 3, 1) := by decide +kernel
theorem dL_274 : decode code 274 = .ok (.iconst 1, 1) := by decide +kernel
theorem dL_275 : decode code 275 = .ok (.iadd, 1) := by decide +kernel
theorem dL_276 : decode code 276 = .ok (.iaload, 1) := by decide +kernel
theorem dL_277 : decode code 277 = .ok (.invokevirtual 34, 3) := by decide +kernel
theorem dL_280 : decode code 280 = .ok (.if_icmp .eq 642, 3) := by decide +kernel
theorem dL_283 : decode code 283 = .ok (.iconst 0, 1) := by decide +kernel
theorem dL_284 : decode code 284 = .ok (.ireturn, 1) := by decide +kernel
theorem dL_285 : decode code 285 = .ok (.aload_n 1, 1) := by decide +kernel
theorem dL_286 : decode code 286 = .ok (.aload_n 0, 1) := by decide +kernel
theorem dL_287 : decode code 287 = .ok (.iload_n 3, 1) := by decide +kernel
theorem dL_288 : decode code 288 = .ok (.iconst 1, 1) := by decide +kernel
theorem dL_289 : decode code 289 = .ok (.iadd, 1) := by decide +kernel
theorem dL_290 : decode code 290 = .ok (.iaload, 1) := by decide +kernel
theorem dL_291 : decode code 291 = .ok (.aload_n 0, 1) := by decide +kernel
theorem dL_292 : decode code 292 = .ok (.iload_n 3, 1) := by decide +kernel
theorem dL_293 : decode code 293 = .ok (.iconst 2, 1) := by decide +kernel
theorem dL_294 : decode code 294 = .ok (.iadd, 1) := by decide +kernel
theorem dL_295 : decode code 295 = .ok (.iaload, 1) := by decide +kernel
theorem dL_296 : decode code 296 = .ok (.invokevirtual 35, 3) := by decide +kernel
theorem dL_299 : decode code 299 = .ok (.aload_n 2, 1) := by decide +kernel
theorem dL_300 : decode code 300 = .ok (.aload_n 0, 1) := by decide +kernel
theorem dL_301 : decode code 301 = .ok (.iload_n 3, 1) := by decide +kernel
theorem dL_302 : decode code 302 = .ok (.iconst 1, 1) := by decide +kernel
theorem dL_303 : decode code 303 = .ok (.iadd, 1) := by decide +kernel
theorem dL_304 : decode code 304 = .ok (.iaload, 1) := by decide +kernel
theorem dL_305 : decode code 305 = .ok (.aload_n 0, 1) := by decide +kernel
theorem dL_306 : decode code 306 = .ok (.iload_n 3, 1) := by decide +kernel
theorem dL_307 : decode code 307 = .ok (.iconst 2, 1) := by decide +kernel
theorem dL_308 : decode code 308 = .ok (.iadd, 1) := by decide +kernel
theorem dL_309 : decode code 309 = .ok (.iaload, 1) := by decide +kernel
theorem dL_310 : decode code 310 = .ok (.invokevirtual 38, 3) := by decide +kernel
theorem dL_313 : decode code 313 = .ok (.if_icmp .eq 609, 3) := by decide +kernel
theorem dL_316 : decode code 316 = .ok (.iconst 0, 1) := by decide +kernel
theorem dL_317 : decode code 317 = .ok (.ireturn, 1) := by decide +kernel
theorem dL_318 : decode code 318 = .ok (.aload_n 1, 1) := by decide +kernel
theorem dL_319 : decode code 319 = .ok (.aload_n 0, 1) := by decide +kernel
theorem dL_320 : decode code 320 = .ok (.iload_n 3, 1) := by decide +kernel
theorem dL_321 : decode code 321 = .ok (.iconst 1, 1) := by decide +kernel
theorem dL_322 : decode code 322 = .ok (.iadd, 1) := by decide +kernel
theorem dL_323 : decode code 323 = .ok (.iaload, 1) := by decide +kernel
theorem dL_324 : decode code 324 = .ok (.aload_n 0, 1) := by decide +kernel
theorem dL_325 : decode code 325 = .ok (.iload_n 3, 1) := by decide +kernel
theorem dL_326 : decode code 326 = .ok (.iconst 2, 1) := by decide +kernel
theorem dL_327 : decode code 327 = .ok (.iadd, 1) := by decide +kernel
theorem dL_328 : decode code 328 = .ok (.iaload, 1) := by decide +kernel
theorem dL_329 : decode code 329 = .ok (.invokevirtual 39, 3) := by decide +kernel
theorem dL_332 : decode code 332 = .ok (.aload_n 2, 1) := by decide +kernel
theorem dL_333 : decode code 333 = .ok (.aload_n 0, 1) := by decide +kernel
theorem dL_334 : decode code 334 = .ok (.iload_n 3, 1) := by decide +kernel
theorem dL_335 : decode code 335 = .ok (.iconst 1, 1) := by decide +kernel
theorem dL_336 : decode code 336 = .ok (.iadd, 1) := by decide +kernel
theorem dL_337 : decode code 337 = .ok (.iaload, 1) := by decide +kernel
theorem dL_338 : decode code 338 = .ok (.aload_n 0, 1) := by decide +kernel
theorem dL_339 : decode code 339 = .ok (.iload_n 3, 1) := by decide +kernel
theorem dL_340 : decode code 340 = .ok (.iconst 2, 1) := by decide +kernel
theorem dL_341 : decode code 341 = .ok (.iadd, 1) := by decide +kernel
theorem dL_342 : decode code 342 = .ok (.iaload, 1) := by decide +kernel
theorem dL_343 : decode code 343 = .ok (.invokevirtual 42, 3) := by decide +kernel
theorem dL_346 : decode code 346 = .ok (.if_icmp .eq 576, 3) := by decide +kernel
theorem dL_349 : decode code 349 = .ok (.iconst 0, 1) := by decide +kernel
theorem dL_350 : decode code 350 = .ok (.ireturn, 1) := by decide +kernel
theorem dL_351 : decode code 351 = .ok (.aload_n 1, 1) := by decide +kernel
theorem dL_352 : decode code 352 = .ok (.aload_n 0, 1) := by decide +kernel
theorem dL_353 : decode code 353 = .ok (.iload_n 3, 1) := by decide +kernel
theorem dL_354 : decode code 354 = .ok (.iconst 1, 1) := by decide +kernel
theorem dL_355 : decode code 355 = .ok (.iadd, 1) := by decide +kernel
theorem dL_356 : decode code 356 = .ok (.iaload, 1) := by decide +kernel
theorem dL_357 : decode code 357 = .ok (.aload_n 0, 1) := by decide +kernel
theorem dL_358 : decode code 358 = .ok (.iload_n 3, 1) := by decide +kernel
theorem dL_359 : decode code 359 = .ok (.iconst 2, 1) := by decide +kernel
theorem dL_360 : decode code 360 = .ok (.iadd, 1) := by decide +kernel
theorem dL_361 : decode code 361 = .ok (.iaload, 1) := by decide +kernel
theorem dL_362 : decode code 362 = .ok (.invokevirtual 43, 3) := by decide +kernel
theorem dL_365 : decode code 365 = .ok (.aload_n 2, 1) := by decide +kernel
theorem dL_366 : decode code 366 = .ok (.aload_n 0, 1) := by decide +kernel
theorem dL_367 : decode code 367 = .ok (.iload_n 3, 1) := by decide +kernel
theorem dL_368 : decode code 368 = .ok (.iconst 1, 1) := by decide +kernel
theorem dL_369 : decode code 369 = .ok (.iadd, 1) := by decide +kernel
theorem dL_370 : decode code 370 = .ok (.iaload, 1) := by decide +kernel
theorem dL_371 : decode code 371 = .ok (.aload_n 0, 1) := by decide +kernel
theorem dL_372 : decode code 372 = .ok (.iload_n 3, 1) := by decide +kernel
theorem dL_373 : decode code 373 = .ok (.iconst 2, 1) := by decide +kernel
theorem dL_374 : decode code 374 = .ok (.iadd, 1) := by decide +kernel
theorem dL_375 : decode code 375 = .ok (.iaload, 1) := by decide +kernel
theorem dL_376 : decode code 376 = .ok (.invokevirtual 46, 3) := by decide +kernel
theorem dL_379 : decode code 379 = .ok (.if_icmp .eq 543, 3) := by decide +kernel
theorem dL_382 : decode code 382 = .ok (.iconst 0, 1) := by decide +kernel
theorem dL_383 : decode code 383 = .ok (.ireturn, 1) := by decide +kernel
theorem dL_384 : decode code 384 = .ok (.aload_n 1, 1) := by decide +kernel
theorem dL_385 : decode code 385 = .ok (.aload_n 0, 1) := by decide +kernel
theorem dL_386 : decode code 386 = .ok (.iload_n 3, 1) := by decide +kernel
theorem dL_387 : decode code 387 = .ok (.iconst 1, 1) := by decide +kernel
theorem dL_388 : decode code 388 = .ok (.iadd, 1) := by decide +kernel
theorem dL_389 : decode code 389 = .ok (.iaload, 1) := by decide +kernel
theorem dL_390 : decode code 390 = .ok (.aload_n 0, 1) := by decide +kernel
theorem dL_391 : decode code 391 = .ok (.iload_n 3, 1) := by decide +kernel
theorem dL_392 : decode code 392 = .ok (.iconst 2, 1) := by decide +kernel
theorem dL_393 : decode code 393 = .ok (.iadd, 1) := by decide +kernel
theorem dL_394 : decode code 394 = .ok (.iaload, 1) := by decide +kernel
theorem dL_395 : decode code 395 = .ok (.invokevirtual 47, 3) := by decide +kernel
theorem dL_398 : decode code 398 = .ok (.aload_n 2, 1) := by decide +kernel
theorem dL_399 : decode code 399 = .ok (.aload_n 0, 1) := by decide +kernel
theorem dL_400 : decode code 400 = .ok (.iload_n 3, 1) := by decide +kernel
theorem dL_401 : decode code 401 = .ok (.iconst 1, 1) := by decide +kernel
theorem dL_402 : decode code 402 = .ok (.iadd, 1) := by decide +kernel
theorem dL_403 : decode code 403 = .ok (.iaload, 1) := by decide +kernel
theorem dL_404 : decode code 404 = .ok (.aload_n 0, 1) := by decide +kernel
theorem dL_405 : decode code 405 = .ok (.iload_n 3, 1) := by decide +kernel
theorem dL_406 : decode code 406 = .ok (.iconst 2, 1) := by decide +kernel
theorem dL_407 : decode code 407 = .ok (.iadd, 1) := by decide +kernel
theorem dL_408 : decode code 408 = .ok (.iaload, 1) := by decide +kernel
theorem dL_409 : decode code 409 = .ok (.invokevirtual 50, 3) := by decide +kernel
theorem dL_412 : decode code 412 = .ok (.if_icmp .eq 510, 3) := by decide +kernel
theorem dL_415 : decode code 415 = .ok (.iconst 0, 1) := by decide +kernel
theorem dL_416 : decode code 416 = .ok (.ireturn, 1) := by decide +kernel
theorem dL_417 : decode code 417 = .ok (.aload_n 1, 1) := by decide +kernel
theorem dL_418 : decode code 418 = .ok (.aload_n 0, 1) := by decide +kernel
theorem dL_419 : decode code 419 = .ok (.iload_n 3, 1) := by decide +kernel
theorem dL_420 : decode code 420 = .ok (.iconst 1, 1) := by decide +kernel
theorem dL_421 : decode code 421 = .ok (.iadd, 1) := by decide +kernel
theorem dL_422 : decode code 422 = .ok (.iaload, 1) := by decide +kernel
theorem dL_423 : decode code 423 = .ok (.invokevirtual 51, 3) := by decide +kernel
theorem dL_426 : decode code 426 = .ok (.aload_n 2, 1) := by decide +kernel
theorem dL_427 : decode code 427 = .ok (.aload_n 0, 1) := by decide +kernel
theorem dL_428 : decode code 428 = .ok (.iload_n 3, 1) := by decide +kernel
theorem dL_429 : decode code 429 = .ok (.iconst 1, 1) := by decide +kernel
theorem dL_430 : decode code 430 = .ok (.iadd, 1) := by decide +kernel
theorem dL_431 : decode code 431 = .ok (.iaload, 1) := by decide +kernel
theorem dL_432 : decode code 432 = .ok (.invokevirtual 54, 3) := by decide +kernel
theorem dL_435 : decode code 435 = .ok (.if_icmp .eq 487, 3) := by decide +kernel
theorem dL_438 : decode code 438 = .ok (.iconst 0, 1) := by decide +kernel
theorem dL_439 : decode code 439 = .ok (.ireturn, 1) := by decide +kernel
theorem dL_440 : decode code 440 = .ok (.aload_n 1, 1) := by decide +kernel
theorem dL_441 : decode code 441 = .ok (.aload_n 0, 1) := by decide +kernel
theorem dL_442 : decode code 442 = .ok (.iload_n 3, 1) := by decide +kernel
theorem dL_443 : decode code 443 = .ok (.iconst 1, 1) := by decide +kernel
theorem dL_444 : decode code 444 = .ok (.iadd, 1) := by decide +kernel
theorem dL_445 : decode code 445 = .ok (.iaload, 1) := by decide +kernel
theorem dL_446 : decode code 446 = .ok (.aload_n 0, 1) := by decide +kernel
theorem dL_447 : decode code 447 = .ok (.iload_n 3, 1) := by decide +kernel
theorem dL_448 : decode code 448 = .ok (.iconst 2, 1) := by decide +kernel
theorem dL_449 : decode code 449 = .ok (.iadd, 1) := by decide +kernel
theorem dL_450 : decode code 450 = .ok (.iaload, 1) := by decide +kernel
theorem dL_451 : decode code 451 = .ok (.invokevirtual 55, 3) := by decide +kernel
theorem dL_454 : decode code 454 = .ok (.aload_n 2, 1) := by decide +kernel
theorem dL_455 : decode code 455 = .ok (.aload_n 0, 1) := by decide +kernel
theorem dL_456 : decode code 456 = .ok (.iload_n 3, 1) := by decide +kernel
theorem dL_457 : decode code 457 = .ok (.iconst 1, 1) := by decide +kernel
theorem dL_458 : decode code 458 = .ok (.iadd, 1) := by decide +kernel
theorem dL_459 : decode code 459 = .ok (.iaload, 1) := by decide +kernel
theorem dL_460 : decode code 460 = .ok (.aload_n 0, 1) := by decide +kernel
theorem dL_461 : decode code 461 = .ok (.iload_n 3, 1) := by decide +kernel
theorem dL_462 : decode code 462 = .ok (.iconst 2, 1) := by decide +kernel
theorem dL_463 : decode code 463 = .ok (.iadd, 1) := by decide +kernel
theorem dL_464 : decode code 464 = .ok (.iaload, 1) := by decide +kernel
theorem dL_465 : decode code 465 = .ok (.invokevirtual 58, 3) := by decide +kernel
theorem dL_468 : decode code 468 = .ok (.if_icmp .eq 454, 3) := by decide +kernel
theorem dL_471 : decode code 471 = .ok (.iconst 0, 1) := by decide +kernel
theorem dL_472 : decode code 472 = .ok (.ireturn, 1) := by decide +kernel
theorem dL_473 : decode code 473 = .ok (.aload_n 1, 1) := by decide +kernel
theorem dL_474 : decode code 474 = .ok (.aload_n 0, 1) := by decide +kernel
theorem dL_475 : decode code 475 = .ok (.iload_n 3, 1) := by decide +kernel
theorem dL_476 : decode code 476 = .ok (.iconst 1, 1) := by decide +kernel
theorem dL_477 : decode code 477 = .ok (.iadd, 1) := by decide +kernel
theorem dL_478 : decode code 478 = .ok (.iaload, 1) := by decide +kernel
theorem dL_479 : decode code 479 = .ok (.aload_n 0, 1) := by decide +kernel
theorem dL_480 : decode code 480 = .ok (.iload_n 3, 1) := by decide +kernel
theorem dL_481 : decode code 481 = .ok (.iconst 2, 1) := by decide +kernel
theorem dL_482 : decode code 482 = .ok (.iadd, 1) := by decide +kernel
theorem dL_483 : decode code 483 = .ok (.iaload, 1) := by decide +kernel
theorem dL_484 : decode code 484 = .ok (.invokevirtual 59, 3) := by decide +kernel
theorem dL_487 : decode code 487 = .ok (.aload_n 2, 1) := by decide +kernel
theorem dL_488 : decode code 488 = .ok (.aload_n 0, 1) := by decide +kernel
theorem dL_489 : decode code 489 = .ok (.iload_n 3, 1) := by decide +kernel
theorem dL_490 : decode code 490 = .ok (.iconst 1, 1) := by decide +kernel
theorem dL_491 : decode code 491 = .ok (.iadd, 1) := by decide +kernel
theorem dL_492 : decode code 492 = .ok (.iaload, 1) := by decide +kernel
theorem dL_493 : decode code 493 = .ok (.aload_n 0, 1) := by decide +kernel
theorem dL_494 : decode code 494 = .ok (.iload_n 3, 1) := by decide +kernel
theorem dL_495 : decode code 495 = .ok (.iconst 2, 1) := by decide +kernel
theorem dL_496 : decode code 496 = .ok (.iadd, 1) := by decide +kernel
theorem dL_497 : decode code 497 = .ok (.iaload, 1) := by decide +kernel
theorem dL_498 : decode code 498 = .ok (.invokevirtual 62, 3) := by decide +kernel
theorem dL_501 : decode code 501 = .ok (.if_icmp .eq 421, 3) := by decide +kernel
theorem dL_504 : decode code 504 = .ok (.iconst 0, 1) := by decide +kernel
theorem dL_505 : decode code 505 = .ok (.ireturn, 1) := by decide +kernel
theorem dL_506 : decode code 506 = .ok (.aload_n 1, 1) := by decide +kernel
theorem dL_507 : decode code 507 = .ok (.aload_n 0, 1) := by decide +kernel
theorem dL_508 : decode code 508 = .ok (.iload_n 3, 1) := by decide +kernel
theorem dL_509 : decode code 509 = .ok (.iconst 1, 1) := by decide +kernel
theorem dL_510 : decode code 510 = .ok (.iadd, 1) := by decide +kernel
theorem dL_511 : decode code 511 = .ok (.iaload, 1) := by decide +kernel
theorem dL_512 : decode code 512 = .ok (.aload_n 0, 1) := by decide +kernel
theorem dL_513 : decode code 513 = .ok (.iload_n 3, 1) := by decide +kernel
theorem dL_514 : decode code 514 = .ok (.iconst 2, 1) := by decide +kernel
theorem dL_515 : decode code 515 = .ok (.iadd, 1) := by decide +kernel
theorem dL_516 : decode code 516 = .ok (.iaload, 1) := by decide +kernel
theorem dL_517 : decode code 517 = .ok (.aload_n 0, 1) := by decide +kernel
theorem dL_518 : decode code 518 = .ok (.iload_n 3, 1) := by decide +kernel
theorem dL_519 : decode code 519 = .ok (.iconst 3, 1) := by decide +kernel
theorem dL_520 : decode code 520 = .ok (.iadd, 1) := by decide +kernel
theorem dL_521 : decode code 521 = .ok (.iaload, 1) := by decide +kernel
theorem dL_522 : decode code 522 = .ok (.invokevirtual 63, 3) := by decide +kernel
theorem dL_525 : decode code 525 = .ok (.aload_n 2, 1) := by decide +kernel
theorem dL_526 : decode code 526 = .ok (.aload_n 0, 1) := by decide +kernel
theorem dL_527 : decode code 527 = .ok (.iload_n 3, 1) := by decide +kernel
theorem dL_528 : decode code 528 = .ok (.iconst 1, 1) := by decide +kernel
theorem dL_529 : decode code 529 = .ok (.iadd, 1) := by decide +kernel
theorem dL_530 : decode code 530 = .ok (.iaload, 1) := by decide +kernel
theorem dL_531 : decode code 531 = .ok (.aload_n 0, 1) := by decide +kernel
theorem dL_532 : decode code 532 = .ok (.iload_n 3, 1) := by decide +kernel
theorem dL_533 : decode code 533 = .ok (.iconst 2, 1) := by decide +kernel
theorem dL_534 : decode code 534 = .ok (.iadd, 1) := by decide +kernel
theorem dL_535 : decode code 535 = .ok (.iaload, 1) := by decide +kernel
theorem dL_536 : decode code 536 = .ok (.aload_n 0, 1) := by decide +kernel
theorem dL_537 : decode code 537 = .ok (.iload_n 3, 1) := by decide +kernel
theorem dL_538 : decode code 538 = .ok (.iconst 3, 1) := by decide +kernel
theorem dL_539 : decode code 539 = .ok (.iadd, 1) := by decide +kernel
theorem dL_540 : decode code 540 = .ok (.iaload, 1) := by decide +kernel
theorem dL_541 : decode code 541 = .ok (.invokevirtual 67, 3) := by decide +kernel
theorem dL_544 : decode code 544 = .ok (.if_icmp .eq 378, 3) := by decide +kernel
theorem dL_547 : decode code 547 = .ok (.iconst 0, 1) := by decide +kernel
theorem dL_548 : decode code 548 = .ok (.ireturn, 1) := by decide +kernel
theorem dL_549 : decode code 549 = .ok (.aload_n 1, 1) := by decide +kernel
theorem dL_550 : decode code 550 = .ok (.aload_n 0, 1) := by decide +kernel
theorem dL_551 : decode code 551 = .ok (.iload_n 3, 1) := by decide +kernel
theorem dL_552 : decode code 552 = .ok (.iconst 1, 1) := by decide +kernel
theorem dL_553 : decode code 553 = .ok (.iadd, 1) := by decide +kernel
theorem dL_554 : decode code 554 = .ok (.iaload, 1) := by decide +kernel
theorem dL_555 : decode code 555 = .ok (.invokevirtual 68, 3) := by decide +kernel
theorem dL_558 : decode code 558 = .ok (.aload_n 2, 1) := by decide +kernel
theorem dL_559 : decode code 559 = .ok (.aload_n 0, 1) := by decide +kernel
theorem dL_560 : decode code 560 = .ok (.iload_n 3, 1) := by decide +kernel
theorem dL_561 : decode code 561 = .ok (.iconst 1, 1) := by decide +kernel
theorem dL_562 : decode code 562 = .ok (.iadd, 1) := by decide +kernel
theorem dL_563 : decode code 563 = .ok (.iaload, 1) := by decide +kernel
theorem dL_564 : decode code 564 = .ok (.invokevirtual 71, 3) := by decide +kernel
theorem dL_567 : decode code 567 = .ok (.if_icmp .eq 355, 3) := by decide +kernel
theorem dL_570 : decode code 570 = .ok (.iconst 0, 1) := by decide +kernel
theorem dL_571 : decode code 571 = .ok (.ireturn, 1) := by decide +kernel
theorem dL_572 : decode code 572 = .ok (.aload_n 1, 1) := by decide +kernel
theorem dL_573 : decode code 573 = .ok (.aload_n 0, 1) := by decide +kernel
theorem dL_574 : decode code 574 = .ok (.iload_n 3, 1) := by decide +kernel
theorem dL_575 : decode code 575 = .ok (.iconst 1, 1) := by decide +kernel
theorem dL_576 : decode code 576 = .ok (.iadd, 1) := by decide +kernel
theorem dL_577 : decode code 577 = .ok (.iaload, 1) := by decide +kernel
theorem dL_578 : decode code 578 = .ok (.aload_n 0, 1) := by decide +kernel
theorem dL_579 : decode code 579 = .ok (.iload_n 3, 1) := by decide +kernel
theorem dL_580 : decode code 580 = .ok (.iconst 2, 1) := by decide +kernel
theorem dL_581 : decode code 581 = .ok (.iadd, 1) := by decide +kernel
theorem dL_582 : decode code 582 = .ok (.iaload, 1) := by decide +kernel
theorem dL_583 : decode code 583 = .ok (.aload_n 0, 1) := by decide +kernel
theorem dL_584 : decode code 584 = .ok (.iload_n 3, 1) := by decide +kernel
theorem dL_585 : decode code 585 = .ok (.iconst 3, 1) := by decide +kernel
theorem dL_586 : decode code 586 = .ok (.iadd, 1) := by decide +kernel
theorem dL_587 : decode code 587 = .ok (.iaload, 1) := by decide +kernel
theorem dL_588 : decode code 588 = .ok (.ifCond .eq 7, 3) := by decide +kernel
theorem dL_591 : decode code 591 = .ok (.iconst 1, 1) := by decide +kernel
theorem dL_592 : decode code 592 = .ok (.goto 4, 3) := by decide +kernel
theorem dL_595 : decode code 595 = .ok (.iconst 0, 1) := by decide +kernel
theorem dL_596 : decode code 596 = .ok (.invokevirtual 72, 3) := by decide +kernel
theorem dL_599 : decode code 599 = .ok (.aload_n 2, 1) := by decide +kernel
theorem dL_600 : decode code 600 = .ok (.aload_n 0, 1) := by decide +kernel
theorem dL_601 : decode code 601 = .ok (.iload_n 3, 1) := by decide +kernel
theorem dL_602 : decode code 602 = .ok (.iconst 1, 1) := by decide +kernel
theorem dL_603 : decode code 603 = .ok (.iadd, 1) := by decide +kernel
theorem dL_604 : decode code 604 = .ok (.iaload, 1) := by decide +kernel
theorem dL_605 : decode code 605 = .ok (.aload_n 0, 1) := by decide +kernel
theorem dL_606 : decode code 606 = .ok (.iload_n 3, 1) := by decide +kernel
theorem dL_607 : decode code 607 = .ok (.iconst 2, 1) := by decide +kernel
theorem dL_608 : decode code 608 = .ok (.iadd, 1) := by decide +kernel
theorem dL_609 : decode code 609 = .ok (.iaload, 1) := by decide +kernel
theorem dL_610 : decode code 610 = .ok (.aload_n 0, 1) := by decide +kernel
theorem dL_611 : decode code 611 = .ok (.iload_n 3, 1) := by decide +kernel
theorem dL_612 : decode code 612 = .ok (.iconst 3, 1) := by decide +kernel
theorem dL_613 : decode code 613 = .ok (.iadd, 1) := by decide +kernel
theorem dL_614 : decode code 614 = .ok (.iaload, 1) := by decide +kernel
theorem dL_615 : decode code 615 = .ok (.ifCond .eq 7, 3) := by decide +kernel
theorem dL_618 : decode code 618 = .ok (.iconst 1, 1) := by decide +kernel
theorem dL_619 : decode code 619 = .ok (.goto 4, 3) := by decide +kernel
theorem dL_622 : decode code 622 = .ok (.iconst 0, 1) := by decide +kernel
theorem dL_623 : decode code 623 = .ok (.invokevirtual 76, 3) := by decide +kernel
theorem dL_626 : decode code 626 = .ok (.if_icmp .eq 296, 3) := by decide +kernel
theorem dL_629 : decode code 629 = .ok (.iconst 0, 1) := by decide +kernel
theorem dL_630 : decode code 630 = .ok (.ireturn, 1) := by decide +kernel
theorem dL_631 : decode code 631 = .ok (.aload_n 1, 1) := by decide +kernel
theorem dL_632 : decode code 632 = .ok (.aload_n 0, 1) := by decide +kernel
theorem dL_633 : decode code 633 = .ok (.iload_n 3, 1) := by decide +kernel
theorem dL_634 : decode code 634 = .ok (.iconst 1, 1) := by decide +kernel
theorem dL_635 : decode code 635 = .ok (.iadd, 1) := by decide +kernel
theorem dL_636 : decode code 636 = .ok (.iaload, 1) := by decide +kernel
theorem dL_637 : decode code 637 = .ok (.aload_n 0, 1) := by decide +kernel
theorem dL_638 : decode code 638 = .ok (.iload_n 3, 1) := by decide +kernel
theorem dL_639 : decode code 639 = .ok (.iconst 2, 1) := by decide +kernel
theorem dL_640 : decode code 640 = .ok (.iadd, 1) := by decide +kernel
theorem dL_641 : decode code 641 = .ok (.iaload, 1) := by decide +kernel
theorem dL_642 : decode code 642 = .ok (.aload_n 0, 1) := by decide +kernel
theorem dL_643 : decode code 643 = .ok (.iload_n 3, 1) := by decide +kernel
theorem dL_644 : decode code 644 = .ok (.iconst 3, 1) := by decide +kernel
theorem dL_645 : decode code 645 = .ok (.iadd, 1) := by decide +kernel
theorem dL_646 : decode code 646 = .ok (.iaload, 1) := by decide +kernel
theorem dL_647 : decode code 647 = .ok (.invokevirtual 77, 3) := by decide +kernel
theorem dL_650 : decode code 650 = .ok (.aload_n 2, 1) := by decide +kernel
theorem dL_651 : decode code 651 = .ok (.aload_n 0, 1) := by decide +kernel
theorem dL_652 : decode code 652 = .ok (.iload_n 3, 1) := by decide +kernel
theorem dL_653 : decode code 653 = .ok (.iconst 1, 1) := by decide +kernel
theorem dL_654 : decode code 654 = .ok (.iadd, 1) := by decide +kernel
theorem dL_655 : decode code 655 = .ok (.iaload, 1) := by decide +kernel
theorem dL_656 : decode code 656 = .ok (.aload_n 0, 1) := by decide +kernel
theorem dL_657 : decode code 657 = .ok (.iload_n 3, 1) := by decide +kernel
theorem dL_658 : decode code 658 = .ok (.iconst 2, 1) := by decide +kernel
theorem dL_659 : decode code 659 = .ok (.iadd, 1) := by decide +kernel
theorem dL_660 : decode code 660 = .ok (.iaload, 1) := by decide +kernel
theorem dL_661 : decode code 661 = .ok (.aload_n 0, 1) := by decide +kernel
theorem dL_662 : decode code 662 = .ok (.iload_n 3, 1) := by decide +kernel
theorem dL_663 : decode code 663 = .ok (.iconst 3, 1) := by decide +kernel
theorem dL_664 : decode code 664 = .ok (.iadd, 1) := by decide +kernel
theorem dL_665 : decode code 665 = .ok (.iaload, 1) := by decide +kernel
theorem dL_666 : decode code 666 = .ok (.invokevirtual 80, 3) := by decide +kernel
theorem dL_669 : decode code 669 = .ok (.if_icmp .eq 253, 3) := by decide +kernel
theorem dL_672 : decode code 672 = .ok (.iconst 0, 1) := by decide +kernel
theorem dL_673 : decode code 673 = .ok (.ireturn, 1) := by decide +kernel
theorem dL_674 : decode code 674 = .ok (.aload_n 1, 1) := by decide +kernel
theorem dL_675 : decode code 675 = .ok (.aload_n 0, 1) := by decide +kernel
theorem dL_676 : decode code 676 = .ok (.iload_n 3, 1) := by decide +kernel
theorem dL_677 : decode code 677 = .ok (.iconst 1, 1) := by decide +kernel
theorem dL_678 : decode code 678 = .ok (.iadd, 1) := by decide +kernel
theorem dL_679 : decode code 679 = .ok (.iaload, 1) := by decide +kernel
theorem dL_680 : decode code 680 = .ok (.aload_n 0, 1) := by decide +kernel
theorem dL_681 : decode code 681 = .ok (.iload_n 3, 1) := by decide +kernel
theorem dL_682 : decode code 682 = .ok (.iconst 2, 1) := by decide +kernel
theorem dL_683 : decode code 683 = .ok (.iadd, 1) := by decide +kernel
theorem dL_684 : decode code 684 = .ok (.iaload, 1) := by decide +kernel
theorem dL_685 : decode code 685 = .ok (.aload_n 0, 1) := by decide +kernel
theorem dL_686 : decode code 686 = .ok (.iload_n 3, 1) := by decide +kernel
theorem dL_687 : decode code 687 = .ok (.iconst 3, 1) := by decide +kernel
theorem dL_688 : decode code 688 = .ok (.iadd, 1) := by decide +kernel
theorem dL_689 : decode code 689 = .ok (.iaload, 1) := by decide +kernel
theorem dL_690 : decode code 690 = .ok (.aload_n 0, 1) := by decide +kernel
theorem dL_691 : decode code 691 = .ok (.iload_n 3, 1) := by decide +kernel
theorem dL_692 : decode code 692 = .ok (.iconst 4, 1) := by decide +kernel
theorem dL_693 : decode code 693 = .ok (.iadd, 1) := by decide +kernel
theorem dL_694 : decode code 694 = .ok (.iaload, 1) := by decide +kernel
theorem dL_695 : decode code 695 = .ok (.invokevirtual 81, 3) := by decide +kernel
theorem dL_698 : decode code 698 = .ok (.aload_n 2, 1) := by decide +kernel
theorem dL_699 : decode code 699 = .ok (.aload_n 0, 1) := by decide +kernel
theorem dL_700 : decode code 700 = .ok (.iload_n 3, 1) := by decide +kernel
theorem dL_701 : decode code 701 = .ok (.iconst 1, 1) := by decide +kernel
theorem dL_702 : decode code 702 = .ok (.iadd, 1) := by decide +kernel
theorem dL_703 : decode code 703 = .ok (.iaload, 1) := by decide +kernel
theorem dL_704 : decode code 704 = .ok (.aload_n 0, 1) := by decide +kernel
theorem dL_705 : decode code 705 = .ok (.iload_n 3, 1) := by decide +kernel
theorem dL_706 : decode code 706 = .ok (.iconst 2, 1) := by decide +kernel
theorem dL_707 : decode code 707 = .ok (.iadd, 1) := by decide +kernel
theorem dL_708 : decode code 708 = .ok (.iaload, 1) := by decide +kernel
theorem dL_709 : decode code 709 = .ok (.aload_n 0, 1) := by decide +kernel
theorem dL_710 : decode code 710 = .ok (.iload_n 3, 1) := by decide +kernel
theorem dL_711 : decode code 711 = .ok (.iconst 3, 1) := by decide +kernel
theorem dL_712 : decode code 712 = .ok (.iadd, 1) := by decide +kernel
theorem dL_713 : decode code 713 = .ok (.iaload, 1) := by decide +kernel
theorem dL_714 : decode code 714 = .ok (.aload_n 0, 1) := by decide +kernel
theorem dL_715 : decode code 715 = .ok (.iload_n 3, 1) := by decide +kernel
theorem dL_716 : decode code 716 = .ok (.iconst 4, 1) := by decide +kernel
theorem dL_717 : decode code 717 = .ok (.iadd, 1) := by decide +kernel
theorem dL_718 : decode code 718 = .ok (.iaload, 1) := by decide +kernel
theorem dL_719 : decode code 719 = .ok (.invokevirtual 85, 3) := by decide +kernel
theorem dL_722 : decode code 722 = .ok (.if_icmp .eq 200, 3) := by decide +kernel
theorem dL_725 : decode code 725 = .ok (.iconst 0, 1) := by decide +kernel
theorem dL_726 : decode code 726 = .ok (.ireturn, 1) := by decide +kernel
theorem dL_727 : decode code 727 = .ok (.aload_n 1, 1) := by decide +kernel
theorem dL_728 : decode code 728 = .ok (.aload_n 0, 1) := by decide +kernel
theorem dL_729 : decode code 729 = .ok (.iload_n 3, 1) := by decide +kernel
theorem dL_730 : decode code 730 = .ok (.iconst 1, 1) := by decide +kernel
theorem dL_731 : decode code 731 = .ok (.iadd, 1) := by decide +kernel
theorem dL_732 : decode code 732 = .ok (.iaload, 1) := by decide +kernel
theorem dL_733 : decode code 733 = .ok (.ifCond .eq 7, 3) := by decide +kernel
theorem dL_736 : decode code 736 = .ok (.iconst 1, 1) := by decide +kernel
theorem dL_737 : decode code 737 = .ok (.goto 4, 3) := by decide +kernel
theorem dL_740 : decode code 740 = .ok (.iconst 0, 1) := by decide +kernel
theorem dL_741 : decode code 741 = .ok (.aload_n 0, 1) := by decide +kernel
theorem dL_742 : decode code 742 = .ok (.iload_n 3, 1) := by decide +kernel
theorem dL_743 : decode code 743 = .ok (.iconst 2, 1) := by decide +kernel
theorem dL_744 : decode code 744 = .ok (.iadd, 1) := by decide +kernel
theorem dL_745 : decode code 745 = .ok (.iaload, 1) := by decide +kernel
theorem dL_746 : decode code 746 = .ok (.aload_n 0, 1) := by decide +kernel
theorem dL_747 : decode code 747 = .ok (.iload_n 3, 1) := by decide +kernel
theorem dL_748 : decode code 748 = .ok (.iconst 3, 1) := by decide +kernel
theorem dL_749 : decode code 749 = .ok (.iadd, 1) := by decide +kernel
theorem dL_750 : decode code 750 = .ok (.iaload, 1) := by decide +kernel
theorem dL_751 : decode code 751 = .ok (.invokevirtual 86, 3) := by decide +kernel
theorem dL_754 : decode code 754 = .ok (.aload_n 2, 1) := by decide +kernel
theorem dL_755 : decode code 755 = .ok (.aload_n 0, 1) := by decide +kernel
theorem dL_756 : decode code 756 = .ok (.iload_n 3, 1) := by decide +kernel
theorem dL_757 : decode code 757 = .ok (.iconst 1, 1) := by decide +kernel
theorem dL_758 : decode code 758 = .ok (.iadd, 1) := by decide +kernel
theorem dL_759 : decode code 759 = .ok (.iaload, 1) := by decide +kernel
theorem dL_760 : decode code 760 = .ok (.ifCond .eq 7, 3) := by decide +kernel
theorem dL_763 : decode code 763 = .ok (.iconst 1, 1) := by decide +kernel
theorem dL_764 : decode code 764 = .ok (.goto 4, 3) := by decide +kernel
theorem dL_767 : decode code 767 = .ok (.iconst 0, 1) := by decide +kernel
theorem dL_768 : decode code 768 = .ok (.aload_n 0, 1) := by decide +kernel
theorem dL_769 : decode code 769 = .ok (.iload_n 3, 1) := by decide +kernel
theorem dL_770 : decode code 770 = .ok (.iconst 2, 1) := by decide +kernel
theorem dL_771 : decode code 771 = .ok (.iadd, 1) := by decide +kernel
theorem dL_772 : decode code 772 = .ok (.iaload, 1) := by decide +kernel
theorem dL_773 : decode code 773 = .ok (.aload_n 0, 1) := by decide +kernel
theorem dL_774 : decode code 774 = .ok (.iload_n 3, 1) := by decide +kernel
theorem dL_775 : decode code 775 = .ok (.iconst 3, 1) := by decide +kernel
theorem dL_776 : decode code 776 = .ok (.iadd, 1) := by decide +kernel
theorem dL_777 : decode code 777 = .ok (.iaload, 1) := by decide +kernel
theorem dL_778 : decode code 778 = .ok (.invokevirtual 90, 3) := by decide +kernel
theorem dL_781 : decode code 781 = .ok (.if_icmp .eq 141, 3) := by decide +kernel
theorem dL_784 : decode code 784 = .ok (.iconst 0, 1) := by decide +kernel
theorem dL_785 : decode code 785 = .ok (.ireturn, 1) := by decide +kernel
theorem dL_786 : decode code 786 = .ok (.aload_n 1, 1) := by decide +kernel
theorem dL_787 : decode code 787 = .ok (.aload_n 0, 1) := by decide +kernel
theorem dL_788 : decode code 788 = .ok (.iload_n 3, 1) := by decide +kernel
theorem dL_789 : decode code 789 = .ok (.iconst 1, 1) := by decide +kernel
theorem dL_790 : decode code 790 = .ok (.iadd, 1) := by decide +kernel
theorem dL_791 : decode code 791 = .ok (.iaload, 1) := by decide +kernel
theorem dL_792 : decode code 792 = .ok (.invokevirtual 91, 3) := by decide +kernel
theorem dL_795 : decode code 795 = .ok (.aload_n 2, 1) := by decide +kernel
theorem dL_796 : decode code 796 = .ok (.aload_n 0, 1) := by decide +kernel
theorem dL_797 : decode code 797 = .ok (.iload_n 3, 1) := by decide +kernel
theorem dL_798 : decode code 798 = .ok (.iconst 1, 1) := by decide +kernel
theorem dL_799 : decode code 799 = .ok (.iadd, 1) := by decide +kernel
theorem dL_800 : decode code 800 = .ok (.iaload, 1) := by decide +kernel
theorem dL_801 : decode code 801 = .ok (.invokevirtual 94, 3) := by decide +kernel
theorem dL_804 : decode code 804 = .ok (.if_icmp .eq 118, 3) := by decide +kernel
theorem dL_807 : decode code 807 = .ok (.iconst 0, 1) := by decide +kernel
theorem dL_808 : decode code 808 = .ok (.ireturn, 1) := by decide +kernel
theorem dL_809 : decode code 809 = .ok (.aload_n 1, 1) := by decide +kernel
theorem dL_810 : decode code 810 = .ok (.aload_n 0, 1) := by decide +kernel
theorem dL_811 : decode code 811 = .ok (.iload_n 3, 1) := by decide +kernel
theorem dL_812 : decode code 812 = .ok (.iconst 1, 1) := by decide +kernel
theorem dL_813 : decode code 813 = .ok (.iadd, 1) := by decide +kernel
theorem dL_814 : decode code 814 = .ok (.iaload, 1) := by decide +kernel
theorem dL_815 : decode code 815 = .ok (.aload_n 0, 1) := by decide +kernel
theorem dL_816 : decode code 816 = .ok (.iload_n 3, 1) := by decide +kernel
theorem dL_817 : decode code 817 = .ok (.iconst 2, 1) := by decide +kernel
theorem dL_818 : decode code 818 = .ok (.iadd, 1) := by decide +kernel
theorem dL_819 : decode code 819 = .ok (.iaload, 1) := by decide +kernel
theorem dL_820 : decode code 820 = .ok (.invokevirtual 95, 3) := by decide +kernel
theorem dL_823 : decode code 823 = .ok (.aload_n 2, 1) := by decide +kernel
theorem dL_824 : decode code 824 = .ok (.aload_n 0, 1) := by decide +kernel
theorem dL_825 : decode code 825 = .ok (.iload_n 3, 1) := by decide +kernel
theorem dL_826 : decode code 826 = .ok (.iconst 1, 1) := by decide +kernel
theorem dL_827 : decode code 827 = .ok (.iadd, 1) := by decide +kernel
theorem dL_828 : decode code 828 = .ok (.iaload, 1) := by decide +kernel
theorem dL_829 : decode code 829 = .ok (.aload_n 0, 1) := by decide +kernel
theorem dL_830 : decode code 830 = .ok (.iload_n 3, 1) := by decide +kernel
theorem dL_831 : decode code 831 = .ok (.iconst 2, 1) := by decide +kernel
theorem dL_832 : decode code 832 = .ok (.iadd, 1) := by decide +kernel
theorem dL_833 : decode code 833 = .ok (.iaload, 1) := by decide +kernel
theorem dL_834 : decode code 834 = .ok (.invokevirtual 98, 3) := by decide +kernel
theorem dL_837 : decode code 837 = .ok (.if_icmp .eq 85, 3) := by decide +kernel
theorem dL_840 : decode code 840 = .ok (.iconst 0, 1) := by decide +kernel
theorem dL_841 : decode code 841 = .ok (.ireturn, 1) := by decide +kernel
theorem dL_842 : decode code 842 = .ok (.aload_n 1, 1) := by decide +kernel
theorem dL_843 : decode code 843 = .ok (.aload_n 0, 1) := by decide +kernel
theorem dL_844 : decode code 844 = .ok (.iload_n 3, 1) := by decide +kernel
theorem dL_845 : decode code 845 = .ok (.iconst 1, 1) := by decide +kernel
theorem dL_846 : decode code 846 = .ok (.iadd, 1) := by decide +kernel
theorem dL_847 : decode code 847 = .ok (.iaload, 1) := by decide +kernel
theorem dL_848 : decode code 848 = .ok (.aload_n 0, 1) := by decide +kernel
theorem dL_849 : decode code 849 = .ok (.iload_n 3, 1) := by decide +kernel
theorem dL_850 : decode code 850 = .ok (.iconst 2, 1) := by decide +kernel
theorem dL_851 : decode code 851 = .ok (.iadd, 1) := by decide +kernel
theorem dL_852 : decode code 852 = .ok (.iaload, 1) := by decide +kernel
theorem dL_853 : decode code 853 = .ok (.invokevirtual 99, 3) := by decide +kernel
theorem dL_856 : decode code 856 = .ok (.aload_n 2, 1) := by decide +kernel
theorem dL_857 : decode code 857 = .ok (.aload_n 0, 1) := by decide +kernel
theorem dL_858 : decode code 858 = .ok (.iload_n 3, 1) := by decide +kernel
theorem dL_859 : decode code 859 = .ok (.iconst 1, 1) := by decide +kernel
theorem dL_860 : decode code 860 = .ok (.iadd, 1) := by decide +kernel
theorem dL_861 : decode code 861 = .ok (.iaload, 1) := by decide +kernel
theorem dL_862 : decode code 862 = .ok (.aload_n 0, 1) := by decide +kernel
theorem dL_863 : decode code 863 = .ok (.iload_n 3, 1) := by decide +kernel
theorem dL_864 : decode code 864 = .ok (.iconst 2, 1) := by decide +kernel
theorem dL_865 : decode code 865 = .ok (.iadd, 1) := by decide +kernel
theorem dL_866 : decode code 866 = .ok (.iaload, 1) := by decide +kernel
theorem dL_867 : decode code 867 = .ok (.invokevirtual 102, 3) := by decide +kernel
theorem dL_870 : decode code 870 = .ok (.if_icmp .eq 52, 3) := by decide +kernel
theorem dL_873 : decode code 873 = .ok (.iconst 0, 1) := by decide +kernel
theorem dL_874 : decode code 874 = .ok (.ireturn, 1) := by decide +kernel
theorem dL_875 : decode code 875 = .ok (.aload_n 1, 1) := by decide +kernel
theorem dL_876 : decode code 876 = .ok (.aload_n 0, 1) := by decide +kernel
theorem dL_877 : decode code 877 = .ok (.iload_n 3, 1) := by decide +kernel
theorem dL_878 : decode code 878 = .ok (.iconst 1, 1) := by decide +kernel
theorem dL_879 : decode code 879 = .ok (.iadd, 1) := by decide +kernel
theorem dL_880 : decode code 880 = .ok (.iaload, 1) := by decide +kernel
theorem dL_881 : decode code 881 = .ok (.invokevirtual 103, 3) := by decide +kernel
theorem dL_884 : decode code 884 = .ok (.aload_n 2, 1) := by decide +kernel
theorem dL_885 : decode code 885 = .ok (.aload_n 0, 1) := by decide +kernel
theorem dL_886 : decode code 886 = .ok (.iload_n 3, 1) := by decide +kernel
theorem dL_887 : decode code 887 = .ok (.iconst 1, 1) := by decide +kernel
theorem dL_888 : decode code 888 = .ok (.iadd, 1) := by decide +kernel
theorem dL_889 : decode code 889 = .ok (.iaload, 1) := by decide +kernel
theorem dL_890 : decode code 890 = .ok (.invokevirtual 107, 3) := by decide +kernel
theorem dL_893 : decode code 893 = .ok (.lcmp, 1) := by decide +kernel
theorem dL_894 : decode code 894 = .ok (.ifCond .eq 28, 3) := by decide +kernel
theorem dL_897 : decode code 897 = .ok (.iconst 0, 1) := by decide +kernel
theorem dL_898 : decode code 898 = .ok (.ireturn, 1) := by decide +kernel
theorem dL_899 : decode code 899 = .ok (.aload_n 1, 1) := by decide +kernel
theorem dL_900 : decode code 900 = .ok (.aload_n 0, 1) := by decide +kernel
theorem dL_901 : decode code 901 = .ok (.iload_n 3, 1) := by decide +kernel
theorem dL_902 : decode code 902 = .ok (.iconst 1, 1) := by decide +kernel
theorem dL_903 : decode code 903 = .ok (.iadd, 1) := by decide +kernel
theorem dL_904 : decode code 904 = .ok (.iaload, 1) := by decide +kernel
theorem dL_905 : decode code 905 = .ok (.invokevirtual 108, 3) := by decide +kernel
theorem dL_908 : decode code 908 = .ok (.aload_n 2, 1) := by decide +kernel
theorem dL_909 : decode code 909 = .ok (.aload_n 0, 1) := by decide +kernel
theorem dL_910 : decode code 910 = .ok (.iload_n 3, 1) := by decide +kernel
theorem dL_911 : decode code 911 = .ok (.iconst 1, 1) := by decide +kernel
theorem dL_912 : decode code 912 = .ok (.iadd, 1) := by decide +kernel
theorem dL_913 : decode code 913 = .ok (.iaload, 1) := by decide +kernel
theorem dL_914 : decode code 914 = .ok (.invokevirtual 111, 3) := by decide +kernel
theorem dL_917 : decode code 917 = .ok (.if_icmp .eq 5, 3) := by decide +kernel
theorem dL_920 : decode code 920 = .ok (.iconst 0, 1) := by decide +kernel
theorem dL_921 : decode code 921 = .ok (.ireturn, 1) := by decide +kernel
theorem dL_922 : decode code 922 = .ok (.iinc 3 5, 3) := by decide +kernel
theorem dL_925 : decode code 925 = .ok (.goto (-907), 3) := by decide +kernel
theorem dL_928 : decode code 928 = .ok (.iconst 1, 1) := by decide +kernel
theorem dL_929 : decode code 929 = .ok (.ireturn, 1) := by decide +kernel
theorem lwk_7 : Cond.classLink R_law 7 kR6 ∈ gTb := gmem 70 (by decide +kernel) (by decide +kernel)
theorem lwn_6 : Cond.instantiable kR6 6 ∈ gTb := gmem 71 (by decide +kernel) (by decide +kernel)
theorem lwm_9 : Cond.methodLink R_law 9 Yn_Class ∈ gTb := gmem 72 (by decide +kernel) (by decide +kernel)
theorem lwx_6 : Cond.instanceMethod Yn_Class ∈ gTb := gmem 73 (by decide +kernel) (by decide +kernel)
theorem lwd_6 : Cond.code Yn_Class prog_1_method_1_code 1 none ∈ gTb := gmem 74 (by decide +kernel) (by decide +kernel)
theorem lwk_10 : Cond.classLink R_law 10 kR7 ∈ gTb := gmem 636 (by decide +kernel) (by decide +kernel)
theorem lwn_7 : Cond.instantiable kR7 49 ∈ gTb := gmem 637 (by decide +kernel) (by decide +kernel)
theorem lwm_12 : Cond.methodLink R_law 12 Yn_Model ∈ gTb := gmem 638 (by decide +kernel) (by decide +kernel)
theorem lwx_7 : Cond.instanceMethod Yn_Model ∈ gTb := gmem 639 (by decide +kernel) (by decide +kernel)
theorem lwd_7 : Cond.code Yn_Model prog_9_method_1_code 2 none ∈ gTb := gmem 640 (by decide +kernel) (by decide +kernel)
theorem lwm_13 : Cond.methodLink R_law 13 Y_Co_limit ∈ gTb := gmem 324 (by decide +kernel) (by decide +kernel)
theorem lwi_Co_limit : Cond.instanceMethod Y_Co_limit ∈ gTb := gmem 325 (by decide +kernel) (by decide +kernel)
theorem lws_Co_limit : Cond.selects kR6 Y_Co_limit Y_Co_limit ∈ gTb := gmem 326 (by decide +kernel) (by decide +kernel)
theorem lwz_6 : Cond.initialized kR6 ∈ gTb := gmem 61 (by decide +kernel) (by decide +kernel)
theorem lwc_Co_limit : Cond.code Y_Co_limit prog_1_method_2_code 3 (some .int) ∈ gTb := gmem 327 (by decide +kernel) (by decide +kernel)
theorem lwm_17 : Cond.methodLink R_law 17 Y_Mo_limit ∈ gTb := gmem 791 (by decide +kernel) (by decide +kernel)
theorem lwi_Mo_limit : Cond.instanceMethod Y_Mo_limit ∈ gTb := gmem 792 (by decide +kernel) (by decide +kernel)
theorem lws_Mo_limit : Cond.selects kR7 Y_Mo_limit Y_Mo_limit ∈ gTb := gmem 793 (by decide +kernel) (by decide +kernel)
theorem lwz_7 : Cond.initialized kR7 ∈ gTb := gmem 68 (by decide +kernel) (by decide +kernel)
theorem lwc_Mo_limit : Cond.code Y_Mo_limit prog_9_method_12_code 3 (some .int) ∈ gTb := gmem 794 (by decide +kernel) (by decide +kernel)
theorem lwm_18 : Cond.methodLink R_law 18 Y_Co_flip ∈ gTb := gmem 331 (by decide +kernel) (by decide +kernel)
theorem lwi_Co_flip : Cond.instanceMethod Y_Co_flip ∈ gTb := gmem 332 (by decide +kernel) (by decide +kernel)
theorem lws_Co_flip : Cond.selects kR6 Y_Co_flip Y_Co_flip ∈ gTb := gmem 333 (by decide +kernel) (by decide +kernel)
theorem lwc_Co_flip : Cond.code Y_Co_flip prog_1_method_3_code 3 (some .int) ∈ gTb := gmem 334 (by decide +kernel) (by decide +kernel)
theorem lwm_22 : Cond.methodLink R_law 22 Y_Mo_flip ∈ gTb := gmem 798 (by decide +kernel) (by decide +kernel)
theorem lwi_Mo_flip : Cond.instanceMethod Y_Mo_flip ∈ gTb := gmem 799 (by decide +kernel) (by decide +kernel)
theorem lws_Mo_flip : Cond.selects kR7 Y_Mo_flip Y_Mo_flip ∈ gTb := gmem 800 (by decide +kernel) (by decide +kernel)
theorem lwc_Mo_flip : Cond.code Y_Mo_flip prog_9_method_13_code 3 (some .int) ∈ gTb := gmem 801 (by decide +kernel) (by decide +kernel)
theorem lwm_23 : Cond.methodLink R_law 23 Y_Co_refresh ∈ gTb := gmem 335 (by decide +kernel) (by decide +kernel)
theorem lwi_Co_refresh : Cond.instanceMethod Y_Co_refresh ∈ gTb := gmem 336 (by decide +kernel) (by decide +kernel)
theorem lws_Co_refresh : Cond.selects kR6 Y_Co_refresh Y_Co_refresh ∈ gTb := gmem 337 (by decide +kernel) (by decide +kernel)
theorem lwc_Co_refresh : Cond.code Y_Co_refresh prog_1_method_4_code 5 (some .int) ∈ gTb := gmem 338 (by decide +kernel) (by decide +kernel)
theorem lwm_26 : Cond.methodLink R_law 26 Y_Mo_refresh ∈ gTb := gmem 802 (by decide +kernel) (by decide +kernel)
theorem lwi_Mo_refresh : Cond.instanceMethod Y_Mo_refresh ∈ gTb := gmem 803 (by decide +kernel) (by decide +kernel)
theorem lws_Mo_refresh : Cond.selects kR7 Y_Mo_refresh Y_Mo_refresh ∈ gTb := gmem 804 (by decide +kernel) (by decide +kernel)
theorem lwc_Mo_refresh : Cond.code Y_Mo_refresh prog_9_method_14_code 4 (some .int) ∈ gTb := gmem 805 (by decide +kernel) (by decide +kernel)
theorem lwm_27 : Cond.methodLink R_law 27 Y_Co_cell ∈ gTb := gmem 339 (by decide +kernel) (by decide +kernel)
theorem lwi_Co_cell : Cond.instanceMethod Y_Co_cell ∈ gTb := gmem 340 (by decide +kernel) (by decide +kernel)
theorem lws_Co_cell : Cond.selects kR6 Y_Co_cell Y_Co_cell ∈ gTb := gmem 341 (by decide +kernel) (by decide +kernel)
theorem lwc_Co_cell : Cond.code Y_Co_cell prog_1_method_5_code 5 (some .int) ∈ gTb := gmem 342 (by decide +kernel) (by decide +kernel)
theorem lwm_30 : Cond.methodLink R_law 30 Y_Mo_cell ∈ gTb := gmem 806 (by decide +kernel) (by decide +kernel)
theorem lwi_Mo_cell : Cond.instanceMethod Y_Mo_cell ∈ gTb := gmem 807 (by decide +kernel) (by decide +kernel)
theorem lws_Mo_cell : Cond.selects kR7 Y_Mo_cell Y_Mo_cell ∈ gTb := gmem 808 (by decide +kernel) (by decide +kernel)
theorem lwc_Mo_cell : Cond.code Y_Mo_cell prog_9_method_15_code 4 (some .int) ∈ gTb := gmem 809 (by decide +kernel) (by decide +kernel)
theorem lwm_31 : Cond.methodLink R_law 31 Y_Co_open ∈ gTb := gmem 349 (by decide +kernel) (by decide +kernel)
theorem lwi_Co_open : Cond.instanceMethod Y_Co_open ∈ gTb := gmem 350 (by decide +kernel) (by decide +kernel)
theorem lws_Co_open : Cond.selects kR6 Y_Co_open Y_Co_open ∈ gTb := gmem 351 (by decide +kernel) (by decide +kernel)
theorem lwc_Co_open : Cond.code Y_Co_open prog_1_method_6_code 2 (some .int) ∈ gTb := gmem 352 (by decide +kernel) (by decide +kernel)
theorem lwm_34 : Cond.methodLink R_law 34 Y_Mo_open ∈ gTb := gmem 825 (by decide +kernel) (by decide +kernel)
theorem lwi_Mo_open : Cond.instanceMethod Y_Mo_open ∈ gTb := gmem 826 (by decide +kernel) (by decide +kernel)
theorem lws_Mo_open : Cond.selects kR7 Y_Mo_open Y_Mo_open ∈ gTb := gmem 827 (by decide +kernel) (by decide +kernel)
theorem lwc_Mo_open : Cond.code Y_Mo_open prog_9_method_16_code 2 (some .int) ∈ gTb := gmem 828 (by decide +kernel) (by decide +kernel)
theorem lwm_35 : Cond.methodLink R_law 35 Y_Co_patterns ∈ gTb := gmem 353 (by decide +kernel) (by decide +kernel)
theorem lwi_Co_patterns : Cond.instanceMethod Y_Co_patterns ∈ gTb := gmem 354 (by decide +kernel) (by decide +kernel)
theorem lws_Co_patterns : Cond.selects kR6 Y_Co_patterns Y_Co_patterns ∈ gTb := gmem 355 (by decide +kernel) (by decide +kernel)
theorem lwc_Co_patterns : Cond.code Y_Co_patterns prog_1_method_7_code 5 (some .int) ∈ gTb := gmem 356 (by decide +kernel) (by decide +kernel)
theorem lwm_38 : Cond.methodLink R_law 38 Y_Mo_patterns ∈ gTb := gmem 829 (by decide +kernel) (by decide +kernel)
theorem lwi_Mo_patterns : Cond.instanceMethod Y_Mo_patterns ∈ gTb := gmem 830 (by decide +kernel) (by decide +kernel)
theorem lws_Mo_patterns : Cond.selects kR7 Y_Mo_patterns Y_Mo_patterns ∈ gTb := gmem 831 (by decide +kernel) (by decide +kernel)
theorem lwc_Mo_patterns : Cond.code Y_Mo_patterns prog_9_method_18_code 7 (some .int) ∈ gTb := gmem 832 (by decide +kernel) (by decide +kernel)
theorem lwm_39 : Cond.methodLink R_law 39 Y_Co_lines ∈ gTb := gmem 368 (by decide +kernel) (by decide +kernel)
theorem lwi_Co_lines : Cond.instanceMethod Y_Co_lines ∈ gTb := gmem 369 (by decide +kernel) (by decide +kernel)
theorem lws_Co_lines : Cond.selects kR6 Y_Co_lines Y_Co_lines ∈ gTb := gmem 370 (by decide +kernel) (by decide +kernel)
theorem lwc_Co_lines : Cond.code Y_Co_lines prog_1_method_8_code 3 (some .int) ∈ gTb := gmem 371 (by decide +kernel) (by decide +kernel)
theorem lwm_42 : Cond.methodLink R_law 42 Y_Mo_lines ∈ gTb := gmem 836 (by decide +kernel) (by decide +kernel)
theorem lwi_Mo_lines : Cond.instanceMethod Y_Mo_lines ∈ gTb := gmem 837 (by decide +kernel) (by decide +kernel)
theorem lws_Mo_lines : Cond.selects kR7 Y_Mo_lines Y_Mo_lines ∈ gTb := gmem 838 (by decide +kernel) (by decide +kernel)
theorem lwc_Mo_lines : Cond.code Y_Mo_lines prog_9_method_34_code 3 (some .int) ∈ gTb := gmem 839 (by decide +kernel) (by decide +kernel)
theorem lwm_43 : Cond.methodLink R_law 43 Y_Co_rule ∈ gTb := gmem 397 (by decide +kernel) (by decide +kernel)
theorem lwi_Co_rule : Cond.instanceMethod Y_Co_rule ∈ gTb := gmem 398 (by decide +kernel) (by decide +kernel)
theorem lws_Co_rule : Cond.selects kR6 Y_Co_rule Y_Co_rule ∈ gTb := gmem 399 (by decide +kernel) (by decide +kernel)
theorem lwc_Co_rule : Cond.code Y_Co_rule prog_1_method_9_code 4 (some .int) ∈ gTb := gmem 400 (by decide +kernel) (by decide +kernel)
theorem lwm_46 : Cond.methodLink R_law 46 Y_Mo_rule ∈ gTb := gmem 875 (by decide +kernel) (by decide +kernel)
theorem lwi_Mo_rule : Cond.instanceMethod Y_Mo_rule ∈ gTb := gmem 876 (by decide +kernel) (by decide +kernel)
theorem lws_Mo_rule : Cond.selects kR7 Y_Mo_rule Y_Mo_rule ∈ gTb := gmem 877 (by decide +kernel) (by decide +kernel)
theorem lwc_Mo_rule : Cond.code Y_Mo_rule prog_9_method_35_code 4 (some .int) ∈ gTb := gmem 878 (by decide +kernel) (by decide +kernel)
theorem lwm_47 : Cond.methodLink R_law 47 Y_Co_line ∈ gTb := gmem 403 (by decide +kernel) (by decide +kernel)
theorem lwi_Co_line : Cond.instanceMethod Y_Co_line ∈ gTb := gmem 404 (by decide +kernel) (by decide +kernel)
theorem lws_Co_line : Cond.selects kR6 Y_Co_line Y_Co_line ∈ gTb := gmem 405 (by decide +kernel) (by decide +kernel)
theorem lwc_Co_line : Cond.code Y_Co_line prog_1_method_10_code 3 (some .int) ∈ gTb := gmem 406 (by decide +kernel) (by decide +kernel)
theorem lwm_50 : Cond.methodLink R_law 50 Y_Mo_line ∈ gTb := gmem 879 (by decide +kernel) (by decide +kernel)
theorem lwi_Mo_line : Cond.instanceMethod Y_Mo_line ∈ gTb := gmem 880 (by decide +kernel) (by decide +kernel)
theorem lws_Mo_line : Cond.selects kR7 Y_Mo_line Y_Mo_line ∈ gTb := gmem 881 (by decide +kernel) (by decide +kernel)
theorem lwc_Mo_line : Cond.code Y_Mo_line prog_9_method_36_code 4 (some .int) ∈ gTb := gmem 882 (by decide +kernel) (by decide +kernel)
theorem lwm_51 : Cond.methodLink R_law 51 Y_Co_frames ∈ gTb := gmem 407 (by decide +kernel) (by decide +kernel)
theorem lwi_Co_frames : Cond.instanceMethod Y_Co_frames ∈ gTb := gmem 408 (by decide +kernel) (by decide +kernel)
theorem lws_Co_frames : Cond.selects kR6 Y_Co_frames Y_Co_frames ∈ gTb := gmem 409 (by decide +kernel) (by decide +kernel)
theorem lwc_Co_frames : Cond.code Y_Co_frames prog_1_method_11_code 3 (some .int) ∈ gTb := gmem 410 (by decide +kernel) (by decide +kernel)
theorem lwm_54 : Cond.methodLink R_law 54 Y_Mo_frames ∈ gTb := gmem 883 (by decide +kernel) (by decide +kernel)
theorem lwi_Mo_frames : Cond.instanceMethod Y_Mo_frames ∈ gTb := gmem 884 (by decide +kernel) (by decide +kernel)
theorem lws_Mo_frames : Cond.selects kR7 Y_Mo_frames Y_Mo_frames ∈ gTb := gmem 885 (by decide +kernel) (by decide +kernel)
theorem lwc_Mo_frames : Cond.code Y_Mo_frames prog_9_method_42_code 4 (some .int) ∈ gTb := gmem 886 (by decide +kernel) (by decide +kernel)
theorem lwm_55 : Cond.methodLink R_law 55 Y_Co_page ∈ gTb := gmem 430 (by decide +kernel) (by decide +kernel)
theorem lwi_Co_page : Cond.instanceMethod Y_Co_page ∈ gTb := gmem 431 (by decide +kernel) (by decide +kernel)
theorem lws_Co_page : Cond.selects kR6 Y_Co_page Y_Co_page ∈ gTb := gmem 432 (by decide +kernel) (by decide +kernel)
theorem lwc_Co_page : Cond.code Y_Co_page prog_1_method_12_code 3 (some .int) ∈ gTb := gmem 433 (by decide +kernel) (by decide +kernel)
theorem lwm_58 : Cond.methodLink R_law 58 Y_Mo_page ∈ gTb := gmem 895 (by decide +kernel) (by decide +kernel)
theorem lwi_Mo_page : Cond.instanceMethod Y_Mo_page ∈ gTb := gmem 896 (by decide +kernel) (by decide +kernel)
theorem lws_Mo_page : Cond.selects kR7 Y_Mo_page Y_Mo_page ∈ gTb := gmem 897 (by decide +kernel) (by decide +kernel)
theorem lwc_Mo_page : Cond.code Y_Mo_page prog_9_method_43_code 3 (some .int) ∈ gTb := gmem 898 (by decide +kernel) (by decide +kernel)
theorem lwm_59 : Cond.methodLink R_law 59 Y_Co_load ∈ gTb := gmem 434 (by decide +kernel) (by decide +kernel)
theorem lwi_Co_load : Cond.instanceMethod Y_Co_load ∈ gTb := gmem 435 (by decide +kernel) (by decide +kernel)
theorem lws_Co_load : Cond.selects kR6 Y_Co_load Y_Co_load ∈ gTb := gmem 436 (by decide +kernel) (by decide +kernel)
theorem lwc_Co_load : Cond.code Y_Co_load prog_1_method_13_code 3 (some .int) ∈ gTb := gmem 437 (by decide +kernel) (by decide +kernel)
theorem lwm_62 : Cond.methodLink R_law 62 Y_Mo_load ∈ gTb := gmem 899 (by decide +kernel) (by decide +kernel)
theorem lwi_Mo_load : Cond.instanceMethod Y_Mo_load ∈ gTb := gmem 900 (by decide +kernel) (by decide +kernel)
theorem lws_Mo_load : Cond.selects kR7 Y_Mo_load Y_Mo_load ∈ gTb := gmem 901 (by decide +kernel) (by decide +kernel)
theorem lwc_Mo_load : Cond.code Y_Mo_load prog_9_method_48_code 4 (some .int) ∈ gTb := gmem 902 (by decide +kernel) (by decide +kernel)
theorem lwm_63 : Cond.methodLink R_law 63 Y_Co_save ∈ gTb := gmem 505 (by decide +kernel) (by decide +kernel)
theorem lwi_Co_save : Cond.instanceMethod Y_Co_save ∈ gTb := gmem 506 (by decide +kernel) (by decide +kernel)
theorem lws_Co_save : Cond.selects kR6 Y_Co_save Y_Co_save ∈ gTb := gmem 507 (by decide +kernel) (by decide +kernel)
theorem lwc_Co_save : Cond.code Y_Co_save prog_1_method_14_code 5 (some .int) ∈ gTb := gmem 508 (by decide +kernel) (by decide +kernel)
theorem lwm_67 : Cond.methodLink R_law 67 Y_Mo_save ∈ gTb := gmem 958 (by decide +kernel) (by decide +kernel)
theorem lwi_Mo_save : Cond.instanceMethod Y_Mo_save ∈ gTb := gmem 959 (by decide +kernel) (by decide +kernel)
theorem lws_Mo_save : Cond.selects kR7 Y_Mo_save Y_Mo_save ∈ gTb := gmem 960 (by decide +kernel) (by decide +kernel)
theorem lwc_Mo_save : Cond.code Y_Mo_save prog_9_method_49_code 6 (some .int) ∈ gTb := gmem 961 (by decide +kernel) (by decide +kernel)
theorem lwm_68 : Cond.methodLink R_law 68 Y_Co_fewest ∈ gTb := gmem 514 (by decide +kernel) (by decide +kernel)
theorem lwi_Co_fewest : Cond.instanceMethod Y_Co_fewest ∈ gTb := gmem 515 (by decide +kernel) (by decide +kernel)
theorem lws_Co_fewest : Cond.selects kR6 Y_Co_fewest Y_Co_fewest ∈ gTb := gmem 516 (by decide +kernel) (by decide +kernel)
theorem lwc_Co_fewest : Cond.code Y_Co_fewest prog_1_method_15_code 2 (some .int) ∈ gTb := gmem 517 (by decide +kernel) (by decide +kernel)
theorem lwm_71 : Cond.methodLink R_law 71 Y_Mo_fewest ∈ gTb := gmem 974 (by decide +kernel) (by decide +kernel)
theorem lwi_Mo_fewest : Cond.instanceMethod Y_Mo_fewest ∈ gTb := gmem 975 (by decide +kernel) (by decide +kernel)
theorem lws_Mo_fewest : Cond.selects kR7 Y_Mo_fewest Y_Mo_fewest ∈ gTb := gmem 976 (by decide +kernel) (by decide +kernel)
theorem lwc_Mo_fewest : Cond.code Y_Mo_fewest prog_9_method_51_code 7 (some .int) ∈ gTb := gmem 977 (by decide +kernel) (by decide +kernel)
theorem lwm_72 : Cond.methodLink R_law 72 Y_Co_make ∈ gTb := gmem 530 (by decide +kernel) (by decide +kernel)
theorem lwi_Co_make : Cond.instanceMethod Y_Co_make ∈ gTb := gmem 531 (by decide +kernel) (by decide +kernel)
theorem lws_Co_make : Cond.selects kR6 Y_Co_make Y_Co_make ∈ gTb := gmem 532 (by decide +kernel) (by decide +kernel)
theorem lwc_Co_make : Cond.code Y_Co_make prog_1_method_16_code 7 (some .int) ∈ gTb := gmem 533 (by decide +kernel) (by decide +kernel)
theorem lwm_76 : Cond.methodLink R_law 76 Y_Mo_make ∈ gTb := gmem 982 (by decide +kernel) (by decide +kernel)
theorem lwi_Mo_make : Cond.instanceMethod Y_Mo_make ∈ gTb := gmem 983 (by decide +kernel) (by decide +kernel)
theorem lws_Mo_make : Cond.selects kR7 Y_Mo_make Y_Mo_make ∈ gTb := gmem 984 (by decide +kernel) (by decide +kernel)
theorem lwc_Mo_make : Cond.code Y_Mo_make prog_9_method_57_code 7 (some .int) ∈ gTb := gmem 985 (by decide +kernel) (by decide +kernel)
theorem lwm_77 : Cond.methodLink R_law 77 Y_Co_get ∈ gTb := gmem 593 (by decide +kernel) (by decide +kernel)
theorem lwi_Co_get : Cond.instanceMethod Y_Co_get ∈ gTb := gmem 594 (by decide +kernel) (by decide +kernel)
theorem lws_Co_get : Cond.selects kR6 Y_Co_get Y_Co_get ∈ gTb := gmem 595 (by decide +kernel) (by decide +kernel)
theorem lwc_Co_get : Cond.code Y_Co_get prog_1_method_17_code 6 (some .int) ∈ gTb := gmem 596 (by decide +kernel) (by decide +kernel)
theorem lwm_80 : Cond.methodLink R_law 80 Y_Mo_get ∈ gTb := gmem 1029 (by decide +kernel) (by decide +kernel)
theorem lwi_Mo_get : Cond.instanceMethod Y_Mo_get ∈ gTb := gmem 1030 (by decide +kernel) (by decide +kernel)
theorem lws_Mo_get : Cond.selects kR7 Y_Mo_get Y_Mo_get ∈ gTb := gmem 1031 (by decide +kernel) (by decide +kernel)
theorem lwc_Mo_get : Cond.code Y_Mo_get prog_9_method_59_code 7 (some .int) ∈ gTb := gmem 1032 (by decide +kernel) (by decide +kernel)
theorem lwm_81 : Cond.methodLink R_law 81 Y_Co_put ∈ gTb := gmem 601 (by decide +kernel) (by decide +kernel)
theorem lwi_Co_put : Cond.instanceMethod Y_Co_put ∈ gTb := gmem 602 (by decide +kernel) (by decide +kernel)
theorem lws_Co_put : Cond.selects kR6 Y_Co_put Y_Co_put ∈ gTb := gmem 603 (by decide +kernel) (by decide +kernel)
theorem lwc_Co_put : Cond.code Y_Co_put prog_1_method_18_code 7 (some .int) ∈ gTb := gmem 604 (by decide +kernel) (by decide +kernel)
theorem lwm_85 : Cond.methodLink R_law 85 Y_Mo_put ∈ gTb := gmem 1033 (by decide +kernel) (by decide +kernel)
theorem lwi_Mo_put : Cond.instanceMethod Y_Mo_put ∈ gTb := gmem 1034 (by decide +kernel) (by decide +kernel)
theorem lws_Mo_put : Cond.selects kR7 Y_Mo_put Y_Mo_put ∈ gTb := gmem 1035 (by decide +kernel) (by decide +kernel)
theorem lwc_Mo_put : Cond.code Y_Mo_put prog_9_method_60_code 7 (some .int) ∈ gTb := gmem 1036 (by decide +kernel) (by decide +kernel)
theorem lwm_86 : Cond.methodLink R_law 86 Y_Co_hold ∈ gTb := gmem 606 (by decide +kernel) (by decide +kernel)
theorem lwi_Co_hold : Cond.instanceMethod Y_Co_hold ∈ gTb := gmem 607 (by decide +kernel) (by decide +kernel)
theorem lws_Co_hold : Cond.selects kR6 Y_Co_hold Y_Co_hold ∈ gTb := gmem 608 (by decide +kernel) (by decide +kernel)
theorem lwc_Co_hold : Cond.code Y_Co_hold prog_1_method_19_code 6 (some .int) ∈ gTb := gmem 609 (by decide +kernel) (by decide +kernel)
theorem lwm_90 : Cond.methodLink R_law 90 Y_Mo_hold ∈ gTb := gmem 1037 (by decide +kernel) (by decide +kernel)
theorem lwi_Mo_hold : Cond.instanceMethod Y_Mo_hold ∈ gTb := gmem 1038 (by decide +kernel) (by decide +kernel)
theorem lws_Mo_hold : Cond.selects kR7 Y_Mo_hold Y_Mo_hold ∈ gTb := gmem 1039 (by decide +kernel) (by decide +kernel)
theorem lwc_Mo_hold : Cond.code Y_Mo_hold prog_9_method_61_code 5 (some .int) ∈ gTb := gmem 1040 (by decide +kernel) (by decide +kernel)
theorem lwm_91 : Cond.methodLink R_law 91 Y_Co_gather ∈ gTb := gmem 610 (by decide +kernel) (by decide +kernel)
theorem lwi_Co_gather : Cond.instanceMethod Y_Co_gather ∈ gTb := gmem 611 (by decide +kernel) (by decide +kernel)
theorem lws_Co_gather : Cond.selects kR6 Y_Co_gather Y_Co_gather ∈ gTb := gmem 612 (by decide +kernel) (by decide +kernel)
theorem lwc_Co_gather : Cond.code Y_Co_gather prog_1_method_20_code 2 (some .int) ∈ gTb := gmem 613 (by decide +kernel) (by decide +kernel)
theorem lwm_94 : Cond.methodLink R_law 94 Y_Mo_gather ∈ gTb := gmem 1041 (by decide +kernel) (by decide +kernel)
theorem lwi_Mo_gather : Cond.instanceMethod Y_Mo_gather ∈ gTb := gmem 1042 (by decide +kernel) (by decide +kernel)
theorem lws_Mo_gather : Cond.selects kR7 Y_Mo_gather Y_Mo_gather ∈ gTb := gmem 1043 (by decide +kernel) (by decide +kernel)
theorem lwc_Mo_gather : Cond.code Y_Mo_gather prog_9_method_67_code 2 (some .int) ∈ gTb := gmem 1044 (by decide +kernel) (by decide +kernel)
theorem lwm_95 : Cond.methodLink R_law 95 Y_Co_about ∈ gTb := gmem 614 (by decide +kernel) (by decide +kernel)
theorem lwi_Co_about : Cond.instanceMethod Y_Co_about ∈ gTb := gmem 615 (by decide +kernel) (by decide +kernel)
theorem lws_Co_about : Cond.selects kR6 Y_Co_about Y_Co_about ∈ gTb := gmem 616 (by decide +kernel) (by decide +kernel)
theorem lwc_Co_about : Cond.code Y_Co_about prog_1_method_21_code 3 (some .int) ∈ gTb := gmem 617 (by decide +kernel) (by decide +kernel)
theorem lwm_98 : Cond.methodLink R_law 98 Y_Mo_about ∈ gTb := gmem 1045 (by decide +kernel) (by decide +kernel)
theorem lwi_Mo_about : Cond.instanceMethod Y_Mo_about ∈ gTb := gmem 1046 (by decide +kernel) (by decide +kernel)
theorem lws_Mo_about : Cond.selects kR7 Y_Mo_about Y_Mo_about ∈ gTb := gmem 1047 (by decide +kernel) (by decide +kernel)
theorem lwc_Mo_about : Cond.code Y_Mo_about prog_9_method_68_code 3 (some .int) ∈ gTb := gmem 1048 (by decide +kernel) (by decide +kernel)
theorem lwm_99 : Cond.methodLink R_law 99 Y_Co_room ∈ gTb := gmem 618 (by decide +kernel) (by decide +kernel)
theorem lwi_Co_room : Cond.instanceMethod Y_Co_room ∈ gTb := gmem 619 (by decide +kernel) (by decide +kernel)
theorem lws_Co_room : Cond.selects kR6 Y_Co_room Y_Co_room ∈ gTb := gmem 620 (by decide +kernel) (by decide +kernel)
theorem lwc_Co_room : Cond.code Y_Co_room prog_1_method_22_code 4 (some .int) ∈ gTb := gmem 621 (by decide +kernel) (by decide +kernel)
theorem lwm_102 : Cond.methodLink R_law 102 Y_Mo_room ∈ gTb := gmem 1049 (by decide +kernel) (by decide +kernel)
theorem lwi_Mo_room : Cond.instanceMethod Y_Mo_room ∈ gTb := gmem 1050 (by decide +kernel) (by decide +kernel)
theorem lws_Mo_room : Cond.selects kR7 Y_Mo_room Y_Mo_room ∈ gTb := gmem 1051 (by decide +kernel) (by decide +kernel)
theorem lwc_Mo_room : Cond.code Y_Mo_room prog_9_method_69_code 5 (some .int) ∈ gTb := gmem 1052 (by decide +kernel) (by decide +kernel)
theorem lwm_103 : Cond.methodLink R_law 103 Y_Co_blame ∈ gTb := gmem 627 (by decide +kernel) (by decide +kernel)
theorem lwi_Co_blame : Cond.instanceMethod Y_Co_blame ∈ gTb := gmem 628 (by decide +kernel) (by decide +kernel)
theorem lws_Co_blame : Cond.selects kR6 Y_Co_blame Y_Co_blame ∈ gTb := gmem 629 (by decide +kernel) (by decide +kernel)
theorem lwc_Co_blame : Cond.code Y_Co_blame prog_1_method_23_code 2 (some .long) ∈ gTb := gmem 630 (by decide +kernel) (by decide +kernel)
theorem lwm_107 : Cond.methodLink R_law 107 Y_Mo_blame ∈ gTb := gmem 1053 (by decide +kernel) (by decide +kernel)
theorem lwi_Mo_blame : Cond.instanceMethod Y_Mo_blame ∈ gTb := gmem 1054 (by decide +kernel) (by decide +kernel)
theorem lws_Mo_blame : Cond.selects kR7 Y_Mo_blame Y_Mo_blame ∈ gTb := gmem 1055 (by decide +kernel) (by decide +kernel)
theorem lwc_Mo_blame : Cond.code Y_Mo_blame prog_9_method_70_code 2 (some .long) ∈ gTb := gmem 1056 (by decide +kernel) (by decide +kernel)
theorem lwm_108 : Cond.methodLink R_law 108 Y_Co_count ∈ gTb := gmem 632 (by decide +kernel) (by decide +kernel)
theorem lwi_Co_count : Cond.instanceMethod Y_Co_count ∈ gTb := gmem 633 (by decide +kernel) (by decide +kernel)
theorem lws_Co_count : Cond.selects kR6 Y_Co_count Y_Co_count ∈ gTb := gmem 634 (by decide +kernel) (by decide +kernel)
theorem lwc_Co_count : Cond.code Y_Co_count prog_1_method_24_code 2 (some .int) ∈ gTb := gmem 635 (by decide +kernel) (by decide +kernel)
theorem lwm_111 : Cond.methodLink R_law 111 Y_Mo_count ∈ gTb := gmem 1058 (by decide +kernel) (by decide +kernel)
theorem lwi_Mo_count : Cond.instanceMethod Y_Mo_count ∈ gTb := gmem 1059 (by decide +kernel) (by decide +kernel)
theorem lws_Mo_count : Cond.selects kR7 Y_Mo_count Y_Mo_count ∈ gTb := gmem 1060 (by decide +kernel) (by decide +kernel)
theorem lwc_Mo_count : Cond.code Y_Mo_count prog_9_method_71_code 4 (some .int) ∈ gTb := gmem 1061 (by decide +kernel) (by decide +kernel)
