/-! the constructor of the model, by program -/
/-! CellToObjectModel -/
def Yn_Model : MethodName := ⟨kR7, "<init>", "()V"⟩
theorem dn_Mo_0 : decode prog_9_method_1_code 0 = .ok (.aload_n 0, 1) := by decide +kernel
theorem dn_Mo_1 : decode prog_9_method_1_code 1 = .ok (.invokespecial 1, 3) := by decide +kernel
theorem dn_Mo_4 : decode prog_9_method_1_code 4 = .ok (.aload_n 0, 1) := by decide +kernel
theorem dn_Mo_5 : decode prog_9_method_1_code 5 = .ok (.sipush 512, 3) := by decide +kernel
theorem dn_Mo_8 : decode prog_9_method_1_code 8 = .ok (.newarray .int, 2) := by decide +kernel
theorem dn_Mo_10 : decode prog_9_method_1_code 10 = .ok (.putfield 7, 3) := by decide +kernel
theorem dn_Mo_13 : decode prog_9_method_1_code 13 = .ok (.aload_n 0, 1) := by decide +kernel
theorem dn_Mo_14 : decode prog_9_method_1_code 14 = .ok (.bipush 64, 2) := by decide +kernel
theorem dn_Mo_16 : decode prog_9_method_1_code 16 = .ok (.newarray .int, 2) := by decide +kernel
theorem dn_Mo_18 : decode prog_9_method_1_code 18 = .ok (.putfield 13, 3) := by decide +kernel
theorem dn_Mo_21 : decode prog_9_method_1_code 21 = .ok (.aload_n 0, 1) := by decide +kernel
theorem dn_Mo_22 : decode prog_9_method_1_code 22 = .ok (.iconst 4, 1) := by decide +kernel
theorem dn_Mo_23 : decode prog_9_method_1_code 23 = .ok (.newarray .int, 2) := by decide +kernel
theorem dn_Mo_25 : decode prog_9_method_1_code 25 = .ok (.putfield 16, 3) := by decide +kernel
theorem dn_Mo_28 : decode prog_9_method_1_code 28 = .ok (.aload_n 0, 1) := by decide +kernel
theorem dn_Mo_29 : decode prog_9_method_1_code 29 = .ok (.iconst 2, 1) := by decide +kernel
theorem dn_Mo_30 : decode prog_9_method_1_code 30 = .ok (.putfield 19, 3) := by decide +kernel
theorem dn_Mo_33 : decode prog_9_method_1_code 33 = .ok (.aload_n 0, 1) := by decide +kernel
theorem dn_Mo_34 : decode prog_9_method_1_code 34 = .ok (.iconst 2, 1) := by decide +kernel
theorem dn_Mo_35 : decode prog_9_method_1_code 35 = .ok (.putfield 23, 3) := by decide +kernel
theorem dn_Mo_38 : decode prog_9_method_1_code 38 = .ok (.aload_n 0, 1) := by decide +kernel
theorem dn_Mo_39 : decode prog_9_method_1_code 39 = .ok (.iconst 1, 1) := by decide +kernel
theorem dn_Mo_40 : decode prog_9_method_1_code 40 = .ok (.putfield 26, 3) := by decide +kernel
theorem dn_Mo_43 : decode prog_9_method_1_code 43 = .ok (.aload_n 0, 1) := by decide +kernel
theorem dn_Mo_44 : decode prog_9_method_1_code 44 = .ok (.bipush 32, 2) := by decide +kernel
theorem dn_Mo_46 : decode prog_9_method_1_code 46 = .ok (.newarray .int, 2) := by decide +kernel
theorem dn_Mo_48 : decode prog_9_method_1_code 48 = .ok (.putfield 29, 3) := by decide +kernel
theorem dn_Mo_51 : decode prog_9_method_1_code 51 = .ok (.aload_n 0, 1) := by decide +kernel
theorem dn_Mo_52 : decode prog_9_method_1_code 52 = .ok (.bipush 32, 2) := by decide +kernel
theorem dn_Mo_54 : decode prog_9_method_1_code 54 = .ok (.newarray .boolean, 2) := by decide +kernel
theorem dn_Mo_56 : decode prog_9_method_1_code 56 = .ok (.putfield 32, 3) := by decide +kernel
theorem dn_Mo_59 : decode prog_9_method_1_code 59 = .ok (.aload_n 0, 1) := by decide +kernel
theorem dn_Mo_60 : decode prog_9_method_1_code 60 = .ok (.bipush 32, 2) := by decide +kernel
theorem dn_Mo_62 : decode prog_9_method_1_code 62 = .ok (.newarray .int, 2) := by decide +kernel
theorem dn_Mo_64 : decode prog_9_method_1_code 64 = .ok (.putfield 36, 3) := by decide +kernel
theorem dn_Mo_67 : decode prog_9_method_1_code 67 = .ok (.aload_n 0, 1) := by decide +kernel
theorem dn_Mo_68 : decode prog_9_method_1_code 68 = .ok (.bipush 32, 2) := by decide +kernel
theorem dn_Mo_70 : decode prog_9_method_1_code 70 = .ok (.newarray .int, 2) := by decide +kernel
theorem dn_Mo_72 : decode prog_9_method_1_code 72 = .ok (.putfield 39, 3) := by decide +kernel
theorem dn_Mo_75 : decode prog_9_method_1_code 75 = .ok (.aload_n 0, 1) := by decide +kernel
theorem dn_Mo_76 : decode prog_9_method_1_code 76 = .ok (.sipush 256, 3) := by decide +kernel
theorem dn_Mo_79 : decode prog_9_method_1_code 79 = .ok (.newarray .int, 2) := by decide +kernel
theorem dn_Mo_81 : decode prog_9_method_1_code 81 = .ok (.putfield 42, 3) := by decide +kernel
theorem dn_Mo_84 : decode prog_9_method_1_code 84 = .ok (.aload_n 0, 1) := by decide +kernel
theorem dn_Mo_85 : decode prog_9_method_1_code 85 = .ok (.bipush 32, 2) := by decide +kernel
theorem dn_Mo_87 : decode prog_9_method_1_code 87 = .ok (.newarray .int, 2) := by decide +kernel
theorem dn_Mo_89 : decode prog_9_method_1_code 89 = .ok (.putfield 45, 3) := by decide +kernel
theorem dn_Mo_92 : decode prog_9_method_1_code 92 = .ok (.aload_n 0, 1) := by decide +kernel
theorem dn_Mo_93 : decode prog_9_method_1_code 93 = .ok (.sipush 128, 3) := by decide +kernel
theorem dn_Mo_96 : decode prog_9_method_1_code 96 = .ok (.newarray .boolean, 2) := by decide +kernel
theorem dn_Mo_98 : decode prog_9_method_1_code 98 = .ok (.putfield 48, 3) := by decide +kernel
theorem dn_Mo_101 : decode prog_9_method_1_code 101 = .ok (.aload_n 0, 1) := by decide +kernel
theorem dn_Mo_102 : decode prog_9_method_1_code 102 = .ok (.sipush 128, 3) := by decide +kernel
theorem dn_Mo_105 : decode prog_9_method_1_code 105 = .ok (.newarray .boolean, 2) := by decide +kernel
theorem dn_Mo_107 : decode prog_9_method_1_code 107 = .ok (.putfield 51, 3) := by decide +kernel
theorem dn_Mo_110 : decode prog_9_method_1_code 110 = .ok (.aload_n 0, 1) := by decide +kernel
theorem dn_Mo_111 : decode prog_9_method_1_code 111 = .ok (.sipush 128, 3) := by decide +kernel
theorem dn_Mo_114 : decode prog_9_method_1_code 114 = .ok (.newarray .int, 2) := by decide +kernel
theorem dn_Mo_116 : decode prog_9_method_1_code 116 = .ok (.putfield 54, 3) := by decide +kernel
theorem dn_Mo_119 : decode prog_9_method_1_code 119 = .ok (.aload_n 0, 1) := by decide +kernel
theorem dn_Mo_120 : decode prog_9_method_1_code 120 = .ok (.iconst 4, 1) := by decide +kernel
theorem dn_Mo_121 : decode prog_9_method_1_code 121 = .ok (.putfield 57, 3) := by decide +kernel
theorem dn_Mo_124 : decode prog_9_method_1_code 124 = .ok (.aload_n 0, 1) := by decide +kernel
theorem dn_Mo_125 : decode prog_9_method_1_code 125 = .ok (.bipush 16, 2) := by decide +kernel
theorem dn_Mo_127 : decode prog_9_method_1_code 127 = .ok (.newarray .int, 2) := by decide +kernel
theorem dn_Mo_129 : decode prog_9_method_1_code 129 = .ok (.putfield 60, 3) := by decide +kernel
theorem dn_Mo_132 : decode prog_9_method_1_code 132 = .ok (.aload_n 0, 1) := by decide +kernel
theorem dn_Mo_133 : decode prog_9_method_1_code 133 = .ok (.bipush 16, 2) := by decide +kernel
theorem dn_Mo_135 : decode prog_9_method_1_code 135 = .ok (.newarray .boolean, 2) := by decide +kernel
theorem dn_Mo_137 : decode prog_9_method_1_code 137 = .ok (.putfield 63, 3) := by decide +kernel
theorem dn_Mo_140 : decode prog_9_method_1_code 140 = .ok (.aload_n 0, 1) := by decide +kernel
theorem dn_Mo_141 : decode prog_9_method_1_code 141 = .ok (.bipush 16, 2) := by decide +kernel
theorem dn_Mo_143 : decode prog_9_method_1_code 143 = .ok (.newarray .int, 2) := by decide +kernel
theorem dn_Mo_145 : decode prog_9_method_1_code 145 = .ok (.putfield 66, 3) := by decide +kernel
theorem dn_Mo_148 : decode prog_9_method_1_code 148 = .ok (.aload_n 0, 1) := by decide +kernel
theorem dn_Mo_149 : decode prog_9_method_1_code 149 = .ok (.bipush 16, 2) := by decide +kernel
theorem dn_Mo_151 : decode prog_9_method_1_code 151 = .ok (.newarray .int, 2) := by decide +kernel
theorem dn_Mo_153 : decode prog_9_method_1_code 153 = .ok (.putfield 69, 3) := by decide +kernel
theorem dn_Mo_156 : decode prog_9_method_1_code 156 = .ok (.aload_n 0, 1) := by decide +kernel
theorem dn_Mo_157 : decode prog_9_method_1_code 157 = .ok (.bipush 32, 2) := by decide +kernel
theorem dn_Mo_159 : decode prog_9_method_1_code 159 = .ok (.newarray .int, 2) := by decide +kernel
theorem dn_Mo_161 : decode prog_9_method_1_code 161 = .ok (.putfield 72, 3) := by decide +kernel
theorem dn_Mo_164 : decode prog_9_method_1_code 164 = .ok (.aload_n 0, 1) := by decide +kernel
theorem dn_Mo_165 : decode prog_9_method_1_code 165 = .ok (.bipush 32, 2) := by decide +kernel
theorem dn_Mo_167 : decode prog_9_method_1_code 167 = .ok (.newarray .boolean, 2) := by decide +kernel
theorem dn_Mo_169 : decode prog_9_method_1_code 169 = .ok (.putfield 75, 3) := by decide +kernel
theorem dn_Mo_172 : decode prog_9_method_1_code 172 = .ok (.aload_n 0, 1) := by decide +kernel
theorem dn_Mo_173 : decode prog_9_method_1_code 173 = .ok (.sipush 1024, 3) := by decide +kernel
theorem dn_Mo_176 : decode prog_9_method_1_code 176 = .ok (.newarray .int, 2) := by decide +kernel
theorem dn_Mo_178 : decode prog_9_method_1_code 178 = .ok (.putfield 78, 3) := by decide +kernel
theorem dn_Mo_181 : decode prog_9_method_1_code 181 = .ok (.aload_n 0, 1) := by decide +kernel
theorem dn_Mo_182 : decode prog_9_method_1_code 182 = .ok (.bipush 100, 2) := by decide +kernel
theorem dn_Mo_184 : decode prog_9_method_1_code 184 = .ok (.newarray .int, 2) := by decide +kernel
theorem dn_Mo_186 : decode prog_9_method_1_code 186 = .ok (.putfield 81, 3) := by decide +kernel
theorem dn_Mo_189 : decode prog_9_method_1_code 189 = .ok (.aload_n 0, 1) := by decide +kernel
theorem dn_Mo_190 : decode prog_9_method_1_code 190 = .ok (.bipush 40, 2) := by decide +kernel
theorem dn_Mo_192 : decode prog_9_method_1_code 192 = .ok (.newarray .boolean, 2) := by decide +kernel
theorem dn_Mo_194 : decode prog_9_method_1_code 194 = .ok (.putfield 84, 3) := by decide +kernel
theorem dn_Mo_197 : decode prog_9_method_1_code 197 = .ok (.aload_n 0, 1) := by decide +kernel
theorem dn_Mo_198 : decode prog_9_method_1_code 198 = .ok (.bipush 40, 2) := by decide +kernel
theorem dn_Mo_200 : decode prog_9_method_1_code 200 = .ok (.newarray .int, 2) := by decide +kernel
theorem dn_Mo_202 : decode prog_9_method_1_code 202 = .ok (.putfield 87, 3) := by decide +kernel
theorem dn_Mo_205 : decode prog_9_method_1_code 205 = .ok (.aload_n 0, 1) := by decide +kernel
theorem dn_Mo_206 : decode prog_9_method_1_code 206 = .ok (.bipush 40, 2) := by decide +kernel
theorem dn_Mo_208 : decode prog_9_method_1_code 208 = .ok (.newarray .int, 2) := by decide +kernel
theorem dn_Mo_210 : decode prog_9_method_1_code 210 = .ok (.putfield 90, 3) := by decide +kernel
theorem dn_Mo_213 : decode prog_9_method_1_code 213 = .ok (.aload_n 0, 1) := by decide +kernel
theorem dn_Mo_214 : decode prog_9_method_1_code 214 = .ok (.bipush 40, 2) := by decide +kernel
theorem dn_Mo_216 : decode prog_9_method_1_code 216 = .ok (.newarray .int, 2) := by decide +kernel
theorem dn_Mo_218 : decode prog_9_method_1_code 218 = .ok (.putfield 93, 3) := by decide +kernel
theorem dn_Mo_221 : decode prog_9_method_1_code 221 = .ok (.aload_n 0, 1) := by decide +kernel
theorem dn_Mo_222 : decode prog_9_method_1_code 222 = .ok (.bipush 40, 2) := by decide +kernel
theorem dn_Mo_224 : decode prog_9_method_1_code 224 = .ok (.newarray .boolean, 2) := by decide +kernel
theorem dn_Mo_226 : decode prog_9_method_1_code 226 = .ok (.putfield 96, 3) := by decide +kernel
theorem dn_Mo_229 : decode prog_9_method_1_code 229 = .ok (.aload_n 0, 1) := by decide +kernel
theorem dn_Mo_230 : decode prog_9_method_1_code 230 = .ok (.bipush 40, 2) := by decide +kernel
theorem dn_Mo_232 : decode prog_9_method_1_code 232 = .ok (.newarray .long, 2) := by decide +kernel
theorem dn_Mo_234 : decode prog_9_method_1_code 234 = .ok (.putfield 99, 3) := by decide +kernel
theorem dn_Mo_237 : decode prog_9_method_1_code 237 = .ok (.aload_n 0, 1) := by decide +kernel
theorem dn_Mo_238 : decode prog_9_method_1_code 238 = .ok (.bipush 8, 2) := by decide +kernel
theorem dn_Mo_240 : decode prog_9_method_1_code 240 = .ok (.newarray .int, 2) := by decide +kernel
theorem dn_Mo_242 : decode prog_9_method_1_code 242 = .ok (.putfield 103, 3) := by decide +kernel
theorem dn_Mo_245 : decode prog_9_method_1_code 245 = .ok (.aload_n 0, 1) := by decide +kernel
theorem dn_Mo_246 : decode prog_9_method_1_code 246 = .ok (.iconst 4, 1) := by decide +kernel
theorem dn_Mo_247 : decode prog_9_method_1_code 247 = .ok (.newarray .int, 2) := by decide +kernel
theorem dn_Mo_249 : decode prog_9_method_1_code 249 = .ok (.putfield 106, 3) := by decide +kernel
theorem dn_Mo_252 : decode prog_9_method_1_code 252 = .ok (.aload_n 0, 1) := by decide +kernel
theorem dn_Mo_253 : decode prog_9_method_1_code 253 = .ok (.bipush 8, 2) := by decide +kernel
theorem dn_Mo_255 : decode prog_9_method_1_code 255 = .ok (.newarray .long, 2) := by decide +kernel
theorem dn_Mo_257 : decode prog_9_method_1_code 257 = .ok (.putfield 109, 3) := by decide +kernel
theorem dn_Mo_260 : decode prog_9_method_1_code 260 = .ok (.aload_n 0, 1) := by decide +kernel
theorem dn_Mo_261 : decode prog_9_method_1_code 261 = .ok (.bipush 16, 2) := by decide +kernel
theorem dn_Mo_263 : decode prog_9_method_1_code 263 = .ok (.newarray .int, 2) := by decide +kernel
theorem dn_Mo_265 : decode prog_9_method_1_code 265 = .ok (.putfield 112, 3) := by decide +kernel
theorem dn_Mo_268 : decode prog_9_method_1_code 268 = .ok (.aload_n 0, 1) := by decide +kernel
theorem dn_Mo_269 : decode prog_9_method_1_code 269 = .ok (.bipush 32, 2) := by decide +kernel
theorem dn_Mo_271 : decode prog_9_method_1_code 271 = .ok (.newarray .boolean, 2) := by decide +kernel
theorem dn_Mo_273 : decode prog_9_method_1_code 273 = .ok (.putfield 115, 3) := by decide +kernel
theorem dn_Mo_276 : decode prog_9_method_1_code 276 = .ok (.aload_n 0, 1) := by decide +kernel
theorem dn_Mo_277 : decode prog_9_method_1_code 277 = .ok (.bipush 40, 2) := by decide +kernel
theorem dn_Mo_279 : decode prog_9_method_1_code 279 = .ok (.newarray .int, 2) := by decide +kernel
theorem dn_Mo_281 : decode prog_9_method_1_code 281 = .ok (.putfield 118, 3) := by decide +kernel
theorem dn_Mo_284 : decode prog_9_method_1_code 284 = .ok (.aload_n 0, 1) := by decide +kernel
theorem dn_Mo_285 : decode prog_9_method_1_code 285 = .ok (.bipush 40, 2) := by decide +kernel
theorem dn_Mo_287 : decode prog_9_method_1_code 287 = .ok (.newarray .boolean, 2) := by decide +kernel
theorem dn_Mo_289 : decode prog_9_method_1_code 289 = .ok (.putfield 121, 3) := by decide +kernel
theorem dn_Mo_292 : decode prog_9_method_1_code 292 = .ok (.iconst 0, 1) := by decide +kernel
theorem dn_Mo_293 : decode prog_9_method_1_code 293 = .ok (.istore_n 1, 1) := by decide +kernel
theorem dn_Mo_294 : decode prog_9_method_1_code 294 = .ok (.iload_n 1, 1) := by decide +kernel
theorem dn_Mo_295 : decode prog_9_method_1_code 295 = .ok (.iconst 4, 1) := by decide +kernel
theorem dn_Mo_296 : decode prog_9_method_1_code 296 = .ok (.if_icmp .ge 17, 3) := by decide +kernel
theorem dn_Mo_299 : decode prog_9_method_1_code 299 = .ok (.aload_n 0, 1) := by decide +kernel
theorem dn_Mo_300 : decode prog_9_method_1_code 300 = .ok (.getfield 16, 3) := by decide +kernel
theorem dn_Mo_303 : decode prog_9_method_1_code 303 = .ok (.iload_n 1, 1) := by decide +kernel
theorem dn_Mo_304 : decode prog_9_method_1_code 304 = .ok (.bipush (-4), 2) := by decide +kernel
theorem dn_Mo_306 : decode prog_9_method_1_code 306 = .ok (.iastore, 1) := by decide +kernel
theorem dn_Mo_307 : decode prog_9_method_1_code 307 = .ok (.iinc 1 1, 3) := by decide +kernel
theorem dn_Mo_310 : decode prog_9_method_1_code 310 = .ok (.goto (-16), 3) := by decide +kernel
theorem dn_Mo_313 : decode prog_9_method_1_code 313 = .ok (.iconst 0, 1) := by decide +kernel
theorem dn_Mo_314 : decode prog_9_method_1_code 314 = .ok (.istore_n 1, 1) := by decide +kernel
theorem dn_Mo_315 : decode prog_9_method_1_code 315 = .ok (.iload_n 1, 1) := by decide +kernel
theorem dn_Mo_316 : decode prog_9_method_1_code 316 = .ok (.bipush 32, 2) := by decide +kernel
theorem dn_Mo_318 : decode prog_9_method_1_code 318 = .ok (.if_icmp .ge 25, 3) := by decide +kernel
theorem dn_Mo_321 : decode prog_9_method_1_code 321 = .ok (.aload_n 0, 1) := by decide +kernel
theorem dn_Mo_322 : decode prog_9_method_1_code 322 = .ok (.getfield 29, 3) := by decide +kernel
theorem dn_Mo_325 : decode prog_9_method_1_code 325 = .ok (.iload_n 1, 1) := by decide +kernel
theorem dn_Mo_326 : decode prog_9_method_1_code 326 = .ok (.bipush (-4), 2) := by decide +kernel
theorem dn_Mo_328 : decode prog_9_method_1_code 328 = .ok (.iastore, 1) := by decide +kernel
theorem dn_Mo_329 : decode prog_9_method_1_code 329 = .ok (.aload_n 0, 1) := by decide +kernel
theorem dn_Mo_330 : decode prog_9_method_1_code 330 = .ok (.getfield 72, 3) := by decide +kernel
theorem dn_Mo_333 : decode prog_9_method_1_code 333 = .ok (.iload_n 1, 1) := by decide +kernel
theorem dn_Mo_334 : decode prog_9_method_1_code 334 = .ok (.bipush (-4), 2) := by decide +kernel
theorem dn_Mo_336 : decode prog_9_method_1_code 336 = .ok (.iastore, 1) := by decide +kernel
theorem dn_Mo_337 : decode prog_9_method_1_code 337 = .ok (.iinc 1 1, 3) := by decide +kernel
theorem dn_Mo_340 : decode prog_9_method_1_code 340 = .ok (.goto (-25), 3) := by decide +kernel
theorem dn_Mo_343 : decode prog_9_method_1_code 343 = .ok (.iconst 0, 1) := by decide +kernel
theorem dn_Mo_344 : decode prog_9_method_1_code 344 = .ok (.istore_n 1, 1) := by decide +kernel
theorem dn_Mo_345 : decode prog_9_method_1_code 345 = .ok (.iload_n 1, 1) := by decide +kernel
theorem dn_Mo_346 : decode prog_9_method_1_code 346 = .ok (.bipush 16, 2) := by decide +kernel
theorem dn_Mo_348 : decode prog_9_method_1_code 348 = .ok (.if_icmp .ge 17, 3) := by decide +kernel
theorem dn_Mo_351 : decode prog_9_method_1_code 351 = .ok (.aload_n 0, 1) := by decide +kernel
theorem dn_Mo_352 : decode prog_9_method_1_code 352 = .ok (.getfield 60, 3) := by decide +kernel
theorem dn_Mo_355 : decode prog_9_method_1_code 355 = .ok (.iload_n 1, 1) := by decide +kernel
theorem dn_Mo_356 : decode prog_9_method_1_code 356 = .ok (.bipush (-4), 2) := by decide +kernel
theorem dn_Mo_358 : decode prog_9_method_1_code 358 = .ok (.iastore, 1) := by decide +kernel
theorem dn_Mo_359 : decode prog_9_method_1_code 359 = .ok (.iinc 1 1, 3) := by decide +kernel
theorem dn_Mo_362 : decode prog_9_method_1_code 362 = .ok (.goto (-17), 3) := by decide +kernel
theorem dn_Mo_365 : decode prog_9_method_1_code 365 = .ok (.iconst 0, 1) := by decide +kernel
theorem dn_Mo_366 : decode prog_9_method_1_code 366 = .ok (.istore_n 1, 1) := by decide +kernel
theorem dn_Mo_367 : decode prog_9_method_1_code 367 = .ok (.iload_n 1, 1) := by decide +kernel
theorem dn_Mo_368 : decode prog_9_method_1_code 368 = .ok (.bipush 8, 2) := by decide +kernel
theorem dn_Mo_370 : decode prog_9_method_1_code 370 = .ok (.if_icmp .ge 16, 3) := by decide +kernel
theorem dn_Mo_373 : decode prog_9_method_1_code 373 = .ok (.aload_n 0, 1) := by decide +kernel
theorem dn_Mo_374 : decode prog_9_method_1_code 374 = .ok (.getfield 103, 3) := by decide +kernel
theorem dn_Mo_377 : decode prog_9_method_1_code 377 = .ok (.iload_n 1, 1) := by decide +kernel
theorem dn_Mo_378 : decode prog_9_method_1_code 378 = .ok (.iconst (-1), 1) := by decide +kernel
theorem dn_Mo_379 : decode prog_9_method_1_code 379 = .ok (.iastore, 1) := by decide +kernel
theorem dn_Mo_380 : decode prog_9_method_1_code 380 = .ok (.iinc 1 1, 3) := by decide +kernel
theorem dn_Mo_383 : decode prog_9_method_1_code 383 = .ok (.goto (-16), 3) := by decide +kernel
theorem dn_Mo_386 : decode prog_9_method_1_code 386 = .ok (.iconst 0, 1) := by decide +kernel
theorem dn_Mo_387 : decode prog_9_method_1_code 387 = .ok (.istore_n 1, 1) := by decide +kernel
theorem dn_Mo_388 : decode prog_9_method_1_code 388 = .ok (.iload_n 1, 1) := by decide +kernel
theorem dn_Mo_389 : decode prog_9_method_1_code 389 = .ok (.iconst 4, 1) := by decide +kernel
theorem dn_Mo_390 : decode prog_9_method_1_code 390 = .ok (.if_icmp .ge 16, 3) := by decide +kernel
theorem dn_Mo_393 : decode prog_9_method_1_code 393 = .ok (.aload_n 0, 1) := by decide +kernel
theorem dn_Mo_394 : decode prog_9_method_1_code 394 = .ok (.getfield 106, 3) := by decide +kernel
theorem dn_Mo_397 : decode prog_9_method_1_code 397 = .ok (.iload_n 1, 1) := by decide +kernel
theorem dn_Mo_398 : decode prog_9_method_1_code 398 = .ok (.iconst (-1), 1) := by decide +kernel
theorem dn_Mo_399 : decode prog_9_method_1_code 399 = .ok (.iastore, 1) := by decide +kernel
theorem dn_Mo_400 : decode prog_9_method_1_code 400 = .ok (.iinc 1 1, 3) := by decide +kernel
theorem dn_Mo_403 : decode prog_9_method_1_code 403 = .ok (.goto (-15), 3) := by decide +kernel
theorem dn_Mo_406 : decode prog_9_method_1_code 406 = .ok (.return_, 1) := by decide +kernel
def nT_Mo_0 : nT := [(0, .inr (7, nvs kY7 49))]
theorem nwm_7_1 : Cond.methodLink kR7 1 objectInit ∈ gTb := gmem 641 (by decide +kernel) (by decide +kernel)
def nT_Mo_1 : nT := [(0, .inr (7, [none, nint 0, none, none, nint 0, nint 0, nint 0, nint 0, nint 0, none, none, none, none, none, none, none, none, none, nint 0, nint 0, nint 0, nint 0, none, none, none, none, none, none, none, nint 0, none, nint 0, none, none, none, none, none, none, none, none, nint 0, none, none, none, nint 0, nint 0, nint 0, none, none])), (1, .inl (0, (512, z0)))]
theorem nwf_7_7 : Cond.fieldLink kR7 7 kR7 "cells" "[I" ∈ gTb := gmem 642 (by decide +kernel) (by decide +kernel)
def nT_Mo_2 : nT := [(0, .inr (7, [nref 1, nint 0, none, none, nint 0, nint 0, nint 0, nint 0, nint 0, none, none, none, none, none, none, none, none, none, nint 0, nint 0, nint 0, nint 0, none, none, none, none, none, none, none, nint 0, none, nint 0, none, none, none, none, none, none, none, none, nint 0, none, none, none, nint 0, nint 0, nint 0, none, none])), (1, .inl (0, (512, z0)))]
def nT_Mo_3 : nT := [(0, .inr (7, [nref 1, nint 0, none, none, nint 0, nint 0, nint 0, nint 0, nint 0, none, none, none, none, none, none, none, none, none, nint 0, nint 0, nint 0, nint 0, none, none, none, none, none, none, none, nint 0, none, nint 0, none, none, none, none, none, none, none, none, nint 0, none, none, none, nint 0, nint 0, nint 0, none, none])), (1, .inl (0, (512, z0))), (2, .inl (0, (64, z0)))]
theorem nwf_7_13 : Cond.fieldLink kR7 13 kR7 "wear" "[I" ∈ gTb := gmem 644 (by decide +kernel) (by decide +kernel)
def nT_Mo_4 : nT := [(0, .inr (7, [nref 1, nint 0, nref 2, none, nint 0, nint 0, nint 0, nint 0, nint 0, none, none, none, none, none, none, none, none, none, nint 0, nint 0, nint 0, nint 0, none, none, none, none, none, none, none, nint 0, none, nint 0, none, none, none, none, none, none, none, none, nint 0, none, none, none, nint 0, nint 0, nint 0, none, none])), (1, .inl (0, (512, z0))), (2, .inl (0, (64, z0)))]
def nT_Mo_5 : nT := [(0, .inr (7, [nref 1, nint 0, nref 2, none, nint 0, nint 0, nint 0, nint 0, nint 0, none, none, none, none, none, none, none, none, none, nint 0, nint 0, nint 0, nint 0, none, none, none, none, none, none, none, nint 0, none, nint 0, none, none, none, none, none, none, none, none, nint 0, none, none, none, nint 0, nint 0, nint 0, none, none])), (1, .inl (0, (512, z0))), (2, .inl (0, (64, z0))), (3, .inl (0, (4, z0)))]
theorem nwf_7_16 : Cond.fieldLink kR7 16 kR7 "openRow" "[I" ∈ gTb := gmem 645 (by decide +kernel) (by decide +kernel)
def nT_Mo_6 : nT := [(0, .inr (7, [nref 1, nint 0, nref 2, nref 3, nint 0, nint 0, nint 0, nint 0, nint 0, none, none, none, none, none, none, none, none, none, nint 0, nint 0, nint 0, nint 0, none, none, none, none, none, none, none, nint 0, none, nint 0, none, none, none, none, none, none, none, none, nint 0, none, none, none, nint 0, nint 0, nint 0, none, none])), (1, .inl (0, (512, z0))), (2, .inl (0, (64, z0))), (3, .inl (0, (4, z0)))]
theorem nwf_7_19 : Cond.fieldLink kR7 19 kR7 "sets" "I" ∈ gTb := gmem 647 (by decide +kernel) (by decide +kernel)
def nT_Mo_7 : nT := [(0, .inr (7, [nref 1, nint 0, nref 2, nref 3, nint 0, nint 2, nint 0, nint 0, nint 0, none, none, none, none, none, none, none, none, none, nint 0, nint 0, nint 0, nint 0, none, none, none, none, none, none, none, nint 0, none, nint 0, none, none, none, none, none, none, none, none, nint 0, none, none, none, nint 0, nint 0, nint 0, none, none])), (1, .inl (0, (512, z0))), (2, .inl (0, (64, z0))), (3, .inl (0, (4, z0)))]
theorem nwf_7_23 : Cond.fieldLink kR7 23 kR7 "ways" "I" ∈ gTb := gmem 648 (by decide +kernel) (by decide +kernel)
def nT_Mo_8 : nT := [(0, .inr (7, [nref 1, nint 0, nref 2, nref 3, nint 0, nint 2, nint 2, nint 0, nint 0, none, none, none, none, none, none, none, none, none, nint 0, nint 0, nint 0, nint 0, none, none, none, none, none, none, none, nint 0, none, nint 0, none, none, none, none, none, none, none, none, nint 0, none, none, none, nint 0, nint 0, nint 0, none, none])), (1, .inl (0, (512, z0))), (2, .inl (0, (64, z0))), (3, .inl (0, (4, z0)))]
theorem nwf_7_26 : Cond.fieldLink kR7 26 kR7 "late" "I" ∈ gTb := gmem 650 (by decide +kernel) (by decide +kernel)
def nT_Mo_9 : nT := [(0, .inr (7, [nref 1, nint 0, nref 2, nref 3, nint 0, nint 2, nint 2, nint 0, nint 1, none, none, none, none, none, none, none, none, none, nint 0, nint 0, nint 0, nint 0, none, none, none, none, none, none, none, nint 0, none, nint 0, none, none, none, none, none, none, none, none, nint 0, none, none, none, nint 0, nint 0, nint 0, none, none])), (1, .inl (0, (512, z0))), (2, .inl (0, (64, z0))), (3, .inl (0, (4, z0)))]
def nT_Mo_10 : nT := [(0, .inr (7, [nref 1, nint 0, nref 2, nref 3, nint 0, nint 2, nint 2, nint 0, nint 1, none, none, none, none, none, none, none, none, none, nint 0, nint 0, nint 0, nint 0, none, none, none, none, none, none, none, nint 0, none, nint 0, none, none, none, none, none, none, none, none, nint 0, none, none, none, nint 0, nint 0, nint 0, none, none])), (1, .inl (0, (512, z0))), (2, .inl (0, (64, z0))), (3, .inl (0, (4, z0))), (4, .inl (0, (32, z0)))]
theorem nwf_7_29 : Cond.fieldLink kR7 29 kR7 "lineBlock" "[I" ∈ gTb := gmem 651 (by decide +kernel) (by decide +kernel)
def nT_Mo_11 : nT := [(0, .inr (7, [nref 1, nint 0, nref 2, nref 3, nint 0, nint 2, nint 2, nint 0, nint 1, nref 4, none, none, none, none, none, none, none, none, nint 0, nint 0, nint 0, nint 0, none, none, none, none, none, none, none, nint 0, none, nint 0, none, none, none, none, none, none, none, none, nint 0, none, none, none, nint 0, nint 0, nint 0, none, none])), (1, .inl (0, (512, z0))), (2, .inl (0, (64, z0))), (3, .inl (0, (4, z0))), (4, .inl (0, (32, z0)))]
def nT_Mo_12 : nT := [(0, .inr (7, [nref 1, nint 0, nref 2, nref 3, nint 0, nint 2, nint 2, nint 0, nint 1, nref 4, none, none, none, none, none, none, none, none, nint 0, nint 0, nint 0, nint 0, none, none, none, none, none, none, none, nint 0, none, nint 0, none, none, none, none, none, none, none, none, nint 0, none, none, none, nint 0, nint 0, nint 0, none, none])), (1, .inl (0, (512, z0))), (2, .inl (0, (64, z0))), (3, .inl (0, (4, z0))), (4, .inl (0, (32, z0))), (5, .inl (1, (32, z0)))]
theorem nwf_7_32 : Cond.fieldLink kR7 32 kR7 "lineDirty" "[Z" ∈ gTb := gmem 652 (by decide +kernel) (by decide +kernel)
def nT_Mo_13 : nT := [(0, .inr (7, [nref 1, nint 0, nref 2, nref 3, nint 0, nint 2, nint 2, nint 0, nint 1, nref 4, nref 5, none, none, none, none, none, none, none, nint 0, nint 0, nint 0, nint 0, none, none, none, none, none, none, none, nint 0, none, nint 0, none, none, none, none, none, none, none, none, nint 0, none, none, none, nint 0, nint 0, nint 0, none, none])), (1, .inl (0, (512, z0))), (2, .inl (0, (64, z0))), (3, .inl (0, (4, z0))), (4, .inl (0, (32, z0))), (5, .inl (1, (32, z0)))]
def nT_Mo_14 : nT := [(0, .inr (7, [nref 1, nint 0, nref 2, nref 3, nint 0, nint 2, nint 2, nint 0, nint 1, nref 4, nref 5, none, none, none, none, none, none, none, nint 0, nint 0, nint 0, nint 0, none, none, none, none, none, none, none, nint 0, none, nint 0, none, none, none, none, none, none, none, none, nint 0, none, none, none, nint 0, nint 0, nint 0, none, none])), (1, .inl (0, (512, z0))), (2, .inl (0, (64, z0))), (3, .inl (0, (4, z0))), (4, .inl (0, (32, z0))), (5, .inl (1, (32, z0))), (6, .inl (0, (32, z0)))]
theorem nwf_7_36 : Cond.fieldLink kR7 36 kR7 "lineAsked" "[I" ∈ gTb := gmem 653 (by decide +kernel) (by decide +kernel)
def nT_Mo_15 : nT := [(0, .inr (7, [nref 1, nint 0, nref 2, nref 3, nint 0, nint 2, nint 2, nint 0, nint 1, nref 4, nref 5, nref 6, none, none, none, none, none, none, nint 0, nint 0, nint 0, nint 0, none, none, none, none, none, none, none, nint 0, none, nint 0, none, none, none, none, none, none, none, none, nint 0, none, none, none, nint 0, nint 0, nint 0, none, none])), (1, .inl (0, (512, z0))), (2, .inl (0, (64, z0))), (3, .inl (0, (4, z0))), (4, .inl (0, (32, z0))), (5, .inl (1, (32, z0))), (6, .inl (0, (32, z0)))]
def nT_Mo_16 : nT := [(0, .inr (7, [nref 1, nint 0, nref 2, nref 3, nint 0, nint 2, nint 2, nint 0, nint 1, nref 4, nref 5, nref 6, none, none, none, none, none, none, nint 0, nint 0, nint 0, nint 0, none, none, none, none, none, none, none, nint 0, none, nint 0, none, none, none, none, none, none, none, none, nint 0, none, none, none, nint 0, nint 0, nint 0, none, none])), (1, .inl (0, (512, z0))), (2, .inl (0, (64, z0))), (3, .inl (0, (4, z0))), (4, .inl (0, (32, z0))), (5, .inl (1, (32, z0))), (6, .inl (0, (32, z0))), (7, .inl (0, (32, z0)))]
theorem nwf_7_39 : Cond.fieldLink kR7 39 kR7 "lineCame" "[I" ∈ gTb := gmem 654 (by decide +kernel) (by decide +kernel)
def nT_Mo_17 : nT := [(0, .inr (7, [nref 1, nint 0, nref 2, nref 3, nint 0, nint 2, nint 2, nint 0, nint 1, nref 4, nref 5, nref 6, nref 7, none, none, none, none, none, nint 0, nint 0, nint 0, nint 0, none, none, none, none, none, none, none, nint 0, none, nint 0, none, none, none, none, none, none, none, none, nint 0, none, none, none, nint 0, nint 0, nint 0, none, none])), (1, .inl (0, (512, z0))), (2, .inl (0, (64, z0))), (3, .inl (0, (4, z0))), (4, .inl (0, (32, z0))), (5, .inl (1, (32, z0))), (6, .inl (0, (32, z0))), (7, .inl (0, (32, z0)))]
def nT_Mo_18 : nT := [(0, .inr (7, [nref 1, nint 0, nref 2, nref 3, nint 0, nint 2, nint 2, nint 0, nint 1, nref 4, nref 5, nref 6, nref 7, none, none, none, none, none, nint 0, nint 0, nint 0, nint 0, none, none, none, none, none, none, none, nint 0, none, nint 0, none, none, none, none, none, none, none, none, nint 0, none, none, none, nint 0, nint 0, nint 0, none, none])), (1, .inl (0, (512, z0))), (2, .inl (0, (64, z0))), (3, .inl (0, (4, z0))), (4, .inl (0, (32, z0))), (5, .inl (1, (32, z0))), (6, .inl (0, (32, z0))), (7, .inl (0, (32, z0))), (8, .inl (0, (256, z0)))]
theorem nwf_7_42 : Cond.fieldLink kR7 42 kR7 "lineBytes" "[I" ∈ gTb := gmem 655 (by decide +kernel) (by decide +kernel)
def nT_Mo_19 : nT := [(0, .inr (7, [nref 1, nint 0, nref 2, nref 3, nint 0, nint 2, nint 2, nint 0, nint 1, nref 4, nref 5, nref 6, nref 7, nref 8, none, none, none, none, nint 0, nint 0, nint 0, nint 0, none, none, none, none, none, none, none, nint 0, none, nint 0, none, none, none, none, none, none, none, none, nint 0, none, none, none, nint 0, nint 0, nint 0, none, none])), (1, .inl (0, (512, z0))), (2, .inl (0, (64, z0))), (3, .inl (0, (4, z0))), (4, .inl (0, (32, z0))), (5, .inl (1, (32, z0))), (6, .inl (0, (32, z0))), (7, .inl (0, (32, z0))), (8, .inl (0, (256, z0)))]
def nT_Mo_20 : nT := [(0, .inr (7, [nref 1, nint 0, nref 2, nref 3, nint 0, nint 2, nint 2, nint 0, nint 1, nref 4, nref 5, nref 6, nref 7, nref 8, none, none, none, none, nint 0, nint 0, nint 0, nint 0, none, none, none, none, none, none, none, nint 0, none, nint 0, none, none, none, none, none, none, none, none, nint 0, none, none, none, nint 0, nint 0, nint 0, none, none])), (1, .inl (0, (512, z0))), (2, .inl (0, (64, z0))), (3, .inl (0, (4, z0))), (4, .inl (0, (32, z0))), (5, .inl (1, (32, z0))), (6, .inl (0, (32, z0))), (7, .inl (0, (32, z0))), (8, .inl (0, (256, z0))), (9, .inl (0, (32, z0)))]
theorem nwf_7_45 : Cond.fieldLink kR7 45 kR7 "lineLost" "[I" ∈ gTb := gmem 656 (by decide +kernel) (by decide +kernel)
def nT_Mo_21 : nT := [(0, .inr (7, [nref 1, nint 0, nref 2, nref 3, nint 0, nint 2, nint 2, nint 0, nint 1, nref 4, nref 5, nref 6, nref 7, nref 8, nref 9, none, none, none, nint 0, nint 0, nint 0, nint 0, none, none, none, none, none, none, none, nint 0, none, nint 0, none, none, none, none, none, none, none, none, nint 0, none, none, none, nint 0, nint 0, nint 0, none, none])), (1, .inl (0, (512, z0))), (2, .inl (0, (64, z0))), (3, .inl (0, (4, z0))), (4, .inl (0, (32, z0))), (5, .inl (1, (32, z0))), (6, .inl (0, (32, z0))), (7, .inl (0, (32, z0))), (8, .inl (0, (256, z0))), (9, .inl (0, (32, z0)))]
def nT_Mo_22 : nT := [(0, .inr (7, [nref 1, nint 0, nref 2, nref 3, nint 0, nint 2, nint 2, nint 0, nint 1, nref 4, nref 5, nref 6, nref 7, nref 8, nref 9, none, none, none, nint 0, nint 0, nint 0, nint 0, none, none, none, none, none, none, none, nint 0, none, nint 0, none, none, none, none, none, none, none, none, nint 0, none, none, none, nint 0, nint 0, nint 0, none, none])), (1, .inl (0, (512, z0))), (2, .inl (0, (64, z0))), (3, .inl (0, (4, z0))), (4, .inl (0, (32, z0))), (5, .inl (1, (32, z0))), (6, .inl (0, (32, z0))), (7, .inl (0, (32, z0))), (8, .inl (0, (256, z0))), (9, .inl (0, (32, z0))), (10, .inl (1, (128, z0)))]
theorem nwf_7_48 : Cond.fieldLink kR7 48 kR7 "wasAsked" "[Z" ∈ gTb := gmem 657 (by decide +kernel) (by decide +kernel)
def nT_Mo_23 : nT := [(0, .inr (7, [nref 1, nint 0, nref 2, nref 3, nint 0, nint 2, nint 2, nint 0, nint 1, nref 4, nref 5, nref 6, nref 7, nref 8, nref 9, nref 10, none, none, nint 0, nint 0, nint 0, nint 0, none, none, none, none, none, none, none, nint 0, none, nint 0, none, none, none, none, none, none, none, none, nint 0, none, none, none, nint 0, nint 0, nint 0, none, none])), (1, .inl (0, (512, z0))), (2, .inl (0, (64, z0))), (3, .inl (0, (4, z0))), (4, .inl (0, (32, z0))), (5, .inl (1, (32, z0))), (6, .inl (0, (32, z0))), (7, .inl (0, (32, z0))), (8, .inl (0, (256, z0))), (9, .inl (0, (32, z0))), (10, .inl (1, (128, z0)))]
def nT_Mo_24 : nT := [(0, .inr (7, [nref 1, nint 0, nref 2, nref 3, nint 0, nint 2, nint 2, nint 0, nint 1, nref 4, nref 5, nref 6, nref 7, nref 8, nref 9, nref 10, none, none, nint 0, nint 0, nint 0, nint 0, none, none, none, none, none, none, none, nint 0, none, nint 0, none, none, none, none, none, none, none, none, nint 0, none, none, none, nint 0, nint 0, nint 0, none, none])), (1, .inl (0, (512, z0))), (2, .inl (0, (64, z0))), (3, .inl (0, (4, z0))), (4, .inl (0, (32, z0))), (5, .inl (1, (32, z0))), (6, .inl (0, (32, z0))), (7, .inl (0, (32, z0))), (8, .inl (0, (256, z0))), (9, .inl (0, (32, z0))), (10, .inl (1, (128, z0))), (11, .inl (1, (128, z0)))]
theorem nwf_7_51 : Cond.fieldLink kR7 51 kR7 "wasTaken" "[Z" ∈ gTb := gmem 658 (by decide +kernel) (by decide +kernel)
def nT_Mo_25 : nT := [(0, .inr (7, [nref 1, nint 0, nref 2, nref 3, nint 0, nint 2, nint 2, nint 0, nint 1, nref 4, nref 5, nref 6, nref 7, nref 8, nref 9, nref 10, nref 11, none, nint 0, nint 0, nint 0, nint 0, none, none, none, none, none, none, none, nint 0, none, nint 0, none, none, none, none, none, none, none, none, nint 0, none, none, none, nint 0, nint 0, nint 0, none, none])), (1, .inl (0, (512, z0))), (2, .inl (0, (64, z0))), (3, .inl (0, (4, z0))), (4, .inl (0, (32, z0))), (5, .inl (1, (32, z0))), (6, .inl (0, (32, z0))), (7, .inl (0, (32, z0))), (8, .inl (0, (256, z0))), (9, .inl (0, (32, z0))), (10, .inl (1, (128, z0))), (11, .inl (1, (128, z0)))]
def nT_Mo_26 : nT := [(0, .inr (7, [nref 1, nint 0, nref 2, nref 3, nint 0, nint 2, nint 2, nint 0, nint 1, nref 4, nref 5, nref 6, nref 7, nref 8, nref 9, nref 10, nref 11, none, nint 0, nint 0, nint 0, nint 0, none, none, none, none, none, none, none, nint 0, none, nint 0, none, none, none, none, none, none, none, none, nint 0, none, none, none, nint 0, nint 0, nint 0, none, none])), (1, .inl (0, (512, z0))), (2, .inl (0, (64, z0))), (3, .inl (0, (4, z0))), (4, .inl (0, (32, z0))), (5, .inl (1, (32, z0))), (6, .inl (0, (32, z0))), (7, .inl (0, (32, z0))), (8, .inl (0, (256, z0))), (9, .inl (0, (32, z0))), (10, .inl (1, (128, z0))), (11, .inl (1, (128, z0))), (12, .inl (0, (128, z0)))]
theorem nwf_7_54 : Cond.fieldLink kR7 54 kR7 "beside" "[I" ∈ gTb := gmem 659 (by decide +kernel) (by decide +kernel)
def nT_Mo_27 : nT := [(0, .inr (7, [nref 1, nint 0, nref 2, nref 3, nint 0, nint 2, nint 2, nint 0, nint 1, nref 4, nref 5, nref 6, nref 7, nref 8, nref 9, nref 10, nref 11, nref 12, nint 0, nint 0, nint 0, nint 0, none, none, none, none, none, none, none, nint 0, none, nint 0, none, none, none, none, none, none, none, none, nint 0, none, none, none, nint 0, nint 0, nint 0, none, none])), (1, .inl (0, (512, z0))), (2, .inl (0, (64, z0))), (3, .inl (0, (4, z0))), (4, .inl (0, (32, z0))), (5, .inl (1, (32, z0))), (6, .inl (0, (32, z0))), (7, .inl (0, (32, z0))), (8, .inl (0, (256, z0))), (9, .inl (0, (32, z0))), (10, .inl (1, (128, z0))), (11, .inl (1, (128, z0))), (12, .inl (0, (128, z0)))]
theorem nwf_7_57 : Cond.fieldLink kR7 57 kR7 "frameMany" "I" ∈ gTb := gmem 661 (by decide +kernel) (by decide +kernel)
def nT_Mo_28 : nT := [(0, .inr (7, [nref 1, nint 0, nref 2, nref 3, nint 0, nint 2, nint 2, nint 0, nint 1, nref 4, nref 5, nref 6, nref 7, nref 8, nref 9, nref 10, nref 11, nref 12, nint 0, nint 4, nint 0, nint 0, none, none, none, none, none, none, none, nint 0, none, nint 0, none, none, none, none, none, none, none, none, nint 0, none, none, none, nint 0, nint 0, nint 0, none, none])), (1, .inl (0, (512, z0))), (2, .inl (0, (64, z0))), (3, .inl (0, (4, z0))), (4, .inl (0, (32, z0))), (5, .inl (1, (32, z0))), (6, .inl (0, (32, z0))), (7, .inl (0, (32, z0))), (8, .inl (0, (256, z0))), (9, .inl (0, (32, z0))), (10, .inl (1, (128, z0))), (11, .inl (1, (128, z0))), (12, .inl (0, (128, z0)))]
def nT_Mo_29 : nT := [(0, .inr (7, [nref 1, nint 0, nref 2, nref 3, nint 0, nint 2, nint 2, nint 0, nint 1, nref 4, nref 5, nref 6, nref 7, nref 8, nref 9, nref 10, nref 11, nref 12, nint 0, nint 4, nint 0, nint 0, none, none, none, none, none, none, none, nint 0, none, nint 0, none, none, none, none, none, none, none, none, nint 0, none, none, none, nint 0, nint 0, nint 0, none, none])), (1, .inl (0, (512, z0))), (2, .inl (0, (64, z0))), (3, .inl (0, (4, z0))), (4, .inl (0, (32, z0))), (5, .inl (1, (32, z0))), (6, .inl (0, (32, z0))), (7, .inl (0, (32, z0))), (8, .inl (0, (256, z0))), (9, .inl (0, (32, z0))), (10, .inl (1, (128, z0))), (11, .inl (1, (128, z0))), (12, .inl (0, (128, z0))), (13, .inl (0, (16, z0)))]
theorem nwf_7_60 : Cond.fieldLink kR7 60 kR7 "pageOf" "[I" ∈ gTb := gmem 664 (by decide +kernel) (by decide +kernel)
def nT_Mo_30 : nT := [(0, .inr (7, [nref 1, nint 0, nref 2, nref 3, nint 0, nint 2, nint 2, nint 0, nint 1, nref 4, nref 5, nref 6, nref 7, nref 8, nref 9, nref 10, nref 11, nref 12, nint 0, nint 4, nint 0, nint 0, nref 13, none, none, none, none, none, none, nint 0, none, nint 0, none, none, none, none, none, none, none, none, nint 0, none, none, none, nint 0, nint 0, nint 0, none, none])), (1, .inl (0, (512, z0))), (2, .inl (0, (64, z0))), (3, .inl (0, (4, z0))), (4, .inl (0, (32, z0))), (5, .inl (1, (32, z0))), (6, .inl (0, (32, z0))), (7, .inl (0, (32, z0))), (8, .inl (0, (256, z0))), (9, .inl (0, (32, z0))), (10, .inl (1, (128, z0))), (11, .inl (1, (128, z0))), (12, .inl (0, (128, z0))), (13, .inl (0, (16, z0)))]
def nT_Mo_31 : nT := [(0, .inr (7, [nref 1, nint 0, nref 2, nref 3, nint 0, nint 2, nint 2, nint 0, nint 1, nref 4, nref 5, nref 6, nref 7, nref 8, nref 9, nref 10, nref 11, nref 12, nint 0, nint 4, nint 0, nint 0, nref 13, none, none, none, none, none, none, nint 0, none, nint 0, none, none, none, none, none, none, none, none, nint 0, none, none, none, nint 0, nint 0, nint 0, none, none])), (1, .inl (0, (512, z0))), (2, .inl (0, (64, z0))), (3, .inl (0, (4, z0))), (4, .inl (0, (32, z0))), (5, .inl (1, (32, z0))), (6, .inl (0, (32, z0))), (7, .inl (0, (32, z0))), (8, .inl (0, (256, z0))), (9, .inl (0, (32, z0))), (10, .inl (1, (128, z0))), (11, .inl (1, (128, z0))), (12, .inl (0, (128, z0))), (13, .inl (0, (16, z0))), (14, .inl (1, (16, z0)))]
theorem nwf_7_63 : Cond.fieldLink kR7 63 kR7 "isMarked" "[Z" ∈ gTb := gmem 665 (by decide +kernel) (by decide +kernel)
def nT_Mo_32 : nT := [(0, .inr (7, [nref 1, nint 0, nref 2, nref 3, nint 0, nint 2, nint 2, nint 0, nint 1, nref 4, nref 5, nref 6, nref 7, nref 8, nref 9, nref 10, nref 11, nref 12, nint 0, nint 4, nint 0, nint 0, nref 13, nref 14, none, none, none, none, none, nint 0, none, nint 0, none, none, none, none, none, none, none, none, nint 0, none, none, none, nint 0, nint 0, nint 0, none, none])), (1, .inl (0, (512, z0))), (2, .inl (0, (64, z0))), (3, .inl (0, (4, z0))), (4, .inl (0, (32, z0))), (5, .inl (1, (32, z0))), (6, .inl (0, (32, z0))), (7, .inl (0, (32, z0))), (8, .inl (0, (256, z0))), (9, .inl (0, (32, z0))), (10, .inl (1, (128, z0))), (11, .inl (1, (128, z0))), (12, .inl (0, (128, z0))), (13, .inl (0, (16, z0))), (14, .inl (1, (16, z0)))]
def nT_Mo_33 : nT := [(0, .inr (7, [nref 1, nint 0, nref 2, nref 3, nint 0, nint 2, nint 2, nint 0, nint 1, nref 4, nref 5, nref 6, nref 7, nref 8, nref 9, nref 10, nref 11, nref 12, nint 0, nint 4, nint 0, nint 0, nref 13, nref 14, none, none, none, none, none, nint 0, none, nint 0, none, none, none, none, none, none, none, none, nint 0, none, none, none, nint 0, nint 0, nint 0, none, none])), (1, .inl (0, (512, z0))), (2, .inl (0, (64, z0))), (3, .inl (0, (4, z0))), (4, .inl (0, (32, z0))), (5, .inl (1, (32, z0))), (6, .inl (0, (32, z0))), (7, .inl (0, (32, z0))), (8, .inl (0, (256, z0))), (9, .inl (0, (32, z0))), (10, .inl (1, (128, z0))), (11, .inl (1, (128, z0))), (12, .inl (0, (128, z0))), (13, .inl (0, (16, z0))), (14, .inl (1, (16, z0))), (15, .inl (0, (16, z0)))]
theorem nwf_7_66 : Cond.fieldLink kR7 66 kR7 "frameCame" "[I" ∈ gTb := gmem 666 (by decide +kernel) (by decide +kernel)
def nT_Mo_34 : nT := [(0, .inr (7, [nref 1, nint 0, nref 2, nref 3, nint 0, nint 2, nint 2, nint 0, nint 1, nref 4, nref 5, nref 6, nref 7, nref 8, nref 9, nref 10, nref 11, nref 12, nint 0, nint 4, nint 0, nint 0, nref 13, nref 14, nref 15, none, none, none, none, nint 0, none, nint 0, none, none, none, none, none, none, none, none, nint 0, none, none, none, nint 0, nint 0, nint 0, none, none])), (1, .inl (0, (512, z0))), (2, .inl (0, (64, z0))), (3, .inl (0, (4, z0))), (4, .inl (0, (32, z0))), (5, .inl (1, (32, z0))), (6, .inl (0, (32, z0))), (7, .inl (0, (32, z0))), (8, .inl (0, (256, z0))), (9, .inl (0, (32, z0))), (10, .inl (1, (128, z0))), (11, .inl (1, (128, z0))), (12, .inl (0, (128, z0))), (13, .inl (0, (16, z0))), (14, .inl (1, (16, z0))), (15, .inl (0, (16, z0)))]
def nT_Mo_35 : nT := [(0, .inr (7, [nref 1, nint 0, nref 2, nref 3, nint 0, nint 2, nint 2, nint 0, nint 1, nref 4, nref 5, nref 6, nref 7, nref 8, nref 9, nref 10, nref 11, nref 12, nint 0, nint 4, nint 0, nint 0, nref 13, nref 14, nref 15, none, none, none, none, nint 0, none, nint 0, none, none, none, none, none, none, none, none, nint 0, none, none, none, nint 0, nint 0, nint 0, none, none])), (1, .inl (0, (512, z0))), (2, .inl (0, (64, z0))), (3, .inl (0, (4, z0))), (4, .inl (0, (32, z0))), (5, .inl (1, (32, z0))), (6, .inl (0, (32, z0))), (7, .inl (0, (32, z0))), (8, .inl (0, (256, z0))), (9, .inl (0, (32, z0))), (10, .inl (1, (128, z0))), (11, .inl (1, (128, z0))), (12, .inl (0, (128, z0))), (13, .inl (0, (16, z0))), (14, .inl (1, (16, z0))), (15, .inl (0, (16, z0))), (16, .inl (0, (16, z0)))]
theorem nwf_7_69 : Cond.fieldLink kR7 69 kR7 "frameTouched" "[I" ∈ gTb := gmem 667 (by decide +kernel) (by decide +kernel)
def nT_Mo_36 : nT := [(0, .inr (7, [nref 1, nint 0, nref 2, nref 3, nint 0, nint 2, nint 2, nint 0, nint 1, nref 4, nref 5, nref 6, nref 7, nref 8, nref 9, nref 10, nref 11, nref 12, nint 0, nint 4, nint 0, nint 0, nref 13, nref 14, nref 15, nref 16, none, none, none, nint 0, none, nint 0, none, none, none, none, none, none, none, none, nint 0, none, none, none, nint 0, nint 0, nint 0, none, none])), (1, .inl (0, (512, z0))), (2, .inl (0, (64, z0))), (3, .inl (0, (4, z0))), (4, .inl (0, (32, z0))), (5, .inl (1, (32, z0))), (6, .inl (0, (32, z0))), (7, .inl (0, (32, z0))), (8, .inl (0, (256, z0))), (9, .inl (0, (32, z0))), (10, .inl (1, (128, z0))), (11, .inl (1, (128, z0))), (12, .inl (0, (128, z0))), (13, .inl (0, (16, z0))), (14, .inl (1, (16, z0))), (15, .inl (0, (16, z0))), (16, .inl (0, (16, z0)))]
def nT_Mo_37 : nT := [(0, .inr (7, [nref 1, nint 0, nref 2, nref 3, nint 0, nint 2, nint 2, nint 0, nint 1, nref 4, nref 5, nref 6, nref 7, nref 8, nref 9, nref 10, nref 11, nref 12, nint 0, nint 4, nint 0, nint 0, nref 13, nref 14, nref 15, nref 16, none, none, none, nint 0, none, nint 0, none, none, none, none, none, none, none, none, nint 0, none, none, none, nint 0, nint 0, nint 0, none, none])), (1, .inl (0, (512, z0))), (2, .inl (0, (64, z0))), (3, .inl (0, (4, z0))), (4, .inl (0, (32, z0))), (5, .inl (1, (32, z0))), (6, .inl (0, (32, z0))), (7, .inl (0, (32, z0))), (8, .inl (0, (256, z0))), (9, .inl (0, (32, z0))), (10, .inl (1, (128, z0))), (11, .inl (1, (128, z0))), (12, .inl (0, (128, z0))), (13, .inl (0, (16, z0))), (14, .inl (1, (16, z0))), (15, .inl (0, (16, z0))), (16, .inl (0, (16, z0))), (17, .inl (0, (32, z0)))]
theorem nwf_7_72 : Cond.fieldLink kR7 72 kR7 "frameOf" "[I" ∈ gTb := gmem 668 (by decide +kernel) (by decide +kernel)
def nT_Mo_38 : nT := [(0, .inr (7, [nref 1, nint 0, nref 2, nref 3, nint 0, nint 2, nint 2, nint 0, nint 1, nref 4, nref 5, nref 6, nref 7, nref 8, nref 9, nref 10, nref 11, nref 12, nint 0, nint 4, nint 0, nint 0, nref 13, nref 14, nref 15, nref 16, nref 17, none, none, nint 0, none, nint 0, none, none, none, none, none, none, none, none, nint 0, none, none, none, nint 0, nint 0, nint 0, none, none])), (1, .inl (0, (512, z0))), (2, .inl (0, (64, z0))), (3, .inl (0, (4, z0))), (4, .inl (0, (32, z0))), (5, .inl (1, (32, z0))), (6, .inl (0, (32, z0))), (7, .inl (0, (32, z0))), (8, .inl (0, (256, z0))), (9, .inl (0, (32, z0))), (10, .inl (1, (128, z0))), (11, .inl (1, (128, z0))), (12, .inl (0, (128, z0))), (13, .inl (0, (16, z0))), (14, .inl (1, (16, z0))), (15, .inl (0, (16, z0))), (16, .inl (0, (16, z0))), (17, .inl (0, (32, z0)))]
def nT_Mo_39 : nT := [(0, .inr (7, [nref 1, nint 0, nref 2, nref 3, nint 0, nint 2, nint 2, nint 0, nint 1, nref 4, nref 5, nref 6, nref 7, nref 8, nref 9, nref 10, nref 11, nref 12, nint 0, nint 4, nint 0, nint 0, nref 13, nref 14, nref 15, nref 16, nref 17, none, none, nint 0, none, nint 0, none, none, none, none, none, none, none, none, nint 0, none, none, none, nint 0, nint 0, nint 0, none, none])), (1, .inl (0, (512, z0))), (2, .inl (0, (64, z0))), (3, .inl (0, (4, z0))), (4, .inl (0, (32, z0))), (5, .inl (1, (32, z0))), (6, .inl (0, (32, z0))), (7, .inl (0, (32, z0))), (8, .inl (0, (256, z0))), (9, .inl (0, (32, z0))), (10, .inl (1, (128, z0))), (11, .inl (1, (128, z0))), (12, .inl (0, (128, z0))), (13, .inl (0, (16, z0))), (14, .inl (1, (16, z0))), (15, .inl (0, (16, z0))), (16, .inl (0, (16, z0))), (17, .inl (0, (32, z0))), (18, .inl (1, (32, z0)))]
theorem nwf_7_75 : Cond.fieldLink kR7 75 kR7 "wasTouched" "[Z" ∈ gTb := gmem 669 (by decide +kernel) (by decide +kernel)
def nT_Mo_40 : nT := [(0, .inr (7, [nref 1, nint 0, nref 2, nref 3, nint 0, nint 2, nint 2, nint 0, nint 1, nref 4, nref 5, nref 6, nref 7, nref 8, nref 9, nref 10, nref 11, nref 12, nint 0, nint 4, nint 0, nint 0, nref 13, nref 14, nref 15, nref 16, nref 17, nref 18, none, nint 0, none, nint 0, none, none, none, none, none, none, none, none, nint 0, none, none, none, nint 0, nint 0, nint 0, none, none])), (1, .inl (0, (512, z0))), (2, .inl (0, (64, z0))), (3, .inl (0, (4, z0))), (4, .inl (0, (32, z0))), (5, .inl (1, (32, z0))), (6, .inl (0, (32, z0))), (7, .inl (0, (32, z0))), (8, .inl (0, (256, z0))), (9, .inl (0, (32, z0))), (10, .inl (1, (128, z0))), (11, .inl (1, (128, z0))), (12, .inl (0, (128, z0))), (13, .inl (0, (16, z0))), (14, .inl (1, (16, z0))), (15, .inl (0, (16, z0))), (16, .inl (0, (16, z0))), (17, .inl (0, (32, z0))), (18, .inl (1, (32, z0)))]
def nT_Mo_41 : nT := [(0, .inr (7, [nref 1, nint 0, nref 2, nref 3, nint 0, nint 2, nint 2, nint 0, nint 1, nref 4, nref 5, nref 6, nref 7, nref 8, nref 9, nref 10, nref 11, nref 12, nint 0, nint 4, nint 0, nint 0, nref 13, nref 14, nref 15, nref 16, nref 17, nref 18, none, nint 0, none, nint 0, none, none, none, none, none, none, none, none, nint 0, none, none, none, nint 0, nint 0, nint 0, none, none])), (1, .inl (0, (512, z0))), (2, .inl (0, (64, z0))), (3, .inl (0, (4, z0))), (4, .inl (0, (32, z0))), (5, .inl (1, (32, z0))), (6, .inl (0, (32, z0))), (7, .inl (0, (32, z0))), (8, .inl (0, (256, z0))), (9, .inl (0, (32, z0))), (10, .inl (1, (128, z0))), (11, .inl (1, (128, z0))), (12, .inl (0, (128, z0))), (13, .inl (0, (16, z0))), (14, .inl (1, (16, z0))), (15, .inl (0, (16, z0))), (16, .inl (0, (16, z0))), (17, .inl (0, (32, z0))), (18, .inl (1, (32, z0))), (19, .inl (0, (1024, z0)))]
theorem nwf_7_78 : Cond.fieldLink kR7 78 kR7 "disc" "[I" ∈ gTb := gmem 670 (by decide +kernel) (by decide +kernel)
def nT_Mo_42 : nT := [(0, .inr (7, [nref 1, nint 0, nref 2, nref 3, nint 0, nint 2, nint 2, nint 0, nint 1, nref 4, nref 5, nref 6, nref 7, nref 8, nref 9, nref 10, nref 11, nref 12, nint 0, nint 4, nint 0, nint 0, nref 13, nref 14, nref 15, nref 16, nref 17, nref 18, nref 19, nint 0, none, nint 0, none, none, none, none, none, none, none, none, nint 0, none, none, none, nint 0, nint 0, nint 0, none, none])), (1, .inl (0, (512, z0))), (2, .inl (0, (64, z0))), (3, .inl (0, (4, z0))), (4, .inl (0, (32, z0))), (5, .inl (1, (32, z0))), (6, .inl (0, (32, z0))), (7, .inl (0, (32, z0))), (8, .inl (0, (256, z0))), (9, .inl (0, (32, z0))), (10, .inl (1, (128, z0))), (11, .inl (1, (128, z0))), (12, .inl (0, (128, z0))), (13, .inl (0, (16, z0))), (14, .inl (1, (16, z0))), (15, .inl (0, (16, z0))), (16, .inl (0, (16, z0))), (17, .inl (0, (32, z0))), (18, .inl (1, (32, z0))), (19, .inl (0, (1024, z0)))]
def nT_Mo_43 : nT := [(0, .inr (7, [nref 1, nint 0, nref 2, nref 3, nint 0, nint 2, nint 2, nint 0, nint 1, nref 4, nref 5, nref 6, nref 7, nref 8, nref 9, nref 10, nref 11, nref 12, nint 0, nint 4, nint 0, nint 0, nref 13, nref 14, nref 15, nref 16, nref 17, nref 18, nref 19, nint 0, none, nint 0, none, none, none, none, none, none, none, none, nint 0, none, none, none, nint 0, nint 0, nint 0, none, none])), (1, .inl (0, (512, z0))), (2, .inl (0, (64, z0))), (3, .inl (0, (4, z0))), (4, .inl (0, (32, z0))), (5, .inl (1, (32, z0))), (6, .inl (0, (32, z0))), (7, .inl (0, (32, z0))), (8, .inl (0, (256, z0))), (9, .inl (0, (32, z0))), (10, .inl (1, (128, z0))), (11, .inl (1, (128, z0))), (12, .inl (0, (128, z0))), (13, .inl (0, (16, z0))), (14, .inl (1, (16, z0))), (15, .inl (0, (16, z0))), (16, .inl (0, (16, z0))), (17, .inl (0, (32, z0))), (18, .inl (1, (32, z0))), (19, .inl (0, (1024, z0))), (20, .inl (0, (100, z0)))]
theorem nwf_7_81 : Cond.fieldLink kR7 81 kR7 "run" "[I" ∈ gTb := gmem 672 (by decide +kernel) (by decide +kernel)
def nT_Mo_44 : nT := [(0, .inr (7, [nref 1, nint 0, nref 2, nref 3, nint 0, nint 2, nint 2, nint 0, nint 1, nref 4, nref 5, nref 6, nref 7, nref 8, nref 9, nref 10, nref 11, nref 12, nint 0, nint 4, nint 0, nint 0, nref 13, nref 14, nref 15, nref 16, nref 17, nref 18, nref 19, nint 0, nref 20, nint 0, none, none, none, none, none, none, none, none, nint 0, none, none, none, nint 0, nint 0, nint 0, none, none])), (1, .inl (0, (512, z0))), (2, .inl (0, (64, z0))), (3, .inl (0, (4, z0))), (4, .inl (0, (32, z0))), (5, .inl (1, (32, z0))), (6, .inl (0, (32, z0))), (7, .inl (0, (32, z0))), (8, .inl (0, (256, z0))), (9, .inl (0, (32, z0))), (10, .inl (1, (128, z0))), (11, .inl (1, (128, z0))), (12, .inl (0, (128, z0))), (13, .inl (0, (16, z0))), (14, .inl (1, (16, z0))), (15, .inl (0, (16, z0))), (16, .inl (0, (16, z0))), (17, .inl (0, (32, z0))), (18, .inl (1, (32, z0))), (19, .inl (0, (1024, z0))), (20, .inl (0, (100, z0)))]
def nT_Mo_45 : nT := [(0, .inr (7, [nref 1, nint 0, nref 2, nref 3, nint 0, nint 2, nint 2, nint 0, nint 1, nref 4, nref 5, nref 6, nref 7, nref 8, nref 9, nref 10, nref 11, nref 12, nint 0, nint 4, nint 0, nint 0, nref 13, nref 14, nref 15, nref 16, nref 17, nref 18, nref 19, nint 0, nref 20, nint 0, none, none, none, none, none, none, none, none, nint 0, none, none, none, nint 0, nint 0, nint 0, none, none])), (1, .inl (0, (512, z0))), (2, .inl (0, (64, z0))), (3, .inl (0, (4, z0))), (4, .inl (0, (32, z0))), (5, .inl (1, (32, z0))), (6, .inl (0, (32, z0))), (7, .inl (0, (32, z0))), (8, .inl (0, (256, z0))), (9, .inl (0, (32, z0))), (10, .inl (1, (128, z0))), (11, .inl (1, (128, z0))), (12, .inl (0, (128, z0))), (13, .inl (0, (16, z0))), (14, .inl (1, (16, z0))), (15, .inl (0, (16, z0))), (16, .inl (0, (16, z0))), (17, .inl (0, (32, z0))), (18, .inl (1, (32, z0))), (19, .inl (0, (1024, z0))), (20, .inl (0, (100, z0))), (21, .inl (1, (40, z0)))]
theorem nwf_7_84 : Cond.fieldLink kR7 84 kR7 "isThere" "[Z" ∈ gTb := gmem 674 (by decide +kernel) (by decide +kernel)
def nT_Mo_46 : nT := [(0, .inr (7, [nref 1, nint 0, nref 2, nref 3, nint 0, nint 2, nint 2, nint 0, nint 1, nref 4, nref 5, nref 6, nref 7, nref 8, nref 9, nref 10, nref 11, nref 12, nint 0, nint 4, nint 0, nint 0, nref 13, nref 14, nref 15, nref 16, nref 17, nref 18, nref 19, nint 0, nref 20, nint 0, nref 21, none, none, none, none, none, none, none, nint 0, none, none, none, nint 0, nint 0, nint 0, none, none])), (1, .inl (0, (512, z0))), (2, .inl (0, (64, z0))), (3, .inl (0, (4, z0))), (4, .inl (0, (32, z0))), (5, .inl (1, (32, z0))), (6, .inl (0, (32, z0))), (7, .inl (0, (32, z0))), (8, .inl (0, (256, z0))), (9, .inl (0, (32, z0))), (10, .inl (1, (128, z0))), (11, .inl (1, (128, z0))), (12, .inl (0, (128, z0))), (13, .inl (0, (16, z0))), (14, .inl (1, (16, z0))), (15, .inl (0, (16, z0))), (16, .inl (0, (16, z0))), (17, .inl (0, (32, z0))), (18, .inl (1, (32, z0))), (19, .inl (0, (1024, z0))), (20, .inl (0, (100, z0))), (21, .inl (1, (40, z0)))]
def nT_Mo_47 : nT := [(0, .inr (7, [nref 1, nint 0, nref 2, nref 3, nint 0, nint 2, nint 2, nint 0, nint 1, nref 4, nref 5, nref 6, nref 7, nref 8, nref 9, nref 10, nref 11, nref 12, nint 0, nint 4, nint 0, nint 0, nref 13, nref 14, nref 15, nref 16, nref 17, nref 18, nref 19, nint 0, nref 20, nint 0, nref 21, none, none, none, none, none, none, none, nint 0, none, none, none, nint 0, nint 0, nint 0, none, none])), (1, .inl (0, (512, z0))), (2, .inl (0, (64, z0))), (3, .inl (0, (4, z0))), (4, .inl (0, (32, z0))), (5, .inl (1, (32, z0))), (6, .inl (0, (32, z0))), (7, .inl (0, (32, z0))), (8, .inl (0, (256, z0))), (9, .inl (0, (32, z0))), (10, .inl (1, (128, z0))), (11, .inl (1, (128, z0))), (12, .inl (0, (128, z0))), (13, .inl (0, (16, z0))), (14, .inl (1, (16, z0))), (15, .inl (0, (16, z0))), (16, .inl (0, (16, z0))), (17, .inl (0, (32, z0))), (18, .inl (1, (32, z0))), (19, .inl (0, (1024, z0))), (20, .inl (0, (100, z0))), (21, .inl (1, (40, z0))), (22, .inl (0, (40, z0)))]
theorem nwf_7_87 : Cond.fieldLink kR7 87 kR7 "address" "[I" ∈ gTb := gmem 675 (by decide +kernel) (by decide +kernel)
def nT_Mo_48 : nT := [(0, .inr (7, [nref 1, nint 0, nref 2, nref 3, nint 0, nint 2, nint 2, nint 0, nint 1, nref 4, nref 5, nref 6, nref 7, nref 8, nref 9, nref 10, nref 11, nref 12, nint 0, nint 4, nint 0, nint 0, nref 13, nref 14, nref 15, nref 16, nref 17, nref 18, nref 19, nint 0, nref 20, nint 0, nref 21, nref 22, none, none, none, none, none, none, nint 0, none, none, none, nint 0, nint 0, nint 0, none, none])), (1, .inl (0, (512, z0))), (2, .inl (0, (64, z0))), (3, .inl (0, (4, z0))), (4, .inl (0, (32, z0))), (5, .inl (1, (32, z0))), (6, .inl (0, (32, z0))), (7, .inl (0, (32, z0))), (8, .inl (0, (256, z0))), (9, .inl (0, (32, z0))), (10, .inl (1, (128, z0))), (11, .inl (1, (128, z0))), (12, .inl (0, (128, z0))), (13, .inl (0, (16, z0))), (14, .inl (1, (16, z0))), (15, .inl (0, (16, z0))), (16, .inl (0, (16, z0))), (17, .inl (0, (32, z0))), (18, .inl (1, (32, z0))), (19, .inl (0, (1024, z0))), (20, .inl (0, (100, z0))), (21, .inl (1, (40, z0))), (22, .inl (0, (40, z0)))]
def nT_Mo_49 : nT := [(0, .inr (7, [nref 1, nint 0, nref 2, nref 3, nint 0, nint 2, nint 2, nint 0, nint 1, nref 4, nref 5, nref 6, nref 7, nref 8, nref 9, nref 10, nref 11, nref 12, nint 0, nint 4, nint 0, nint 0, nref 13, nref 14, nref 15, nref 16, nref 17, nref 18, nref 19, nint 0, nref 20, nint 0, nref 21, nref 22, none, none, none, none, none, none, nint 0, none, none, none, nint 0, nint 0, nint 0, none, none])), (1, .inl (0, (512, z0))), (2, .inl (0, (64, z0))), (3, .inl (0, (4, z0))), (4, .inl (0, (32, z0))), (5, .inl (1, (32, z0))), (6, .inl (0, (32, z0))), (7, .inl (0, (32, z0))), (8, .inl (0, (256, z0))), (9, .inl (0, (32, z0))), (10, .inl (1, (128, z0))), (11, .inl (1, (128, z0))), (12, .inl (0, (128, z0))), (13, .inl (0, (16, z0))), (14, .inl (1, (16, z0))), (15, .inl (0, (16, z0))), (16, .inl (0, (16, z0))), (17, .inl (0, (32, z0))), (18, .inl (1, (32, z0))), (19, .inl (0, (1024, z0))), (20, .inl (0, (100, z0))), (21, .inl (1, (40, z0))), (22, .inl (0, (40, z0))), (23, .inl (0, (40, z0)))]
theorem nwf_7_90 : Cond.fieldLink kR7 90 kR7 "fields" "[I" ∈ gTb := gmem 676 (by decide +kernel) (by decide +kernel)
def nT_Mo_50 : nT := [(0, .inr (7, [nref 1, nint 0, nref 2, nref 3, nint 0, nint 2, nint 2, nint 0, nint 1, nref 4, nref 5, nref 6, nref 7, nref 8, nref 9, nref 10, nref 11, nref 12, nint 0, nint 4, nint 0, nint 0, nref 13, nref 14, nref 15, nref 16, nref 17, nref 18, nref 19, nint 0, nref 20, nint 0, nref 21, nref 22, nref 23, none, none, none, none, none, nint 0, none, none, none, nint 0, nint 0, nint 0, none, none])), (1, .inl (0, (512, z0))), (2, .inl (0, (64, z0))), (3, .inl (0, (4, z0))), (4, .inl (0, (32, z0))), (5, .inl (1, (32, z0))), (6, .inl (0, (32, z0))), (7, .inl (0, (32, z0))), (8, .inl (0, (256, z0))), (9, .inl (0, (32, z0))), (10, .inl (1, (128, z0))), (11, .inl (1, (128, z0))), (12, .inl (0, (128, z0))), (13, .inl (0, (16, z0))), (14, .inl (1, (16, z0))), (15, .inl (0, (16, z0))), (16, .inl (0, (16, z0))), (17, .inl (0, (32, z0))), (18, .inl (1, (32, z0))), (19, .inl (0, (1024, z0))), (20, .inl (0, (100, z0))), (21, .inl (1, (40, z0))), (22, .inl (0, (40, z0))), (23, .inl (0, (40, z0)))]
def nT_Mo_51 : nT := [(0, .inr (7, [nref 1, nint 0, nref 2, nref 3, nint 0, nint 2, nint 2, nint 0, nint 1, nref 4, nref 5, nref 6, nref 7, nref 8, nref 9, nref 10, nref 11, nref 12, nint 0, nint 4, nint 0, nint 0, nref 13, nref 14, nref 15, nref 16, nref 17, nref 18, nref 19, nint 0, nref 20, nint 0, nref 21, nref 22, nref 23, none, none, none, none, none, nint 0, none, none, none, nint 0, nint 0, nint 0, none, none])), (1, .inl (0, (512, z0))), (2, .inl (0, (64, z0))), (3, .inl (0, (4, z0))), (4, .inl (0, (32, z0))), (5, .inl (1, (32, z0))), (6, .inl (0, (32, z0))), (7, .inl (0, (32, z0))), (8, .inl (0, (256, z0))), (9, .inl (0, (32, z0))), (10, .inl (1, (128, z0))), (11, .inl (1, (128, z0))), (12, .inl (0, (128, z0))), (13, .inl (0, (16, z0))), (14, .inl (1, (16, z0))), (15, .inl (0, (16, z0))), (16, .inl (0, (16, z0))), (17, .inl (0, (32, z0))), (18, .inl (1, (32, z0))), (19, .inl (0, (1024, z0))), (20, .inl (0, (100, z0))), (21, .inl (1, (40, z0))), (22, .inl (0, (40, z0))), (23, .inl (0, (40, z0))), (24, .inl (0, (40, z0)))]
theorem nwf_7_93 : Cond.fieldLink kR7 93 kR7 "age" "[I" ∈ gTb := gmem 677 (by decide +kernel) (by decide +kernel)
def nT_Mo_52 : nT := [(0, .inr (7, [nref 1, nint 0, nref 2, nref 3, nint 0, nint 2, nint 2, nint 0, nint 1, nref 4, nref 5, nref 6, nref 7, nref 8, nref 9, nref 10, nref 11, nref 12, nint 0, nint 4, nint 0, nint 0, nref 13, nref 14, nref 15, nref 16, nref 17, nref 18, nref 19, nint 0, nref 20, nint 0, nref 21, nref 22, nref 23, nref 24, none, none, none, none, nint 0, none, none, none, nint 0, nint 0, nint 0, none, none])), (1, .inl (0, (512, z0))), (2, .inl (0, (64, z0))), (3, .inl (0, (4, z0))), (4, .inl (0, (32, z0))), (5, .inl (1, (32, z0))), (6, .inl (0, (32, z0))), (7, .inl (0, (32, z0))), (8, .inl (0, (256, z0))), (9, .inl (0, (32, z0))), (10, .inl (1, (128, z0))), (11, .inl (1, (128, z0))), (12, .inl (0, (128, z0))), (13, .inl (0, (16, z0))), (14, .inl (1, (16, z0))), (15, .inl (0, (16, z0))), (16, .inl (0, (16, z0))), (17, .inl (0, (32, z0))), (18, .inl (1, (32, z0))), (19, .inl (0, (1024, z0))), (20, .inl (0, (100, z0))), (21, .inl (1, (40, z0))), (22, .inl (0, (40, z0))), (23, .inl (0, (40, z0))), (24, .inl (0, (40, z0)))]
def nT_Mo_53 : nT := [(0, .inr (7, [nref 1, nint 0, nref 2, nref 3, nint 0, nint 2, nint 2, nint 0, nint 1, nref 4, nref 5, nref 6, nref 7, nref 8, nref 9, nref 10, nref 11, nref 12, nint 0, nint 4, nint 0, nint 0, nref 13, nref 14, nref 15, nref 16, nref 17, nref 18, nref 19, nint 0, nref 20, nint 0, nref 21, nref 22, nref 23, nref 24, none, none, none, none, nint 0, none, none, none, nint 0, nint 0, nint 0, none, none])), (1, .inl (0, (512, z0))), (2, .inl (0, (64, z0))), (3, .inl (0, (4, z0))), (4, .inl (0, (32, z0))), (5, .inl (1, (32, z0))), (6, .inl (0, (32, z0))), (7, .inl (0, (32, z0))), (8, .inl (0, (256, z0))), (9, .inl (0, (32, z0))), (10, .inl (1, (128, z0))), (11, .inl (1, (128, z0))), (12, .inl (0, (128, z0))), (13, .inl (0, (16, z0))), (14, .inl (1, (16, z0))), (15, .inl (0, (16, z0))), (16, .inl (0, (16, z0))), (17, .inl (0, (32, z0))), (18, .inl (1, (32, z0))), (19, .inl (0, (1024, z0))), (20, .inl (0, (100, z0))), (21, .inl (1, (40, z0))), (22, .inl (0, (40, z0))), (23, .inl (0, (40, z0))), (24, .inl (0, (40, z0))), (25, .inl (1, (40, z0)))]
theorem nwf_7_96 : Cond.fieldLink kR7 96 kR7 "hasRite" "[Z" ∈ gTb := gmem 678 (by decide +kernel) (by decide +kernel)
def nT_Mo_54 : nT := [(0, .inr (7, [nref 1, nint 0, nref 2, nref 3, nint 0, nint 2, nint 2, nint 0, nint 1, nref 4, nref 5, nref 6, nref 7, nref 8, nref 9, nref 10, nref 11, nref 12, nint 0, nint 4, nint 0, nint 0, nref 13, nref 14, nref 15, nref 16, nref 17, nref 18, nref 19, nint 0, nref 20, nint 0, nref 21, nref 22, nref 23, nref 24, nref 25, none, none, none, nint 0, none, none, none, nint 0, nint 0, nint 0, none, none])), (1, .inl (0, (512, z0))), (2, .inl (0, (64, z0))), (3, .inl (0, (4, z0))), (4, .inl (0, (32, z0))), (5, .inl (1, (32, z0))), (6, .inl (0, (32, z0))), (7, .inl (0, (32, z0))), (8, .inl (0, (256, z0))), (9, .inl (0, (32, z0))), (10, .inl (1, (128, z0))), (11, .inl (1, (128, z0))), (12, .inl (0, (128, z0))), (13, .inl (0, (16, z0))), (14, .inl (1, (16, z0))), (15, .inl (0, (16, z0))), (16, .inl (0, (16, z0))), (17, .inl (0, (32, z0))), (18, .inl (1, (32, z0))), (19, .inl (0, (1024, z0))), (20, .inl (0, (100, z0))), (21, .inl (1, (40, z0))), (22, .inl (0, (40, z0))), (23, .inl (0, (40, z0))), (24, .inl (0, (40, z0))), (25, .inl (1, (40, z0)))]
theorem nwa_long : Cond.arrayClass .long ∈ gTb := gmem 790 (by decide +kernel) (by decide +kernel)
def nT_Mo_55 : nT := [(0, .inr (7, [nref 1, nint 0, nref 2, nref 3, nint 0, nint 2, nint 2, nint 0, nint 1, nref 4, nref 5, nref 6, nref 7, nref 8, nref 9, nref 10, nref 11, nref 12, nint 0, nint 4, nint 0, nint 0, nref 13, nref 14, nref 15, nref 16, nref 17, nref 18, nref 19, nint 0, nref 20, nint 0, nref 21, nref 22, nref 23, nref 24, nref 25, none, none, none, nint 0, none, none, none, nint 0, nint 0, nint 0, none, none])), (1, .inl (0, (512, z0))), (2, .inl (0, (64, z0))), (3, .inl (0, (4, z0))), (4, .inl (0, (32, z0))), (5, .inl (1, (32, z0))), (6, .inl (0, (32, z0))), (7, .inl (0, (32, z0))), (8, .inl (0, (256, z0))), (9, .inl (0, (32, z0))), (10, .inl (1, (128, z0))), (11, .inl (1, (128, z0))), (12, .inl (0, (128, z0))), (13, .inl (0, (16, z0))), (14, .inl (1, (16, z0))), (15, .inl (0, (16, z0))), (16, .inl (0, (16, z0))), (17, .inl (0, (32, z0))), (18, .inl (1, (32, z0))), (19, .inl (0, (1024, z0))), (20, .inl (0, (100, z0))), (21, .inl (1, (40, z0))), (22, .inl (0, (40, z0))), (23, .inl (0, (40, z0))), (24, .inl (0, (40, z0))), (25, .inl (1, (40, z0))), (26, .inl (2, (40, z0)))]
theorem nwf_7_99 : Cond.fieldLink kR7 99 kR7 "objectTicks" "[J" ∈ gTb := gmem 679 (by decide +kernel) (by decide +kernel)
def nT_Mo_56 : nT := [(0, .inr (7, [nref 1, nint 0, nref 2, nref 3, nint 0, nint 2, nint 2, nint 0, nint 1, nref 4, nref 5, nref 6, nref 7, nref 8, nref 9, nref 10, nref 11, nref 12, nint 0, nint 4, nint 0, nint 0, nref 13, nref 14, nref 15, nref 16, nref 17, nref 18, nref 19, nint 0, nref 20, nint 0, nref 21, nref 22, nref 23, nref 24, nref 25, nref 26, none, none, nint 0, none, none, none, nint 0, nint 0, nint 0, none, none])), (1, .inl (0, (512, z0))), (2, .inl (0, (64, z0))), (3, .inl (0, (4, z0))), (4, .inl (0, (32, z0))), (5, .inl (1, (32, z0))), (6, .inl (0, (32, z0))), (7, .inl (0, (32, z0))), (8, .inl (0, (256, z0))), (9, .inl (0, (32, z0))), (10, .inl (1, (128, z0))), (11, .inl (1, (128, z0))), (12, .inl (0, (128, z0))), (13, .inl (0, (16, z0))), (14, .inl (1, (16, z0))), (15, .inl (0, (16, z0))), (16, .inl (0, (16, z0))), (17, .inl (0, (32, z0))), (18, .inl (1, (32, z0))), (19, .inl (0, (1024, z0))), (20, .inl (0, (100, z0))), (21, .inl (1, (40, z0))), (22, .inl (0, (40, z0))), (23, .inl (0, (40, z0))), (24, .inl (0, (40, z0))), (25, .inl (1, (40, z0))), (26, .inl (2, (40, z0)))]
def nT_Mo_57 : nT := [(0, .inr (7, [nref 1, nint 0, nref 2, nref 3, nint 0, nint 2, nint 2, nint 0, nint 1, nref 4, nref 5, nref 6, nref 7, nref 8, nref 9, nref 10, nref 11, nref 12, nint 0, nint 4, nint 0, nint 0, nref 13, nref 14, nref 15, nref 16, nref 17, nref 18, nref 19, nint 0, nref 20, nint 0, nref 21, nref 22, nref 23, nref 24, nref 25, nref 26, none, none, nint 0, none, none, none, nint 0, nint 0, nint 0, none, none])), (1, .inl (0, (512, z0))), (2, .inl (0, (64, z0))), (3, .inl (0, (4, z0))), (4, .inl (0, (32, z0))), (5, .inl (1, (32, z0))), (6, .inl (0, (32, z0))), (7, .inl (0, (32, z0))), (8, .inl (0, (256, z0))), (9, .inl (0, (32, z0))), (10, .inl (1, (128, z0))), (11, .inl (1, (128, z0))), (12, .inl (0, (128, z0))), (13, .inl (0, (16, z0))), (14, .inl (1, (16, z0))), (15, .inl (0, (16, z0))), (16, .inl (0, (16, z0))), (17, .inl (0, (32, z0))), (18, .inl (1, (32, z0))), (19, .inl (0, (1024, z0))), (20, .inl (0, (100, z0))), (21, .inl (1, (40, z0))), (22, .inl (0, (40, z0))), (23, .inl (0, (40, z0))), (24, .inl (0, (40, z0))), (25, .inl (1, (40, z0))), (26, .inl (2, (40, z0))), (27, .inl (0, (8, z0)))]
theorem nwf_7_103 : Cond.fieldLink kR7 103 kR7 "roots" "[I" ∈ gTb := gmem 680 (by decide +kernel) (by decide +kernel)
def nT_Mo_58 : nT := [(0, .inr (7, [nref 1, nint 0, nref 2, nref 3, nint 0, nint 2, nint 2, nint 0, nint 1, nref 4, nref 5, nref 6, nref 7, nref 8, nref 9, nref 10, nref 11, nref 12, nint 0, nint 4, nint 0, nint 0, nref 13, nref 14, nref 15, nref 16, nref 17, nref 18, nref 19, nint 0, nref 20, nint 0, nref 21, nref 22, nref 23, nref 24, nref 25, nref 26, nref 27, none, nint 0, none, none, none, nint 0, nint 0, nint 0, none, none])), (1, .inl (0, (512, z0))), (2, .inl (0, (64, z0))), (3, .inl (0, (4, z0))), (4, .inl (0, (32, z0))), (5, .inl (1, (32, z0))), (6, .inl (0, (32, z0))), (7, .inl (0, (32, z0))), (8, .inl (0, (256, z0))), (9, .inl (0, (32, z0))), (10, .inl (1, (128, z0))), (11, .inl (1, (128, z0))), (12, .inl (0, (128, z0))), (13, .inl (0, (16, z0))), (14, .inl (1, (16, z0))), (15, .inl (0, (16, z0))), (16, .inl (0, (16, z0))), (17, .inl (0, (32, z0))), (18, .inl (1, (32, z0))), (19, .inl (0, (1024, z0))), (20, .inl (0, (100, z0))), (21, .inl (1, (40, z0))), (22, .inl (0, (40, z0))), (23, .inl (0, (40, z0))), (24, .inl (0, (40, z0))), (25, .inl (1, (40, z0))), (26, .inl (2, (40, z0))), (27, .inl (0, (8, z0)))]
def nT_Mo_59 : nT := [(0, .inr (7, [nref 1, nint 0, nref 2, nref 3, nint 0, nint 2, nint 2, nint 0, nint 1, nref 4, nref 5, nref 6, nref 7, nref 8, nref 9, nref 10, nref 11, nref 12, nint 0, nint 4, nint 0, nint 0, nref 13, nref 14, nref 15, nref 16, nref 17, nref 18, nref 19, nint 0, nref 20, nint 0, nref 21, nref 22, nref 23, nref 24, nref 25, nref 26, nref 27, none, nint 0, none, none, none, nint 0, nint 0, nint 0, none, none])), (1, .inl (0, (512, z0))), (2, .inl (0, (64, z0))), (3, .inl (0, (4, z0))), (4, .inl (0, (32, z0))), (5, .inl (1, (32, z0))), (6, .inl (0, (32, z0))), (7, .inl (0, (32, z0))), (8, .inl (0, (256, z0))), (9, .inl (0, (32, z0))), (10, .inl (1, (128, z0))), (11, .inl (1, (128, z0))), (12, .inl (0, (128, z0))), (13, .inl (0, (16, z0))), (14, .inl (1, (16, z0))), (15, .inl (0, (16, z0))), (16, .inl (0, (16, z0))), (17, .inl (0, (32, z0))), (18, .inl (1, (32, z0))), (19, .inl (0, (1024, z0))), (20, .inl (0, (100, z0))), (21, .inl (1, (40, z0))), (22, .inl (0, (40, z0))), (23, .inl (0, (40, z0))), (24, .inl (0, (40, z0))), (25, .inl (1, (40, z0))), (26, .inl (2, (40, z0))), (27, .inl (0, (8, z0))), (28, .inl (0, (4, z0)))]
theorem nwf_7_106 : Cond.fieldLink kR7 106 kR7 "weaks" "[I" ∈ gTb := gmem 681 (by decide +kernel) (by decide +kernel)
def nT_Mo_60 : nT := [(0, .inr (7, [nref 1, nint 0, nref 2, nref 3, nint 0, nint 2, nint 2, nint 0, nint 1, nref 4, nref 5, nref 6, nref 7, nref 8, nref 9, nref 10, nref 11, nref 12, nint 0, nint 4, nint 0, nint 0, nref 13, nref 14, nref 15, nref 16, nref 17, nref 18, nref 19, nint 0, nref 20, nint 0, nref 21, nref 22, nref 23, nref 24, nref 25, nref 26, nref 27, nref 28, nint 0, none, none, none, nint 0, nint 0, nint 0, none, none])), (1, .inl (0, (512, z0))), (2, .inl (0, (64, z0))), (3, .inl (0, (4, z0))), (4, .inl (0, (32, z0))), (5, .inl (1, (32, z0))), (6, .inl (0, (32, z0))), (7, .inl (0, (32, z0))), (8, .inl (0, (256, z0))), (9, .inl (0, (32, z0))), (10, .inl (1, (128, z0))), (11, .inl (1, (128, z0))), (12, .inl (0, (128, z0))), (13, .inl (0, (16, z0))), (14, .inl (1, (16, z0))), (15, .inl (0, (16, z0))), (16, .inl (0, (16, z0))), (17, .inl (0, (32, z0))), (18, .inl (1, (32, z0))), (19, .inl (0, (1024, z0))), (20, .inl (0, (100, z0))), (21, .inl (1, (40, z0))), (22, .inl (0, (40, z0))), (23, .inl (0, (40, z0))), (24, .inl (0, (40, z0))), (25, .inl (1, (40, z0))), (26, .inl (2, (40, z0))), (27, .inl (0, (8, z0))), (28, .inl (0, (4, z0)))]
def nT_Mo_61 : nT := [(0, .inr (7, [nref 1, nint 0, nref 2, nref 3, nint 0, nint 2, nint 2, nint 0, nint 1, nref 4, nref 5, nref 6, nref 7, nref 8, nref 9, nref 10, nref 11, nref 12, nint 0, nint 4, nint 0, nint 0, nref 13, nref 14, nref 15, nref 16, nref 17, nref 18, nref 19, nint 0, nref 20, nint 0, nref 21, nref 22, nref 23, nref 24, nref 25, nref 26, nref 27, nref 28, nint 0, none, none, none, nint 0, nint 0, nint 0, none, none])), (1, .inl (0, (512, z0))), (2, .inl (0, (64, z0))), (3, .inl (0, (4, z0))), (4, .inl (0, (32, z0))), (5, .inl (1, (32, z0))), (6, .inl (0, (32, z0))), (7, .inl (0, (32, z0))), (8, .inl (0, (256, z0))), (9, .inl (0, (32, z0))), (10, .inl (1, (128, z0))), (11, .inl (1, (128, z0))), (12, .inl (0, (128, z0))), (13, .inl (0, (16, z0))), (14, .inl (1, (16, z0))), (15, .inl (0, (16, z0))), (16, .inl (0, (16, z0))), (17, .inl (0, (32, z0))), (18, .inl (1, (32, z0))), (19, .inl (0, (1024, z0))), (20, .inl (0, (100, z0))), (21, .inl (1, (40, z0))), (22, .inl (0, (40, z0))), (23, .inl (0, (40, z0))), (24, .inl (0, (40, z0))), (25, .inl (1, (40, z0))), (26, .inl (2, (40, z0))), (27, .inl (0, (8, z0))), (28, .inl (0, (4, z0))), (29, .inl (2, (8, z0)))]
theorem nwf_7_109 : Cond.fieldLink kR7 109 kR7 "ticks" "[J" ∈ gTb := gmem 683 (by decide +kernel) (by decide +kernel)
def nT_Mo_62 : nT := [(0, .inr (7, [nref 1, nint 0, nref 2, nref 3, nint 0, nint 2, nint 2, nint 0, nint 1, nref 4, nref 5, nref 6, nref 7, nref 8, nref 9, nref 10, nref 11, nref 12, nint 0, nint 4, nint 0, nint 0, nref 13, nref 14, nref 15, nref 16, nref 17, nref 18, nref 19, nint 0, nref 20, nint 0, nref 21, nref 22, nref 23, nref 24, nref 25, nref 26, nref 27, nref 28, nint 0, nref 29, none, none, nint 0, nint 0, nint 0, none, none])), (1, .inl (0, (512, z0))), (2, .inl (0, (64, z0))), (3, .inl (0, (4, z0))), (4, .inl (0, (32, z0))), (5, .inl (1, (32, z0))), (6, .inl (0, (32, z0))), (7, .inl (0, (32, z0))), (8, .inl (0, (256, z0))), (9, .inl (0, (32, z0))), (10, .inl (1, (128, z0))), (11, .inl (1, (128, z0))), (12, .inl (0, (128, z0))), (13, .inl (0, (16, z0))), (14, .inl (1, (16, z0))), (15, .inl (0, (16, z0))), (16, .inl (0, (16, z0))), (17, .inl (0, (32, z0))), (18, .inl (1, (32, z0))), (19, .inl (0, (1024, z0))), (20, .inl (0, (100, z0))), (21, .inl (1, (40, z0))), (22, .inl (0, (40, z0))), (23, .inl (0, (40, z0))), (24, .inl (0, (40, z0))), (25, .inl (1, (40, z0))), (26, .inl (2, (40, z0))), (27, .inl (0, (8, z0))), (28, .inl (0, (4, z0))), (29, .inl (2, (8, z0)))]
def nT_Mo_63 : nT := [(0, .inr (7, [nref 1, nint 0, nref 2, nref 3, nint 0, nint 2, nint 2, nint 0, nint 1, nref 4, nref 5, nref 6, nref 7, nref 8, nref 9, nref 10, nref 11, nref 12, nint 0, nint 4, nint 0, nint 0, nref 13, nref 14, nref 15, nref 16, nref 17, nref 18, nref 19, nint 0, nref 20, nint 0, nref 21, nref 22, nref 23, nref 24, nref 25, nref 26, nref 27, nref 28, nint 0, nref 29, none, none, nint 0, nint 0, nint 0, none, none])), (1, .inl (0, (512, z0))), (2, .inl (0, (64, z0))), (3, .inl (0, (4, z0))), (4, .inl (0, (32, z0))), (5, .inl (1, (32, z0))), (6, .inl (0, (32, z0))), (7, .inl (0, (32, z0))), (8, .inl (0, (256, z0))), (9, .inl (0, (32, z0))), (10, .inl (1, (128, z0))), (11, .inl (1, (128, z0))), (12, .inl (0, (128, z0))), (13, .inl (0, (16, z0))), (14, .inl (1, (16, z0))), (15, .inl (0, (16, z0))), (16, .inl (0, (16, z0))), (17, .inl (0, (32, z0))), (18, .inl (1, (32, z0))), (19, .inl (0, (1024, z0))), (20, .inl (0, (100, z0))), (21, .inl (1, (40, z0))), (22, .inl (0, (40, z0))), (23, .inl (0, (40, z0))), (24, .inl (0, (40, z0))), (25, .inl (1, (40, z0))), (26, .inl (2, (40, z0))), (27, .inl (0, (8, z0))), (28, .inl (0, (4, z0))), (29, .inl (2, (8, z0))), (30, .inl (0, (16, z0)))]
theorem nwf_7_112 : Cond.fieldLink kR7 112 kR7 "counts" "[I" ∈ gTb := gmem 684 (by decide +kernel) (by decide +kernel)
def nT_Mo_64 : nT := [(0, .inr (7, [nref 1, nint 0, nref 2, nref 3, nint 0, nint 2, nint 2, nint 0, nint 1, nref 4, nref 5, nref 6, nref 7, nref 8, nref 9, nref 10, nref 11, nref 12, nint 0, nint 4, nint 0, nint 0, nref 13, nref 14, nref 15, nref 16, nref 17, nref 18, nref 19, nint 0, nref 20, nint 0, nref 21, nref 22, nref 23, nref 24, nref 25, nref 26, nref 27, nref 28, nint 0, nref 29, nref 30, none, nint 0, nint 0, nint 0, none, none])), (1, .inl (0, (512, z0))), (2, .inl (0, (64, z0))), (3, .inl (0, (4, z0))), (4, .inl (0, (32, z0))), (5, .inl (1, (32, z0))), (6, .inl (0, (32, z0))), (7, .inl (0, (32, z0))), (8, .inl (0, (256, z0))), (9, .inl (0, (32, z0))), (10, .inl (1, (128, z0))), (11, .inl (1, (128, z0))), (12, .inl (0, (128, z0))), (13, .inl (0, (16, z0))), (14, .inl (1, (16, z0))), (15, .inl (0, (16, z0))), (16, .inl (0, (16, z0))), (17, .inl (0, (32, z0))), (18, .inl (1, (32, z0))), (19, .inl (0, (1024, z0))), (20, .inl (0, (100, z0))), (21, .inl (1, (40, z0))), (22, .inl (0, (40, z0))), (23, .inl (0, (40, z0))), (24, .inl (0, (40, z0))), (25, .inl (1, (40, z0))), (26, .inl (2, (40, z0))), (27, .inl (0, (8, z0))), (28, .inl (0, (4, z0))), (29, .inl (2, (8, z0))), (30, .inl (0, (16, z0)))]
def nT_Mo_65 : nT := [(0, .inr (7, [nref 1, nint 0, nref 2, nref 3, nint 0, nint 2, nint 2, nint 0, nint 1, nref 4, nref 5, nref 6, nref 7, nref 8, nref 9, nref 10, nref 11, nref 12, nint 0, nint 4, nint 0, nint 0, nref 13, nref 14, nref 15, nref 16, nref 17, nref 18, nref 19, nint 0, nref 20, nint 0, nref 21, nref 22, nref 23, nref 24, nref 25, nref 26, nref 27, nref 28, nint 0, nref 29, nref 30, none, nint 0, nint 0, nint 0, none, none])), (1, .inl (0, (512, z0))), (2, .inl (0, (64, z0))), (3, .inl (0, (4, z0))), (4, .inl (0, (32, z0))), (5, .inl (1, (32, z0))), (6, .inl (0, (32, z0))), (7, .inl (0, (32, z0))), (8, .inl (0, (256, z0))), (9, .inl (0, (32, z0))), (10, .inl (1, (128, z0))), (11, .inl (1, (128, z0))), (12, .inl (0, (128, z0))), (13, .inl (0, (16, z0))), (14, .inl (1, (16, z0))), (15, .inl (0, (16, z0))), (16, .inl (0, (16, z0))), (17, .inl (0, (32, z0))), (18, .inl (1, (32, z0))), (19, .inl (0, (1024, z0))), (20, .inl (0, (100, z0))), (21, .inl (1, (40, z0))), (22, .inl (0, (40, z0))), (23, .inl (0, (40, z0))), (24, .inl (0, (40, z0))), (25, .inl (1, (40, z0))), (26, .inl (2, (40, z0))), (27, .inl (0, (8, z0))), (28, .inl (0, (4, z0))), (29, .inl (2, (8, z0))), (30, .inl (0, (16, z0))), (31, .inl (1, (32, z0)))]
theorem nwf_7_115 : Cond.fieldLink kR7 115 kR7 "held" "[Z" ∈ gTb := gmem 685 (by decide +kernel) (by decide +kernel)
def nT_Mo_66 : nT := [(0, .inr (7, [nref 1, nint 0, nref 2, nref 3, nint 0, nint 2, nint 2, nint 0, nint 1, nref 4, nref 5, nref 6, nref 7, nref 8, nref 9, nref 10, nref 11, nref 12, nint 0, nint 4, nint 0, nint 0, nref 13, nref 14, nref 15, nref 16, nref 17, nref 18, nref 19, nint 0, nref 20, nint 0, nref 21, nref 22, nref 23, nref 24, nref 25, nref 26, nref 27, nref 28, nint 0, nref 29, nref 30, nref 31, nint 0, nint 0, nint 0, none, none])), (1, .inl (0, (512, z0))), (2, .inl (0, (64, z0))), (3, .inl (0, (4, z0))), (4, .inl (0, (32, z0))), (5, .inl (1, (32, z0))), (6, .inl (0, (32, z0))), (7, .inl (0, (32, z0))), (8, .inl (0, (256, z0))), (9, .inl (0, (32, z0))), (10, .inl (1, (128, z0))), (11, .inl (1, (128, z0))), (12, .inl (0, (128, z0))), (13, .inl (0, (16, z0))), (14, .inl (1, (16, z0))), (15, .inl (0, (16, z0))), (16, .inl (0, (16, z0))), (17, .inl (0, (32, z0))), (18, .inl (1, (32, z0))), (19, .inl (0, (1024, z0))), (20, .inl (0, (100, z0))), (21, .inl (1, (40, z0))), (22, .inl (0, (40, z0))), (23, .inl (0, (40, z0))), (24, .inl (0, (40, z0))), (25, .inl (1, (40, z0))), (26, .inl (2, (40, z0))), (27, .inl (0, (8, z0))), (28, .inl (0, (4, z0))), (29, .inl (2, (8, z0))), (30, .inl (0, (16, z0))), (31, .inl (1, (32, z0)))]
def nT_Mo_67 : nT := [(0, .inr (7, [nref 1, nint 0, nref 2, nref 3, nint 0, nint 2, nint 2, nint 0, nint 1, nref 4, nref 5, nref 6, nref 7, nref 8, nref 9, nref 10, nref 11, nref 12, nint 0, nint 4, nint 0, nint 0, nref 13, nref 14, nref 15, nref 16, nref 17, nref 18, nref 19, nint 0, nref 20, nint 0, nref 21, nref 22, nref 23, nref 24, nref 25, nref 26, nref 27, nref 28, nint 0, nref 29, nref 30, nref 31, nint 0, nint 0, nint 0, none, none])), (1, .inl (0, (512, z0))), (2, .inl (0, (64, z0))), (3, .inl (0, (4, z0))), (4, .inl (0, (32, z0))), (5, .inl (1, (32, z0))), (6, .inl (0, (32, z0))), (7, .inl (0, (32, z0))), (8, .inl (0, (256, z0))), (9, .inl (0, (32, z0))), (10, .inl (1, (128, z0))), (11, .inl (1, (128, z0))), (12, .inl (0, (128, z0))), (13, .inl (0, (16, z0))), (14, .inl (1, (16, z0))), (15, .inl (0, (16, z0))), (16, .inl (0, (16, z0))), (17, .inl (0, (32, z0))), (18, .inl (1, (32, z0))), (19, .inl (0, (1024, z0))), (20, .inl (0, (100, z0))), (21, .inl (1, (40, z0))), (22, .inl (0, (40, z0))), (23, .inl (0, (40, z0))), (24, .inl (0, (40, z0))), (25, .inl (1, (40, z0))), (26, .inl (2, (40, z0))), (27, .inl (0, (8, z0))), (28, .inl (0, (4, z0))), (29, .inl (2, (8, z0))), (30, .inl (0, (16, z0))), (31, .inl (1, (32, z0))), (32, .inl (0, (40, z0)))]
theorem nwf_7_118 : Cond.fieldLink kR7 118 kR7 "row" "[I" ∈ gTb := gmem 689 (by decide +kernel) (by decide +kernel)
def nT_Mo_68 : nT := [(0, .inr (7, [nref 1, nint 0, nref 2, nref 3, nint 0, nint 2, nint 2, nint 0, nint 1, nref 4, nref 5, nref 6, nref 7, nref 8, nref 9, nref 10, nref 11, nref 12, nint 0, nint 4, nint 0, nint 0, nref 13, nref 14, nref 15, nref 16, nref 17, nref 18, nref 19, nint 0, nref 20, nint 0, nref 21, nref 22, nref 23, nref 24, nref 25, nref 26, nref 27, nref 28, nint 0, nref 29, nref 30, nref 31, nint 0, nint 0, nint 0, nref 32, none])), (1, .inl (0, (512, z0))), (2, .inl (0, (64, z0))), (3, .inl (0, (4, z0))), (4, .inl (0, (32, z0))), (5, .inl (1, (32, z0))), (6, .inl (0, (32, z0))), (7, .inl (0, (32, z0))), (8, .inl (0, (256, z0))), (9, .inl (0, (32, z0))), (10, .inl (1, (128, z0))), (11, .inl (1, (128, z0))), (12, .inl (0, (128, z0))), (13, .inl (0, (16, z0))), (14, .inl (1, (16, z0))), (15, .inl (0, (16, z0))), (16, .inl (0, (16, z0))), (17, .inl (0, (32, z0))), (18, .inl (1, (32, z0))), (19, .inl (0, (1024, z0))), (20, .inl (0, (100, z0))), (21, .inl (1, (40, z0))), (22, .inl (0, (40, z0))), (23, .inl (0, (40, z0))), (24, .inl (0, (40, z0))), (25, .inl (1, (40, z0))), (26, .inl (2, (40, z0))), (27, .inl (0, (8, z0))), (28, .inl (0, (4, z0))), (29, .inl (2, (8, z0))), (30, .inl (0, (16, z0))), (31, .inl (1, (32, z0))), (32, .inl (0, (40, z0)))]
def nT_Mo_69 : nT := [(0, .inr (7, [nref 1, nint 0, nref 2, nref 3, nint 0, nint 2, nint 2, nint 0, nint 1, nref 4, nref 5, nref 6, nref 7, nref 8, nref 9, nref 10, nref 11, nref 12, nint 0, nint 4, nint 0, nint 0, nref 13, nref 14, nref 15, nref 16, nref 17, nref 18, nref 19, nint 0, nref 20, nint 0, nref 21, nref 22, nref 23, nref 24, nref 25, nref 26, nref 27, nref 28, nint 0, nref 29, nref 30, nref 31, nint 0, nint 0, nint 0, nref 32, none])), (1, .inl (0, (512, z0))), (2, .inl (0, (64, z0))), (3, .inl (0, (4, z0))), (4, .inl (0, (32, z0))), (5, .inl (1, (32, z0))), (6, .inl (0, (32, z0))), (7, .inl (0, (32, z0))), (8, .inl (0, (256, z0))), (9, .inl (0, (32, z0))), (10, .inl (1, (128, z0))), (11, .inl (1, (128, z0))), (12, .inl (0, (128, z0))), (13, .inl (0, (16, z0))), (14, .inl (1, (16, z0))), (15, .inl (0, (16, z0))), (16, .inl (0, (16, z0))), (17, .inl (0, (32, z0))), (18, .inl (1, (32, z0))), (19, .inl (0, (1024, z0))), (20, .inl (0, (100, z0))), (21, .inl (1, (40, z0))), (22, .inl (0, (40, z0))), (23, .inl (0, (40, z0))), (24, .inl (0, (40, z0))), (25, .inl (1, (40, z0))), (26, .inl (2, (40, z0))), (27, .inl (0, (8, z0))), (28, .inl (0, (4, z0))), (29, .inl (2, (8, z0))), (30, .inl (0, (16, z0))), (31, .inl (1, (32, z0))), (32, .inl (0, (40, z0))), (33, .inl (1, (40, z0)))]
theorem nwf_7_121 : Cond.fieldLink kR7 121 kR7 "inRow" "[Z" ∈ gTb := gmem 690 (by decide +kernel) (by decide +kernel)
def nT_Mo_70 : nT := [(0, .inr (7, [nref 1, nint 0, nref 2, nref 3, nint 0, nint 2, nint 2, nint 0, nint 1, nref 4, nref 5, nref 6, nref 7, nref 8, nref 9, nref 10, nref 11, nref 12, nint 0, nint 4, nint 0, nint 0, nref 13, nref 14, nref 15, nref 16, nref 17, nref 18, nref 19, nint 0, nref 20, nint 0, nref 21, nref 22, nref 23, nref 24, nref 25, nref 26, nref 27, nref 28, nint 0, nref 29, nref 30, nref 31, nint 0, nint 0, nint 0, nref 32, nref 33])), (1, .inl (0, (512, z0))), (2, .inl (0, (64, z0))), (3, .inl (0, (4, z0))), (4, .inl (0, (32, z0))), (5, .inl (1, (32, z0))), (6, .inl (0, (32, z0))), (7, .inl (0, (32, z0))), (8, .inl (0, (256, z0))), (9, .inl (0, (32, z0))), (10, .inl (1, (128, z0))), (11, .inl (1, (128, z0))), (12, .inl (0, (128, z0))), (13, .inl (0, (16, z0))), (14, .inl (1, (16, z0))), (15, .inl (0, (16, z0))), (16, .inl (0, (16, z0))), (17, .inl (0, (32, z0))), (18, .inl (1, (32, z0))), (19, .inl (0, (1024, z0))), (20, .inl (0, (100, z0))), (21, .inl (1, (40, z0))), (22, .inl (0, (40, z0))), (23, .inl (0, (40, z0))), (24, .inl (0, (40, z0))), (25, .inl (1, (40, z0))), (26, .inl (2, (40, z0))), (27, .inl (0, (8, z0))), (28, .inl (0, (4, z0))), (29, .inl (2, (8, z0))), (30, .inl (0, (16, z0))), (31, .inl (1, (32, z0))), (32, .inl (0, (40, z0))), (33, .inl (1, (40, z0)))]
def nT_Mo_l1 (a : Int) : nT := [(0, .inr (7, [nref 1, nint 0, nref 2, nref 3, nint 0, nint 2, nint 2, nint 0, nint 1, nref 4, nref 5, nref 6, nref 7, nref 8, nref 9, nref 10, nref 11, nref 12, nint 0, nint 4, nint 0, nint 0, nref 13, nref 14, nref 15, nref 16, nref 17, nref 18, nref 19, nint 0, nref 20, nint 0, nref 21, nref 22, nref 23, nref 24, nref 25, nref 26, nref 27, nref 28, nint 0, nref 29, nref 30, nref 31, nint 0, nint 0, nint 0, nref 32, nref 33])), (1, .inl (0, (512, z0))), (2, .inl (0, (64, z0))), (3, .inl (0, (4, fl (-4) a))), (4, .inl (0, (32, z0))), (5, .inl (1, (32, z0))), (6, .inl (0, (32, z0))), (7, .inl (0, (32, z0))), (8, .inl (0, (256, z0))), (9, .inl (0, (32, z0))), (10, .inl (1, (128, z0))), (11, .inl (1, (128, z0))), (12, .inl (0, (128, z0))), (13, .inl (0, (16, z0))), (14, .inl (1, (16, z0))), (15, .inl (0, (16, z0))), (16, .inl (0, (16, z0))), (17, .inl (0, (32, z0))), (18, .inl (1, (32, z0))), (19, .inl (0, (1024, z0))), (20, .inl (0, (100, z0))), (21, .inl (1, (40, z0))), (22, .inl (0, (40, z0))), (23, .inl (0, (40, z0))), (24, .inl (0, (40, z0))), (25, .inl (1, (40, z0))), (26, .inl (2, (40, z0))), (27, .inl (0, (8, z0))), (28, .inl (0, (4, z0))), (29, .inl (2, (8, z0))), (30, .inl (0, (16, z0))), (31, .inl (1, (32, z0))), (32, .inl (0, (40, z0))), (33, .inl (1, (40, z0)))]
theorem nT_Mo_l1_0 : nT_Mo_l1 0 = nT_Mo_70 := by
  unfold nT_Mo_l1 nT_Mo_70
  simp only [fl_0]
def nT_Mo_l2 (a b : Int) : nT := [(0, .inr (7, [nref 1, nint 0, nref 2, nref 3, nint 0, nint 2, nint 2, nint 0, nint 1, nref 4, nref 5, nref 6, nref 7, nref 8, nref 9, nref 10, nref 11, nref 12, nint 0, nint 4, nint 0, nint 0, nref 13, nref 14, nref 15, nref 16, nref 17, nref 18, nref 19, nint 0, nref 20, nint 0, nref 21, nref 22, nref 23, nref 24, nref 25, nref 26, nref 27, nref 28, nint 0, nref 29, nref 30, nref 31, nint 0, nint 0, nint 0, nref 32, nref 33])), (1, .inl (0, (512, z0))), (2, .inl (0, (64, z0))), (3, .inl (0, (4, fl (-4) 4))), (4, .inl (0, (32, fl (-4) a))), (5, .inl (1, (32, z0))), (6, .inl (0, (32, z0))), (7, .inl (0, (32, z0))), (8, .inl (0, (256, z0))), (9, .inl (0, (32, z0))), (10, .inl (1, (128, z0))), (11, .inl (1, (128, z0))), (12, .inl (0, (128, z0))), (13, .inl (0, (16, z0))), (14, .inl (1, (16, z0))), (15, .inl (0, (16, z0))), (16, .inl (0, (16, z0))), (17, .inl (0, (32, fl (-4) b))), (18, .inl (1, (32, z0))), (19, .inl (0, (1024, z0))), (20, .inl (0, (100, z0))), (21, .inl (1, (40, z0))), (22, .inl (0, (40, z0))), (23, .inl (0, (40, z0))), (24, .inl (0, (40, z0))), (25, .inl (1, (40, z0))), (26, .inl (2, (40, z0))), (27, .inl (0, (8, z0))), (28, .inl (0, (4, z0))), (29, .inl (2, (8, z0))), (30, .inl (0, (16, z0))), (31, .inl (1, (32, z0))), (32, .inl (0, (40, z0))), (33, .inl (1, (40, z0)))]
theorem nT_Mo_l2_0 : nT_Mo_l2 0 0 = (nT_Mo_l1 4) := by
  unfold nT_Mo_l2 nT_Mo_l1
  simp only [fl_0]
def nT_Mo_l3 (a : Int) : nT := [(0, .inr (7, [nref 1, nint 0, nref 2, nref 3, nint 0, nint 2, nint 2, nint 0, nint 1, nref 4, nref 5, nref 6, nref 7, nref 8, nref 9, nref 10, nref 11, nref 12, nint 0, nint 4, nint 0, nint 0, nref 13, nref 14, nref 15, nref 16, nref 17, nref 18, nref 19, nint 0, nref 20, nint 0, nref 21, nref 22, nref 23, nref 24, nref 25, nref 26, nref 27, nref 28, nint 0, nref 29, nref 30, nref 31, nint 0, nint 0, nint 0, nref 32, nref 33])), (1, .inl (0, (512, z0))), (2, .inl (0, (64, z0))), (3, .inl (0, (4, fl (-4) 4))), (4, .inl (0, (32, fl (-4) 32))), (5, .inl (1, (32, z0))), (6, .inl (0, (32, z0))), (7, .inl (0, (32, z0))), (8, .inl (0, (256, z0))), (9, .inl (0, (32, z0))), (10, .inl (1, (128, z0))), (11, .inl (1, (128, z0))), (12, .inl (0, (128, z0))), (13, .inl (0, (16, fl (-4) a))), (14, .inl (1, (16, z0))), (15, .inl (0, (16, z0))), (16, .inl (0, (16, z0))), (17, .inl (0, (32, fl (-4) 32))), (18, .inl (1, (32, z0))), (19, .inl (0, (1024, z0))), (20, .inl (0, (100, z0))), (21, .inl (1, (40, z0))), (22, .inl (0, (40, z0))), (23, .inl (0, (40, z0))), (24, .inl (0, (40, z0))), (25, .inl (1, (40, z0))), (26, .inl (2, (40, z0))), (27, .inl (0, (8, z0))), (28, .inl (0, (4, z0))), (29, .inl (2, (8, z0))), (30, .inl (0, (16, z0))), (31, .inl (1, (32, z0))), (32, .inl (0, (40, z0))), (33, .inl (1, (40, z0)))]
theorem nT_Mo_l3_0 : nT_Mo_l3 0 = (nT_Mo_l2 32 32) := by
  unfold nT_Mo_l3 nT_Mo_l2
  simp only [fl_0]
def nT_Mo_l4 (a : Int) : nT := [(0, .inr (7, [nref 1, nint 0, nref 2, nref 3, nint 0, nint 2, nint 2, nint 0, nint 1, nref 4, nref 5, nref 6, nref 7, nref 8, nref 9, nref 10, nref 11, nref 12, nint 0, nint 4, nint 0, nint 0, nref 13, nref 14, nref 15, nref 16, nref 17, nref 18, nref 19, nint 0, nref 20, nint 0, nref 21, nref 22, nref 23, nref 24, nref 25, nref 26, nref 27, nref 28, nint 0, nref 29, nref 30, nref 31, nint 0, nint 0, nint 0, nref 32, nref 33])), (1, .inl (0, (512, z0))), (2, .inl (0, (64, z0))), (3, .inl (0, (4, fl (-4) 4))), (4, .inl (0, (32, fl (-4) 32))), (5, .inl (1, (32, z0))), (6, .inl (0, (32, z0))), (7, .inl (0, (32, z0))), (8, .inl (0, (256, z0))), (9, .inl (0, (32, z0))), (10, .inl (1, (128, z0))), (11, .inl (1, (128, z0))), (12, .inl (0, (128, z0))), (13, .inl (0, (16, fl (-4) 16))), (14, .inl (1, (16, z0))), (15, .inl (0, (16, z0))), (16, .inl (0, (16, z0))), (17, .inl (0, (32, fl (-4) 32))), (18, .inl (1, (32, z0))), (19, .inl (0, (1024, z0))), (20, .inl (0, (100, z0))), (21, .inl (1, (40, z0))), (22, .inl (0, (40, z0))), (23, .inl (0, (40, z0))), (24, .inl (0, (40, z0))), (25, .inl (1, (40, z0))), (26, .inl (2, (40, z0))), (27, .inl (0, (8, fl (-1) a))), (28, .inl (0, (4, z0))), (29, .inl (2, (8, z0))), (30, .inl (0, (16, z0))), (31, .inl (1, (32, z0))), (32, .inl (0, (40, z0))), (33, .inl (1, (40, z0)))]
theorem nT_Mo_l4_0 : nT_Mo_l4 0 = (nT_Mo_l3 16) := by
  unfold nT_Mo_l4 nT_Mo_l3
  simp only [fl_0]
def nT_Mo_l5 (a : Int) : nT := [(0, .inr (7, [nref 1, nint 0, nref 2, nref 3, nint 0, nint 2, nint 2, nint 0, nint 1, nref 4, nref 5, nref 6, nref 7, nref 8, nref 9, nref 10, nref 11, nref 12, nint 0, nint 4, nint 0, nint 0, nref 13, nref 14, nref 15, nref 16, nref 17, nref 18, nref 19, nint 0, nref 20, nint 0, nref 21, nref 22, nref 23, nref 24, nref 25, nref 26, nref 27, nref 28, nint 0, nref 29, nref 30, nref 31, nint 0, nint 0, nint 0, nref 32, nref 33])), (1, .inl (0, (512, z0))), (2, .inl (0, (64, z0))), (3, .inl (0, (4, fl (-4) 4))), (4, .inl (0, (32, fl (-4) 32))), (5, .inl (1, (32, z0))), (6, .inl (0, (32, z0))), (7, .inl (0, (32, z0))), (8, .inl (0, (256, z0))), (9, .inl (0, (32, z0))), (10, .inl (1, (128, z0))), (11, .inl (1, (128, z0))), (12, .inl (0, (128, z0))), (13, .inl (0, (16, fl (-4) 16))), (14, .inl (1, (16, z0))), (15, .inl (0, (16, z0))), (16, .inl (0, (16, z0))), (17, .inl (0, (32, fl (-4) 32))), (18, .inl (1, (32, z0))), (19, .inl (0, (1024, z0))), (20, .inl (0, (100, z0))), (21, .inl (1, (40, z0))), (22, .inl (0, (40, z0))), (23, .inl (0, (40, z0))), (24, .inl (0, (40, z0))), (25, .inl (1, (40, z0))), (26, .inl (2, (40, z0))), (27, .inl (0, (8, fl (-1) 8))), (28, .inl (0, (4, fl (-1) a))), (29, .inl (2, (8, z0))), (30, .inl (0, (16, z0))), (31, .inl (1, (32, z0))), (32, .inl (0, (40, z0))), (33, .inl (1, (40, z0)))]
theorem nT_Mo_l5_0 : nT_Mo_l5 0 = (nT_Mo_l4 8) := by
  unfold nT_Mo_l5 nT_Mo_l4
  simp only [fl_0]
set_option maxRecDepth 20000 in
set_option maxHeartbeats 4000000 in
theorem cn_Mo : nCt Yn_Model prog_9_method_1_code 2 1 12 33 3020 1 [nref 0] [(0, .inr (7, nvs kY7 49))] (nT_Mo_l5 4) := n_entry (by decide) rfl rfl (by decide) fun X C => by
  show NN 1 X 0 [(0, nref 0)] [] nT_Mo_0 0 0
  refine n_aload_n C dn_Mo_0 rfl 0 rfl ?_
  refine n_objInit C nwm_7_1 nwo_1 nwo_2 (by decide) (by decide) dn_Mo_1 ?_
  refine n_aload_n C dn_Mo_4 rfl 0 rfl ?_
  refine n_sipush C dn_Mo_5 (by decide) ?_
  refine n_newi C (n := 512) (id := 1) (T' := nT_Mo_1) nwa_int (by decide) rfl rfl (by decide) (k' := 1) (j' := 512) rfl rfl (by decide) (by decide) rfl dn_Mo_8 ?_
  refine n_put C (pos := 0) (f := 0) (ci := 7) (id := 0) (T' := nT_Mo_2) (d := "[I") (fin := true) rfl kI7 kO7 kN7 rfl (by decide) rfl rfl nwf_7_7 (ty := kY7 0) (by decide +kernel) (fun _ => rfl) (fun _ => rfl) (by decide) dn_Mo_10 ?_
  refine n_aload_n C dn_Mo_13 rfl 0 rfl ?_
  refine n_bipush C dn_Mo_14 (by decide) ?_
  refine n_newi C (n := 64) (id := 2) (T' := nT_Mo_3) nwa_int (by decide) rfl rfl (by decide) (k' := 2) (j' := 576) rfl rfl (by decide) (by decide) rfl dn_Mo_16 ?_
  refine n_put C (pos := 0) (f := 2) (ci := 7) (id := 0) (T' := nT_Mo_4) (d := "[I") (fin := true) rfl kI7 kO7 kN7 rfl (by decide) rfl rfl nwf_7_13 (ty := kY7 2) (by decide +kernel) (fun _ => rfl) (fun _ => rfl) (by decide) dn_Mo_18 ?_
  refine n_aload_n C dn_Mo_21 rfl 0 rfl ?_
  refine n_iconst C dn_Mo_22 ?_
  refine n_newi C (n := 4) (id := 3) (T' := nT_Mo_5) nwa_int (by decide) rfl rfl (by decide) (k' := 3) (j' := 580) rfl rfl (by decide) (by decide) rfl dn_Mo_23 ?_
  refine n_put C (pos := 0) (f := 3) (ci := 7) (id := 0) (T' := nT_Mo_6) (d := "[I") (fin := true) rfl kI7 kO7 kN7 rfl (by decide) rfl rfl nwf_7_16 (ty := kY7 3) (by decide +kernel) (fun _ => rfl) (fun _ => rfl) (by decide) dn_Mo_25 ?_
  refine n_aload_n C dn_Mo_28 rfl 0 rfl ?_
  refine n_iconst C dn_Mo_29 ?_
  refine n_put C (pos := 0) (f := 5) (ci := 7) (id := 0) (T' := nT_Mo_7) (d := "I") (fin := false) rfl kI7 kO7 kN7 rfl (by decide) rfl rfl nwf_7_19 (ty := kY7 5) (by decide +kernel) (fun _ => rfl) (fun _ => rfl) (by decide) dn_Mo_30 ?_
  refine n_aload_n C dn_Mo_33 rfl 0 rfl ?_
  refine n_iconst C dn_Mo_34 ?_
  refine n_put C (pos := 0) (f := 6) (ci := 7) (id := 0) (T' := nT_Mo_8) (d := "I") (fin := false) rfl kI7 kO7 kN7 rfl (by decide) rfl rfl nwf_7_23 (ty := kY7 6) (by decide +kernel) (fun _ => rfl) (fun _ => rfl) (by decide) dn_Mo_35 ?_
  refine n_aload_n C dn_Mo_38 rfl 0 rfl ?_
  refine n_iconst C dn_Mo_39 ?_
  refine n_put C (pos := 0) (f := 8) (ci := 7) (id := 0) (T' := nT_Mo_9) (d := "I") (fin := false) rfl kI7 kO7 kN7 rfl (by decide) rfl rfl nwf_7_26 (ty := kY7 8) (by decide +kernel) (fun _ => rfl) (fun _ => rfl) (by decide) dn_Mo_40 ?_
  refine n_aload_n C dn_Mo_43 rfl 0 rfl ?_
  refine n_bipush C dn_Mo_44 (by decide) ?_
  refine n_newi C (n := 32) (id := 4) (T' := nT_Mo_10) nwa_int (by decide) rfl rfl (by decide) (k' := 4) (j' := 612) rfl rfl (by decide) (by decide) rfl dn_Mo_46 ?_
  refine n_put C (pos := 0) (f := 9) (ci := 7) (id := 0) (T' := nT_Mo_11) (d := "[I") (fin := true) rfl kI7 kO7 kN7 rfl (by decide) rfl rfl nwf_7_29 (ty := kY7 9) (by decide +kernel) (fun _ => rfl) (fun _ => rfl) (by decide) dn_Mo_48 ?_
  refine n_aload_n C dn_Mo_51 rfl 0 rfl ?_
  refine n_bipush C dn_Mo_52 (by decide) ?_
  refine n_newb C (n := 32) (id := 5) (T' := nT_Mo_12) nwa_boolean (by decide) rfl rfl (by decide) (k' := 5) (j' := 644) rfl rfl (by decide) (by decide) rfl dn_Mo_54 ?_
  refine n_put C (pos := 0) (f := 10) (ci := 7) (id := 0) (T' := nT_Mo_13) (d := "[Z") (fin := true) rfl kI7 kO7 kN7 rfl (by decide) rfl rfl nwf_7_32 (ty := kY7 10) (by decide +kernel) (fun _ => rfl) (fun _ => rfl) (by decide) dn_Mo_56 ?_
  refine n_aload_n C dn_Mo_59 rfl 0 rfl ?_
  refine n_bipush C dn_Mo_60 (by decide) ?_
  refine n_newi C (n := 32) (id := 6) (T' := nT_Mo_14) nwa_int (by decide) rfl rfl (by decide) (k' := 6) (j' := 676) rfl rfl (by decide) (by decide) rfl dn_Mo_62 ?_
  refine n_put C (pos := 0) (f := 11) (ci := 7) (id := 0) (T' := nT_Mo_15) (d := "[I") (fin := true) rfl kI7 kO7 kN7 rfl (by decide) rfl rfl nwf_7_36 (ty := kY7 11) (by decide +kernel) (fun _ => rfl) (fun _ => rfl) (by decide) dn_Mo_64 ?_
  refine n_aload_n C dn_Mo_67 rfl 0 rfl ?_
  refine n_bipush C dn_Mo_68 (by decide) ?_
  refine n_newi C (n := 32) (id := 7) (T' := nT_Mo_16) nwa_int (by decide) rfl rfl (by decide) (k' := 7) (j' := 708) rfl rfl (by decide) (by decide) rfl dn_Mo_70 ?_
  refine n_put C (pos := 0) (f := 12) (ci := 7) (id := 0) (T' := nT_Mo_17) (d := "[I") (fin := true) rfl kI7 kO7 kN7 rfl (by decide) rfl rfl nwf_7_39 (ty := kY7 12) (by decide +kernel) (fun _ => rfl) (fun _ => rfl) (by decide) dn_Mo_72 ?_
  refine n_aload_n C dn_Mo_75 rfl 0 rfl ?_
  refine n_sipush C dn_Mo_76 (by decide) ?_
  refine n_newi C (n := 256) (id := 8) (T' := nT_Mo_18) nwa_int (by decide) rfl rfl (by decide) (k' := 8) (j' := 964) rfl rfl (by decide) (by decide) rfl dn_Mo_79 ?_
  refine n_put C (pos := 0) (f := 13) (ci := 7) (id := 0) (T' := nT_Mo_19) (d := "[I") (fin := true) rfl kI7 kO7 kN7 rfl (by decide) rfl rfl nwf_7_42 (ty := kY7 13) (by decide +kernel) (fun _ => rfl) (fun _ => rfl) (by decide) dn_Mo_81 ?_
  refine n_aload_n C dn_Mo_84 rfl 0 rfl ?_
  refine n_bipush C dn_Mo_85 (by decide) ?_
  refine n_newi C (n := 32) (id := 9) (T' := nT_Mo_20) nwa_int (by decide) rfl rfl (by decide) (k' := 9) (j' := 996) rfl rfl (by decide) (by decide) rfl dn_Mo_87 ?_
  refine n_put C (pos := 0) (f := 14) (ci := 7) (id := 0) (T' := nT_Mo_21) (d := "[I") (fin := true) rfl kI7 kO7 kN7 rfl (by decide) rfl rfl nwf_7_45 (ty := kY7 14) (by decide +kernel) (fun _ => rfl) (fun _ => rfl) (by decide) dn_Mo_89 ?_
  refine n_aload_n C dn_Mo_92 rfl 0 rfl ?_
  refine n_sipush C dn_Mo_93 (by decide) ?_
  refine n_newb C (n := 128) (id := 10) (T' := nT_Mo_22) nwa_boolean (by decide) rfl rfl (by decide) (k' := 10) (j' := 1124) rfl rfl (by decide) (by decide) rfl dn_Mo_96 ?_
  refine n_put C (pos := 0) (f := 15) (ci := 7) (id := 0) (T' := nT_Mo_23) (d := "[Z") (fin := true) rfl kI7 kO7 kN7 rfl (by decide) rfl rfl nwf_7_48 (ty := kY7 15) (by decide +kernel) (fun _ => rfl) (fun _ => rfl) (by decide) dn_Mo_98 ?_
  refine n_aload_n C dn_Mo_101 rfl 0 rfl ?_
  refine n_sipush C dn_Mo_102 (by decide) ?_
  refine n_newb C (n := 128) (id := 11) (T' := nT_Mo_24) nwa_boolean (by decide) rfl rfl (by decide) (k' := 11) (j' := 1252) rfl rfl (by decide) (by decide) rfl dn_Mo_105 ?_
  refine n_put C (pos := 0) (f := 16) (ci := 7) (id := 0) (T' := nT_Mo_25) (d := "[Z") (fin := true) rfl kI7 kO7 kN7 rfl (by decide) rfl rfl nwf_7_51 (ty := kY7 16) (by decide +kernel) (fun _ => rfl) (fun _ => rfl) (by decide) dn_Mo_107 ?_
  refine n_aload_n C dn_Mo_110 rfl 0 rfl ?_
  refine n_sipush C dn_Mo_111 (by decide) ?_
  refine n_newi C (n := 128) (id := 12) (T' := nT_Mo_26) nwa_int (by decide) rfl rfl (by decide) (k' := 12) (j' := 1380) rfl rfl (by decide) (by decide) rfl dn_Mo_114 ?_
  refine n_put C (pos := 0) (f := 17) (ci := 7) (id := 0) (T' := nT_Mo_27) (d := "[I") (fin := true) rfl kI7 kO7 kN7 rfl (by decide) rfl rfl nwf_7_54 (ty := kY7 17) (by decide +kernel) (fun _ => rfl) (fun _ => rfl) (by decide) dn_Mo_116 ?_
  refine n_aload_n C dn_Mo_119 rfl 0 rfl ?_
  refine n_iconst C dn_Mo_120 ?_
  refine n_put C (pos := 0) (f := 19) (ci := 7) (id := 0) (T' := nT_Mo_28) (d := "I") (fin := false) rfl kI7 kO7 kN7 rfl (by decide) rfl rfl nwf_7_57 (ty := kY7 19) (by decide +kernel) (fun _ => rfl) (fun _ => rfl) (by decide) dn_Mo_121 ?_
  refine n_aload_n C dn_Mo_124 rfl 0 rfl ?_
  refine n_bipush C dn_Mo_125 (by decide) ?_
  refine n_newi C (n := 16) (id := 13) (T' := nT_Mo_29) nwa_int (by decide) rfl rfl (by decide) (k' := 13) (j' := 1396) rfl rfl (by decide) (by decide) rfl dn_Mo_127 ?_
  refine n_put C (pos := 0) (f := 22) (ci := 7) (id := 0) (T' := nT_Mo_30) (d := "[I") (fin := true) rfl kI7 kO7 kN7 rfl (by decide) rfl rfl nwf_7_60 (ty := kY7 22) (by decide +kernel) (fun _ => rfl) (fun _ => rfl) (by decide) dn_Mo_129 ?_
  refine n_aload_n C dn_Mo_132 rfl 0 rfl ?_
  refine n_bipush C dn_Mo_133 (by decide) ?_
  refine n_newb C (n := 16) (id := 14) (T' := nT_Mo_31) nwa_boolean (by decide) rfl rfl (by decide) (k' := 14) (j' := 1412) rfl rfl (by decide) (by decide) rfl dn_Mo_135 ?_
  refine n_put C (pos := 0) (f := 23) (ci := 7) (id := 0) (T' := nT_Mo_32) (d := "[Z") (fin := true) rfl kI7 kO7 kN7 rfl (by decide) rfl rfl nwf_7_63 (ty := kY7 23) (by decide +kernel) (fun _ => rfl) (fun _ => rfl) (by decide) dn_Mo_137 ?_
  refine n_aload_n C dn_Mo_140 rfl 0 rfl ?_
  refine n_bipush C dn_Mo_141 (by decide) ?_
  refine n_newi C (n := 16) (id := 15) (T' := nT_Mo_33) nwa_int (by decide) rfl rfl (by decide) (k' := 15) (j' := 1428) rfl rfl (by decide) (by decide) rfl dn_Mo_143 ?_
  refine n_put C (pos := 0) (f := 24) (ci := 7) (id := 0) (T' := nT_Mo_34) (d := "[I") (fin := true) rfl kI7 kO7 kN7 rfl (by decide) rfl rfl nwf_7_66 (ty := kY7 24) (by decide +kernel) (fun _ => rfl) (fun _ => rfl) (by decide) dn_Mo_145 ?_
  refine n_aload_n C dn_Mo_148 rfl 0 rfl ?_
  refine n_bipush C dn_Mo_149 (by decide) ?_
  refine n_newi C (n := 16) (id := 16) (T' := nT_Mo_35) nwa_int (by decide) rfl rfl (by decide) (k' := 16) (j' := 1444) rfl rfl (by decide) (by decide) rfl dn_Mo_151 ?_
  refine n_put C (pos := 0) (f := 25) (ci := 7) (id := 0) (T' := nT_Mo_36) (d := "[I") (fin := true) rfl kI7 kO7 kN7 rfl (by decide) rfl rfl nwf_7_69 (ty := kY7 25) (by decide +kernel) (fun _ => rfl) (fun _ => rfl) (by decide) dn_Mo_153 ?_
  refine n_aload_n C dn_Mo_156 rfl 0 rfl ?_
  refine n_bipush C dn_Mo_157 (by decide) ?_
  refine n_newi C (n := 32) (id := 17) (T' := nT_Mo_37) nwa_int (by decide) rfl rfl (by decide) (k' := 17) (j' := 1476) rfl rfl (by decide) (by decide) rfl dn_Mo_159 ?_
  refine n_put C (pos := 0) (f := 26) (ci := 7) (id := 0) (T' := nT_Mo_38) (d := "[I") (fin := true) rfl kI7 kO7 kN7 rfl (by decide) rfl rfl nwf_7_72 (ty := kY7 26) (by decide +kernel) (fun _ => rfl) (fun _ => rfl) (by decide) dn_Mo_161 ?_
  refine n_aload_n C dn_Mo_164 rfl 0 rfl ?_
  refine n_bipush C dn_Mo_165 (by decide) ?_
  refine n_newb C (n := 32) (id := 18) (T' := nT_Mo_39) nwa_boolean (by decide) rfl rfl (by decide) (k' := 18) (j' := 1508) rfl rfl (by decide) (by decide) rfl dn_Mo_167 ?_
  refine n_put C (pos := 0) (f := 27) (ci := 7) (id := 0) (T' := nT_Mo_40) (d := "[Z") (fin := true) rfl kI7 kO7 kN7 rfl (by decide) rfl rfl nwf_7_75 (ty := kY7 27) (by decide +kernel) (fun _ => rfl) (fun _ => rfl) (by decide) dn_Mo_169 ?_
  refine n_aload_n C dn_Mo_172 rfl 0 rfl ?_
  refine n_sipush C dn_Mo_173 (by decide) ?_
  refine n_newi C (n := 1024) (id := 19) (T' := nT_Mo_41) nwa_int (by decide) rfl rfl (by decide) (k' := 19) (j' := 2532) rfl rfl (by decide) (by decide) rfl dn_Mo_176 ?_
  refine n_put C (pos := 0) (f := 28) (ci := 7) (id := 0) (T' := nT_Mo_42) (d := "[I") (fin := true) rfl kI7 kO7 kN7 rfl (by decide) rfl rfl nwf_7_78 (ty := kY7 28) (by decide +kernel) (fun _ => rfl) (fun _ => rfl) (by decide) dn_Mo_178 ?_
  refine n_aload_n C dn_Mo_181 rfl 0 rfl ?_
  refine n_bipush C dn_Mo_182 (by decide) ?_
  refine n_newi C (n := 100) (id := 20) (T' := nT_Mo_43) nwa_int (by decide) rfl rfl (by decide) (k' := 20) (j' := 2632) rfl rfl (by decide) (by decide) rfl dn_Mo_184 ?_
  refine n_put C (pos := 0) (f := 30) (ci := 7) (id := 0) (T' := nT_Mo_44) (d := "[I") (fin := true) rfl kI7 kO7 kN7 rfl (by decide) rfl rfl nwf_7_81 (ty := kY7 30) (by decide +kernel) (fun _ => rfl) (fun _ => rfl) (by decide) dn_Mo_186 ?_
  refine n_aload_n C dn_Mo_189 rfl 0 rfl ?_
  refine n_bipush C dn_Mo_190 (by decide) ?_
  refine n_newb C (n := 40) (id := 21) (T' := nT_Mo_45) nwa_boolean (by decide) rfl rfl (by decide) (k' := 21) (j' := 2672) rfl rfl (by decide) (by decide) rfl dn_Mo_192 ?_
  refine n_put C (pos := 0) (f := 32) (ci := 7) (id := 0) (T' := nT_Mo_46) (d := "[Z") (fin := true) rfl kI7 kO7 kN7 rfl (by decide) rfl rfl nwf_7_84 (ty := kY7 32) (by decide +kernel) (fun _ => rfl) (fun _ => rfl) (by decide) dn_Mo_194 ?_
  refine n_aload_n C dn_Mo_197 rfl 0 rfl ?_
  refine n_bipush C dn_Mo_198 (by decide) ?_
  refine n_newi C (n := 40) (id := 22) (T' := nT_Mo_47) nwa_int (by decide) rfl rfl (by decide) (k' := 22) (j' := 2712) rfl rfl (by decide) (by decide) rfl dn_Mo_200 ?_
  refine n_put C (pos := 0) (f := 33) (ci := 7) (id := 0) (T' := nT_Mo_48) (d := "[I") (fin := true) rfl kI7 kO7 kN7 rfl (by decide) rfl rfl nwf_7_87 (ty := kY7 33) (by decide +kernel) (fun _ => rfl) (fun _ => rfl) (by decide) dn_Mo_202 ?_
  refine n_aload_n C dn_Mo_205 rfl 0 rfl ?_
  refine n_bipush C dn_Mo_206 (by decide) ?_
  refine n_newi C (n := 40) (id := 23) (T' := nT_Mo_49) nwa_int (by decide) rfl rfl (by decide) (k' := 23) (j' := 2752) rfl rfl (by decide) (by decide) rfl dn_Mo_208 ?_
  refine n_put C (pos := 0) (f := 34) (ci := 7) (id := 0) (T' := nT_Mo_50) (d := "[I") (fin := true) rfl kI7 kO7 kN7 rfl (by decide) rfl rfl nwf_7_90 (ty := kY7 34) (by decide +kernel) (fun _ => rfl) (fun _ => rfl) (by decide) dn_Mo_210 ?_
  refine n_aload_n C dn_Mo_213 rfl 0 rfl ?_
  refine n_bipush C dn_Mo_214 (by decide) ?_
  refine n_newi C (n := 40) (id := 24) (T' := nT_Mo_51) nwa_int (by decide) rfl rfl (by decide) (k' := 24) (j' := 2792) rfl rfl (by decide) (by decide) rfl dn_Mo_216 ?_
  refine n_put C (pos := 0) (f := 35) (ci := 7) (id := 0) (T' := nT_Mo_52) (d := "[I") (fin := true) rfl kI7 kO7 kN7 rfl (by decide) rfl rfl nwf_7_93 (ty := kY7 35) (by decide +kernel) (fun _ => rfl) (fun _ => rfl) (by decide) dn_Mo_218 ?_
  refine n_aload_n C dn_Mo_221 rfl 0 rfl ?_
  refine n_bipush C dn_Mo_222 (by decide) ?_
  refine n_newb C (n := 40) (id := 25) (T' := nT_Mo_53) nwa_boolean (by decide) rfl rfl (by decide) (k' := 25) (j' := 2832) rfl rfl (by decide) (by decide) rfl dn_Mo_224 ?_
  refine n_put C (pos := 0) (f := 36) (ci := 7) (id := 0) (T' := nT_Mo_54) (d := "[Z") (fin := true) rfl kI7 kO7 kN7 rfl (by decide) rfl rfl nwf_7_96 (ty := kY7 36) (by decide +kernel) (fun _ => rfl) (fun _ => rfl) (by decide) dn_Mo_226 ?_
  refine n_aload_n C dn_Mo_229 rfl 0 rfl ?_
  refine n_bipush C dn_Mo_230 (by decide) ?_
  refine n_newl C (n := 40) (id := 26) (T' := nT_Mo_55) nwa_long (by decide) rfl rfl (by decide) (k' := 26) (j' := 2872) rfl rfl (by decide) (by decide) rfl dn_Mo_232 ?_
  refine n_put C (pos := 0) (f := 37) (ci := 7) (id := 0) (T' := nT_Mo_56) (d := "[J") (fin := true) rfl kI7 kO7 kN7 rfl (by decide) rfl rfl nwf_7_99 (ty := kY7 37) (by decide +kernel) (fun _ => rfl) (fun _ => rfl) (by decide) dn_Mo_234 ?_
  refine n_aload_n C dn_Mo_237 rfl 0 rfl ?_
  refine n_bipush C dn_Mo_238 (by decide) ?_
  refine n_newi C (n := 8) (id := 27) (T' := nT_Mo_57) nwa_int (by decide) rfl rfl (by decide) (k' := 27) (j' := 2880) rfl rfl (by decide) (by decide) rfl dn_Mo_240 ?_
  refine n_put C (pos := 0) (f := 38) (ci := 7) (id := 0) (T' := nT_Mo_58) (d := "[I") (fin := true) rfl kI7 kO7 kN7 rfl (by decide) rfl rfl nwf_7_103 (ty := kY7 38) (by decide +kernel) (fun _ => rfl) (fun _ => rfl) (by decide) dn_Mo_242 ?_
  refine n_aload_n C dn_Mo_245 rfl 0 rfl ?_
  refine n_iconst C dn_Mo_246 ?_
  refine n_newi C (n := 4) (id := 28) (T' := nT_Mo_59) nwa_int (by decide) rfl rfl (by decide) (k' := 28) (j' := 2884) rfl rfl (by decide) (by decide) rfl dn_Mo_247 ?_
  refine n_put C (pos := 0) (f := 39) (ci := 7) (id := 0) (T' := nT_Mo_60) (d := "[I") (fin := true) rfl kI7 kO7 kN7 rfl (by decide) rfl rfl nwf_7_106 (ty := kY7 39) (by decide +kernel) (fun _ => rfl) (fun _ => rfl) (by decide) dn_Mo_249 ?_
  refine n_aload_n C dn_Mo_252 rfl 0 rfl ?_
  refine n_bipush C dn_Mo_253 (by decide) ?_
  refine n_newl C (n := 8) (id := 29) (T' := nT_Mo_61) nwa_long (by decide) rfl rfl (by decide) (k' := 29) (j' := 2892) rfl rfl (by decide) (by decide) rfl dn_Mo_255 ?_
  refine n_put C (pos := 0) (f := 41) (ci := 7) (id := 0) (T' := nT_Mo_62) (d := "[J") (fin := true) rfl kI7 kO7 kN7 rfl (by decide) rfl rfl nwf_7_109 (ty := kY7 41) (by decide +kernel) (fun _ => rfl) (fun _ => rfl) (by decide) dn_Mo_257 ?_
  refine n_aload_n C dn_Mo_260 rfl 0 rfl ?_
  refine n_bipush C dn_Mo_261 (by decide) ?_
  refine n_newi C (n := 16) (id := 30) (T' := nT_Mo_63) nwa_int (by decide) rfl rfl (by decide) (k' := 30) (j' := 2908) rfl rfl (by decide) (by decide) rfl dn_Mo_263 ?_
  refine n_put C (pos := 0) (f := 42) (ci := 7) (id := 0) (T' := nT_Mo_64) (d := "[I") (fin := true) rfl kI7 kO7 kN7 rfl (by decide) rfl rfl nwf_7_112 (ty := kY7 42) (by decide +kernel) (fun _ => rfl) (fun _ => rfl) (by decide) dn_Mo_265 ?_
  refine n_aload_n C dn_Mo_268 rfl 0 rfl ?_
  refine n_bipush C dn_Mo_269 (by decide) ?_
  refine n_newb C (n := 32) (id := 31) (T' := nT_Mo_65) nwa_boolean (by decide) rfl rfl (by decide) (k' := 31) (j' := 2940) rfl rfl (by decide) (by decide) rfl dn_Mo_271 ?_
  refine n_put C (pos := 0) (f := 43) (ci := 7) (id := 0) (T' := nT_Mo_66) (d := "[Z") (fin := true) rfl kI7 kO7 kN7 rfl (by decide) rfl rfl nwf_7_115 (ty := kY7 43) (by decide +kernel) (fun _ => rfl) (fun _ => rfl) (by decide) dn_Mo_273 ?_
  refine n_aload_n C dn_Mo_276 rfl 0 rfl ?_
  refine n_bipush C dn_Mo_277 (by decide) ?_
  refine n_newi C (n := 40) (id := 32) (T' := nT_Mo_67) nwa_int (by decide) rfl rfl (by decide) (k' := 32) (j' := 2980) rfl rfl (by decide) (by decide) rfl dn_Mo_279 ?_
  refine n_put C (pos := 0) (f := 47) (ci := 7) (id := 0) (T' := nT_Mo_68) (d := "[I") (fin := true) rfl kI7 kO7 kN7 rfl (by decide) rfl rfl nwf_7_118 (ty := kY7 47) (by decide +kernel) (fun _ => rfl) (fun _ => rfl) (by decide) dn_Mo_281 ?_
  refine n_aload_n C dn_Mo_284 rfl 0 rfl ?_
  refine n_bipush C dn_Mo_285 (by decide) ?_
  refine n_newb C (n := 40) (id := 33) (T' := nT_Mo_69) nwa_boolean (by decide) rfl rfl (by decide) (k' := 33) (j' := 3020) rfl rfl (by decide) (by decide) rfl dn_Mo_287 ?_
  refine n_put C (pos := 0) (f := 48) (ci := 7) (id := 0) (T' := nT_Mo_70) (d := "[Z") (fin := true) rfl kI7 kO7 kN7 rfl (by decide) rfl rfl nwf_7_121 (ty := kY7 48) (by decide +kernel) (fun _ => rfl) (fun _ => rfl) (by decide) dn_Mo_289 ?_
  refine n_iconst C dn_Mo_292 ?_
  refine n_istore_n C dn_Mo_293 rfl (by decide) (L' := [(1, nint 0), (0, nref 0)]) rfl ?_
  rw [← nT_Mo_l1_0]
  refine n_loop (L := fun i => [(1, nint i), (0, nref 0)]) (T := fun i => nT_Mo_l1 i) (hi := 4) (fun i i1 i2 ih => ?_) ?_ 200 0 (by omega) (by omega) (by omega)
  · show NN 1 X 294 [(1, nint i), (0, nref 0)] [] (nT_Mo_l1 i) 33 3020
    refine n_iload_n C dn_Mo_294 rfl 0 rfl ?_
    refine n_iconst C dn_Mo_295 ?_
    refine n_icmp_ge C (tgt := 313) ⟨by omega, by omega⟩ ⟨by decide, by decide⟩ dn_Mo_296 (by decide) (fun c => absurd c (by omega)) (fun _ => ?_)
    refine n_aload_n C dn_Mo_299 rfl 1 rfl ?_
    refine n_get C (pos := 0) (f := 3) (ci := 7) (cn := kR7) (d := "[I") rfl kI7 rfl (by decide) (v := nref 3) rfl rfl nwf_7_16 dn_Mo_300 ?_
    refine n_iload_n C dn_Mo_303 rfl 0 rfl ?_
    refine n_bipush C dn_Mo_304 (by decide) ?_
    refine n_iast C (pos := 3) (T' := (nT_Mo_l1 (i + 1))) rfl ⟨i1, i2⟩ ⟨by omega, by omega⟩ (by rw [fl_s i1]; rfl) dn_Mo_306 ?_
    refine n_iinc C (t := 0) (x := i) dn_Mo_307 rfl (by decide) (L' := [(1, nint (i + 1)), (0, nref 0)]) rfl ?_
    exact n_goto C (tgt := 294) dn_Mo_310 (by decide) ih
  show NN 1 X 294 [(1, nint 4), (0, nref 0)] [] (nT_Mo_l1 4) 33 3020
  refine n_iload_n C dn_Mo_294 rfl 0 rfl ?_
  refine n_iconst C dn_Mo_295 ?_
  refine n_icmp_ge C (tgt := 313) ⟨by decide, by decide⟩ ⟨by decide, by decide⟩ dn_Mo_296 (by decide) (fun _ => ?_) (fun c => absurd (by decide) c)
  refine n_sub (L' := [(0, nref 0)]) [1] rfl ?_
  refine n_iconst C dn_Mo_313 ?_
  refine n_istore_n C dn_Mo_314 rfl (by decide) (L' := [(1, nint 0), (0, nref 0)]) rfl ?_
  rw [← nT_Mo_l2_0]
  refine n_loop (L := fun i => [(1, nint i), (0, nref 0)]) (T := fun i => nT_Mo_l2 i i) (hi := 32) (fun i i1 i2 ih => ?_) ?_ 200 0 (by omega) (by omega) (by omega)
  · show NN 1 X 315 [(1, nint i), (0, nref 0)] [] (nT_Mo_l2 i i) 33 3020
    refine n_iload_n C dn_Mo_315 rfl 0 rfl ?_
    refine n_bipush C dn_Mo_316 (by decide) ?_
    refine n_icmp_ge C (tgt := 343) ⟨by omega, by omega⟩ ⟨by decide, by decide⟩ dn_Mo_318 (by decide) (fun c => absurd c (by omega)) (fun _ => ?_)
    refine n_aload_n C dn_Mo_321 rfl 1 rfl ?_
    refine n_get C (pos := 0) (f := 9) (ci := 7) (cn := kR7) (d := "[I") rfl kI7 rfl (by decide) (v := nref 4) rfl rfl nwf_7_29 dn_Mo_322 ?_
    refine n_iload_n C dn_Mo_325 rfl 0 rfl ?_
    refine n_bipush C dn_Mo_326 (by decide) ?_
    refine n_iast C (pos := 4) (T' := (nT_Mo_l2 (i + 1) i)) rfl ⟨i1, i2⟩ ⟨by omega, by omega⟩ (by rw [fl_s i1]; rfl) dn_Mo_328 ?_
    refine n_aload_n C dn_Mo_329 rfl 1 rfl ?_
    refine n_get C (pos := 0) (f := 26) (ci := 7) (cn := kR7) (d := "[I") rfl kI7 rfl (by decide) (v := nref 17) rfl rfl nwf_7_72 dn_Mo_330 ?_
    refine n_iload_n C dn_Mo_333 rfl 0 rfl ?_
    refine n_bipush C dn_Mo_334 (by decide) ?_
    refine n_iast C (pos := 17) (T' := (nT_Mo_l2 (i + 1) (i + 1))) rfl ⟨i1, i2⟩ ⟨by omega, by omega⟩ (by rw [fl_s i1]; rfl) dn_Mo_336 ?_
    refine n_iinc C (t := 0) (x := i) dn_Mo_337 rfl (by decide) (L' := [(1, nint (i + 1)), (0, nref 0)]) rfl ?_
    exact n_goto C (tgt := 315) dn_Mo_340 (by decide) ih
  show NN 1 X 315 [(1, nint 32), (0, nref 0)] [] (nT_Mo_l2 32 32) 33 3020
  refine n_iload_n C dn_Mo_315 rfl 0 rfl ?_
  refine n_bipush C dn_Mo_316 (by decide) ?_
  refine n_icmp_ge C (tgt := 343) ⟨by decide, by decide⟩ ⟨by decide, by decide⟩ dn_Mo_318 (by decide) (fun _ => ?_) (fun c => absurd (by decide) c)
  refine n_sub (L' := [(0, nref 0)]) [1] rfl ?_
  refine n_iconst C dn_Mo_343 ?_
  refine n_istore_n C dn_Mo_344 rfl (by decide) (L' := [(1, nint 0), (0, nref 0)]) rfl ?_
  rw [← nT_Mo_l3_0]
  refine n_loop (L := fun i => [(1, nint i), (0, nref 0)]) (T := fun i => nT_Mo_l3 i) (hi := 16) (fun i i1 i2 ih => ?_) ?_ 200 0 (by omega) (by omega) (by omega)
  · show NN 1 X 345 [(1, nint i), (0, nref 0)] [] (nT_Mo_l3 i) 33 3020
    refine n_iload_n C dn_Mo_345 rfl 0 rfl ?_
    refine n_bipush C dn_Mo_346 (by decide) ?_
    refine n_icmp_ge C (tgt := 365) ⟨by omega, by omega⟩ ⟨by decide, by decide⟩ dn_Mo_348 (by decide) (fun c => absurd c (by omega)) (fun _ => ?_)
    refine n_aload_n C dn_Mo_351 rfl 1 rfl ?_
    refine n_get C (pos := 0) (f := 22) (ci := 7) (cn := kR7) (d := "[I") rfl kI7 rfl (by decide) (v := nref 13) rfl rfl nwf_7_60 dn_Mo_352 ?_
    refine n_iload_n C dn_Mo_355 rfl 0 rfl ?_
    refine n_bipush C dn_Mo_356 (by decide) ?_
    refine n_iast C (pos := 13) (T' := (nT_Mo_l3 (i + 1))) rfl ⟨i1, i2⟩ ⟨by omega, by omega⟩ (by rw [fl_s i1]; rfl) dn_Mo_358 ?_
    refine n_iinc C (t := 0) (x := i) dn_Mo_359 rfl (by decide) (L' := [(1, nint (i + 1)), (0, nref 0)]) rfl ?_
    exact n_goto C (tgt := 345) dn_Mo_362 (by decide) ih
  show NN 1 X 345 [(1, nint 16), (0, nref 0)] [] (nT_Mo_l3 16) 33 3020
  refine n_iload_n C dn_Mo_345 rfl 0 rfl ?_
  refine n_bipush C dn_Mo_346 (by decide) ?_
  refine n_icmp_ge C (tgt := 365) ⟨by decide, by decide⟩ ⟨by decide, by decide⟩ dn_Mo_348 (by decide) (fun _ => ?_) (fun c => absurd (by decide) c)
  refine n_sub (L' := [(0, nref 0)]) [1] rfl ?_
  refine n_iconst C dn_Mo_365 ?_
  refine n_istore_n C dn_Mo_366 rfl (by decide) (L' := [(1, nint 0), (0, nref 0)]) rfl ?_
  rw [← nT_Mo_l4_0]
  refine n_loop (L := fun i => [(1, nint i), (0, nref 0)]) (T := fun i => nT_Mo_l4 i) (hi := 8) (fun i i1 i2 ih => ?_) ?_ 200 0 (by omega) (by omega) (by omega)
  · show NN 1 X 367 [(1, nint i), (0, nref 0)] [] (nT_Mo_l4 i) 33 3020
    refine n_iload_n C dn_Mo_367 rfl 0 rfl ?_
    refine n_bipush C dn_Mo_368 (by decide) ?_
    refine n_icmp_ge C (tgt := 386) ⟨by omega, by omega⟩ ⟨by decide, by decide⟩ dn_Mo_370 (by decide) (fun c => absurd c (by omega)) (fun _ => ?_)
    refine n_aload_n C dn_Mo_373 rfl 1 rfl ?_
    refine n_get C (pos := 0) (f := 38) (ci := 7) (cn := kR7) (d := "[I") rfl kI7 rfl (by decide) (v := nref 27) rfl rfl nwf_7_103 dn_Mo_374 ?_
    refine n_iload_n C dn_Mo_377 rfl 0 rfl ?_
    refine n_iconst C dn_Mo_378 ?_
    refine n_iast C (pos := 27) (T' := (nT_Mo_l4 (i + 1))) rfl ⟨i1, i2⟩ ⟨by omega, by omega⟩ (by rw [fl_s i1]; rfl) dn_Mo_379 ?_
    refine n_iinc C (t := 0) (x := i) dn_Mo_380 rfl (by decide) (L' := [(1, nint (i + 1)), (0, nref 0)]) rfl ?_
    exact n_goto C (tgt := 367) dn_Mo_383 (by decide) ih
  show NN 1 X 367 [(1, nint 8), (0, nref 0)] [] (nT_Mo_l4 8) 33 3020
  refine n_iload_n C dn_Mo_367 rfl 0 rfl ?_
  refine n_bipush C dn_Mo_368 (by decide) ?_
  refine n_icmp_ge C (tgt := 386) ⟨by decide, by decide⟩ ⟨by decide, by decide⟩ dn_Mo_370 (by decide) (fun _ => ?_) (fun c => absurd (by decide) c)
  refine n_sub (L' := [(0, nref 0)]) [1] rfl ?_
  refine n_iconst C dn_Mo_386 ?_
  refine n_istore_n C dn_Mo_387 rfl (by decide) (L' := [(1, nint 0), (0, nref 0)]) rfl ?_
  rw [← nT_Mo_l5_0]
  refine n_loop (L := fun i => [(1, nint i), (0, nref 0)]) (T := fun i => nT_Mo_l5 i) (hi := 4) (fun i i1 i2 ih => ?_) ?_ 200 0 (by omega) (by omega) (by omega)
  · show NN 1 X 388 [(1, nint i), (0, nref 0)] [] (nT_Mo_l5 i) 33 3020
    refine n_iload_n C dn_Mo_388 rfl 0 rfl ?_
    refine n_iconst C dn_Mo_389 ?_
    refine n_icmp_ge C (tgt := 406) ⟨by omega, by omega⟩ ⟨by decide, by decide⟩ dn_Mo_390 (by decide) (fun c => absurd c (by omega)) (fun _ => ?_)
    refine n_aload_n C dn_Mo_393 rfl 1 rfl ?_
    refine n_get C (pos := 0) (f := 39) (ci := 7) (cn := kR7) (d := "[I") rfl kI7 rfl (by decide) (v := nref 28) rfl rfl nwf_7_106 dn_Mo_394 ?_
    refine n_iload_n C dn_Mo_397 rfl 0 rfl ?_
    refine n_iconst C dn_Mo_398 ?_
    refine n_iast C (pos := 28) (T' := (nT_Mo_l5 (i + 1))) rfl ⟨i1, i2⟩ ⟨by omega, by omega⟩ (by rw [fl_s i1]; rfl) dn_Mo_399 ?_
    refine n_iinc C (t := 0) (x := i) dn_Mo_400 rfl (by decide) (L' := [(1, nint (i + 1)), (0, nref 0)]) rfl ?_
    exact n_goto C (tgt := 388) dn_Mo_403 (by decide) ih
  show NN 1 X 388 [(1, nint 4), (0, nref 0)] [] (nT_Mo_l5 4) 33 3020
  refine n_iload_n C dn_Mo_388 rfl 0 rfl ?_
  refine n_iconst C dn_Mo_389 ?_
  refine n_icmp_ge C (tgt := 406) ⟨by decide, by decide⟩ ⟨by decide, by decide⟩ dn_Mo_390 (by decide) (fun _ => ?_) (fun c => absurd (by decide) c)
  refine n_sub (L' := [(0, nref 0)]) [1] rfl ?_
  exact n_vret C dn_Mo_406
