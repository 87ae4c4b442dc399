theorem dL_law_0 : decode cL_law 0 = .ok (.new 8, 3) := by decide +kernel
theorem dL_law_3 : decode cL_law 3 = .ok (.dup, 1) := by decide +kernel
theorem dL_law_4 : decode cL_law 4 = .ok (.invokespecial 64, 3) := by decide +kernel
theorem dL_law_7 : decode cL_law 7 = .ok (.astore_n 1, 1) := by decide +kernel
theorem dL_law_8 : decode cL_law 8 = .ok (.new 65, 3) := by decide +kernel
theorem dL_law_11 : decode cL_law 11 = .ok (.dup, 1) := by decide +kernel
theorem dL_law_12 : decode cL_law 12 = .ok (.invokespecial 67, 3) := by decide +kernel
theorem dL_law_15 : decode cL_law 15 = .ok (.astore_n 2, 1) := by decide +kernel
theorem dL_law_16 : decode cL_law 16 = .ok (.iconst 1, 1) := by decide +kernel
theorem dL_law_17 : decode cL_law 17 = .ok (.newarray .long, 2) := by decide +kernel
theorem dL_law_19 : decode cL_law 19 = .ok (.astore_n 3, 1) := by decide +kernel
theorem dL_law_20 : decode cL_law 20 = .ok (.iconst 0, 1) := by decide +kernel
theorem dL_law_21 : decode cL_law 21 = .ok (.istore 4, 2) := by decide +kernel
theorem dL_law_23 : decode cL_law 23 = .ok (.iload 4, 2) := by decide +kernel
theorem dL_law_25 : decode cL_law 25 = .ok (.aload_n 0, 1) := by decide +kernel
theorem dL_law_26 : decode cL_law 26 = .ok (.arraylength, 1) := by decide +kernel
theorem dL_law_27 : decode cL_law 27 = .ok (.bipush 9, 2) := by decide +kernel
theorem dL_law_29 : decode cL_law 29 = .ok (.isub, 1) := by decide +kernel
theorem dL_law_30 : decode cL_law 30 = .ok (.if_icmp .gt 1322, 3) := by decide +kernel
theorem dL_law_33 : decode cL_law 33 = .ok (.aload_n 0, 1) := by decide +kernel
theorem dL_law_34 : decode cL_law 34 = .ok (.iload 4, 2) := by decide +kernel
theorem dL_law_36 : decode cL_law 36 = .ok (.iaload, 1) := by decide +kernel
theorem dL_law_37 : decode cL_law 37 = .ok (.bipush 31, 2) := by decide +kernel
theorem dL_law_39 : decode cL_law 39 = .ok (.iand, 1) := by decide +kernel
theorem dL_law_40 : decode cL_law 40 = .ok (.tableswitch 1306 0 19 #[96, 169, 194, 250, 263, 319, 399, 455, 511, 657, 732, 807, 863, 931, 956, 981, 1113, 1169, 1213, 1281], 96) := by decide +kernel
theorem dL_law_136 : decode cL_law 136 = .ok (.aload_n 1, 1) := by decide +kernel
theorem dL_law_137 : decode cL_law 137 = .ok (.aload_n 0, 1) := by decide +kernel
theorem dL_law_138 : decode cL_law 138 = .ok (.iload 4, 2) := by decide +kernel
theorem dL_law_140 : decode cL_law 140 = .ok (.iconst 1, 1) := by decide +kernel
theorem dL_law_141 : decode cL_law 141 = .ok (.iadd, 1) := by decide +kernel
theorem dL_law_142 : decode cL_law 142 = .ok (.iaload, 1) := by decide +kernel
theorem dL_law_143 : decode cL_law 143 = .ok (.aload_n 0, 1) := by decide +kernel
theorem dL_law_144 : decode cL_law 144 = .ok (.iload 4, 2) := by decide +kernel
theorem dL_law_146 : decode cL_law 146 = .ok (.iconst 2, 1) := by decide +kernel
theorem dL_law_147 : decode cL_law 147 = .ok (.iadd, 1) := by decide +kernel
theorem dL_law_148 : decode cL_law 148 = .ok (.iaload, 1) := by decide +kernel
theorem dL_law_149 : decode cL_law 149 = .ok (.aload_n 0, 1) := by decide +kernel
theorem dL_law_150 : decode cL_law 150 = .ok (.iload 4, 2) := by decide +kernel
theorem dL_law_152 : decode cL_law 152 = .ok (.iconst 3, 1) := by decide +kernel
theorem dL_law_153 : decode cL_law 153 = .ok (.iadd, 1) := by decide +kernel
theorem dL_law_154 : decode cL_law 154 = .ok (.iaload, 1) := by decide +kernel
theorem dL_law_155 : decode cL_law 155 = .ok (.aload_n 0, 1) := by decide +kernel
theorem dL_law_156 : decode cL_law 156 = .ok (.iload 4, 2) := by decide +kernel
theorem dL_law_158 : decode cL_law 158 = .ok (.iconst 4, 1) := by decide +kernel
theorem dL_law_159 : decode cL_law 159 = .ok (.iadd, 1) := by decide +kernel
theorem dL_law_160 : decode cL_law 160 = .ok (.iaload, 1) := by decide +kernel
theorem dL_law_161 : decode cL_law 161 = .ok (.aload_n 0, 1) := by decide +kernel
theorem dL_law_162 : decode cL_law 162 = .ok (.iload 4, 2) := by decide +kernel
theorem dL_law_164 : decode cL_law 164 = .ok (.iconst 5, 1) := by decide +kernel
theorem dL_law_165 : decode cL_law 165 = .ok (.iadd, 1) := by decide +kernel
theorem dL_law_166 : decode cL_law 166 = .ok (.iaload, 1) := by decide +kernel
theorem dL_law_167 : decode cL_law 167 = .ok (.invokevirtual 68, 3) := by decide +kernel
theorem dL_law_170 : decode cL_law 170 = .ok (.aload_n 2, 1) := by decide +kernel
theorem dL_law_171 : decode cL_law 171 = .ok (.aload_n 0, 1) := by decide +kernel
theorem dL_law_172 : decode cL_law 172 = .ok (.iload 4, 2) := by decide +kernel
theorem dL_law_174 : decode cL_law 174 = .ok (.iconst 1, 1) := by decide +kernel
theorem dL_law_175 : decode cL_law 175 = .ok (.iadd, 1) := by decide +kernel
theorem dL_law_176 : decode cL_law 176 = .ok (.iaload, 1) := by decide +kernel
theorem dL_law_177 : decode cL_law 177 = .ok (.aload_n 0, 1) := by decide +kernel
theorem dL_law_178 : decode cL_law 178 = .ok (.iload 4, 2) := by decide +kernel
theorem dL_law_180 : decode cL_law 180 = .ok (.iconst 2, 1) := by decide +kernel
theorem dL_law_181 : decode cL_law 181 = .ok (.iadd, 1) := by decide +kernel
theorem dL_law_182 : decode cL_law 182 = .ok (.iaload, 1) := by decide +kernel
theorem dL_law_183 : decode cL_law 183 = .ok (.aload_n 0, 1) := by decide +kernel
theorem dL_law_184 : decode cL_law 184 = .ok (.iload 4, 2) := by decide +kernel
theorem dL_law_186 : decode cL_law 186 = .ok (.iconst 3, 1) := by decide +kernel
theorem dL_law_187 : decode cL_law 187 = .ok (.iadd, 1) := by decide +kernel
theorem dL_law_188 : decode cL_law 188 = .ok (.iaload, 1) := by decide +kernel
theorem dL_law_189 : decode cL_law 189 = .ok (.aload_n 0, 1) := by decide +kernel
theorem dL_law_190 : decode cL_law 190 = .ok (.iload 4, 2) := by decide +kernel
theorem dL_law_192 : decode cL_law 192 = .ok (.iconst 4, 1) := by decide +kernel
theorem dL_law_193 : decode cL_law 193 = .ok (.iadd, 1) := by decide +kernel
theorem dL_law_194 : decode cL_law 194 = .ok (.iaload, 1) := by decide +kernel
theorem dL_law_195 : decode cL_law 195 = .ok (.aload_n 0, 1) := by decide +kernel
theorem dL_law_196 : decode cL_law 196 = .ok (.iload 4, 2) := by decide +kernel
theorem dL_law_198 : decode cL_law 198 = .ok (.iconst 5, 1) := by decide +kernel
theorem dL_law_199 : decode cL_law 199 = .ok (.iadd, 1) := by decide +kernel
theorem dL_law_200 : decode cL_law 200 = .ok (.iaload, 1) := by decide +kernel
theorem dL_law_201 : decode cL_law 201 = .ok (.invokevirtual 72, 3) := by decide +kernel
theorem dL_law_204 : decode cL_law 204 = .ok (.if_icmp .eq 1142, 3) := by decide +kernel
theorem dL_law_207 : decode cL_law 207 = .ok (.iconst 0, 1) := by decide +kernel
theorem dL_law_208 : decode cL_law 208 = .ok (.ireturn, 1) := by decide +kernel
theorem dL_law_209 : decode cL_law 209 = .ok (.aload_n 1, 1) := by decide +kernel
theorem dL_law_210 : decode cL_law 210 = .ok (.aload_n 0, 1) := by decide +kernel
theorem dL_law_211 : decode cL_law 211 = .ok (.iload 4, 2) := by decide +kernel
theorem dL_law_213 : decode cL_law 213 = .ok (.iconst 1, 1) := by decide +kernel
theorem dL_law_214 : decode cL_law 214 = .ok (.iadd, 1) := by decide +kernel
theorem dL_law_215 : decode cL_law 215 = .ok (.iaload, 1) := by decide +kernel
theorem dL_law_216 : decode cL_law 216 = .ok (.invokevirtual 73, 3) := by decide +kernel
theorem dL_law_219 : decode cL_law 219 = .ok (.aload_n 2, 1) := by decide +kernel
theorem dL_law_220 : decode cL_law 220 = .ok (.aload_n 0, 1) := by decide +kernel
theorem dL_law_221 : decode cL_law 221 = .ok (.iload 4, 2) := by decide +kernel
theorem dL_law_223 : decode cL_law 223 = .ok (.iconst 1, 1) := by decide +kernel
theorem dL_law_224 : decode cL_law 224 = .ok (.iadd, 1) := by decide +kernel
theorem dL_law_225 : decode cL_law 225 = .ok (.iaload, 1) := by decide +kernel
theorem dL_law_226 : decode cL_law 226 = .ok (.invokevirtual 77, 3) := by decide +kernel
theorem dL_law_229 : decode cL_law 229 = .ok (.if_icmp .eq 1117, 3) := by decide +kernel
theorem dL_law_232 : decode cL_law 232 = .ok (.iconst 0, 1) := by decide +kernel
theorem dL_law_233 : decode cL_law 233 = .ok (.ireturn, 1) := by decide +kernel
theorem dL_law_234 : decode cL_law 234 = .ok (.aload_n 1, 1) := by decide +kernel
theorem dL_law_235 : decode cL_law 235 = .ok (.aload_n 0, 1) := by decide +kernel
theorem dL_law_236 : decode cL_law 236 = .ok (.iload 4, 2) := by decide +kernel
theorem dL_law_238 : decode cL_law 238 = .ok (.iconst 1, 1) := by decide +kernel
theorem dL_law_239 : decode cL_law 239 = .ok (.iadd, 1) := by decide +kernel
theorem dL_law_240 : decode cL_law 240 = .ok (.iaload, 1) := by decide +kernel
theorem dL_law_241 : decode cL_law 241 = .ok (.aload_n 3, 1) := by decide +kernel
theorem dL_law_242 : decode cL_law 242 = .ok (.invokestatic 78, 3) := by decide +kernel
theorem dL_law_245 : decode cL_law 245 = .ok (.istore 5, 2) := by decide +kernel
theorem dL_law_247 : decode cL_law 247 = .ok (.aload_n 2, 1) := by decide +kernel
theorem dL_law_248 : decode cL_law 248 = .ok (.aload_n 0, 1) := by decide +kernel
theorem dL_law_249 : decode cL_law 249 = .ok (.iload 4, 2) := by decide +kernel
theorem dL_law_251 : decode cL_law 251 = .ok (.iconst 1, 1) := by decide +kernel
theorem dL_law_252 : decode cL_law 252 = .ok (.iadd, 1) := by decide +kernel
theorem dL_law_253 : decode cL_law 253 = .ok (.iaload, 1) := by decide +kernel
theorem dL_law_254 : decode cL_law 254 = .ok (.invokevirtual 83, 3) := by decide +kernel
theorem dL_law_257 : decode cL_law 257 = .ok (.istore 6, 2) := by decide +kernel
theorem dL_law_259 : decode cL_law 259 = .ok (.aload_n 2, 1) := by decide +kernel
theorem dL_law_260 : decode cL_law 260 = .ok (.invokevirtual 84, 3) := by decide +kernel
theorem dL_law_263 : decode cL_law 263 = .ok (.iload 5, 2) := by decide +kernel
theorem dL_law_265 : decode cL_law 265 = .ok (.if_icmp .eq 5, 3) := by decide +kernel
theorem dL_law_268 : decode cL_law 268 = .ok (.iconst 0, 1) := by decide +kernel
theorem dL_law_269 : decode cL_law 269 = .ok (.ireturn, 1) := by decide +kernel
theorem dL_law_270 : decode cL_law 270 = .ok (.iload 5, 2) := by decide +kernel
theorem dL_law_272 : decode cL_law 272 = .ok (.ifCond .ne 15, 3) := by decide +kernel
theorem dL_law_275 : decode cL_law 275 = .ok (.aload_n 3, 1) := by decide +kernel
theorem dL_law_276 : decode cL_law 276 = .ok (.iconst 0, 1) := by decide +kernel
theorem dL_law_277 : decode cL_law 277 = .ok (.laload, 1) := by decide +kernel
theorem dL_law_278 : decode cL_law 278 = .ok (.iload 6, 2) := by decide +kernel
theorem dL_law_280 : decode cL_law 280 = .ok (.i2l, 1) := by decide +kernel
theorem dL_law_281 : decode cL_law 281 = .ok (.lcmp, 1) := by decide +kernel
theorem dL_law_282 : decode cL_law 282 = .ok (.ifCond .eq 5, 3) := by decide +kernel
theorem dL_law_285 : decode cL_law 285 = .ok (.iconst 0, 1) := by decide +kernel
theorem dL_law_286 : decode cL_law 286 = .ok (.ireturn, 1) := by decide +kernel
theorem dL_law_287 : decode cL_law 287 = .ok (.goto 1059, 3) := by decide +kernel
theorem dL_law_290 : decode cL_law 290 = .ok (.aload_n 1, 1) := by decide +kernel
theorem dL_law_291 : decode cL_law 291 = .ok (.invokevirtual 87, 3) := by decide +kernel
theorem dL_law_294 : decode cL_law 294 = .ok (.aload_n 2, 1) := by decide +kernel
theorem dL_law_295 : decode cL_law 295 = .ok (.invokevirtual 90, 3) := by decide +kernel
theorem dL_law_298 : decode cL_law 298 = .ok (.if_icmp .eq 1048, 3) := by decide +kernel
theorem dL_law_301 : decode cL_law 301 = .ok (.iconst 0, 1) := by decide +kernel
theorem dL_law_302 : decode cL_law 302 = .ok (.ireturn, 1) := by decide +kernel
theorem dL_law_303 : decode cL_law 303 = .ok (.aload_n 1, 1) := by decide +kernel
theorem dL_law_304 : decode cL_law 304 = .ok (.aload_n 0, 1) := by decide +kernel
theorem dL_law_305 : decode cL_law 305 = .ok (.iload 4, 2) := by decide +kernel
theorem dL_law_307 : decode cL_law 307 = .ok (.iconst 1, 1) := by decide +kernel
theorem dL_law_308 : decode cL_law 308 = .ok (.iadd, 1) := by decide +kernel
theorem dL_law_309 : decode cL_law 309 = .ok (.iaload, 1) := by decide +kernel
theorem dL_law_310 : decode cL_law 310 = .ok (.aload_n 3, 1) := by decide +kernel
theorem dL_law_311 : decode cL_law 311 = .ok (.invokestatic 91, 3) := by decide +kernel
theorem dL_law_314 : decode cL_law 314 = .ok (.istore 5, 2) := by decide +kernel
theorem dL_law_316 : decode cL_law 316 = .ok (.aload_n 2, 1) := by decide +kernel
theorem dL_law_317 : decode cL_law 317 = .ok (.aload_n 0, 1) := by decide +kernel
theorem dL_law_318 : decode cL_law 318 = .ok (.iload 4, 2) := by decide +kernel
theorem dL_law_320 : decode cL_law 320 = .ok (.iconst 1, 1) := by decide +kernel
theorem dL_law_321 : decode cL_law 321 = .ok (.iadd, 1) := by decide +kernel
theorem dL_law_322 : decode cL_law 322 = .ok (.iaload, 1) := by decide +kernel
theorem dL_law_323 : decode cL_law 323 = .ok (.invokevirtual 93, 3) := by decide +kernel
theorem dL_law_326 : decode cL_law 326 = .ok (.istore 6, 2) := by decide +kernel
theorem dL_law_328 : decode cL_law 328 = .ok (.aload_n 2, 1) := by decide +kernel
theorem dL_law_329 : decode cL_law 329 = .ok (.invokevirtual 84, 3) := by decide +kernel
theorem dL_law_332 : decode cL_law 332 = .ok (.iload 5, 2) := by decide +kernel
theorem dL_law_334 : decode cL_law 334 = .ok (.if_icmp .eq 5, 3) := by decide +kernel
theorem dL_law_337 : decode cL_law 337 = .ok (.iconst 0, 1) := by decide +kernel
theorem dL_law_338 : decode cL_law 338 = .ok (.ireturn, 1) := by decide +kernel
theorem dL_law_339 : decode cL_law 339 = .ok (.iload 5, 2) := by decide +kernel
theorem dL_law_341 : decode cL_law 341 = .ok (.ifCond .ne 15, 3) := by decide +kernel
theorem dL_law_344 : decode cL_law 344 = .ok (.aload_n 3, 1) := by decide +kernel
theorem dL_law_345 : decode cL_law 345 = .ok (.iconst 0, 1) := by decide +kernel
theorem dL_law_346 : decode cL_law 346 = .ok (.laload, 1) := by decide +kernel
theorem dL_law_347 : decode cL_law 347 = .ok (.iload 6, 2) := by decide +kernel
theorem dL_law_349 : decode cL_law 349 = .ok (.i2l, 1) := by decide +kernel
theorem dL_law_350 : decode cL_law 350 = .ok (.lcmp, 1) := by decide +kernel
theorem dL_law_351 : decode cL_law 351 = .ok (.ifCond .eq 5, 3) := by decide +kernel
theorem dL_law_354 : decode cL_law 354 = .ok (.iconst 0, 1) := by decide +kernel
theorem dL_law_355 : decode cL_law 355 = .ok (.ireturn, 1) := by decide +kernel
theorem dL_law_356 : decode cL_law 356 = .ok (.goto 990, 3) := by decide +kernel
theorem dL_law_359 : decode cL_law 359 = .ok (.aload_n 1, 1) := by decide +kernel
theorem dL_law_360 : decode cL_law 360 = .ok (.aload_n 0, 1) := by decide +kernel
theorem dL_law_361 : decode cL_law 361 = .ok (.iload 4, 2) := by decide +kernel
theorem dL_law_363 : decode cL_law 363 = .ok (.iconst 1, 1) := by decide +kernel
theorem dL_law_364 : decode cL_law 364 = .ok (.iadd, 1) := by decide +kernel
theorem dL_law_365 : decode cL_law 365 = .ok (.iaload, 1) := by decide +kernel
theorem dL_law_366 : decode cL_law 366 = .ok (.aload_n 0, 1) := by decide +kernel
theorem dL_law_367 : decode cL_law 367 = .ok (.iload 4, 2) := by decide +kernel
theorem dL_law_369 : decode cL_law 369 = .ok (.iconst 2, 1) := by decide +kernel
theorem dL_law_370 : decode cL_law 370 = .ok (.iadd, 1) := by decide +kernel
theorem dL_law_371 : decode cL_law 371 = .ok (.iaload, 1) := by decide +kernel
theorem dL_law_372 : decode cL_law 372 = .ok (.aload_n 0, 1) := by decide +kernel
theorem dL_law_373 : decode cL_law 373 = .ok (.iload 4, 2) := by decide +kernel
theorem dL_law_375 : decode cL_law 375 = .ok (.iconst 3, 1) := by decide +kernel
theorem dL_law_376 : decode cL_law 376 = .ok (.iadd, 1) := by decide +kernel
theorem dL_law_377 : decode cL_law 377 = .ok (.iaload, 1) := by decide +kernel
theorem dL_law_378 : decode cL_law 378 = .ok (.aload_n 3, 1) := by decide +kernel
theorem dL_law_379 : decode cL_law 379 = .ok (.invokestatic 94, 3) := by decide +kernel
theorem dL_law_382 : decode cL_law 382 = .ok (.istore 5, 2) := by decide +kernel
theorem dL_law_384 : decode cL_law 384 = .ok (.aload_n 2, 1) := by decide +kernel
theorem dL_law_385 : decode cL_law 385 = .ok (.aload_n 0, 1) := by decide +kernel
theorem dL_law_386 : decode cL_law 386 = .ok (.iload 4, 2) := by decide +kernel
theorem dL_law_388 : decode cL_law 388 = .ok (.iconst 1, 1) := by decide +kernel
theorem dL_law_389 : decode cL_law 389 = .ok (.iadd, 1) := by decide +kernel
theorem dL_law_390 : decode cL_law 390 = .ok (.iaload, 1) := by decide +kernel
theorem dL_law_391 : decode cL_law 391 = .ok (.aload_n 0, 1) := by decide +kernel
theorem dL_law_392 : decode cL_law 392 = .ok (.iload 4, 2) := by decide +kernel
theorem dL_law_394 : decode cL_law 394 = .ok (.iconst 2, 1) := by decide +kernel
theorem dL_law_395 : decode cL_law 395 = .ok (.iadd, 1) := by decide +kernel
theorem dL_law_396 : decode cL_law 396 = .ok (.iaload, 1) := by decide +kernel
theorem dL_law_397 : decode cL_law 397 = .ok (.aload_n 0, 1) := by decide +kernel
theorem dL_law_398 : decode cL_law 398 = .ok (.iload 4, 2) := by decide +kernel
theorem dL_law_400 : decode cL_law 400 = .ok (.iconst 3, 1) := by decide +kernel
theorem dL_law_401 : decode cL_law 401 = .ok (.iadd, 1) := by decide +kernel
theorem dL_law_402 : decode cL_law 402 = .ok (.iaload, 1) := by decide +kernel
theorem dL_law_403 : decode cL_law 403 = .ok (.invokevirtual 97, 3) := by decide +kernel
theorem dL_law_406 : decode cL_law 406 = .ok (.istore 6, 2) := by decide +kernel
theorem dL_law_408 : decode cL_law 408 = .ok (.aload_n 2, 1) := by decide +kernel
theorem dL_law_409 : decode cL_law 409 = .ok (.invokevirtual 84, 3) := by decide +kernel
theorem dL_law_412 : decode cL_law 412 = .ok (.iload 5, 2) := by decide +kernel
theorem dL_law_414 : decode cL_law 414 = .ok (.if_icmp .eq 5, 3) := by decide +kernel
theorem dL_law_417 : decode cL_law 417 = .ok (.iconst 0, 1) := by decide +kernel
theorem dL_law_418 : decode cL_law 418 = .ok (.ireturn, 1) := by decide +kernel
theorem dL_law_419 : decode cL_law 419 = .ok (.iload 5, 2) := by decide +kernel
theorem dL_law_421 : decode cL_law 421 = .ok (.ifCond .ne 15, 3) := by decide +kernel
theorem dL_law_424 : decode cL_law 424 = .ok (.aload_n 3, 1) := by decide +kernel
theorem dL_law_425 : decode cL_law 425 = .ok (.iconst 0, 1) := by decide +kernel
theorem dL_law_426 : decode cL_law 426 = .ok (.laload, 1) := by decide +kernel
theorem dL_law_427 : decode cL_law 427 = .ok (.iload 6, 2) := by decide +kernel
theorem dL_law_429 : decode cL_law 429 = .ok (.i2l, 1) := by decide +kernel
theorem dL_law_430 : decode cL_law 430 = .ok (.lcmp, 1) := by decide +kernel
theorem dL_law_431 : decode cL_law 431 = .ok (.ifCond .eq 5, 3) := by decide +kernel
theorem dL_law_434 : decode cL_law 434 = .ok (.iconst 0, 1) := by decide +kernel
theorem dL_law_435 : decode cL_law 435 = .ok (.ireturn, 1) := by decide +kernel
theorem dL_law_436 : decode cL_law 436 = .ok (.goto 910, 3) := by decide +kernel
theorem dL_law_439 : decode cL_law 439 = .ok (.aload_n 1, 1) := by decide +kernel
theorem dL_law_440 : decode cL_law 440 = .ok (.aload_n 0, 1) := by decide +kernel
theorem dL_law_441 : decode cL_law 441 = .ok (.iload 4, 2) := by decide +kernel
theorem dL_law_443 : decode cL_law 443 = .ok (.iconst 1, 1) := by decide +kernel
theorem dL_law_444 : decode cL_law 444 = .ok (.iadd, 1) := by decide +kernel
theorem dL_law_445 : decode cL_law 445 = .ok (.iaload, 1) := by decide +kernel
theorem dL_law_446 : decode cL_law 446 = .ok (.aload_n 3, 1) := by decide +kernel
theorem dL_law_447 : decode cL_law 447 = .ok (.invokestatic 98, 3) := by decide +kernel
theorem dL_law_450 : decode cL_law 450 = .ok (.istore 5, 2) := by decide +kernel
theorem dL_law_452 : decode cL_law 452 = .ok (.aload_n 2, 1) := by decide +kernel
theorem dL_law_453 : decode cL_law 453 = .ok (.aload_n 0, 1) := by decide +kernel
theorem dL_law_454 : decode cL_law 454 = .ok (.iload 4, 2) := by decide +kernel
theorem dL_law_456 : decode cL_law 456 = .ok (.iconst 1, 1) := by decide +kernel
theorem dL_law_457 : decode cL_law 457 = .ok (.iadd, 1) := by decide +kernel
theorem dL_law_458 : decode cL_law 458 = .ok (.iaload, 1) := by decide +kernel
theorem dL_law_459 : decode cL_law 459 = .ok (.invokevirtual 100, 3) := by decide +kernel
theorem dL_law_462 : decode cL_law 462 = .ok (.istore 6, 2) := by decide +kernel
theorem dL_law_464 : decode cL_law 464 = .ok (.aload_n 2, 1) := by decide +kernel
theorem dL_law_465 : decode cL_law 465 = .ok (.invokevirtual 84, 3) := by decide +kernel
theorem dL_law_468 : decode cL_law 468 = .ok (.iload 5, 2) := by decide +kernel
theorem dL_law_470 : decode cL_law 470 = .ok (.if_icmp .eq 5, 3) := by decide +kernel
theorem dL_law_473 : decode cL_law 473 = .ok (.iconst 0, 1) := by decide +kernel
theorem dL_law_474 : decode cL_law 474 = .ok (.ireturn, 1) := by decide +kernel
theorem dL_law_475 : decode cL_law 475 = .ok (.iload 5, 2) := by decide +kernel
theorem dL_law_477 : decode cL_law 477 = .ok (.ifCond .ne 15, 3) := by decide +kernel
theorem dL_law_480 : decode cL_law 480 = .ok (.aload_n 3, 1) := by decide +kernel
theorem dL_law_481 : decode cL_law 481 = .ok (.iconst 0, 1) := by decide +kernel
theorem dL_law_482 : decode cL_law 482 = .ok (.laload, 1) := by decide +kernel
theorem dL_law_483 : decode cL_law 483 = .ok (.iload 6, 2) := by decide +kernel
theorem dL_law_485 : decode cL_law 485 = .ok (.i2l, 1) := by decide +kernel
theorem dL_law_486 : decode cL_law 486 = .ok (.lcmp, 1) := by decide +kernel
theorem dL_law_487 : decode cL_law 487 = .ok (.ifCond .eq 5, 3) := by decide +kernel
theorem dL_law_490 : decode cL_law 490 = .ok (.iconst 0, 1) := by decide +kernel
theorem dL_law_491 : decode cL_law 491 = .ok (.ireturn, 1) := by decide +kernel
theorem dL_law_492 : decode cL_law 492 = .ok (.goto 854, 3) := by decide +kernel
theorem dL_law_495 : decode cL_law 495 = .ok (.aload_n 1, 1) := by decide +kernel
theorem dL_law_496 : decode cL_law 496 = .ok (.aload_n 0, 1) := by decide +kernel
theorem dL_law_497 : decode cL_law 497 = .ok (.iload 4, 2) := by decide +kernel
theorem dL_law_499 : decode cL_law 499 = .ok (.iconst 1, 1) := by decide +kernel
theorem dL_law_500 : decode cL_law 500 = .ok (.iadd, 1) := by decide +kernel
theorem dL_law_501 : decode cL_law 501 = .ok (.iaload, 1) := by decide +kernel
theorem dL_law_502 : decode cL_law 502 = .ok (.aload_n 3, 1) := by decide +kernel
theorem dL_law_503 : decode cL_law 503 = .ok (.invokestatic 101, 3) := by decide +kernel
theorem dL_law_506 : decode cL_law 506 = .ok (.istore 5, 2) := by decide +kernel
theorem dL_law_508 : decode cL_law 508 = .ok (.aload_n 2, 1) := by decide +kernel
theorem dL_law_509 : decode cL_law 509 = .ok (.aload_n 0, 1) := by decide +kernel
theorem dL_law_510 : decode cL_law 510 = .ok (.iload 4, 2) := by decide +kernel
theorem dL_law_512 : decode cL_law 512 = .ok (.iconst 1, 1) := by decide +kernel
theorem dL_law_513 : decode cL_law 513 = .ok (.iadd, 1) := by decide +kernel
theorem dL_law_514 : decode cL_law 514 = .ok (.iaload, 1) := by decide +kernel
theorem dL_law_515 : decode cL_law 515 = .ok (.invokevirtual 103, 3) := by decide +kernel
theorem dL_law_518 : decode cL_law 518 = .ok (.istore 6, 2) := by decide +kernel
theorem dL_law_520 : decode cL_law 520 = .ok (.aload_n 2, 1) := by decide +kernel
theorem dL_law_521 : decode cL_law 521 = .ok (.invokevirtual 84, 3) := by decide +kernel
theorem dL_law_524 : decode cL_law 524 = .ok (.iload 5, 2) := by decide +kernel
theorem dL_law_526 : decode cL_law 526 = .ok (.if_icmp .eq 5, 3) := by decide +kernel
theorem dL_law_529 : decode cL_law 529 = .ok (.iconst 0, 1) := by decide +kernel
theorem dL_law_530 : decode cL_law 530 = .ok (.ireturn, 1) := by decide +kernel
theorem dL_law_531 : decode cL_law 531 = .ok (.iload 5, 2) := by decide +kernel
theorem dL_law_533 : decode cL_law 533 = .ok (.ifCond .ne 15, 3) := by decide +kernel
theorem dL_law_536 : decode cL_law 536 = .ok (.aload_n 3, 1) := by decide +kernel
theorem dL_law_537 : decode cL_law 537 = .ok (.iconst 0, 1) := by decide +kernel
theorem dL_law_538 : decode cL_law 538 = .ok (.laload, 1) := by decide +kernel
theorem dL_law_539 : decode cL_law 539 = .ok (.iload 6, 2) := by decide +kernel
theorem dL_law_541 : decode cL_law 541 = .ok (.i2l, 1) := by decide +kernel
theorem dL_law_542 : decode cL_law 542 = .ok (.lcmp, 1) := by decide +kernel
theorem dL_law_543 : decode cL_law 543 = .ok (.ifCond .eq 5, 3) := by decide +kernel
theorem dL_law_546 : decode cL_law 546 = .ok (.iconst 0, 1) := by decide +kernel
theorem dL_law_547 : decode cL_law 547 = .ok (.ireturn, 1) := by decide +kernel
theorem dL_law_548 : decode cL_law 548 = .ok (.goto 798, 3) := by decide +kernel
theorem dL_law_551 : decode cL_law 551 = .ok (.aload_n 1, 1) := by decide +kernel
theorem dL_law_552 : decode cL_law 552 = .ok (.aload_n 0, 1) := by decide +kernel
theorem dL_law_553 : decode cL_law 553 = .ok (.iload 4, 2) := by decide +kernel
theorem dL_law_555 : decode cL_law 555 = .ok (.iconst 1, 1) := by decide +kernel
theorem dL_law_556 : decode cL_law 556 = .ok (.iadd, 1) := by decide +kernel
theorem dL_law_557 : decode cL_law 557 = .ok (.iaload, 1) := by decide +kernel
theorem dL_law_558 : decode cL_law 558 = .ok (.aload_n 0, 1) := by decide +kernel
theorem dL_law_559 : decode cL_law 559 = .ok (.iload 4, 2) := by decide +kernel
theorem dL_law_561 : decode cL_law 561 = .ok (.iconst 2, 1) := by decide +kernel
theorem dL_law_562 : decode cL_law 562 = .ok (.iadd, 1) := by decide +kernel
theorem dL_law_563 : decode cL_law 563 = .ok (.iaload, 1) := by decide +kernel
theorem dL_law_564 : decode cL_law 564 = .ok (.aload_n 0, 1) := by decide +kernel
theorem dL_law_565 : decode cL_law 565 = .ok (.iload 4, 2) := by decide +kernel
theorem dL_law_567 : decode cL_law 567 = .ok (.iconst 3, 1) := by decide +kernel
theorem dL_law_568 : decode cL_law 568 = .ok (.iadd, 1) := by decide +kernel
theorem dL_law_569 : decode cL_law 569 = .ok (.iaload, 1) := by decide +kernel
theorem dL_law_570 : decode cL_law 570 = .ok (.aload_n 0, 1) := by decide +kernel
theorem dL_law_571 : decode cL_law 571 = .ok (.iload 4, 2) := by decide +kernel
theorem dL_law_573 : decode cL_law 573 = .ok (.iconst 4, 1) := by decide +kernel
theorem dL_law_574 : decode cL_law 574 = .ok (.iadd, 1) := by decide +kernel
theorem dL_law_575 : decode cL_law 575 = .ok (.iaload, 1) := by decide +kernel
theorem dL_law_576 : decode cL_law 576 = .ok (.aload_n 0, 1) := by decide +kernel
theorem dL_law_577 : decode cL_law 577 = .ok (.iload 4, 2) := by decide +kernel
theorem dL_law_579 : decode cL_law 579 = .ok (.iconst 5, 1) := by decide +kernel
theorem dL_law_580 : decode cL_law 580 = .ok (.iadd, 1) := by decide +kernel
theorem dL_law_581 : decode cL_law 581 = .ok (.iaload, 1) := by decide +kernel
theorem dL_law_582 : decode cL_law 582 = .ok (.aload_n 0, 1) := by decide +kernel
theorem dL_law_583 : decode cL_law 583 = .ok (.iload 4, 2) := by decide +kernel
theorem dL_law_585 : decode cL_law 585 = .ok (.bipush 6, 2) := by decide +kernel
theorem dL_law_587 : decode cL_law 587 = .ok (.iadd, 1) := by decide +kernel
theorem dL_law_588 : decode cL_law 588 = .ok (.iaload, 1) := by decide +kernel
theorem dL_law_589 : decode cL_law 589 = .ok (.aload_n 0, 1) := by decide +kernel
theorem dL_law_590 : decode cL_law 590 = .ok (.iload 4, 2) := by decide +kernel
theorem dL_law_592 : decode cL_law 592 = .ok (.bipush 7, 2) := by decide +kernel
theorem dL_law_594 : decode cL_law 594 = .ok (.iadd, 1) := by decide +kernel
theorem dL_law_595 : decode cL_law 595 = .ok (.iaload, 1) := by decide +kernel
theorem dL_law_596 : decode cL_law 596 = .ok (.aload_n 0, 1) := by decide +kernel
theorem dL_law_597 : decode cL_law 597 = .ok (.iload 4, 2) := by decide +kernel
theorem dL_law_599 : decode cL_law 599 = .ok (.bipush 8, 2) := by decide +kernel
theorem dL_law_601 : decode cL_law 601 = .ok (.iadd, 1) := by decide +kernel
theorem dL_law_602 : decode cL_law 602 = .ok (.iaload, 1) := by decide +kernel
theorem dL_law_603 : decode cL_law 603 = .ok (.aload_n 3, 1) := by decide +kernel
theorem dL_law_604 : decode cL_law 604 = .ok (.invokestatic 104, 3) := by decide +kernel
theorem dL_law_607 : decode cL_law 607 = .ok (.istore 5, 2) := by decide +kernel
theorem dL_law_609 : decode cL_law 609 = .ok (.aload_n 2, 1) := by decide +kernel
theorem dL_law_610 : decode cL_law 610 = .ok (.aload_n 0, 1) := by decide +kernel
theorem dL_law_611 : decode cL_law 611 = .ok (.iload 4, 2) := by decide +kernel
theorem dL_law_613 : decode cL_law 613 = .ok (.iconst 1, 1) := by decide +kernel
theorem dL_law_614 : decode cL_law 614 = .ok (.iadd, 1) := by decide +kernel
theorem dL_law_615 : decode cL_law 615 = .ok (.iaload, 1) := by decide +kernel
theorem dL_law_616 : decode cL_law 616 = .ok (.aload_n 0, 1) := by decide +kernel
theorem dL_law_617 : decode cL_law 617 = .ok (.iload 4, 2) := by decide +kernel
theorem dL_law_619 : decode cL_law 619 = .ok (.iconst 2, 1) := by decide +kernel
theorem dL_law_620 : decode cL_law 620 = .ok (.iadd, 1) := by decide +kernel
theorem dL_law_621 : decode cL_law 621 = .ok (.iaload, 1) := by decide +kernel
theorem dL_law_622 : decode cL_law 622 = .ok (.aload_n 0, 1) := by decide +kernel
theorem dL_law_623 : decode cL_law 623 = .ok (.iload 4, 2) := by decide +kernel
theorem dL_law_625 : decode cL_law 625 = .ok (.iconst 3, 1) := by decide +kernel
theorem dL_law_626 : decode cL_law 626 = .ok (.iadd, 1) := by decide +kernel
theorem dL_law_627 : decode cL_law 627 = .ok (.iaload, 1) := by decide +kernel
theorem dL_law_628 : decode cL_law 628 = .ok (.aload_n 0, 1) := by decide +kernel
theorem dL_law_629 : decode cL_law 629 = .ok (.iload 4, 2) := by decide +kernel
theorem dL_law_631 : decode cL_law 631 = .ok (.iconst 4, 1) := by decide +kernel
theorem dL_law_632 : decode cL_law 632 = .ok (.iadd, 1) := by decide +kernel
theorem dL_law_633 : decode cL_law 633 = .ok (.iaload, 1) := by decide +kernel
theorem dL_law_634 : decode cL_law 634 = .ok (.aload_n 0, 1) := by decide +kernel
theorem dL_law_635 : decode cL_law 635 = .ok (.iload 4, 2) := by decide +kernel
theorem dL_law_637 : decode cL_law 637 = .ok (.iconst 5, 1) := by decide +kernel
theorem dL_law_638 : decode cL_law 638 = .ok (.iadd, 1) := by decide +kernel
theorem dL_law_639 : decode cL_law 639 = .ok (.iaload, 1) := by decide +kernel
theorem dL_law_640 : decode cL_law 640 = .ok (.aload_n 0, 1) := by decide +kernel
theorem dL_law_641 : decode cL_law 641 = .ok (.iload 4, 2) := by decide +kernel
theorem dL_law_643 : decode cL_law 643 = .ok (.bipush 6, 2) := by decide +kernel
theorem dL_law_645 : decode cL_law 645 = .ok (.iadd, 1) := by decide +kernel
theorem dL_law_646 : decode cL_law 646 = .ok (.iaload, 1) := by decide +kernel
theorem dL_law_647 : decode cL_law 647 = .ok (.aload_n 0, 1) := by decide +kernel
theorem dL_law_648 : decode cL_law 648 = .ok (.iload 4, 2) := by decide +kernel
theorem dL_law_650 : decode cL_law 650 = .ok (.bipush 7, 2) := by decide +kernel
theorem dL_law_652 : decode cL_law 652 = .ok (.iadd, 1) := by decide +kernel
theorem dL_law_653 : decode cL_law 653 = .ok (.iaload, 1) := by decide +kernel
theorem dL_law_654 : decode cL_law 654 = .ok (.aload_n 0, 1) := by decide +kernel
theorem dL_law_655 : decode cL_law 655 = .ok (.iload 4, 2) := by decide +kernel
theorem dL_law_657 : decode cL_law 657 = .ok (.bipush 8, 2) := by decide +kernel
theorem dL_law_659 : decode cL_law 659 = .ok (.iadd, 1) := by decide +kernel
theorem dL_law_660 : decode cL_law 660 = .ok (.iaload, 1) := by decide +kernel
theorem dL_law_661 : decode cL_law 661 = .ok (.invokevirtual 107, 3) := by decide +kernel
theorem dL_law_664 : decode cL_law 664 = .ok (.istore 6, 2) := by decide +kernel
theorem dL_law_666 : decode cL_law 666 = .ok (.aload_n 2, 1) := by decide +kernel
theorem dL_law_667 : decode cL_law 667 = .ok (.invokevirtual 84, 3) := by decide +kernel
theorem dL_law_670 : decode cL_law 670 = .ok (.iload 5, 2) := by decide +kernel
theorem dL_law_672 : decode cL_law 672 = .ok (.if_icmp .eq 5, 3) := by decide +kernel
theorem dL_law_675 : decode cL_law 675 = .ok (.iconst 0, 1) := by decide +kernel
theorem dL_law_676 : decode cL_law 676 = .ok (.ireturn, 1) := by decide +kernel
theorem dL_law_677 : decode cL_law 677 = .ok (.iload 5, 2) := by decide +kernel
theorem dL_law_679 : decode cL_law 679 = .ok (.ifCond .ne 15, 3) := by decide +kernel
theorem dL_law_682 : decode cL_law 682 = .ok (.aload_n 3, 1) := by decide +kernel
theorem dL_law_683 : decode cL_law 683 = .ok (.iconst 0, 1) := by decide +kernel
theorem dL_law_684 : decode cL_law 684 = .ok (.laload, 1) := by decide +kernel
theorem dL_law_685 : decode cL_law 685 = .ok (.iload 6, 2) := by decide +kernel
theorem dL_law_687 : decode cL_law 687 = .ok (.i2l, 1) := by decide +kernel
theorem dL_law_688 : decode cL_law 688 = .ok (.lcmp, 1) := by decide +kernel
theorem dL_law_689 : decode cL_law 689 = .ok (.ifCond .eq 5, 3) := by decide +kernel
theorem dL_law_692 : decode cL_law 692 = .ok (.iconst 0, 1) := by decide +kernel
theorem dL_law_693 : decode cL_law 693 = .ok (.ireturn, 1) := by decide +kernel
theorem dL_law_694 : decode cL_law 694 = .ok (.goto 652, 3) := by decide +kernel
theorem dL_law_697 : decode cL_law 697 = .ok (.aload_n 1, 1) := by decide +kernel
theorem dL_law_698 : decode cL_law 698 = .ok (.aload_n 0, 1) := by decide +kernel
theorem dL_law_699 : decode cL_law 699 = .ok (.iload 4, 2) := by decide +kernel
theorem dL_law_701 : decode cL_law 701 = .ok (.iconst 1, 1) := by decide +kernel
theorem dL_law_702 : decode cL_law 702 = .ok (.iadd, 1) := by decide +kernel
theorem dL_law_703 : decode cL_law 703 = .ok (.iaload, 1) := by decide +kernel
theorem dL_law_704 : decode cL_law 704 = .ok (.aload_n 0, 1) := by decide +kernel
theorem dL_law_705 : decode cL_law 705 = .ok (.iload 4, 2) := by decide +kernel
theorem dL_law_707 : decode cL_law 707 = .ok (.iconst 2, 1) := by decide +kernel
theorem dL_law_708 : decode cL_law 708 = .ok (.iadd, 1) := by decide +kernel
theorem dL_law_709 : decode cL_law 709 = .ok (.iaload, 1) := by decide +kernel
theorem dL_law_710 : decode cL_law 710 = .ok (.aload_n 3, 1) := by decide +kernel
theorem dL_law_711 : decode cL_law 711 = .ok (.invokestatic 108, 3) := by decide +kernel
theorem dL_law_714 : decode cL_law 714 = .ok (.istore 5, 2) := by decide +kernel
theorem dL_law_716 : decode cL_law 716 = .ok (.aload_n 2, 1) := by decide +kernel
theorem dL_law_717 : decode cL_law 717 = .ok (.aload_n 0, 1) := by decide +kernel
theorem dL_law_718 : decode cL_law 718 = .ok (.iload 4, 2) := by decide +kernel
theorem dL_law_720 : decode cL_law 720 = .ok (.iconst 1, 1) := by decide +kernel
theorem dL_law_721 : decode cL_law 721 = .ok (.iadd, 1) := by decide +kernel
theorem dL_law_722 : decode cL_law 722 = .ok (.iaload, 1) := by decide +kernel
theorem dL_law_723 : decode cL_law 723 = .ok (.aload_n 0, 1) := by decide +kernel
theorem dL_law_724 : decode cL_law 724 = .ok (.iload 4, 2) := by decide +kernel
theorem dL_law_726 : decode cL_law 726 = .ok (.iconst 2, 1) := by decide +kernel
theorem dL_law_727 : decode cL_law 727 = .ok (.iadd, 1) := by decide +kernel
theorem dL_law_728 : decode cL_law 728 = .ok (.iaload, 1) := by decide +kernel
theorem dL_law_729 : decode cL_law 729 = .ok (.invokevirtual 111, 3) := by decide +kernel
theorem dL_law_732 : decode cL_law 732 = .ok (.istore 6, 2) := by decide +kernel
theorem dL_law_734 : decode cL_law 734 = .ok (.aload_n 2, 1) := by decide +kernel
theorem dL_law_735 : decode cL_law 735 = .ok (.invokevirtual 84, 3) := by decide +kernel
theorem dL_law_738 : decode cL_law 738 = .ok (.iload 5, 2) := by decide +kernel
theorem dL_law_740 : decode cL_law 740 = .ok (.if_icmp .eq 5, 3) := by decide +kernel
theorem dL_law_743 : decode cL_law 743 = .ok (.iconst 0, 1) := by decide +kernel
theorem dL_law_744 : decode cL_law 744 = .ok (.ireturn, 1) := by decide +kernel
theorem dL_law_745 : decode cL_law 745 = .ok (.iload 5, 2) := by decide +kernel
theorem dL_law_747 : decode cL_law 747 = .ok (.ifCond .ne 22, 3) := by decide +kernel
theorem dL_law_750 : decode cL_law 750 = .ok (.aload_n 3, 1) := by decide +kernel
theorem dL_law_751 : decode cL_law 751 = .ok (.iconst 0, 1) := by decide +kernel
theorem dL_law_752 : decode cL_law 752 = .ok (.laload, 1) := by decide +kernel
theorem dL_law_753 : decode cL_law 753 = .ok (.iload 6, 2) := by decide +kernel
theorem dL_law_755 : decode cL_law 755 = .ok (.ifCond .eq 7, 3) := by decide +kernel
theorem dL_law_758 : decode cL_law 758 = .ok (.lconst 1, 1) := by decide +kernel
theorem dL_law_759 : decode cL_law 759 = .ok (.goto 4, 3) := by decide +kernel
theorem dL_law_762 : decode cL_law 762 = .ok (.lconst 0, 1) := by decide +kernel
theorem dL_law_763 : decode cL_law 763 = .ok (.lcmp, 1) := by decide +kernel
theorem dL_law_764 : decode cL_law 764 = .ok (.ifCond .eq 5, 3) := by decide +kernel
theorem dL_law_767 : decode cL_law 767 = .ok (.iconst 0, 1) := by decide +kernel
theorem dL_law_768 : decode cL_law 768 = .ok (.ireturn, 1) := by decide +kernel
theorem dL_law_769 : decode cL_law 769 = .ok (.goto 577, 3) := by decide +kernel
theorem dL_law_772 : decode cL_law 772 = .ok (.aload_n 1, 1) := by decide +kernel
theorem dL_law_773 : decode cL_law 773 = .ok (.aload_n 0, 1) := by decide +kernel
theorem dL_law_774 : decode cL_law 774 = .ok (.iload 4, 2) := by decide +kernel
theorem dL_law_776 : decode cL_law 776 = .ok (.iconst 1, 1) := by decide +kernel
theorem dL_law_777 : decode cL_law 777 = .ok (.iadd, 1) := by decide +kernel
theorem dL_law_778 : decode cL_law 778 = .ok (.iaload, 1) := by decide +kernel
theorem dL_law_779 : decode cL_law 779 = .ok (.aload_n 0, 1) := by decide +kernel
theorem dL_law_780 : decode cL_law 780 = .ok (.iload 4, 2) := by decide +kernel
theorem dL_law_782 : decode cL_law 782 = .ok (.iconst 2, 1) := by decide +kernel
theorem dL_law_783 : decode cL_law 783 = .ok (.iadd, 1) := by decide +kernel
theorem dL_law_784 : decode cL_law 784 = .ok (.iaload, 1) := by decide +kernel
theorem dL_law_785 : decode cL_law 785 = .ok (.aload_n 3, 1) := by decide +kernel
theorem dL_law_786 : decode cL_law 786 = .ok (.invokestatic 112, 3) := by decide +kernel
theorem dL_law_789 : decode cL_law 789 = .ok (.istore 5, 2) := by decide +kernel
theorem dL_law_791 : decode cL_law 791 = .ok (.aload_n 2, 1) := by decide +kernel
theorem dL_law_792 : decode cL_law 792 = .ok (.aload_n 0, 1) := by decide +kernel
theorem dL_law_793 : decode cL_law 793 = .ok (.iload 4, 2) := by decide +kernel
theorem dL_law_795 : decode cL_law 795 = .ok (.iconst 1, 1) := by decide +kernel
theorem dL_law_796 : decode cL_law 796 = .ok (.iadd, 1) := by decide +kernel
theorem dL_law_797 : decode cL_law 797 = .ok (.iaload, 1) := by decide +kernel
theorem dL_law_798 : decode cL_law 798 = .ok (.aload_n 0, 1) := by decide +kernel
theorem dL_law_799 : decode cL_law 799 = .ok (.iload 4, 2) := by decide +kernel
theorem dL_law_801 : decode cL_law 801 = .ok (.iconst 2, 1) := by decide +kernel
theorem dL_law_802 : decode cL_law 802 = .ok (.iadd, 1) := by decide +kernel
theorem dL_law_803 : decode cL_law 803 = .ok (.iaload, 1) := by decide +kernel
theorem dL_law_804 : decode cL_law 804 = .ok (.invokevirtual 114, 3) := by decide +kernel
theorem dL_law_807 : decode cL_law 807 = .ok (.istore 6, 2) := by decide +kernel
theorem dL_law_809 : decode cL_law 809 = .ok (.aload_n 2, 1) := by decide +kernel
theorem dL_law_810 : decode cL_law 810 = .ok (.invokevirtual 84, 3) := by decide +kernel
theorem dL_law_813 : decode cL_law 813 = .ok (.iload 5, 2) := by decide +kernel
theorem dL_law_815 : decode cL_law 815 = .ok (.if_icmp .eq 5, 3) := by decide +kernel
theorem dL_law_818 : decode cL_law 818 = .ok (.iconst 0, 1) := by decide +kernel
theorem dL_law_819 : decode cL_law 819 = .ok (.ireturn, 1) := by decide +kernel
theorem dL_law_820 : decode cL_law 820 = .ok (.iload 5, 2) := by decide +kernel
theorem dL_law_822 : decode cL_law 822 = .ok (.ifCond .ne 22, 3) := by decide +kernel
theorem dL_law_825 : decode cL_law 825 = .ok (.aload_n 3, 1) := by decide +kernel
theorem dL_law_826 : decode cL_law 826 = .ok (.iconst 0, 1) := by decide +kernel
theorem dL_law_827 : decode cL_law 827 = .ok (.laload, 1) := by decide +kernel
theorem dL_law_828 : decode cL_law 828 = .ok (.iload 6, 2) := by decide +kernel
theorem dL_law_830 : decode cL_law 830 = .ok (.ifCond .eq 7, 3) := by decide +kernel
theorem dL_law_833 : decode cL_law 833 = .ok (.lconst 1, 1) := by decide +kernel
theorem dL_law_834 : decode cL_law 834 = .ok (.goto 4, 3) := by decide +kernel
theorem dL_law_837 : decode cL_law 837 = .ok (.lconst 0, 1) := by decide +kernel
theorem dL_law_838 : decode cL_law 838 = .ok (.lcmp, 1) := by decide +kernel
theorem dL_law_839 : decode cL_law 839 = .ok (.ifCond .eq 5, 3) := by decide +kernel
theorem dL_law_842 : decode cL_law 842 = .ok (.iconst 0, 1) := by decide +kernel
theorem dL_law_843 : decode cL_law 843 = .ok (.ireturn, 1) := by decide +kernel
theorem dL_law_844 : decode cL_law 844 = .ok (.goto 502, 3) := by decide +kernel
theorem dL_law_847 : decode cL_law 847 = .ok (.aload_n 1, 1) := by decide +kernel
theorem dL_law_848 : decode cL_law 848 = .ok (.aload_n 0, 1) := by decide +kernel
theorem dL_law_849 : decode cL_law 849 = .ok (.iload 4, 2) := by decide +kernel
theorem dL_law_851 : decode cL_law 851 = .ok (.iconst 1, 1) := by decide +kernel
theorem dL_law_852 : decode cL_law 852 = .ok (.iadd, 1) := by decide +kernel
theorem dL_law_853 : decode cL_law 853 = .ok (.iaload, 1) := by decide +kernel
theorem dL_law_854 : decode cL_law 854 = .ok (.aload_n 3, 1) := by decide +kernel
theorem dL_law_855 : decode cL_law 855 = .ok (.invokestatic 115, 3) := by decide +kernel
theorem dL_law_858 : decode cL_law 858 = .ok (.istore 5, 2) := by decide +kernel
theorem dL_law_860 : decode cL_law 860 = .ok (.aload_n 2, 1) := by decide +kernel
theorem dL_law_861 : decode cL_law 861 = .ok (.aload_n 0, 1) := by decide +kernel
theorem dL_law_862 : decode cL_law 862 = .ok (.iload 4, 2) := by decide +kernel
theorem dL_law_864 : decode cL_law 864 = .ok (.iconst 1, 1) := by decide +kernel
theorem dL_law_865 : decode cL_law 865 = .ok (.iadd, 1) := by decide +kernel
theorem dL_law_866 : decode cL_law 866 = .ok (.iaload, 1) := by decide +kernel
theorem dL_law_867 : decode cL_law 867 = .ok (.invokevirtual 117, 3) := by decide +kernel
theorem dL_law_870 : decode cL_law 870 = .ok (.istore 6, 2) := by decide +kernel
theorem dL_law_872 : decode cL_law 872 = .ok (.aload_n 2, 1) := by decide +kernel
theorem dL_law_873 : decode cL_law 873 = .ok (.invokevirtual 84, 3) := by decide +kernel
theorem dL_law_876 : decode cL_law 876 = .ok (.iload 5, 2) := by decide +kernel
theorem dL_law_878 : decode cL_law 878 = .ok (.if_icmp .eq 5, 3) := by decide +kernel
theorem dL_law_881 : decode cL_law 881 = .ok (.iconst 0, 1) := by decide +kernel
theorem dL_law_882 : decode cL_law 882 = .ok (.ireturn, 1) := by decide +kernel
theorem dL_law_883 : decode cL_law 883 = .ok (.iload 5, 2) := by decide +kernel
theorem dL_law_885 : decode cL_law 885 = .ok (.ifCond .ne 15, 3) := by decide +kernel
theorem dL_law_888 : decode cL_law 888 = .ok (.aload_n 3, 1) := by decide +kernel
theorem dL_law_889 : decode cL_law 889 = .ok (.iconst 0, 1) := by decide +kernel
theorem dL_law_890 : decode cL_law 890 = .ok (.laload, 1) := by decide +kernel
theorem dL_law_891 : decode cL_law 891 = .ok (.iload 6, 2) := by decide +kernel
theorem dL_law_893 : decode cL_law 893 = .ok (.i2l, 1) := by decide +kernel
theorem dL_law_894 : decode cL_law 894 = .ok (.lcmp, 1) := by decide +kernel
theorem dL_law_895 : decode cL_law 895 = .ok (.ifCond .eq 5, 3) := by decide +kernel
theorem dL_law_898 : decode cL_law 898 = .ok (.iconst 0, 1) := by decide +kernel
theorem dL_law_899 : decode cL_law 899 = .ok (.ireturn, 1) := by decide +kernel
theorem dL_law_900 : decode cL_law 900 = .ok (.goto 446, 3) := by decide +kernel
theorem dL_law_903 : decode cL_law 903 = .ok (.aload_n 1, 1) := by decide +kernel
theorem dL_law_904 : decode cL_law 904 = .ok (.aload_n 0, 1) := by decide +kernel
theorem dL_law_905 : decode cL_law 905 = .ok (.iload 4, 2) := by decide +kernel
theorem dL_law_907 : decode cL_law 907 = .ok (.iconst 1, 1) := by decide +kernel
theorem dL_law_908 : decode cL_law 908 = .ok (.iadd, 1) := by decide +kernel
theorem dL_law_909 : decode cL_law 909 = .ok (.iaload, 1) := by decide +kernel
theorem dL_law_910 : decode cL_law 910 = .ok (.aload_n 0, 1) := by decide +kernel
theorem dL_law_911 : decode cL_law 911 = .ok (.iload 4, 2) := by decide +kernel
theorem dL_law_913 : decode cL_law 913 = .ok (.iconst 2, 1) := by decide +kernel
theorem dL_law_914 : decode cL_law 914 = .ok (.iadd, 1) := by decide +kernel
theorem dL_law_915 : decode cL_law 915 = .ok (.iaload, 1) := by decide +kernel
theorem dL_law_916 : decode cL_law 916 = .ok (.aload_n 3, 1) := by decide +kernel
theorem dL_law_917 : decode cL_law 917 = .ok (.invokestatic 118, 3) := by decide +kernel
theorem dL_law_920 : decode cL_law 920 = .ok (.istore 5, 2) := by decide +kernel
theorem dL_law_922 : decode cL_law 922 = .ok (.aload_n 2, 1) := by decide +kernel
theorem dL_law_923 : decode cL_law 923 = .ok (.aload_n 0, 1) := by decide +kernel
theorem dL_law_924 : decode cL_law 924 = .ok (.iload 4, 2) := by decide +kernel
theorem dL_law_926 : decode cL_law 926 = .ok (.iconst 1, 1) := by decide +kernel
theorem dL_law_927 : decode cL_law 927 = .ok (.iadd, 1) := by decide +kernel
theorem dL_law_928 : decode cL_law 928 = .ok (.iaload, 1) := by decide +kernel
theorem dL_law_929 : decode cL_law 929 = .ok (.aload_n 0, 1) := by decide +kernel
theorem dL_law_930 : decode cL_law 930 = .ok (.iload 4, 2) := by decide +kernel
theorem dL_law_932 : decode cL_law 932 = .ok (.iconst 2, 1) := by decide +kernel
theorem dL_law_933 : decode cL_law 933 = .ok (.iadd, 1) := by decide +kernel
theorem dL_law_934 : decode cL_law 934 = .ok (.iaload, 1) := by decide +kernel
theorem dL_law_935 : decode cL_law 935 = .ok (.invokevirtual 120, 3) := by decide +kernel
theorem dL_law_938 : decode cL_law 938 = .ok (.istore 6, 2) := by decide +kernel
theorem dL_law_940 : decode cL_law 940 = .ok (.aload_n 2, 1) := by decide +kernel
theorem dL_law_941 : decode cL_law 941 = .ok (.invokevirtual 84, 3) := by decide +kernel
theorem dL_law_944 : decode cL_law 944 = .ok (.iload 5, 2) := by decide +kernel
theorem dL_law_946 : decode cL_law 946 = .ok (.if_icmp .eq 5, 3) := by decide +kernel
theorem dL_law_949 : decode cL_law 949 = .ok (.iconst 0, 1) := by decide +kernel
theorem dL_law_950 : decode cL_law 950 = .ok (.ireturn, 1) := by decide +kernel
theorem dL_law_951 : decode cL_law 951 = .ok (.iload 5, 2) := by decide +kernel
theorem dL_law_953 : decode cL_law 953 = .ok (.ifCond .ne 15, 3) := by decide +kernel
theorem dL_law_956 : decode cL_law 956 = .ok (.aload_n 3, 1) := by decide +kernel
theorem dL_law_957 : decode cL_law 957 = .ok (.iconst 0, 1) := by decide +kernel
theorem dL_law_958 : decode cL_law 958 = .ok (.laload, 1) := by decide +kernel
theorem dL_law_959 : decode cL_law 959 = .ok (.iload 6, 2) := by decide +kernel
theorem dL_law_961 : decode cL_law 961 = .ok (.i2l, 1) := by decide +kernel
theorem dL_law_962 : decode cL_law 962 = .ok (.lcmp, 1) := by decide +kernel
theorem dL_law_963 : decode cL_law 963 = .ok (.ifCond .eq 5, 3) := by decide +kernel
theorem dL_law_966 : decode cL_law 966 = .ok (.iconst 0, 1) := by decide +kernel
theorem dL_law_967 : decode cL_law 967 = .ok (.ireturn, 1) := by decide +kernel
theorem dL_law_968 : decode cL_law 968 = .ok (.goto 378, 3) := by decide +kernel
theorem dL_law_971 : decode cL_law 971 = .ok (.aload_n 1, 1) := by decide +kernel
theorem dL_law_972 : decode cL_law 972 = .ok (.aload_n 0, 1) := by decide +kernel
theorem dL_law_973 : decode cL_law 973 = .ok (.iload 4, 2) := by decide +kernel
theorem dL_law_975 : decode cL_law 975 = .ok (.iconst 1, 1) := by decide +kernel
theorem dL_law_976 : decode cL_law 976 = .ok (.iadd, 1) := by decide +kernel
theorem dL_law_977 : decode cL_law 977 = .ok (.iaload, 1) := by decide +kernel
theorem dL_law_978 : decode cL_law 978 = .ok (.invokevirtual 121, 3) := by decide +kernel
theorem dL_law_981 : decode cL_law 981 = .ok (.aload_n 2, 1) := by decide +kernel
theorem dL_law_982 : decode cL_law 982 = .ok (.aload_n 0, 1) := by decide +kernel
theorem dL_law_983 : decode cL_law 983 = .ok (.iload 4, 2) := by decide +kernel
theorem dL_law_985 : decode cL_law 985 = .ok (.iconst 1, 1) := by decide +kernel
theorem dL_law_986 : decode cL_law 986 = .ok (.iadd, 1) := by decide +kernel
theorem dL_law_987 : decode cL_law 987 = .ok (.iaload, 1) := by decide +kernel
theorem dL_law_988 : decode cL_law 988 = .ok (.invokevirtual 124, 3) := by decide +kernel
theorem dL_law_991 : decode cL_law 991 = .ok (.if_icmp .eq 355, 3) := by decide +kernel
theorem dL_law_994 : decode cL_law 994 = .ok (.iconst 0, 1) := by decide +kernel
theorem dL_law_995 : decode cL_law 995 = .ok (.ireturn, 1) := by decide +kernel
theorem dL_law_996 : decode cL_law 996 = .ok (.aload_n 1, 1) := by decide +kernel
theorem dL_law_997 : decode cL_law 997 = .ok (.aload_n 0, 1) := by decide +kernel
theorem dL_law_998 : decode cL_law 998 = .ok (.iload 4, 2) := by decide +kernel
theorem dL_law_1000 : decode cL_law 1000 = .ok (.iconst 1, 1) := by decide +kernel
theorem dL_law_1001 : decode cL_law 1001 = .ok (.iadd, 1) := by decide +kernel
theorem dL_law_1002 : decode cL_law 1002 = .ok (.iaload, 1) := by decide +kernel
theorem dL_law_1003 : decode cL_law 1003 = .ok (.invokevirtual 125, 3) := by decide +kernel
theorem dL_law_1006 : decode cL_law 1006 = .ok (.aload_n 2, 1) := by decide +kernel
theorem dL_law_1007 : decode cL_law 1007 = .ok (.aload_n 0, 1) := by decide +kernel
theorem dL_law_1008 : decode cL_law 1008 = .ok (.iload 4, 2) := by decide +kernel
theorem dL_law_1010 : decode cL_law 1010 = .ok (.iconst 1, 1) := by decide +kernel
theorem dL_law_1011 : decode cL_law 1011 = .ok (.iadd, 1) := by decide +kernel
theorem dL_law_1012 : decode cL_law 1012 = .ok (.iaload, 1) := by decide +kernel
theorem dL_law_1013 : decode cL_law 1013 = .ok (.invokevirtual 128, 3) := by decide +kernel
theorem dL_law_1016 : decode cL_law 1016 = .ok (.if_icmp .eq 330, 3) := by decide +kernel
theorem dL_law_1019 : decode cL_law 1019 = .ok (.iconst 0, 1) := by decide +kernel
theorem dL_law_1020 : decode cL_law 1020 = .ok (.ireturn, 1) := by decide +kernel
theorem dL_law_1021 : decode cL_law 1021 = .ok (.aload_n 1, 1) := by decide +kernel
theorem dL_law_1022 : decode cL_law 1022 = .ok (.aload_n 0, 1) := by decide +kernel
theorem dL_law_1023 : decode cL_law 1023 = .ok (.iload 4, 2) := by decide +kernel
theorem dL_law_1025 : decode cL_law 1025 = .ok (.iconst 1, 1) := by decide +kernel
theorem dL_law_1026 : decode cL_law 1026 = .ok (.iadd, 1) := by decide +kernel
theorem dL_law_1027 : decode cL_law 1027 = .ok (.iaload, 1) := by decide +kernel
theorem dL_law_1028 : decode cL_law 1028 = .ok (.aload_n 0, 1) := by decide +kernel
theorem dL_law_1029 : decode cL_law 1029 = .ok (.iload 4, 2) := by decide +kernel
theorem dL_law_1031 : decode cL_law 1031 = .ok (.iconst 2, 1) := by decide +kernel
theorem dL_law_1032 : decode cL_law 1032 = .ok (.iadd, 1) := by decide +kernel
theorem dL_law_1033 : decode cL_law 1033 = .ok (.iaload, 1) := by decide +kernel
theorem dL_law_1034 : decode cL_law 1034 = .ok (.aload_n 0, 1) := by decide +kernel
theorem dL_law_1035 : decode cL_law 1035 = .ok (.iload 4, 2) := by decide +kernel
theorem dL_law_1037 : decode cL_law 1037 = .ok (.iconst 3, 1) := by decide +kernel
theorem dL_law_1038 : decode cL_law 1038 = .ok (.iadd, 1) := by decide +kernel
theorem dL_law_1039 : decode cL_law 1039 = .ok (.iaload, 1) := by decide +kernel
theorem dL_law_1040 : decode cL_law 1040 = .ok (.aload_n 0, 1) := by decide +kernel
theorem dL_law_1041 : decode cL_law 1041 = .ok (.iload 4, 2) := by decide +kernel
theorem dL_law_1043 : decode cL_law 1043 = .ok (.iconst 4, 1) := by decide +kernel
theorem dL_law_1044 : decode cL_law 1044 = .ok (.iadd, 1) := by decide +kernel
theorem dL_law_1045 : decode cL_law 1045 = .ok (.iaload, 1) := by decide +kernel
theorem dL_law_1046 : decode cL_law 1046 = .ok (.aload_n 0, 1) := by decide +kernel
theorem dL_law_1047 : decode cL_law 1047 = .ok (.iload 4, 2) := by decide +kernel
theorem dL_law_1049 : decode cL_law 1049 = .ok (.iconst 5, 1) := by decide +kernel
theorem dL_law_1050 : decode cL_law 1050 = .ok (.iadd, 1) := by decide +kernel
theorem dL_law_1051 : decode cL_law 1051 = .ok (.iaload, 1) := by decide +kernel
theorem dL_law_1052 : decode cL_law 1052 = .ok (.aload_n 0, 1) := by decide +kernel
theorem dL_law_1053 : decode cL_law 1053 = .ok (.iload 4, 2) := by decide +kernel
theorem dL_law_1055 : decode cL_law 1055 = .ok (.bipush 6, 2) := by decide +kernel
theorem dL_law_1057 : decode cL_law 1057 = .ok (.iadd, 1) := by decide +kernel
theorem dL_law_1058 : decode cL_law 1058 = .ok (.iaload, 1) := by decide +kernel
theorem dL_law_1059 : decode cL_law 1059 = .ok (.aload_n 0, 1) := by decide +kernel
theorem dL_law_1060 : decode cL_law 1060 = .ok (.iload 4, 2) := by decide +kernel
theorem dL_law_1062 : decode cL_law 1062 = .ok (.bipush 7, 2) := by decide +kernel
theorem dL_law_1064 : decode cL_law 1064 = .ok (.iadd, 1) := by decide +kernel
theorem dL_law_1065 : decode cL_law 1065 = .ok (.iaload, 1) := by decide +kernel
theorem dL_law_1066 : decode cL_law 1066 = .ok (.aload_n 3, 1) := by decide +kernel
theorem dL_law_1067 : decode cL_law 1067 = .ok (.invokestatic 129, 3) := by decide +kernel
theorem dL_law_1070 : decode cL_law 1070 = .ok (.istore 5, 2) := by decide +kernel
theorem dL_law_1072 : decode cL_law 1072 = .ok (.aload_n 2, 1) := by decide +kernel
theorem dL_law_1073 : decode cL_law 1073 = .ok (.aload_n 0, 1) := by decide +kernel
theorem dL_law_1074 : decode cL_law 1074 = .ok (.iload 4, 2) := by decide +kernel
theorem dL_law_1076 : decode cL_law 1076 = .ok (.iconst 1, 1) := by decide +kernel
theorem dL_law_1077 : decode cL_law 1077 = .ok (.iadd, 1) := by decide +kernel
theorem dL_law_1078 : decode cL_law 1078 = .ok (.iaload, 1) := by decide +kernel
theorem dL_law_1079 : decode cL_law 1079 = .ok (.aload_n 0, 1) := by decide +kernel
theorem dL_law_1080 : decode cL_law 1080 = .ok (.iload 4, 2) := by decide +kernel
theorem dL_law_1082 : decode cL_law 1082 = .ok (.iconst 2, 1) := by decide +kernel
theorem dL_law_1083 : decode cL_law 1083 = .ok (.iadd, 1) := by decide +kernel
theorem dL_law_1084 : decode cL_law 1084 = .ok (.iaload, 1) := by decide +kernel
theorem dL_law_1085 : decode cL_law 1085 = .ok (.aload_n 0, 1) := by decide +kernel
theorem dL_law_1086 : decode cL_law 1086 = .ok (.iload 4, 2) := by decide +kernel
theorem dL_law_1088 : decode cL_law 1088 = .ok (.iconst 3, 1) := by decide +kernel
theorem dL_law_1089 : decode cL_law 1089 = .ok (.iadd, 1) := by decide +kernel
theorem dL_law_1090 : decode cL_law 1090 = .ok (.iaload, 1) := by decide +kernel
theorem dL_law_1091 : decode cL_law 1091 = .ok (.aload_n 0, 1) := by decide +kernel
theorem dL_law_1092 : decode cL_law 1092 = .ok (.iload 4, 2) := by decide +kernel
theorem dL_law_1094 : decode cL_law 1094 = .ok (.iconst 4, 1) := by decide +kernel
theorem dL_law_1095 : decode cL_law 1095 = .ok (.iadd, 1) := by decide +kernel
theorem dL_law_1096 : decode cL_law 1096 = .ok (.iaload, 1) := by decide +kernel
theorem dL_law_1097 : decode cL_law 1097 = .ok (.aload_n 0, 1) := by decide +kernel
theorem dL_law_1098 : decode cL_law 1098 = .ok (.iload 4, 2) := by decide +kernel
theorem dL_law_1100 : decode cL_law 1100 = .ok (.iconst 5, 1) := by decide +kernel
theorem dL_law_1101 : decode cL_law 1101 = .ok (.iadd, 1) := by decide +kernel
theorem dL_law_1102 : decode cL_law 1102 = .ok (.iaload, 1) := by decide +kernel
theorem dL_law_1103 : decode cL_law 1103 = .ok (.aload_n 0, 1) := by decide +kernel
theorem dL_law_1104 : decode cL_law 1104 = .ok (.iload 4, 2) := by decide +kernel
theorem dL_law_1106 : decode cL_law 1106 = .ok (.bipush 6, 2) := by decide +kernel
theorem dL_law_1108 : decode cL_law 1108 = .ok (.iadd, 1) := by decide +kernel
theorem dL_law_1109 : decode cL_law 1109 = .ok (.iaload, 1) := by decide +kernel
theorem dL_law_1110 : decode cL_law 1110 = .ok (.aload_n 0, 1) := by decide +kernel
theorem dL_law_1111 : decode cL_law 1111 = .ok (.iload 4, 2) := by decide +kernel
theorem dL_law_1113 : decode cL_law 1113 = .ok (.bipush 7, 2) := by decide +kernel
theorem dL_law_1115 : decode cL_law 1115 = .ok (.iadd, 1) := by decide +kernel
theorem dL_law_1116 : decode cL_law 1116 = .ok (.iaload, 1) := by decide +kernel
theorem dL_law_1117 : decode cL_law 1117 = .ok (.invokevirtual 132, 3) := by decide +kernel
theorem dL_law_1120 : decode cL_law 1120 = .ok (.istore 6, 2) := by decide +kernel
theorem dL_law_1122 : decode cL_law 1122 = .ok (.aload_n 2, 1) := by decide +kernel
theorem dL_law_1123 : decode cL_law 1123 = .ok (.invokevirtual 84, 3) := by decide +kernel
theorem dL_law_1126 : decode cL_law 1126 = .ok (.iload 5, 2) := by decide +kernel
theorem dL_law_1128 : decode cL_law 1128 = .ok (.if_icmp .eq 5, 3) := by decide +kernel
theorem dL_law_1131 : decode cL_law 1131 = .ok (.iconst 0, 1) := by decide +kernel
theorem dL_law_1132 : decode cL_law 1132 = .ok (.ireturn, 1) := by decide +kernel
theorem dL_law_1133 : decode cL_law 1133 = .ok (.iload 5, 2) := by decide +kernel
theorem dL_law_1135 : decode cL_law 1135 = .ok (.ifCond .ne 15, 3) := by decide +kernel
theorem dL_law_1138 : decode cL_law 1138 = .ok (.aload_n 3, 1) := by decide +kernel
theorem dL_law_1139 : decode cL_law 1139 = .ok (.iconst 0, 1) := by decide +kernel
theorem dL_law_1140 : decode cL_law 1140 = .ok (.laload, 1) := by decide +kernel
theorem dL_law_1141 : decode cL_law 1141 = .ok (.iload 6, 2) := by decide +kernel
theorem dL_law_1143 : decode cL_law 1143 = .ok (.i2l, 1) := by decide +kernel
theorem dL_law_1144 : decode cL_law 1144 = .ok (.lcmp, 1) := by decide +kernel
theorem dL_law_1145 : decode cL_law 1145 = .ok (.ifCond .eq 5, 3) := by decide +kernel
theorem dL_law_1148 : decode cL_law 1148 = .ok (.iconst 0, 1) := by decide +kernel
theorem dL_law_1149 : decode cL_law 1149 = .ok (.ireturn, 1) := by decide +kernel
theorem dL_law_1150 : decode cL_law 1150 = .ok (.goto 196, 3) := by decide +kernel
theorem dL_law_1153 : decode cL_law 1153 = .ok (.aload_n 1, 1) := by decide +kernel
theorem dL_law_1154 : decode cL_law 1154 = .ok (.aload_n 0, 1) := by decide +kernel
theorem dL_law_1155 : decode cL_law 1155 = .ok (.iload 4, 2) := by decide +kernel
theorem dL_law_1157 : decode cL_law 1157 = .ok (.iconst 1, 1) := by decide +kernel
theorem dL_law_1158 : decode cL_law 1158 = .ok (.iadd, 1) := by decide +kernel
theorem dL_law_1159 : decode cL_law 1159 = .ok (.iaload, 1) := by decide +kernel
theorem dL_law_1160 : decode cL_law 1160 = .ok (.aload_n 3, 1) := by decide +kernel
theorem dL_law_1161 : decode cL_law 1161 = .ok (.invokestatic 133, 3) := by decide +kernel
theorem dL_law_1164 : decode cL_law 1164 = .ok (.istore 5, 2) := by decide +kernel
theorem dL_law_1166 : decode cL_law 1166 = .ok (.aload_n 2, 1) := by decide +kernel
theorem dL_law_1167 : decode cL_law 1167 = .ok (.aload_n 0, 1) := by decide +kernel
theorem dL_law_1168 : decode cL_law 1168 = .ok (.iload 4, 2) := by decide +kernel
theorem dL_law_1170 : decode cL_law 1170 = .ok (.iconst 1, 1) := by decide +kernel
theorem dL_law_1171 : decode cL_law 1171 = .ok (.iadd, 1) := by decide +kernel
theorem dL_law_1172 : decode cL_law 1172 = .ok (.iaload, 1) := by decide +kernel
theorem dL_law_1173 : decode cL_law 1173 = .ok (.invokevirtual 135, 3) := by decide +kernel
theorem dL_law_1176 : decode cL_law 1176 = .ok (.istore 6, 2) := by decide +kernel
theorem dL_law_1178 : decode cL_law 1178 = .ok (.aload_n 2, 1) := by decide +kernel
theorem dL_law_1179 : decode cL_law 1179 = .ok (.invokevirtual 84, 3) := by decide +kernel
theorem dL_law_1182 : decode cL_law 1182 = .ok (.iload 5, 2) := by decide +kernel
theorem dL_law_1184 : decode cL_law 1184 = .ok (.if_icmp .eq 5, 3) := by decide +kernel
theorem dL_law_1187 : decode cL_law 1187 = .ok (.iconst 0, 1) := by decide +kernel
theorem dL_law_1188 : decode cL_law 1188 = .ok (.ireturn, 1) := by decide +kernel
theorem dL_law_1189 : decode cL_law 1189 = .ok (.iload 5, 2) := by decide +kernel
theorem dL_law_1191 : decode cL_law 1191 = .ok (.ifCond .ne 15, 3) := by decide +kernel
theorem dL_law_1194 : decode cL_law 1194 = .ok (.aload_n 3, 1) := by decide +kernel
theorem dL_law_1195 : decode cL_law 1195 = .ok (.iconst 0, 1) := by decide +kernel
theorem dL_law_1196 : decode cL_law 1196 = .ok (.laload, 1) := by decide +kernel
theorem dL_law_1197 : decode cL_law 1197 = .ok (.iload 6, 2) := by decide +kernel
theorem dL_law_1199 : decode cL_law 1199 = .ok (.i2l, 1) := by decide +kernel
theorem dL_law_1200 : decode cL_law 1200 = .ok (.lcmp, 1) := by decide +kernel
theorem dL_law_1201 : decode cL_law 1201 = .ok (.ifCond .eq 5, 3) := by decide +kernel
theorem dL_law_1204 : decode cL_law 1204 = .ok (.iconst 0, 1) := by decide +kernel
theorem dL_law_1205 : decode cL_law 1205 = .ok (.ireturn, 1) := by decide +kernel
theorem dL_law_1206 : decode cL_law 1206 = .ok (.goto 140, 3) := by decide +kernel
theorem dL_law_1209 : decode cL_law 1209 = .ok (.aload_n 1, 1) := by decide +kernel
theorem dL_law_1210 : decode cL_law 1210 = .ok (.aload_n 3, 1) := by decide +kernel
theorem dL_law_1211 : decode cL_law 1211 = .ok (.invokestatic 136, 3) := by decide +kernel
theorem dL_law_1214 : decode cL_law 1214 = .ok (.istore 5, 2) := by decide +kernel
theorem dL_law_1216 : decode cL_law 1216 = .ok (.aload_n 2, 1) := by decide +kernel
theorem dL_law_1217 : decode cL_law 1217 = .ok (.invokevirtual 139, 3) := by decide +kernel
theorem dL_law_1220 : decode cL_law 1220 = .ok (.istore 6, 2) := by decide +kernel
theorem dL_law_1222 : decode cL_law 1222 = .ok (.aload_n 2, 1) := by decide +kernel
theorem dL_law_1223 : decode cL_law 1223 = .ok (.invokevirtual 84, 3) := by decide +kernel
theorem dL_law_1226 : decode cL_law 1226 = .ok (.iload 5, 2) := by decide +kernel
theorem dL_law_1228 : decode cL_law 1228 = .ok (.if_icmp .eq 5, 3) := by decide +kernel
theorem dL_law_1231 : decode cL_law 1231 = .ok (.iconst 0, 1) := by decide +kernel
theorem dL_law_1232 : decode cL_law 1232 = .ok (.ireturn, 1) := by decide +kernel
theorem dL_law_1233 : decode cL_law 1233 = .ok (.iload 5, 2) := by decide +kernel
theorem dL_law_1235 : decode cL_law 1235 = .ok (.ifCond .ne 15, 3) := by decide +kernel
theorem dL_law_1238 : decode cL_law 1238 = .ok (.aload_n 3, 1) := by decide +kernel
theorem dL_law_1239 : decode cL_law 1239 = .ok (.iconst 0, 1) := by decide +kernel
theorem dL_law_1240 : decode cL_law 1240 = .ok (.laload, 1) := by decide +kernel
theorem dL_law_1241 : decode cL_law 1241 = .ok (.iload 6, 2) := by decide +kernel
theorem dL_law_1243 : decode cL_law 1243 = .ok (.i2l, 1) := by decide +kernel
theorem dL_law_1244 : decode cL_law 1244 = .ok (.lcmp, 1) := by decide +kernel
theorem dL_law_1245 : decode cL_law 1245 = .ok (.ifCond .eq 5, 3) := by decide +kernel
theorem dL_law_1248 : decode cL_law 1248 = .ok (.iconst 0, 1) := by decide +kernel
theorem dL_law_1249 : decode cL_law 1249 = .ok (.ireturn, 1) := by decide +kernel
theorem dL_law_1250 : decode cL_law 1250 = .ok (.goto 96, 3) := by decide +kernel
theorem dL_law_1253 : decode cL_law 1253 = .ok (.aload_n 1, 1) := by decide +kernel
theorem dL_law_1254 : decode cL_law 1254 = .ok (.aload_n 0, 1) := by decide +kernel
theorem dL_law_1255 : decode cL_law 1255 = .ok (.iload 4, 2) := by decide +kernel
theorem dL_law_1257 : decode cL_law 1257 = .ok (.iconst 1, 1) := by decide +kernel
theorem dL_law_1258 : decode cL_law 1258 = .ok (.iadd, 1) := by decide +kernel
theorem dL_law_1259 : decode cL_law 1259 = .ok (.iaload, 1) := by decide +kernel
theorem dL_law_1260 : decode cL_law 1260 = .ok (.aload_n 0, 1) := by decide +kernel
theorem dL_law_1261 : decode cL_law 1261 = .ok (.iload 4, 2) := by decide +kernel
theorem dL_law_1263 : decode cL_law 1263 = .ok (.iconst 2, 1) := by decide +kernel
theorem dL_law_1264 : decode cL_law 1264 = .ok (.iadd, 1) := by decide +kernel
theorem dL_law_1265 : decode cL_law 1265 = .ok (.iaload, 1) := by decide +kernel
theorem dL_law_1266 : decode cL_law 1266 = .ok (.aload_n 3, 1) := by decide +kernel
theorem dL_law_1267 : decode cL_law 1267 = .ok (.invokestatic 140, 3) := by decide +kernel
theorem dL_law_1270 : decode cL_law 1270 = .ok (.istore 5, 2) := by decide +kernel
theorem dL_law_1272 : decode cL_law 1272 = .ok (.aload_n 2, 1) := by decide +kernel
theorem dL_law_1273 : decode cL_law 1273 = .ok (.aload_n 0, 1) := by decide +kernel
theorem dL_law_1274 : decode cL_law 1274 = .ok (.iload 4, 2) := by decide +kernel
theorem dL_law_1276 : decode cL_law 1276 = .ok (.iconst 1, 1) := by decide +kernel
theorem dL_law_1277 : decode cL_law 1277 = .ok (.iadd, 1) := by decide +kernel
theorem dL_law_1278 : decode cL_law 1278 = .ok (.iaload, 1) := by decide +kernel
theorem dL_law_1279 : decode cL_law 1279 = .ok (.aload_n 0, 1) := by decide +kernel
theorem dL_law_1280 : decode cL_law 1280 = .ok (.iload 4, 2) := by decide +kernel
theorem dL_law_1282 : decode cL_law 1282 = .ok (.iconst 2, 1) := by decide +kernel
theorem dL_law_1283 : decode cL_law 1283 = .ok (.iadd, 1) := by decide +kernel
theorem dL_law_1284 : decode cL_law 1284 = .ok (.iaload, 1) := by decide +kernel
theorem dL_law_1285 : decode cL_law 1285 = .ok (.invokevirtual 142, 3) := by decide +kernel
theorem dL_law_1288 : decode cL_law 1288 = .ok (.istore 6, 2) := by decide +kernel
theorem dL_law_1290 : decode cL_law 1290 = .ok (.aload_n 2, 1) := by decide +kernel
theorem dL_law_1291 : decode cL_law 1291 = .ok (.invokevirtual 84, 3) := by decide +kernel
theorem dL_law_1294 : decode cL_law 1294 = .ok (.iload 5, 2) := by decide +kernel
theorem dL_law_1296 : decode cL_law 1296 = .ok (.if_icmp .eq 5, 3) := by decide +kernel
theorem dL_law_1299 : decode cL_law 1299 = .ok (.iconst 0, 1) := by decide +kernel
theorem dL_law_1300 : decode cL_law 1300 = .ok (.ireturn, 1) := by decide +kernel
theorem dL_law_1301 : decode cL_law 1301 = .ok (.iload 5, 2) := by decide +kernel
theorem dL_law_1303 : decode cL_law 1303 = .ok (.ifCond .ne 15, 3) := by decide +kernel
theorem dL_law_1306 : decode cL_law 1306 = .ok (.aload_n 3, 1) := by decide +kernel
theorem dL_law_1307 : decode cL_law 1307 = .ok (.iconst 0, 1) := by decide +kernel
theorem dL_law_1308 : decode cL_law 1308 = .ok (.laload, 1) := by decide +kernel
theorem dL_law_1309 : decode cL_law 1309 = .ok (.iload 6, 2) := by decide +kernel
theorem dL_law_1311 : decode cL_law 1311 = .ok (.i2l, 1) := by decide +kernel
theorem dL_law_1312 : decode cL_law 1312 = .ok (.lcmp, 1) := by decide +kernel
theorem dL_law_1313 : decode cL_law 1313 = .ok (.ifCond .eq 5, 3) := by decide +kernel
theorem dL_law_1316 : decode cL_law 1316 = .ok (.iconst 0, 1) := by decide +kernel
theorem dL_law_1317 : decode cL_law 1317 = .ok (.ireturn, 1) := by decide +kernel
theorem dL_law_1318 : decode cL_law 1318 = .ok (.goto 28, 3) := by decide +kernel
theorem dL_law_1321 : decode cL_law 1321 = .ok (.aload_n 1, 1) := by decide +kernel
theorem dL_law_1322 : decode cL_law 1322 = .ok (.aload_n 0, 1) := by decide +kernel
theorem dL_law_1323 : decode cL_law 1323 = .ok (.iload 4, 2) := by decide +kernel
theorem dL_law_1325 : decode cL_law 1325 = .ok (.iconst 1, 1) := by decide +kernel
theorem dL_law_1326 : decode cL_law 1326 = .ok (.iadd, 1) := by decide +kernel
theorem dL_law_1327 : decode cL_law 1327 = .ok (.iaload, 1) := by decide +kernel
theorem dL_law_1328 : decode cL_law 1328 = .ok (.invokevirtual 143, 3) := by decide +kernel
theorem dL_law_1331 : decode cL_law 1331 = .ok (.aload_n 2, 1) := by decide +kernel
theorem dL_law_1332 : decode cL_law 1332 = .ok (.aload_n 0, 1) := by decide +kernel
theorem dL_law_1333 : decode cL_law 1333 = .ok (.iload 4, 2) := by decide +kernel
theorem dL_law_1335 : decode cL_law 1335 = .ok (.iconst 1, 1) := by decide +kernel
theorem dL_law_1336 : decode cL_law 1336 = .ok (.iadd, 1) := by decide +kernel
theorem dL_law_1337 : decode cL_law 1337 = .ok (.iaload, 1) := by decide +kernel
theorem dL_law_1338 : decode cL_law 1338 = .ok (.invokevirtual 146, 3) := by decide +kernel
theorem dL_law_1341 : decode cL_law 1341 = .ok (.if_icmp .eq 5, 3) := by decide +kernel
theorem dL_law_1344 : decode cL_law 1344 = .ok (.iconst 0, 1) := by decide +kernel
theorem dL_law_1345 : decode cL_law 1345 = .ok (.ireturn, 1) := by decide +kernel
theorem dL_law_1346 : decode cL_law 1346 = .ok (.iinc 4 9, 3) := by decide +kernel
theorem dL_law_1349 : decode cL_law 1349 = .ok (.goto (-1326), 3) := by decide +kernel
theorem dL_law_1352 : decode cL_law 1352 = .ok (.iconst 1, 1) := by decide +kernel
theorem dL_law_1353 : decode cL_law 1353 = .ok (.ireturn, 1) := by decide +kernel
set_option maxHeartbeats 8000000 in
theorem e_L_law_23 {X : gk_X} {F : Nat} : ∀ (n : Nat) (l1 : Nat) (l2 : Nat) (l3 : Nat) (l4 : Int32) (S : gk_S) (r : (Int32 × gk_S)), f_L_law_23 X F n l1 l2 l3 l4 S = some r → EvW X m_L_law 67 (1 + 1 * n) (6 + 6 * n) 23 [some (.retAddr 0), some (.ref l1), some (.ref l2), some (.ref l3), some (.int l4), none, none] [] S (qRI r) := by
  intro n
  induction n with
  | zero => intro l1 l2 l3 l4 S r h0; rw [f_L_law_23] at h0; cases h0
  | succ n ih =>
    intro l1 l2 l3 l4 S r h0; rw [f_L_law_23] at h0
    refine ev_bud (k' := (2 + 1 * n)) (j' := (12 + 6 * n)) (by omega) (by omega) ?_
    refine ev_iload (pc := 23) (i := 4) rfl dL_law_23 ?_
    refine ev_aload_n (pc := 25) (i := 0) rfl rfl rfl dL_law_25 ?_
    refine ev_slen (pc := 26)  dL_law_26 ?_
    refine ev_bipush (pc := 27) (v := 9) (by decide) dL_law_27 ?_
    refine ev_isub (pc := 29)  dL_law_29 ?_
    refine ev_ic_gt (pc := 30) (tgt := 1352) (by decide) dL_law_30 (fun c33 => ?_) (fun c33 => ?_)
    · replace h0 := qi_t h0 c33
      refine ev_iconst (pc := 1352) (v := 1) (by decide) dL_law_1352 ?_
      exact ev_ireturn (pc := 1353) rfl rfl (qRI_eq h0) dL_law_1353
    · replace h0 := qi_f h0 c33
      refine ev_aload_n (pc := 33) (i := 0) rfl rfl rfl dL_law_33 ?_
      refine ev_iload (pc := 34) (i := 4) rfl dL_law_34 ?_
      obtain ⟨g35, h36⟩ := qk_el h0; clear h0
      refine ev_sld (pc := 36) (inb_el g35) dL_law_36 ?_
      refine ev_bipush (pc := 37) (v := 31) (by decide) dL_law_37 ?_
      refine ev_iand (pc := 39)  dL_law_39 ?_
      by_cases c37 : ((X.xs (l4 : Int32).toNatClampNeg) &&& 31) = 0
      · refine ev_tableIn (pc := 40) (off := 96) (tgt := 136) (by rw [c37]; decide) (by rw [c37]; decide) (by rw [c37]; rfl) (by decide) dL_law_40 ?_
        replace h36 := qi_t h36 c37
        refine ev_aload_n (pc := 136) (i := 1) rfl rfl rfl dL_law_136 ?_
        refine ev_aload_n (pc := 137) (i := 0) rfl rfl rfl dL_law_137 ?_
        refine ev_iload (pc := 138) (i := 4) rfl dL_law_138 ?_
        refine ev_iconst (pc := 140) (v := 1) (by decide) dL_law_140 ?_
        refine ev_iadd (pc := 141)  dL_law_141 ?_
        obtain ⟨g38, h39⟩ := qk_el h36; clear h36
        refine ev_sld (pc := 142) (inb_el g38) dL_law_142 ?_
        refine ev_aload_n (pc := 143) (i := 0) rfl rfl rfl dL_law_143 ?_
        refine ev_iload (pc := 144) (i := 4) rfl dL_law_144 ?_
        refine ev_iconst (pc := 146) (v := 2) (by decide) dL_law_146 ?_
        refine ev_iadd (pc := 147)  dL_law_147 ?_
        obtain ⟨g40, h41⟩ := qk_el h39; clear h39
        refine ev_sld (pc := 148) (inb_el g40) dL_law_148 ?_
        refine ev_aload_n (pc := 149) (i := 0) rfl rfl rfl dL_law_149 ?_
        refine ev_iload (pc := 150) (i := 4) rfl dL_law_150 ?_
        refine ev_iconst (pc := 152) (v := 3) (by decide) dL_law_152 ?_
        refine ev_iadd (pc := 153)  dL_law_153 ?_
        obtain ⟨g42, h43⟩ := qk_el h41; clear h41
        refine ev_sld (pc := 154) (inb_el g42) dL_law_154 ?_
        refine ev_aload_n (pc := 155) (i := 0) rfl rfl rfl dL_law_155 ?_
        refine ev_iload (pc := 156) (i := 4) rfl dL_law_156 ?_
        refine ev_iconst (pc := 158) (v := 4) (by decide) dL_law_158 ?_
        refine ev_iadd (pc := 159)  dL_law_159 ?_
        obtain ⟨g44, h45⟩ := qk_el h43; clear h43
        refine ev_sld (pc := 160) (inb_el g44) dL_law_160 ?_
        refine ev_aload_n (pc := 161) (i := 0) rfl rfl rfl dL_law_161 ?_
        refine ev_iload (pc := 162) (i := 4) rfl dL_law_162 ?_
        refine ev_iconst (pc := 164) (v := 5) (by decide) dL_law_164 ?_
        refine ev_iadd (pc := 165)  dL_law_165 ?_
        obtain ⟨g46, h47⟩ := qk_el h45; clear h45
        refine ev_sld (pc := 166) (inb_el g46) dL_law_166 ?_
        obtain ⟨g48, h49⟩ := qk_el h47; clear h47
        obtain ⟨x50, S51, e52, h53⟩ := qc_el h49; clear h49
        refine xv_callV (pc := 167) (st := []) (as := [.int (X.xs ((l4 + 1) : Int32).toNatClampNeg), .int (X.xs ((l4 + 2) : Int32).toNatClampNeg), .int (X.xs ((l4 + 3) : Int32).toNatClampNeg), .int (X.xs ((l4 + 4) : Int32).toNatClampNeg), .int (X.xs ((l4 + 5) : Int32).toNatClampNeg)]) (v := (some (.int x50))) (S' := S51) ok_X11_feed (e_X11_feed e52) (isb_el g48) (by decide) rfl (Nat.le_of_ble_eq_true rfl) rfl gw_325 dL_law_167 ?_
        refine ev_aload_n (pc := 170) (i := 2) rfl rfl rfl dL_law_170 ?_
        refine ev_aload_n (pc := 171) (i := 0) rfl rfl rfl dL_law_171 ?_
        refine ev_iload (pc := 172) (i := 4) rfl dL_law_172 ?_
        refine ev_iconst (pc := 174) (v := 1) (by decide) dL_law_174 ?_
        refine ev_iadd (pc := 175)  dL_law_175 ?_
        obtain ⟨g54, h55⟩ := qk_el h53; clear h53
        refine ev_sld (pc := 176) (inb_el g54) dL_law_176 ?_
        refine ev_aload_n (pc := 177) (i := 0) rfl rfl rfl dL_law_177 ?_
        refine ev_iload (pc := 178) (i := 4) rfl dL_law_178 ?_
        refine ev_iconst (pc := 180) (v := 2) (by decide) dL_law_180 ?_
        refine ev_iadd (pc := 181)  dL_law_181 ?_
        obtain ⟨g56, h57⟩ := qk_el h55; clear h55
        refine ev_sld (pc := 182) (inb_el g56) dL_law_182 ?_
        refine ev_aload_n (pc := 183) (i := 0) rfl rfl rfl dL_law_183 ?_
        refine ev_iload (pc := 184) (i := 4) rfl dL_law_184 ?_
        refine ev_iconst (pc := 186) (v := 3) (by decide) dL_law_186 ?_
        refine ev_iadd (pc := 187)  dL_law_187 ?_
        obtain ⟨g58, h59⟩ := qk_el h57; clear h57
        refine ev_sld (pc := 188) (inb_el g58) dL_law_188 ?_
        refine ev_aload_n (pc := 189) (i := 0) rfl rfl rfl dL_law_189 ?_
        refine ev_iload (pc := 190) (i := 4) rfl dL_law_190 ?_
        refine ev_iconst (pc := 192) (v := 4) (by decide) dL_law_192 ?_
        refine ev_iadd (pc := 193)  dL_law_193 ?_
        obtain ⟨g60, h61⟩ := qk_el h59; clear h59
        refine ev_sld (pc := 194) (inb_el g60) dL_law_194 ?_
        refine ev_aload_n (pc := 195) (i := 0) rfl rfl rfl dL_law_195 ?_
        refine ev_iload (pc := 196) (i := 4) rfl dL_law_196 ?_
        refine ev_iconst (pc := 198) (v := 5) (by decide) dL_law_198 ?_
        refine ev_iadd (pc := 199)  dL_law_199 ?_
        obtain ⟨g62, h63⟩ := qk_el h61; clear h61
        refine ev_sld (pc := 200) (inb_el g62) dL_law_200 ?_
        obtain ⟨g64, h65⟩ := qk_el h63; clear h63
        obtain ⟨x66, S67, e68, h69⟩ := qc_el h65; clear h65
        refine xv_callV (pc := 201) (st := [.int x50]) (as := [.int (X.xs ((l4 + 1) : Int32).toNatClampNeg), .int (X.xs ((l4 + 2) : Int32).toNatClampNeg), .int (X.xs ((l4 + 3) : Int32).toNatClampNeg), .int (X.xs ((l4 + 4) : Int32).toNatClampNeg), .int (X.xs ((l4 + 5) : Int32).toNatClampNeg)]) (v := (some (.int x66))) (S' := S67) ok_X12_feed (e_X12_feed e68) (isb_el g64) (by decide) rfl (Nat.le_of_ble_eq_true rfl) rfl gw_1119 dL_law_201 ?_
        refine ev_ic_eq (pc := 204) (tgt := 1346) (by decide) dL_law_204 (fun c70 => ?_) (fun c70 => ?_)
        · replace h69 := qi_t h69 c70
          refine ev_iinc (pc := 1346) (L' := [some (.retAddr 0), some (.ref l1), some (.ref l2), some (.ref l3), some (.int (l4 + 9)), none, none]) (i := 4) (v := (l4 + 9)) rfl rfl (by decide) rfl rfl dL_law_1346 ?_
          refine ev_goto (pc := 1349) (tgt := 23) (by decide) dL_law_1349 ?_
          exact ev_mono (Nat.le_refl _) (by omega) (by omega) (ev_weak (qL_s (qL_s (qL_s (qL_s (qL_s (qL_n (qL_n qL_nil))))))) (ih _ _ _ _ _ _ h69))
        · replace h69 := qi_f h69 c70
          refine ev_iconst (pc := 207) (v := 0) (by decide) dL_law_207 ?_
          exact ev_ireturn (pc := 208) rfl rfl (qRI_eq h69) dL_law_208
      replace h36 := qi_f h36 c37
      by_cases c72 : ((X.xs (l4 : Int32).toNatClampNeg) &&& 31) = 1
      · refine ev_tableIn (pc := 40) (off := 169) (tgt := 209) (by rw [c72]; decide) (by rw [c72]; decide) (by rw [c72]; rfl) (by decide) dL_law_40 ?_
        replace h36 := qi_t h36 c72
        refine ev_aload_n (pc := 209) (i := 1) rfl rfl rfl dL_law_209 ?_
        refine ev_aload_n (pc := 210) (i := 0) rfl rfl rfl dL_law_210 ?_
        refine ev_iload (pc := 211) (i := 4) rfl dL_law_211 ?_
        refine ev_iconst (pc := 213) (v := 1) (by decide) dL_law_213 ?_
        refine ev_iadd (pc := 214)  dL_law_214 ?_
        obtain ⟨g73, h74⟩ := qk_el h36; clear h36
        refine ev_sld (pc := 215) (inb_el g73) dL_law_215 ?_
        obtain ⟨g75, h76⟩ := qk_el h74; clear h74
        obtain ⟨x77, S78, e79, h80⟩ := qc_el h76; clear h76
        refine xv_callV (pc := 216) (st := []) (as := [.int (X.xs ((l4 + 1) : Int32).toNatClampNeg)]) (v := (some (.int x77))) (S' := S78) ok_X11_end (e_X11_end e79) (isb_el g75) (by decide) rfl (Nat.le_of_ble_eq_true rfl) rfl gw_341 dL_law_216 ?_
        refine ev_aload_n (pc := 219) (i := 2) rfl rfl rfl dL_law_219 ?_
        refine ev_aload_n (pc := 220) (i := 0) rfl rfl rfl dL_law_220 ?_
        refine ev_iload (pc := 221) (i := 4) rfl dL_law_221 ?_
        refine ev_iconst (pc := 223) (v := 1) (by decide) dL_law_223 ?_
        refine ev_iadd (pc := 224)  dL_law_224 ?_
        obtain ⟨g81, h82⟩ := qk_el h80; clear h80
        refine ev_sld (pc := 225) (inb_el g81) dL_law_225 ?_
        obtain ⟨g83, h84⟩ := qk_el h82; clear h82
        obtain ⟨x85, S86, e87, h88⟩ := qc_el h84; clear h84
        refine xv_callV (pc := 226) (st := [.int x77]) (as := [.int (X.xs ((l4 + 1) : Int32).toNatClampNeg)]) (v := (some (.int x85))) (S' := S86) ok_X12_end (e_X12_end e87) (isb_el g83) (by decide) rfl (Nat.le_of_ble_eq_true rfl) rfl gw_1128 dL_law_226 ?_
        refine ev_ic_eq (pc := 229) (tgt := 1346) (by decide) dL_law_229 (fun c89 => ?_) (fun c89 => ?_)
        · replace h88 := qi_t h88 c89
          refine ev_iinc (pc := 1346) (L' := [some (.retAddr 0), some (.ref l1), some (.ref l2), some (.ref l3), some (.int (l4 + 9)), none, none]) (i := 4) (v := (l4 + 9)) rfl rfl (by decide) rfl rfl dL_law_1346 ?_
          refine ev_goto (pc := 1349) (tgt := 23) (by decide) dL_law_1349 ?_
          exact ev_mono (Nat.le_refl _) (by omega) (by omega) (ev_weak (qL_s (qL_s (qL_s (qL_s (qL_s (qL_n (qL_n qL_nil))))))) (ih _ _ _ _ _ _ h88))
        · replace h88 := qi_f h88 c89
          refine ev_iconst (pc := 232) (v := 0) (by decide) dL_law_232 ?_
          exact ev_ireturn (pc := 233) rfl rfl (qRI_eq h88) dL_law_233
      replace h36 := qi_f h36 c72
      by_cases c91 : ((X.xs (l4 : Int32).toNatClampNeg) &&& 31) = 2
      · refine ev_tableIn (pc := 40) (off := 194) (tgt := 234) (by rw [c91]; decide) (by rw [c91]; decide) (by rw [c91]; rfl) (by decide) dL_law_40 ?_
        replace h36 := qi_t h36 c91
        refine ev_aload_n (pc := 234) (i := 1) rfl rfl rfl dL_law_234 ?_
        refine ev_aload_n (pc := 235) (i := 0) rfl rfl rfl dL_law_235 ?_
        refine ev_iload (pc := 236) (i := 4) rfl dL_law_236 ?_
        refine ev_iconst (pc := 238) (v := 1) (by decide) dL_law_238 ?_
        refine ev_iadd (pc := 239)  dL_law_239 ?_
        obtain ⟨g92, h93⟩ := qk_el h36; clear h36
        refine ev_sld (pc := 240) (inb_el g92) dL_law_240 ?_
        refine ev_aload_n (pc := 241) (i := 3) rfl rfl rfl dL_law_241 ?_
        obtain ⟨x94, S95, e96, h97⟩ := qc_el h93; clear h93
        refine xv_callH (pc := 242) (k := (1 + 1 * n)) (j := (6 + 6 * n)) (st := []) (as := [.ref l1, .int (X.xs ((l4 + 1) : Int32).toNatClampNeg), .ref l3]) (v := (some (.int x94))) (S' := S95) ok_L_load (e_L_load (k := 1) (j := 6) (Or.inr ⟨Nat.le_refl _, Nat.le_refl _⟩) e96) (by omega) (by omega) (by decide) rfl (Nat.le_of_ble_eq_true rfl) rfl gw_378 dL_law_242 ?_
        refine ev_istore (pc := 245) (L' := [some (.retAddr 0), some (.ref l1), some (.ref l2), some (.ref l3), some (.int l4), some (.int x94), none]) (i := 5) (by decide) rfl rfl dL_law_245 ?_
        refine ev_aload_n (pc := 247) (i := 2) rfl rfl rfl dL_law_247 ?_
        refine ev_aload_n (pc := 248) (i := 0) rfl rfl rfl dL_law_248 ?_
        refine ev_iload (pc := 249) (i := 4) rfl dL_law_249 ?_
        refine ev_iconst (pc := 251) (v := 1) (by decide) dL_law_251 ?_
        refine ev_iadd (pc := 252)  dL_law_252 ?_
        obtain ⟨g98, h99⟩ := qk_el h97; clear h97
        refine ev_sld (pc := 253) (inb_el g98) dL_law_253 ?_
        obtain ⟨g100, h101⟩ := qk_el h99; clear h99
        obtain ⟨x102, S103, e104, h105⟩ := qc_el h101; clear h101
        refine xv_callV (pc := 254) (st := []) (as := [.int (X.xs ((l4 + 1) : Int32).toNatClampNeg)]) (v := (some (.int x102))) (S' := S103) ok_X12_load (e_X12_load e104) (isb_el g100) (by decide) rfl (Nat.le_of_ble_eq_true rfl) rfl gw_1268 dL_law_254 ?_
        refine ev_istore (pc := 257) (L' := [some (.retAddr 0), some (.ref l1), some (.ref l2), some (.ref l3), some (.int l4), some (.int x94), some (.int x102)]) (i := 6) (by decide) rfl rfl dL_law_257 ?_
        refine ev_aload_n (pc := 259) (i := 2) rfl rfl rfl dL_law_259 ?_
        obtain ⟨g106, h107⟩ := qk_el h105; clear h105
        obtain ⟨x108, S109, e110, h111⟩ := qc_el h107; clear h107
        refine xv_callV (pc := 260) (st := []) (as := []) (v := (some (.int x108))) (S' := S109) ok_X12_thrown (e_X12_thrown e110) (isb_el g106) (by decide) rfl (Nat.le_of_ble_eq_true rfl) rfl gw_1115 dL_law_260 ?_
        refine ev_iload (pc := 263) (i := 5) rfl dL_law_263 ?_
        refine ev_ic_eq (pc := 265) (tgt := 270) (by decide) dL_law_265 (fun c112 => ?_) (fun c112 => ?_)
        · replace h111 := qi_t h111 c112
          refine ev_iload (pc := 270) (i := 5) rfl dL_law_270 ?_
          refine ev_if_ne (pc := 272) (tgt := 287) (by decide) dL_law_272 (fun c114 => ?_) (fun c114 => ?_)
          · replace h111 := qi_f h111 c114
            refine ev_goto (pc := 287) (tgt := 1346) (by decide) dL_law_287 ?_
            refine ev_iinc (pc := 1346) (L' := [some (.retAddr 0), some (.ref l1), some (.ref l2), some (.ref l3), some (.int (l4 + 9)), some (.int x94), some (.int x102)]) (i := 4) (v := (l4 + 9)) rfl rfl (by decide) rfl rfl dL_law_1346 ?_
            refine ev_goto (pc := 1349) (tgt := 23) (by decide) dL_law_1349 ?_
            exact ev_mono (Nat.le_refl _) (by omega) (by omega) (ev_weak (qL_s (qL_s (qL_s (qL_s (qL_s (qL_n (qL_n qL_nil))))))) (ih _ _ _ _ _ _ h111))
          · replace h111 := qi_t h111 c114
            refine ev_aload_n (pc := 275) (i := 3) rfl rfl rfl dL_law_275 ?_
            refine ev_iconst (pc := 276) (v := 0) (by decide) dL_law_276 ?_
            obtain ⟨g116, h117⟩ := qk_el h111; clear h111
            obtain ⟨g118, h119⟩ := qk_el h117; clear h117
            obtain ⟨x120, e121, h122⟩ := qv_el h119; clear h119
            refine yv_lald (pc := 277) (isb_el g116) (inb_el g118) e121 dL_law_277 ?_
            refine ev_iload (pc := 278) (i := 6) rfl dL_law_278 ?_
            refine ev_i2l (pc := 280)  dL_law_280 ?_
            refine ev_lcmp (pc := 281)  dL_law_281 ?_
            refine ev_if_eq (pc := 282) (tgt := 287) (by decide) dL_law_282 (fun c123 => ?_) (fun c123 => ?_)
            · replace h122 := qi_t h122 (lc_eq c123)
              refine ev_goto (pc := 287) (tgt := 1346) (by decide) dL_law_287 ?_
              refine ev_iinc (pc := 1346) (L' := [some (.retAddr 0), some (.ref l1), some (.ref l2), some (.ref l3), some (.int (l4 + 9)), some (.int x94), some (.int x102)]) (i := 4) (v := (l4 + 9)) rfl rfl (by decide) rfl rfl dL_law_1346 ?_
              refine ev_goto (pc := 1349) (tgt := 23) (by decide) dL_law_1349 ?_
              exact ev_mono (Nat.le_refl _) (by omega) (by omega) (ev_weak (qL_s (qL_s (qL_s (qL_s (qL_s (qL_n (qL_n qL_nil))))))) (ih _ _ _ _ _ _ h122))
            · replace h122 := qi_f h122 (lc_eqN c123)
              refine ev_iconst (pc := 285) (v := 0) (by decide) dL_law_285 ?_
              exact ev_ireturn (pc := 286) rfl rfl (qRI_eq h122) dL_law_286
        · replace h111 := qi_f h111 c112
          refine ev_iconst (pc := 268) (v := 0) (by decide) dL_law_268 ?_
          exact ev_ireturn (pc := 269) rfl rfl (qRI_eq h111) dL_law_269
      replace h36 := qi_f h36 c91
      by_cases c125 : ((X.xs (l4 : Int32).toNatClampNeg) &&& 31) = 3
      · refine ev_tableIn (pc := 40) (off := 250) (tgt := 290) (by rw [c125]; decide) (by rw [c125]; decide) (by rw [c125]; rfl) (by decide) dL_law_40 ?_
        replace h36 := qi_t h36 c125
        refine ev_aload_n (pc := 290) (i := 1) rfl rfl rfl dL_law_290 ?_
        obtain ⟨g126, h127⟩ := qk_el h36; clear h36
        obtain ⟨x128, S129, e130, h131⟩ := qc_el h127; clear h127
        refine xv_callV (pc := 291) (st := []) (as := []) (v := (some (.int x128))) (S' := S129) ok_X11_fault (e_X11_fault e130) (isb_el g126) (by decide) rfl (Nat.le_of_ble_eq_true rfl) rfl gw_345 dL_law_291 ?_
        refine ev_aload_n (pc := 294) (i := 2) rfl rfl rfl dL_law_294 ?_
        obtain ⟨g132, h133⟩ := qk_el h131; clear h131
        obtain ⟨x134, S135, e136, h137⟩ := qc_el h133; clear h133
        refine xv_callV (pc := 295) (st := [.int x128]) (as := []) (v := (some (.int x134))) (S' := S135) ok_X12_fault (e_X12_fault e136) (isb_el g132) (by decide) rfl (Nat.le_of_ble_eq_true rfl) rfl gw_1379 dL_law_295 ?_
        refine ev_ic_eq (pc := 298) (tgt := 1346) (by decide) dL_law_298 (fun c138 => ?_) (fun c138 => ?_)
        · replace h137 := qi_t h137 c138
          refine ev_iinc (pc := 1346) (L' := [some (.retAddr 0), some (.ref l1), some (.ref l2), some (.ref l3), some (.int (l4 + 9)), none, none]) (i := 4) (v := (l4 + 9)) rfl rfl (by decide) rfl rfl dL_law_1346 ?_
          refine ev_goto (pc := 1349) (tgt := 23) (by decide) dL_law_1349 ?_
          exact ev_mono (Nat.le_refl _) (by omega) (by omega) (ev_weak (qL_s (qL_s (qL_s (qL_s (qL_s (qL_n (qL_n qL_nil))))))) (ih _ _ _ _ _ _ h137))
        · replace h137 := qi_f h137 c138
          refine ev_iconst (pc := 301) (v := 0) (by decide) dL_law_301 ?_
          exact ev_ireturn (pc := 302) rfl rfl (qRI_eq h137) dL_law_302
      replace h36 := qi_f h36 c125
      by_cases c140 : ((X.xs (l4 : Int32).toNatClampNeg) &&& 31) = 4
      · refine ev_tableIn (pc := 40) (off := 263) (tgt := 303) (by rw [c140]; decide) (by rw [c140]; decide) (by rw [c140]; rfl) (by decide) dL_law_40 ?_
        replace h36 := qi_t h36 c140
        refine ev_aload_n (pc := 303) (i := 1) rfl rfl rfl dL_law_303 ?_
        refine ev_aload_n (pc := 304) (i := 0) rfl rfl rfl dL_law_304 ?_
        refine ev_iload (pc := 305) (i := 4) rfl dL_law_305 ?_
        refine ev_iconst (pc := 307) (v := 1) (by decide) dL_law_307 ?_
        refine ev_iadd (pc := 308)  dL_law_308 ?_
        obtain ⟨g141, h142⟩ := qk_el h36; clear h36
        refine ev_sld (pc := 309) (inb_el g141) dL_law_309 ?_
        refine ev_aload_n (pc := 310) (i := 3) rfl rfl rfl dL_law_310 ?_
        obtain ⟨x143, S144, e145, h146⟩ := qc_el h142; clear h142
        refine xv_callH (pc := 311) (k := (1 + 1 * n)) (j := (6 + 6 * n)) (st := []) (as := [.ref l1, .int (X.xs ((l4 + 1) : Int32).toNatClampNeg), .ref l3]) (v := (some (.int x143))) (S' := S144) ok_L_rules (e_L_rules (k := 1) (j := 6) (Or.inr ⟨Nat.le_refl _, Nat.le_refl _⟩) e145) (by omega) (by omega) (by decide) rfl (Nat.le_of_ble_eq_true rfl) rfl gw_662 dL_law_311 ?_
        refine ev_istore (pc := 314) (L' := [some (.retAddr 0), some (.ref l1), some (.ref l2), some (.ref l3), some (.int l4), some (.int x143), none]) (i := 5) (by decide) rfl rfl dL_law_314 ?_
        refine ev_aload_n (pc := 316) (i := 2) rfl rfl rfl dL_law_316 ?_
        refine ev_aload_n (pc := 317) (i := 0) rfl rfl rfl dL_law_317 ?_
        refine ev_iload (pc := 318) (i := 4) rfl dL_law_318 ?_
        refine ev_iconst (pc := 320) (v := 1) (by decide) dL_law_320 ?_
        refine ev_iadd (pc := 321)  dL_law_321 ?_
        obtain ⟨g147, h148⟩ := qk_el h146; clear h146
        refine ev_sld (pc := 322) (inb_el g147) dL_law_322 ?_
        obtain ⟨g149, h150⟩ := qk_el h148; clear h148
        obtain ⟨x151, S152, e153, h154⟩ := qc_el h150; clear h150
        refine xv_callV (pc := 323) (st := []) (as := [.int (X.xs ((l4 + 1) : Int32).toNatClampNeg)]) (v := (some (.int x151))) (S' := S152) ok_X12_rules (e_X12_rules e153) (isb_el g149) (by decide) rfl (Nat.le_of_ble_eq_true rfl) rfl gw_1383 dL_law_323 ?_
        refine ev_istore (pc := 326) (L' := [some (.retAddr 0), some (.ref l1), some (.ref l2), some (.ref l3), some (.int l4), some (.int x143), some (.int x151)]) (i := 6) (by decide) rfl rfl dL_law_326 ?_
        refine ev_aload_n (pc := 328) (i := 2) rfl rfl rfl dL_law_328 ?_
        obtain ⟨g155, h156⟩ := qk_el h154; clear h154
        obtain ⟨x157, S158, e159, h160⟩ := qc_el h156; clear h156
        refine xv_callV (pc := 329) (st := []) (as := []) (v := (some (.int x157))) (S' := S158) ok_X12_thrown (e_X12_thrown e159) (isb_el g155) (by decide) rfl (Nat.le_of_ble_eq_true rfl) rfl gw_1115 dL_law_329 ?_
        refine ev_iload (pc := 332) (i := 5) rfl dL_law_332 ?_
        refine ev_ic_eq (pc := 334) (tgt := 339) (by decide) dL_law_334 (fun c161 => ?_) (fun c161 => ?_)
        · replace h160 := qi_t h160 c161
          refine ev_iload (pc := 339) (i := 5) rfl dL_law_339 ?_
          refine ev_if_ne (pc := 341) (tgt := 356) (by decide) dL_law_341 (fun c163 => ?_) (fun c163 => ?_)
          · replace h160 := qi_f h160 c163
            refine ev_goto (pc := 356) (tgt := 1346) (by decide) dL_law_356 ?_
            refine ev_iinc (pc := 1346) (L' := [some (.retAddr 0), some (.ref l1), some (.ref l2), some (.ref l3), some (.int (l4 + 9)), some (.int x143), some (.int x151)]) (i := 4) (v := (l4 + 9)) rfl rfl (by decide) rfl rfl dL_law_1346 ?_
            refine ev_goto (pc := 1349) (tgt := 23) (by decide) dL_law_1349 ?_
            exact ev_mono (Nat.le_refl _) (by omega) (by omega) (ev_weak (qL_s (qL_s (qL_s (qL_s (qL_s (qL_n (qL_n qL_nil))))))) (ih _ _ _ _ _ _ h160))
          · replace h160 := qi_t h160 c163
            refine ev_aload_n (pc := 344) (i := 3) rfl rfl rfl dL_law_344 ?_
            refine ev_iconst (pc := 345) (v := 0) (by decide) dL_law_345 ?_
            obtain ⟨g165, h166⟩ := qk_el h160; clear h160
            obtain ⟨g167, h168⟩ := qk_el h166; clear h166
            obtain ⟨x169, e170, h171⟩ := qv_el h168; clear h168
            refine yv_lald (pc := 346) (isb_el g165) (inb_el g167) e170 dL_law_346 ?_
            refine ev_iload (pc := 347) (i := 6) rfl dL_law_347 ?_
            refine ev_i2l (pc := 349)  dL_law_349 ?_
            refine ev_lcmp (pc := 350)  dL_law_350 ?_
            refine ev_if_eq (pc := 351) (tgt := 356) (by decide) dL_law_351 (fun c172 => ?_) (fun c172 => ?_)
            · replace h171 := qi_t h171 (lc_eq c172)
              refine ev_goto (pc := 356) (tgt := 1346) (by decide) dL_law_356 ?_
              refine ev_iinc (pc := 1346) (L' := [some (.retAddr 0), some (.ref l1), some (.ref l2), some (.ref l3), some (.int (l4 + 9)), some (.int x143), some (.int x151)]) (i := 4) (v := (l4 + 9)) rfl rfl (by decide) rfl rfl dL_law_1346 ?_
              refine ev_goto (pc := 1349) (tgt := 23) (by decide) dL_law_1349 ?_
              exact ev_mono (Nat.le_refl _) (by omega) (by omega) (ev_weak (qL_s (qL_s (qL_s (qL_s (qL_s (qL_n (qL_n qL_nil))))))) (ih _ _ _ _ _ _ h171))
            · replace h171 := qi_f h171 (lc_eqN c172)
              refine ev_iconst (pc := 354) (v := 0) (by decide) dL_law_354 ?_
              exact ev_ireturn (pc := 355) rfl rfl (qRI_eq h171) dL_law_355
        · replace h160 := qi_f h160 c161
          refine ev_iconst (pc := 337) (v := 0) (by decide) dL_law_337 ?_
          exact ev_ireturn (pc := 338) rfl rfl (qRI_eq h160) dL_law_338
      replace h36 := qi_f h36 c140
      by_cases c174 : ((X.xs (l4 : Int32).toNatClampNeg) &&& 31) = 5
      · refine ev_tableIn (pc := 40) (off := 319) (tgt := 359) (by rw [c174]; decide) (by rw [c174]; decide) (by rw [c174]; rfl) (by decide) dL_law_40 ?_
        replace h36 := qi_t h36 c174
        refine ev_aload_n (pc := 359) (i := 1) rfl rfl rfl dL_law_359 ?_
        refine ev_aload_n (pc := 360) (i := 0) rfl rfl rfl dL_law_360 ?_
        refine ev_iload (pc := 361) (i := 4) rfl dL_law_361 ?_
        refine ev_iconst (pc := 363) (v := 1) (by decide) dL_law_363 ?_
        refine ev_iadd (pc := 364)  dL_law_364 ?_
        obtain ⟨g175, h176⟩ := qk_el h36; clear h36
        refine ev_sld (pc := 365) (inb_el g175) dL_law_365 ?_
        refine ev_aload_n (pc := 366) (i := 0) rfl rfl rfl dL_law_366 ?_
        refine ev_iload (pc := 367) (i := 4) rfl dL_law_367 ?_
        refine ev_iconst (pc := 369) (v := 2) (by decide) dL_law_369 ?_
        refine ev_iadd (pc := 370)  dL_law_370 ?_
        obtain ⟨g177, h178⟩ := qk_el h176; clear h176
        refine ev_sld (pc := 371) (inb_el g177) dL_law_371 ?_
        refine ev_aload_n (pc := 372) (i := 0) rfl rfl rfl dL_law_372 ?_
        refine ev_iload (pc := 373) (i := 4) rfl dL_law_373 ?_
        refine ev_iconst (pc := 375) (v := 3) (by decide) dL_law_375 ?_
        refine ev_iadd (pc := 376)  dL_law_376 ?_
        obtain ⟨g179, h180⟩ := qk_el h178; clear h178
        refine ev_sld (pc := 377) (inb_el g179) dL_law_377 ?_
        refine ev_aload_n (pc := 378) (i := 3) rfl rfl rfl dL_law_378 ?_
        obtain ⟨x181, S182, e183, h184⟩ := qc_el h180; clear h180
        refine xv_callH (pc := 379) (k := (1 + 1 * n)) (j := (6 + 6 * n)) (st := []) (as := [.ref l1, .int (X.xs ((l4 + 1) : Int32).toNatClampNeg), .int (X.xs ((l4 + 2) : Int32).toNatClampNeg), .int (X.xs ((l4 + 3) : Int32).toNatClampNeg), .ref l3]) (v := (some (.int x181))) (S' := S182) ok_L_rule (e_L_rule (k := 1) (j := 6) (Or.inr ⟨Nat.le_refl _, Nat.le_refl _⟩) e183) (by omega) (by omega) (by decide) rfl (Nat.le_of_ble_eq_true rfl) rfl gw_669 dL_law_379 ?_
        refine ev_istore (pc := 382) (L' := [some (.retAddr 0), some (.ref l1), some (.ref l2), some (.ref l3), some (.int l4), some (.int x181), none]) (i := 5) (by decide) rfl rfl dL_law_382 ?_
        refine ev_aload_n (pc := 384) (i := 2) rfl rfl rfl dL_law_384 ?_
        refine ev_aload_n (pc := 385) (i := 0) rfl rfl rfl dL_law_385 ?_
        refine ev_iload (pc := 386) (i := 4) rfl dL_law_386 ?_
        refine ev_iconst (pc := 388) (v := 1) (by decide) dL_law_388 ?_
        refine ev_iadd (pc := 389)  dL_law_389 ?_
        obtain ⟨g185, h186⟩ := qk_el h184; clear h184
        refine ev_sld (pc := 390) (inb_el g185) dL_law_390 ?_
        refine ev_aload_n (pc := 391) (i := 0) rfl rfl rfl dL_law_391 ?_
        refine ev_iload (pc := 392) (i := 4) rfl dL_law_392 ?_
        refine ev_iconst (pc := 394) (v := 2) (by decide) dL_law_394 ?_
        refine ev_iadd (pc := 395)  dL_law_395 ?_
        obtain ⟨g187, h188⟩ := qk_el h186; clear h186
        refine ev_sld (pc := 396) (inb_el g187) dL_law_396 ?_
        refine ev_aload_n (pc := 397) (i := 0) rfl rfl rfl dL_law_397 ?_
        refine ev_iload (pc := 398) (i := 4) rfl dL_law_398 ?_
        refine ev_iconst (pc := 400) (v := 3) (by decide) dL_law_400 ?_
        refine ev_iadd (pc := 401)  dL_law_401 ?_
        obtain ⟨g189, h190⟩ := qk_el h188; clear h188
        refine ev_sld (pc := 402) (inb_el g189) dL_law_402 ?_
        obtain ⟨g191, h192⟩ := qk_el h190; clear h190
        obtain ⟨x193, S194, e195, h196⟩ := qc_el h192; clear h192
        refine xv_callV (pc := 403) (st := []) (as := [.int (X.xs ((l4 + 1) : Int32).toNatClampNeg), .int (X.xs ((l4 + 2) : Int32).toNatClampNeg), .int (X.xs ((l4 + 3) : Int32).toNatClampNeg)]) (v := (some (.int x193))) (S' := S194) ok_X12_rule_ (e_X12_rule_ e195) (isb_el g191) (by decide) rfl (Nat.le_of_ble_eq_true rfl) rfl gw_1391 dL_law_403 ?_
        refine ev_istore (pc := 406) (L' := [some (.retAddr 0), some (.ref l1), some (.ref l2), some (.ref l3), some (.int l4), some (.int x181), some (.int x193)]) (i := 6) (by decide) rfl rfl dL_law_406 ?_
        refine ev_aload_n (pc := 408) (i := 2) rfl rfl rfl dL_law_408 ?_
        obtain ⟨g197, h198⟩ := qk_el h196; clear h196
        obtain ⟨x199, S200, e201, h202⟩ := qc_el h198; clear h198
        refine xv_callV (pc := 409) (st := []) (as := []) (v := (some (.int x199))) (S' := S200) ok_X12_thrown (e_X12_thrown e201) (isb_el g197) (by decide) rfl (Nat.le_of_ble_eq_true rfl) rfl gw_1115 dL_law_409 ?_
        refine ev_iload (pc := 412) (i := 5) rfl dL_law_412 ?_
        refine ev_ic_eq (pc := 414) (tgt := 419) (by decide) dL_law_414 (fun c203 => ?_) (fun c203 => ?_)
        · replace h202 := qi_t h202 c203
          refine ev_iload (pc := 419) (i := 5) rfl dL_law_419 ?_
          refine ev_if_ne (pc := 421) (tgt := 436) (by decide) dL_law_421 (fun c205 => ?_) (fun c205 => ?_)
          · replace h202 := qi_f h202 c205
            refine ev_goto (pc := 436) (tgt := 1346) (by decide) dL_law_436 ?_
            refine ev_iinc (pc := 1346) (L' := [some (.retAddr 0), some (.ref l1), some (.ref l2), some (.ref l3), some (.int (l4 + 9)), some (.int x181), some (.int x193)]) (i := 4) (v := (l4 + 9)) rfl rfl (by decide) rfl rfl dL_law_1346 ?_
            refine ev_goto (pc := 1349) (tgt := 23) (by decide) dL_law_1349 ?_
            exact ev_mono (Nat.le_refl _) (by omega) (by omega) (ev_weak (qL_s (qL_s (qL_s (qL_s (qL_s (qL_n (qL_n qL_nil))))))) (ih _ _ _ _ _ _ h202))
          · replace h202 := qi_t h202 c205
            refine ev_aload_n (pc := 424) (i := 3) rfl rfl rfl dL_law_424 ?_
            refine ev_iconst (pc := 425) (v := 0) (by decide) dL_law_425 ?_
            obtain ⟨g207, h208⟩ := qk_el h202; clear h202
            obtain ⟨g209, h210⟩ := qk_el h208; clear h208
            obtain ⟨x211, e212, h213⟩ := qv_el h210; clear h210
            refine yv_lald (pc := 426) (isb_el g207) (inb_el g209) e212 dL_law_426 ?_
            refine ev_iload (pc := 427) (i := 6) rfl dL_law_427 ?_
            refine ev_i2l (pc := 429)  dL_law_429 ?_
            refine ev_lcmp (pc := 430)  dL_law_430 ?_
            refine ev_if_eq (pc := 431) (tgt := 436) (by decide) dL_law_431 (fun c214 => ?_) (fun c214 => ?_)
            · replace h213 := qi_t h213 (lc_eq c214)
              refine ev_goto (pc := 436) (tgt := 1346) (by decide) dL_law_436 ?_
              refine ev_iinc (pc := 1346) (L' := [some (.retAddr 0), some (.ref l1), some (.ref l2), some (.ref l3), some (.int (l4 + 9)), some (.int x181), some (.int x193)]) (i := 4) (v := (l4 + 9)) rfl rfl (by decide) rfl rfl dL_law_1346 ?_
              refine ev_goto (pc := 1349) (tgt := 23) (by decide) dL_law_1349 ?_
              exact ev_mono (Nat.le_refl _) (by omega) (by omega) (ev_weak (qL_s (qL_s (qL_s (qL_s (qL_s (qL_n (qL_n qL_nil))))))) (ih _ _ _ _ _ _ h213))
            · replace h213 := qi_f h213 (lc_eqN c214)
              refine ev_iconst (pc := 434) (v := 0) (by decide) dL_law_434 ?_
              exact ev_ireturn (pc := 435) rfl rfl (qRI_eq h213) dL_law_435
        · replace h202 := qi_f h202 c203
          refine ev_iconst (pc := 417) (v := 0) (by decide) dL_law_417 ?_
          exact ev_ireturn (pc := 418) rfl rfl (qRI_eq h202) dL_law_418
      replace h36 := qi_f h36 c174
      by_cases c216 : ((X.xs (l4 : Int32).toNatClampNeg) &&& 31) = 6
      · refine ev_tableIn (pc := 40) (off := 399) (tgt := 439) (by rw [c216]; decide) (by rw [c216]; decide) (by rw [c216]; rfl) (by decide) dL_law_40 ?_
        replace h36 := qi_t h36 c216
        refine ev_aload_n (pc := 439) (i := 1) rfl rfl rfl dL_law_439 ?_
        refine ev_aload_n (pc := 440) (i := 0) rfl rfl rfl dL_law_440 ?_
        refine ev_iload (pc := 441) (i := 4) rfl dL_law_441 ?_
        refine ev_iconst (pc := 443) (v := 1) (by decide) dL_law_443 ?_
        refine ev_iadd (pc := 444)  dL_law_444 ?_
        obtain ⟨g217, h218⟩ := qk_el h36; clear h36
        refine ev_sld (pc := 445) (inb_el g217) dL_law_445 ?_
        refine ev_aload_n (pc := 446) (i := 3) rfl rfl rfl dL_law_446 ?_
        obtain ⟨x219, S220, e221, h222⟩ := qc_el h218; clear h218
        refine xv_callH (pc := 447) (k := (1 + 1 * n)) (j := (6 + 6 * n)) (st := []) (as := [.ref l1, .int (X.xs ((l4 + 1) : Int32).toNatClampNeg), .ref l3]) (v := (some (.int x219))) (S' := S220) ok_L_write (e_L_write (k := 1) (j := 6) (Or.inr ⟨Nat.le_refl _, Nat.le_refl _⟩) e221) (by omega) (by omega) (by decide) rfl (Nat.le_of_ble_eq_true rfl) rfl gw_706 dL_law_447 ?_
        refine ev_istore (pc := 450) (L' := [some (.retAddr 0), some (.ref l1), some (.ref l2), some (.ref l3), some (.int l4), some (.int x219), none]) (i := 5) (by decide) rfl rfl dL_law_450 ?_
        refine ev_aload_n (pc := 452) (i := 2) rfl rfl rfl dL_law_452 ?_
        refine ev_aload_n (pc := 453) (i := 0) rfl rfl rfl dL_law_453 ?_
        refine ev_iload (pc := 454) (i := 4) rfl dL_law_454 ?_
        refine ev_iconst (pc := 456) (v := 1) (by decide) dL_law_456 ?_
        refine ev_iadd (pc := 457)  dL_law_457 ?_
        obtain ⟨g223, h224⟩ := qk_el h222; clear h222
        refine ev_sld (pc := 458) (inb_el g223) dL_law_458 ?_
        obtain ⟨g225, h226⟩ := qk_el h224; clear h224
        obtain ⟨x227, S228, e229, h230⟩ := qc_el h226; clear h226
        refine xv_callV (pc := 459) (st := []) (as := [.int (X.xs ((l4 + 1) : Int32).toNatClampNeg)]) (v := (some (.int x227))) (S' := S228) ok_X12_write (e_X12_write e229) (isb_el g225) (by decide) rfl (Nat.le_of_ble_eq_true rfl) rfl gw_1395 dL_law_459 ?_
        refine ev_istore (pc := 462) (L' := [some (.retAddr 0), some (.ref l1), some (.ref l2), some (.ref l3), some (.int l4), some (.int x219), some (.int x227)]) (i := 6) (by decide) rfl rfl dL_law_462 ?_
        refine ev_aload_n (pc := 464) (i := 2) rfl rfl rfl dL_law_464 ?_
        obtain ⟨g231, h232⟩ := qk_el h230; clear h230
        obtain ⟨x233, S234, e235, h236⟩ := qc_el h232; clear h232
        refine xv_callV (pc := 465) (st := []) (as := []) (v := (some (.int x233))) (S' := S234) ok_X12_thrown (e_X12_thrown e235) (isb_el g231) (by decide) rfl (Nat.le_of_ble_eq_true rfl) rfl gw_1115 dL_law_465 ?_
        refine ev_iload (pc := 468) (i := 5) rfl dL_law_468 ?_
        refine ev_ic_eq (pc := 470) (tgt := 475) (by decide) dL_law_470 (fun c237 => ?_) (fun c237 => ?_)
        · replace h236 := qi_t h236 c237
          refine ev_iload (pc := 475) (i := 5) rfl dL_law_475 ?_
          refine ev_if_ne (pc := 477) (tgt := 492) (by decide) dL_law_477 (fun c239 => ?_) (fun c239 => ?_)
          · replace h236 := qi_f h236 c239
            refine ev_goto (pc := 492) (tgt := 1346) (by decide) dL_law_492 ?_
            refine ev_iinc (pc := 1346) (L' := [some (.retAddr 0), some (.ref l1), some (.ref l2), some (.ref l3), some (.int (l4 + 9)), some (.int x219), some (.int x227)]) (i := 4) (v := (l4 + 9)) rfl rfl (by decide) rfl rfl dL_law_1346 ?_
            refine ev_goto (pc := 1349) (tgt := 23) (by decide) dL_law_1349 ?_
            exact ev_mono (Nat.le_refl _) (by omega) (by omega) (ev_weak (qL_s (qL_s (qL_s (qL_s (qL_s (qL_n (qL_n qL_nil))))))) (ih _ _ _ _ _ _ h236))
          · replace h236 := qi_t h236 c239
            refine ev_aload_n (pc := 480) (i := 3) rfl rfl rfl dL_law_480 ?_
            refine ev_iconst (pc := 481) (v := 0) (by decide) dL_law_481 ?_
            obtain ⟨g241, h242⟩ := qk_el h236; clear h236
            obtain ⟨g243, h244⟩ := qk_el h242; clear h242
            obtain ⟨x245, e246, h247⟩ := qv_el h244; clear h244
            refine yv_lald (pc := 482) (isb_el g241) (inb_el g243) e246 dL_law_482 ?_
            refine ev_iload (pc := 483) (i := 6) rfl dL_law_483 ?_
            refine ev_i2l (pc := 485)  dL_law_485 ?_
            refine ev_lcmp (pc := 486)  dL_law_486 ?_
            refine ev_if_eq (pc := 487) (tgt := 492) (by decide) dL_law_487 (fun c248 => ?_) (fun c248 => ?_)
            · replace h247 := qi_t h247 (lc_eq c248)
              refine ev_goto (pc := 492) (tgt := 1346) (by decide) dL_law_492 ?_
              refine ev_iinc (pc := 1346) (L' := [some (.retAddr 0), some (.ref l1), some (.ref l2), some (.ref l3), some (.int (l4 + 9)), some (.int x219), some (.int x227)]) (i := 4) (v := (l4 + 9)) rfl rfl (by decide) rfl rfl dL_law_1346 ?_
              refine ev_goto (pc := 1349) (tgt := 23) (by decide) dL_law_1349 ?_
              exact ev_mono (Nat.le_refl _) (by omega) (by omega) (ev_weak (qL_s (qL_s (qL_s (qL_s (qL_s (qL_n (qL_n qL_nil))))))) (ih _ _ _ _ _ _ h247))
            · replace h247 := qi_f h247 (lc_eqN c248)
              refine ev_iconst (pc := 490) (v := 0) (by decide) dL_law_490 ?_
              exact ev_ireturn (pc := 491) rfl rfl (qRI_eq h247) dL_law_491
        · replace h236 := qi_f h236 c237
          refine ev_iconst (pc := 473) (v := 0) (by decide) dL_law_473 ?_
          exact ev_ireturn (pc := 474) rfl rfl (qRI_eq h236) dL_law_474
      replace h36 := qi_f h36 c216
      by_cases c250 : ((X.xs (l4 : Int32).toNatClampNeg) &&& 31) = 7
      · refine ev_tableIn (pc := 40) (off := 455) (tgt := 495) (by rw [c250]; decide) (by rw [c250]; decide) (by rw [c250]; rfl) (by decide) dL_law_40 ?_
        replace h36 := qi_t h36 c250
        refine ev_aload_n (pc := 495) (i := 1) rfl rfl rfl dL_law_495 ?_
        refine ev_aload_n (pc := 496) (i := 0) rfl rfl rfl dL_law_496 ?_
        refine ev_iload (pc := 497) (i := 4) rfl dL_law_497 ?_
        refine ev_iconst (pc := 499) (v := 1) (by decide) dL_law_499 ?_
        refine ev_iadd (pc := 500)  dL_law_500 ?_
        obtain ⟨g251, h252⟩ := qk_el h36; clear h36
        refine ev_sld (pc := 501) (inb_el g251) dL_law_501 ?_
        refine ev_aload_n (pc := 502) (i := 3) rfl rfl rfl dL_law_502 ?_
        obtain ⟨x253, S254, e255, h256⟩ := qc_el h252; clear h252
        refine xv_callH (pc := 503) (k := (1 + 1 * n)) (j := (6 + 6 * n)) (st := []) (as := [.ref l1, .int (X.xs ((l4 + 1) : Int32).toNatClampNeg), .ref l3]) (v := (some (.int x253))) (S' := S254) ok_L_octet (e_L_octet (k := 1) (j := 6) (Or.inr ⟨Nat.le_refl _, Nat.le_refl _⟩) e255) (by omega) (by omega) (by decide) rfl (Nat.le_of_ble_eq_true rfl) rfl gw_756 dL_law_503 ?_
        refine ev_istore (pc := 506) (L' := [some (.retAddr 0), some (.ref l1), some (.ref l2), some (.ref l3), some (.int l4), some (.int x253), none]) (i := 5) (by decide) rfl rfl dL_law_506 ?_
        refine ev_aload_n (pc := 508) (i := 2) rfl rfl rfl dL_law_508 ?_
        refine ev_aload_n (pc := 509) (i := 0) rfl rfl rfl dL_law_509 ?_
        refine ev_iload (pc := 510) (i := 4) rfl dL_law_510 ?_
        refine ev_iconst (pc := 512) (v := 1) (by decide) dL_law_512 ?_
        refine ev_iadd (pc := 513)  dL_law_513 ?_
        obtain ⟨g257, h258⟩ := qk_el h256; clear h256
        refine ev_sld (pc := 514) (inb_el g257) dL_law_514 ?_
        obtain ⟨g259, h260⟩ := qk_el h258; clear h258
        obtain ⟨x261, S262, e263, h264⟩ := qc_el h260; clear h260
        refine xv_callV (pc := 515) (st := []) (as := [.int (X.xs ((l4 + 1) : Int32).toNatClampNeg)]) (v := (some (.int x261))) (S' := S262) ok_X12_octet (e_X12_octet e263) (isb_el g259) (by decide) rfl (Nat.le_of_ble_eq_true rfl) rfl gw_1424 dL_law_515 ?_
        refine ev_istore (pc := 518) (L' := [some (.retAddr 0), some (.ref l1), some (.ref l2), some (.ref l3), some (.int l4), some (.int x253), some (.int x261)]) (i := 6) (by decide) rfl rfl dL_law_518 ?_
        refine ev_aload_n (pc := 520) (i := 2) rfl rfl rfl dL_law_520 ?_
        obtain ⟨g265, h266⟩ := qk_el h264; clear h264
        obtain ⟨x267, S268, e269, h270⟩ := qc_el h266; clear h266
        refine xv_callV (pc := 521) (st := []) (as := []) (v := (some (.int x267))) (S' := S268) ok_X12_thrown (e_X12_thrown e269) (isb_el g265) (by decide) rfl (Nat.le_of_ble_eq_true rfl) rfl gw_1115 dL_law_521 ?_
        refine ev_iload (pc := 524) (i := 5) rfl dL_law_524 ?_
        refine ev_ic_eq (pc := 526) (tgt := 531) (by decide) dL_law_526 (fun c271 => ?_) (fun c271 => ?_)
        · replace h270 := qi_t h270 c271
          refine ev_iload (pc := 531) (i := 5) rfl dL_law_531 ?_
          refine ev_if_ne (pc := 533) (tgt := 548) (by decide) dL_law_533 (fun c273 => ?_) (fun c273 => ?_)
          · replace h270 := qi_f h270 c273
            refine ev_goto (pc := 548) (tgt := 1346) (by decide) dL_law_548 ?_
            refine ev_iinc (pc := 1346) (L' := [some (.retAddr 0), some (.ref l1), some (.ref l2), some (.ref l3), some (.int (l4 + 9)), some (.int x253), some (.int x261)]) (i := 4) (v := (l4 + 9)) rfl rfl (by decide) rfl rfl dL_law_1346 ?_
            refine ev_goto (pc := 1349) (tgt := 23) (by decide) dL_law_1349 ?_
            exact ev_mono (Nat.le_refl _) (by omega) (by omega) (ev_weak (qL_s (qL_s (qL_s (qL_s (qL_s (qL_n (qL_n qL_nil))))))) (ih _ _ _ _ _ _ h270))
          · replace h270 := qi_t h270 c273
            refine ev_aload_n (pc := 536) (i := 3) rfl rfl rfl dL_law_536 ?_
            refine ev_iconst (pc := 537) (v := 0) (by decide) dL_law_537 ?_
            obtain ⟨g275, h276⟩ := qk_el h270; clear h270
            obtain ⟨g277, h278⟩ := qk_el h276; clear h276
            obtain ⟨x279, e280, h281⟩ := qv_el h278; clear h278
            refine yv_lald (pc := 538) (isb_el g275) (inb_el g277) e280 dL_law_538 ?_
            refine ev_iload (pc := 539) (i := 6) rfl dL_law_539 ?_
            refine ev_i2l (pc := 541)  dL_law_541 ?_
            refine ev_lcmp (pc := 542)  dL_law_542 ?_
            refine ev_if_eq (pc := 543) (tgt := 548) (by decide) dL_law_543 (fun c282 => ?_) (fun c282 => ?_)
            · replace h281 := qi_t h281 (lc_eq c282)
              refine ev_goto (pc := 548) (tgt := 1346) (by decide) dL_law_548 ?_
              refine ev_iinc (pc := 1346) (L' := [some (.retAddr 0), some (.ref l1), some (.ref l2), some (.ref l3), some (.int (l4 + 9)), some (.int x253), some (.int x261)]) (i := 4) (v := (l4 + 9)) rfl rfl (by decide) rfl rfl dL_law_1346 ?_
              refine ev_goto (pc := 1349) (tgt := 23) (by decide) dL_law_1349 ?_
              exact ev_mono (Nat.le_refl _) (by omega) (by omega) (ev_weak (qL_s (qL_s (qL_s (qL_s (qL_s (qL_n (qL_n qL_nil))))))) (ih _ _ _ _ _ _ h281))
            · replace h281 := qi_f h281 (lc_eqN c282)
              refine ev_iconst (pc := 546) (v := 0) (by decide) dL_law_546 ?_
              exact ev_ireturn (pc := 547) rfl rfl (qRI_eq h281) dL_law_547
        · replace h270 := qi_f h270 c271
          refine ev_iconst (pc := 529) (v := 0) (by decide) dL_law_529 ?_
          exact ev_ireturn (pc := 530) rfl rfl (qRI_eq h270) dL_law_530
      replace h36 := qi_f h36 c250
      by_cases c284 : ((X.xs (l4 : Int32).toNatClampNeg) &&& 31) = 8
      · refine ev_tableIn (pc := 40) (off := 511) (tgt := 551) (by rw [c284]; decide) (by rw [c284]; decide) (by rw [c284]; rfl) (by decide) dL_law_40 ?_
        replace h36 := qi_t h36 c284
        refine ev_aload_n (pc := 551) (i := 1) rfl rfl rfl dL_law_551 ?_
        refine ev_aload_n (pc := 552) (i := 0) rfl rfl rfl dL_law_552 ?_
        refine ev_iload (pc := 553) (i := 4) rfl dL_law_553 ?_
        refine ev_iconst (pc := 555) (v := 1) (by decide) dL_law_555 ?_
        refine ev_iadd (pc := 556)  dL_law_556 ?_
        obtain ⟨g285, h286⟩ := qk_el h36; clear h36
        refine ev_sld (pc := 557) (inb_el g285) dL_law_557 ?_
        refine ev_aload_n (pc := 558) (i := 0) rfl rfl rfl dL_law_558 ?_
        refine ev_iload (pc := 559) (i := 4) rfl dL_law_559 ?_
        refine ev_iconst (pc := 561) (v := 2) (by decide) dL_law_561 ?_
        refine ev_iadd (pc := 562)  dL_law_562 ?_
        obtain ⟨g287, h288⟩ := qk_el h286; clear h286
        refine ev_sld (pc := 563) (inb_el g287) dL_law_563 ?_
        refine ev_aload_n (pc := 564) (i := 0) rfl rfl rfl dL_law_564 ?_
        refine ev_iload (pc := 565) (i := 4) rfl dL_law_565 ?_
        refine ev_iconst (pc := 567) (v := 3) (by decide) dL_law_567 ?_
        refine ev_iadd (pc := 568)  dL_law_568 ?_
        obtain ⟨g289, h290⟩ := qk_el h288; clear h288
        refine ev_sld (pc := 569) (inb_el g289) dL_law_569 ?_
        refine ev_aload_n (pc := 570) (i := 0) rfl rfl rfl dL_law_570 ?_
        refine ev_iload (pc := 571) (i := 4) rfl dL_law_571 ?_
        refine ev_iconst (pc := 573) (v := 4) (by decide) dL_law_573 ?_
        refine ev_iadd (pc := 574)  dL_law_574 ?_
        obtain ⟨g291, h292⟩ := qk_el h290; clear h290
        refine ev_sld (pc := 575) (inb_el g291) dL_law_575 ?_
        refine ev_aload_n (pc := 576) (i := 0) rfl rfl rfl dL_law_576 ?_
        refine ev_iload (pc := 577) (i := 4) rfl dL_law_577 ?_
        refine ev_iconst (pc := 579) (v := 5) (by decide) dL_law_579 ?_
        refine ev_iadd (pc := 580)  dL_law_580 ?_
        obtain ⟨g293, h294⟩ := qk_el h292; clear h292
        refine ev_sld (pc := 581) (inb_el g293) dL_law_581 ?_
        refine ev_aload_n (pc := 582) (i := 0) rfl rfl rfl dL_law_582 ?_
        refine ev_iload (pc := 583) (i := 4) rfl dL_law_583 ?_
        refine ev_bipush (pc := 585) (v := 6) (by decide) dL_law_585 ?_
        refine ev_iadd (pc := 587)  dL_law_587 ?_
        obtain ⟨g295, h296⟩ := qk_el h294; clear h294
        refine ev_sld (pc := 588) (inb_el g295) dL_law_588 ?_
        refine ev_aload_n (pc := 589) (i := 0) rfl rfl rfl dL_law_589 ?_
        refine ev_iload (pc := 590) (i := 4) rfl dL_law_590 ?_
        refine ev_bipush (pc := 592) (v := 7) (by decide) dL_law_592 ?_
        refine ev_iadd (pc := 594)  dL_law_594 ?_
        obtain ⟨g297, h298⟩ := qk_el h296; clear h296
        refine ev_sld (pc := 595) (inb_el g297) dL_law_595 ?_
        refine ev_aload_n (pc := 596) (i := 0) rfl rfl rfl dL_law_596 ?_
        refine ev_iload (pc := 597) (i := 4) rfl dL_law_597 ?_
        refine ev_bipush (pc := 599) (v := 8) (by decide) dL_law_599 ?_
        refine ev_iadd (pc := 601)  dL_law_601 ?_
        obtain ⟨g299, h300⟩ := qk_el h298; clear h298
        refine ev_sld (pc := 602) (inb_el g299) dL_law_602 ?_
        refine ev_aload_n (pc := 603) (i := 3) rfl rfl rfl dL_law_603 ?_
        obtain ⟨x301, S302, e303, h304⟩ := qc_el h300; clear h300
        refine xv_callH (pc := 604) (k := (1 + 1 * n)) (j := (6 + 6 * n)) (st := []) (as := [.ref l1, .int (X.xs ((l4 + 1) : Int32).toNatClampNeg), .int (X.xs ((l4 + 2) : Int32).toNatClampNeg), .int (X.xs ((l4 + 3) : Int32).toNatClampNeg), .int (X.xs ((l4 + 4) : Int32).toNatClampNeg), .int (X.xs ((l4 + 5) : Int32).toNatClampNeg), .int (X.xs ((l4 + 6) : Int32).toNatClampNeg), .int (X.xs ((l4 + 7) : Int32).toNatClampNeg), .int (X.xs ((l4 + 8) : Int32).toNatClampNeg), .ref l3]) (v := (some (.int x301))) (S' := S302) ok_L_match (e_L_match (k := 1) (j := 6) (Or.inr ⟨Nat.le_refl _, Nat.le_refl _⟩) e303) (by omega) (by omega) (by decide) rfl (Nat.le_of_ble_eq_true rfl) rfl gw_765 dL_law_604 ?_
        refine ev_istore (pc := 607) (L' := [some (.retAddr 0), some (.ref l1), some (.ref l2), some (.ref l3), some (.int l4), some (.int x301), none]) (i := 5) (by decide) rfl rfl dL_law_607 ?_
        refine ev_aload_n (pc := 609) (i := 2) rfl rfl rfl dL_law_609 ?_
        refine ev_aload_n (pc := 610) (i := 0) rfl rfl rfl dL_law_610 ?_
        refine ev_iload (pc := 611) (i := 4) rfl dL_law_611 ?_
        refine ev_iconst (pc := 613) (v := 1) (by decide) dL_law_613 ?_
        refine ev_iadd (pc := 614)  dL_law_614 ?_
        obtain ⟨g305, h306⟩ := qk_el h304; clear h304
        refine ev_sld (pc := 615) (inb_el g305) dL_law_615 ?_
        refine ev_aload_n (pc := 616) (i := 0) rfl rfl rfl dL_law_616 ?_
        refine ev_iload (pc := 617) (i := 4) rfl dL_law_617 ?_
        refine ev_iconst (pc := 619) (v := 2) (by decide) dL_law_619 ?_
        refine ev_iadd (pc := 620)  dL_law_620 ?_
        obtain ⟨g307, h308⟩ := qk_el h306; clear h306
        refine ev_sld (pc := 621) (inb_el g307) dL_law_621 ?_
        refine ev_aload_n (pc := 622) (i := 0) rfl rfl rfl dL_law_622 ?_
        refine ev_iload (pc := 623) (i := 4) rfl dL_law_623 ?_
        refine ev_iconst (pc := 625) (v := 3) (by decide) dL_law_625 ?_
        refine ev_iadd (pc := 626)  dL_law_626 ?_
        obtain ⟨g309, h310⟩ := qk_el h308; clear h308
        refine ev_sld (pc := 627) (inb_el g309) dL_law_627 ?_
        refine ev_aload_n (pc := 628) (i := 0) rfl rfl rfl dL_law_628 ?_
        refine ev_iload (pc := 629) (i := 4) rfl dL_law_629 ?_
        refine ev_iconst (pc := 631) (v := 4) (by decide) dL_law_631 ?_
        refine ev_iadd (pc := 632)  dL_law_632 ?_
        obtain ⟨g311, h312⟩ := qk_el h310; clear h310
        refine ev_sld (pc := 633) (inb_el g311) dL_law_633 ?_
        refine ev_aload_n (pc := 634) (i := 0) rfl rfl rfl dL_law_634 ?_
        refine ev_iload (pc := 635) (i := 4) rfl dL_law_635 ?_
        refine ev_iconst (pc := 637) (v := 5) (by decide) dL_law_637 ?_
        refine ev_iadd (pc := 638)  dL_law_638 ?_
        obtain ⟨g313, h314⟩ := qk_el h312; clear h312
        refine ev_sld (pc := 639) (inb_el g313) dL_law_639 ?_
        refine ev_aload_n (pc := 640) (i := 0) rfl rfl rfl dL_law_640 ?_
        refine ev_iload (pc := 641) (i := 4) rfl dL_law_641 ?_
        refine ev_bipush (pc := 643) (v := 6) (by decide) dL_law_643 ?_
        refine ev_iadd (pc := 645)  dL_law_645 ?_
        obtain ⟨g315, h316⟩ := qk_el h314; clear h314
        refine ev_sld (pc := 646) (inb_el g315) dL_law_646 ?_
        refine ev_aload_n (pc := 647) (i := 0) rfl rfl rfl dL_law_647 ?_
        refine ev_iload (pc := 648) (i := 4) rfl dL_law_648 ?_
        refine ev_bipush (pc := 650) (v := 7) (by decide) dL_law_650 ?_
        refine ev_iadd (pc := 652)  dL_law_652 ?_
        obtain ⟨g317, h318⟩ := qk_el h316; clear h316
        refine ev_sld (pc := 653) (inb_el g317) dL_law_653 ?_
        refine ev_aload_n (pc := 654) (i := 0) rfl rfl rfl dL_law_654 ?_
        refine ev_iload (pc := 655) (i := 4) rfl dL_law_655 ?_
        refine ev_bipush (pc := 657) (v := 8) (by decide) dL_law_657 ?_
        refine ev_iadd (pc := 659)  dL_law_659 ?_
        obtain ⟨g319, h320⟩ := qk_el h318; clear h318
        refine ev_sld (pc := 660) (inb_el g319) dL_law_660 ?_
        obtain ⟨g321, h322⟩ := qk_el h320; clear h320
        obtain ⟨x323, S324, e325, h326⟩ := qc_el h322; clear h322
        refine xv_callV (pc := 661) (st := []) (as := [.int (X.xs ((l4 + 1) : Int32).toNatClampNeg), .int (X.xs ((l4 + 2) : Int32).toNatClampNeg), .int (X.xs ((l4 + 3) : Int32).toNatClampNeg), .int (X.xs ((l4 + 4) : Int32).toNatClampNeg), .int (X.xs ((l4 + 5) : Int32).toNatClampNeg), .int (X.xs ((l4 + 6) : Int32).toNatClampNeg), .int (X.xs ((l4 + 7) : Int32).toNatClampNeg), .int (X.xs ((l4 + 8) : Int32).toNatClampNeg)]) (v := (some (.int x323))) (S' := S324) ok_X12_match (e_X12_match e325) (isb_el g321) (by decide) rfl (Nat.le_of_ble_eq_true rfl) rfl gw_1428 dL_law_661 ?_
        refine ev_istore (pc := 664) (L' := [some (.retAddr 0), some (.ref l1), some (.ref l2), some (.ref l3), some (.int l4), some (.int x301), some (.int x323)]) (i := 6) (by decide) rfl rfl dL_law_664 ?_
        refine ev_aload_n (pc := 666) (i := 2) rfl rfl rfl dL_law_666 ?_
        obtain ⟨g327, h328⟩ := qk_el h326; clear h326
        obtain ⟨x329, S330, e331, h332⟩ := qc_el h328; clear h328
        refine xv_callV (pc := 667) (st := []) (as := []) (v := (some (.int x329))) (S' := S330) ok_X12_thrown (e_X12_thrown e331) (isb_el g327) (by decide) rfl (Nat.le_of_ble_eq_true rfl) rfl gw_1115 dL_law_667 ?_
        refine ev_iload (pc := 670) (i := 5) rfl dL_law_670 ?_
        refine ev_ic_eq (pc := 672) (tgt := 677) (by decide) dL_law_672 (fun c333 => ?_) (fun c333 => ?_)
        · replace h332 := qi_t h332 c333
          refine ev_iload (pc := 677) (i := 5) rfl dL_law_677 ?_
          refine ev_if_ne (pc := 679) (tgt := 694) (by decide) dL_law_679 (fun c335 => ?_) (fun c335 => ?_)
          · replace h332 := qi_f h332 c335
            refine ev_goto (pc := 694) (tgt := 1346) (by decide) dL_law_694 ?_
            refine ev_iinc (pc := 1346) (L' := [some (.retAddr 0), some (.ref l1), some (.ref l2), some (.ref l3), some (.int (l4 + 9)), some (.int x301), some (.int x323)]) (i := 4) (v := (l4 + 9)) rfl rfl (by decide) rfl rfl dL_law_1346 ?_
            refine ev_goto (pc := 1349) (tgt := 23) (by decide) dL_law_1349 ?_
            exact ev_mono (Nat.le_refl _) (by omega) (by omega) (ev_weak (qL_s (qL_s (qL_s (qL_s (qL_s (qL_n (qL_n qL_nil))))))) (ih _ _ _ _ _ _ h332))
          · replace h332 := qi_t h332 c335
            refine ev_aload_n (pc := 682) (i := 3) rfl rfl rfl dL_law_682 ?_
            refine ev_iconst (pc := 683) (v := 0) (by decide) dL_law_683 ?_
            obtain ⟨g337, h338⟩ := qk_el h332; clear h332
            obtain ⟨g339, h340⟩ := qk_el h338; clear h338
            obtain ⟨x341, e342, h343⟩ := qv_el h340; clear h340
            refine yv_lald (pc := 684) (isb_el g337) (inb_el g339) e342 dL_law_684 ?_
            refine ev_iload (pc := 685) (i := 6) rfl dL_law_685 ?_
            refine ev_i2l (pc := 687)  dL_law_687 ?_
            refine ev_lcmp (pc := 688)  dL_law_688 ?_
            refine ev_if_eq (pc := 689) (tgt := 694) (by decide) dL_law_689 (fun c344 => ?_) (fun c344 => ?_)
            · replace h343 := qi_t h343 (lc_eq c344)
              refine ev_goto (pc := 694) (tgt := 1346) (by decide) dL_law_694 ?_
              refine ev_iinc (pc := 1346) (L' := [some (.retAddr 0), some (.ref l1), some (.ref l2), some (.ref l3), some (.int (l4 + 9)), some (.int x301), some (.int x323)]) (i := 4) (v := (l4 + 9)) rfl rfl (by decide) rfl rfl dL_law_1346 ?_
              refine ev_goto (pc := 1349) (tgt := 23) (by decide) dL_law_1349 ?_
              exact ev_mono (Nat.le_refl _) (by omega) (by omega) (ev_weak (qL_s (qL_s (qL_s (qL_s (qL_s (qL_n (qL_n qL_nil))))))) (ih _ _ _ _ _ _ h343))
            · replace h343 := qi_f h343 (lc_eqN c344)
              refine ev_iconst (pc := 692) (v := 0) (by decide) dL_law_692 ?_
              exact ev_ireturn (pc := 693) rfl rfl (qRI_eq h343) dL_law_693
        · replace h332 := qi_f h332 c333
          refine ev_iconst (pc := 675) (v := 0) (by decide) dL_law_675 ?_
          exact ev_ireturn (pc := 676) rfl rfl (qRI_eq h332) dL_law_676
      replace h36 := qi_f h36 c284
      by_cases c346 : ((X.xs (l4 : Int32).toNatClampNeg) &&& 31) = 9
      · refine ev_tableIn (pc := 40) (off := 657) (tgt := 697) (by rw [c346]; decide) (by rw [c346]; decide) (by rw [c346]; rfl) (by decide) dL_law_40 ?_
        replace h36 := qi_t h36 c346
        refine ev_aload_n (pc := 697) (i := 1) rfl rfl rfl dL_law_697 ?_
        refine ev_aload_n (pc := 698) (i := 0) rfl rfl rfl dL_law_698 ?_
        refine ev_iload (pc := 699) (i := 4) rfl dL_law_699 ?_
        refine ev_iconst (pc := 701) (v := 1) (by decide) dL_law_701 ?_
        refine ev_iadd (pc := 702)  dL_law_702 ?_
        obtain ⟨g347, h348⟩ := qk_el h36; clear h36
        refine ev_sld (pc := 703) (inb_el g347) dL_law_703 ?_
        refine ev_aload_n (pc := 704) (i := 0) rfl rfl rfl dL_law_704 ?_
        refine ev_iload (pc := 705) (i := 4) rfl dL_law_705 ?_
        refine ev_iconst (pc := 707) (v := 2) (by decide) dL_law_707 ?_
        refine ev_iadd (pc := 708)  dL_law_708 ?_
        obtain ⟨g349, h350⟩ := qk_el h348; clear h348
        refine ev_sld (pc := 709) (inb_el g349) dL_law_709 ?_
        refine ev_aload_n (pc := 710) (i := 3) rfl rfl rfl dL_law_710 ?_
        obtain ⟨x351, S352, e353, h354⟩ := qc_el h350; clear h350
        refine xv_callH (pc := 711) (k := (1 + 1 * n)) (j := (6 + 6 * n)) (st := []) (as := [.ref l1, .int (X.xs ((l4 + 1) : Int32).toNatClampNeg), .int (X.xs ((l4 + 2) : Int32).toNatClampNeg), .ref l3]) (v := (some (.int x351))) (S' := S352) ok_L_shadowed (e_L_shadowed (k := 1) (j := 6) (Or.inr ⟨Nat.le_refl _, Nat.le_refl _⟩) e353) (by omega) (by omega) (by decide) rfl (Nat.le_of_ble_eq_true rfl) rfl gw_809 dL_law_711 ?_
        refine ev_istore (pc := 714) (L' := [some (.retAddr 0), some (.ref l1), some (.ref l2), some (.ref l3), some (.int l4), some (.int x351), none]) (i := 5) (by decide) rfl rfl dL_law_714 ?_
        refine ev_aload_n (pc := 716) (i := 2) rfl rfl rfl dL_law_716 ?_
        refine ev_aload_n (pc := 717) (i := 0) rfl rfl rfl dL_law_717 ?_
        refine ev_iload (pc := 718) (i := 4) rfl dL_law_718 ?_
        refine ev_iconst (pc := 720) (v := 1) (by decide) dL_law_720 ?_
        refine ev_iadd (pc := 721)  dL_law_721 ?_
        obtain ⟨g355, h356⟩ := qk_el h354; clear h354
        refine ev_sld (pc := 722) (inb_el g355) dL_law_722 ?_
        refine ev_aload_n (pc := 723) (i := 0) rfl rfl rfl dL_law_723 ?_
        refine ev_iload (pc := 724) (i := 4) rfl dL_law_724 ?_
        refine ev_iconst (pc := 726) (v := 2) (by decide) dL_law_726 ?_
        refine ev_iadd (pc := 727)  dL_law_727 ?_
        obtain ⟨g357, h358⟩ := qk_el h356; clear h356
        refine ev_sld (pc := 728) (inb_el g357) dL_law_728 ?_
        obtain ⟨g359, h360⟩ := qk_el h358; clear h358
        obtain ⟨x361, S362, e363, h364⟩ := qc_el h360; clear h360
        refine xv_callV (pc := 729) (st := []) (as := [.int (X.xs ((l4 + 1) : Int32).toNatClampNeg), .int (X.xs ((l4 + 2) : Int32).toNatClampNeg)]) (v := (some (.int x361))) (S' := S362) ok_X12_shadowed (e_X12_shadowed e363) (isb_el g359) (by decide) rfl (Nat.le_of_ble_eq_true rfl) rfl gw_1444 dL_law_729 ?_
        refine ev_istore (pc := 732) (L' := [some (.retAddr 0), some (.ref l1), some (.ref l2), some (.ref l3), some (.int l4), some (.int x351), some (.int x361)]) (i := 6) (by decide) rfl rfl dL_law_732 ?_
        refine ev_aload_n (pc := 734) (i := 2) rfl rfl rfl dL_law_734 ?_
        obtain ⟨g365, h366⟩ := qk_el h364; clear h364
        obtain ⟨x367, S368, e369, h370⟩ := qc_el h366; clear h366
        refine xv_callV (pc := 735) (st := []) (as := []) (v := (some (.int x367))) (S' := S368) ok_X12_thrown (e_X12_thrown e369) (isb_el g365) (by decide) rfl (Nat.le_of_ble_eq_true rfl) rfl gw_1115 dL_law_735 ?_
        refine ev_iload (pc := 738) (i := 5) rfl dL_law_738 ?_
        refine ev_ic_eq (pc := 740) (tgt := 745) (by decide) dL_law_740 (fun c371 => ?_) (fun c371 => ?_)
        · replace h370 := qi_t h370 c371
          refine ev_iload (pc := 745) (i := 5) rfl dL_law_745 ?_
          refine ev_if_ne (pc := 747) (tgt := 769) (by decide) dL_law_747 (fun c373 => ?_) (fun c373 => ?_)
          · replace h370 := qi_f h370 c373
            refine ev_goto (pc := 769) (tgt := 1346) (by decide) dL_law_769 ?_
            refine ev_iinc (pc := 1346) (L' := [some (.retAddr 0), some (.ref l1), some (.ref l2), some (.ref l3), some (.int (l4 + 9)), some (.int x351), some (.int x361)]) (i := 4) (v := (l4 + 9)) rfl rfl (by decide) rfl rfl dL_law_1346 ?_
            refine ev_goto (pc := 1349) (tgt := 23) (by decide) dL_law_1349 ?_
            exact ev_mono (Nat.le_refl _) (by omega) (by omega) (ev_weak (qL_s (qL_s (qL_s (qL_s (qL_s (qL_n (qL_n qL_nil))))))) (ih _ _ _ _ _ _ h370))
          · replace h370 := qi_t h370 c373
            refine ev_aload_n (pc := 750) (i := 3) rfl rfl rfl dL_law_750 ?_
            refine ev_iconst (pc := 751) (v := 0) (by decide) dL_law_751 ?_
            obtain ⟨g375, h376⟩ := qk_el h370; clear h370
            obtain ⟨g377, h378⟩ := qk_el h376; clear h376
            obtain ⟨x379, e380, h381⟩ := qv_el h378; clear h378
            refine yv_lald (pc := 752) (isb_el g375) (inb_el g377) e380 dL_law_752 ?_
            refine ev_iload (pc := 753) (i := 6) rfl dL_law_753 ?_
            refine ev_if_eq (pc := 755) (tgt := 762) (by decide) dL_law_755 (fun c382 => ?_) (fun c382 => ?_)
            · replace h381 := qi_t h381 c382
              refine ev_lconst (pc := 762) (v := 0) (by decide) dL_law_762 ?_
              refine ev_lcmp (pc := 763)  dL_law_763 ?_
              refine ev_if_eq (pc := 764) (tgt := 769) (by decide) dL_law_764 (fun c384 => ?_) (fun c384 => ?_)
              · replace h381 := qi_t h381 (lc_eq c384)
                refine ev_goto (pc := 769) (tgt := 1346) (by decide) dL_law_769 ?_
                refine ev_iinc (pc := 1346) (L' := [some (.retAddr 0), some (.ref l1), some (.ref l2), some (.ref l3), some (.int (l4 + 9)), some (.int x351), some (.int x361)]) (i := 4) (v := (l4 + 9)) rfl rfl (by decide) rfl rfl dL_law_1346 ?_
                refine ev_goto (pc := 1349) (tgt := 23) (by decide) dL_law_1349 ?_
                exact ev_mono (Nat.le_refl _) (by omega) (by omega) (ev_weak (qL_s (qL_s (qL_s (qL_s (qL_s (qL_n (qL_n qL_nil))))))) (ih _ _ _ _ _ _ h381))
              · replace h381 := qi_f h381 (lc_eqN c384)
                refine ev_iconst (pc := 767) (v := 0) (by decide) dL_law_767 ?_
                exact ev_ireturn (pc := 768) rfl rfl (qRI_eq h381) dL_law_768
            · replace h381 := qi_f h381 c382
              refine ev_lconst (pc := 758) (v := 1) (by decide) dL_law_758 ?_
              refine ev_goto (pc := 759) (tgt := 763) (by decide) dL_law_759 ?_
              refine ev_lcmp (pc := 763)  dL_law_763 ?_
              refine ev_if_eq (pc := 764) (tgt := 769) (by decide) dL_law_764 (fun c386 => ?_) (fun c386 => ?_)
              · replace h381 := qi_t h381 (lc_eq c386)
                refine ev_goto (pc := 769) (tgt := 1346) (by decide) dL_law_769 ?_
                refine ev_iinc (pc := 1346) (L' := [some (.retAddr 0), some (.ref l1), some (.ref l2), some (.ref l3), some (.int (l4 + 9)), some (.int x351), some (.int x361)]) (i := 4) (v := (l4 + 9)) rfl rfl (by decide) rfl rfl dL_law_1346 ?_
                refine ev_goto (pc := 1349) (tgt := 23) (by decide) dL_law_1349 ?_
                exact ev_mono (Nat.le_refl _) (by omega) (by omega) (ev_weak (qL_s (qL_s (qL_s (qL_s (qL_s (qL_n (qL_n qL_nil))))))) (ih _ _ _ _ _ _ h381))
              · replace h381 := qi_f h381 (lc_eqN c386)
                refine ev_iconst (pc := 767) (v := 0) (by decide) dL_law_767 ?_
                exact ev_ireturn (pc := 768) rfl rfl (qRI_eq h381) dL_law_768
        · replace h370 := qi_f h370 c371
          refine ev_iconst (pc := 743) (v := 0) (by decide) dL_law_743 ?_
          exact ev_ireturn (pc := 744) rfl rfl (qRI_eq h370) dL_law_744
      replace h36 := qi_f h36 c346
      by_cases c388 : ((X.xs (l4 : Int32).toNatClampNeg) &&& 31) = 10
      · refine ev_tableIn (pc := 40) (off := 732) (tgt := 772) (by rw [c388]; decide) (by rw [c388]; decide) (by rw [c388]; rfl) (by decide) dL_law_40 ?_
        replace h36 := qi_t h36 c388
        refine ev_aload_n (pc := 772) (i := 1) rfl rfl rfl dL_law_772 ?_
        refine ev_aload_n (pc := 773) (i := 0) rfl rfl rfl dL_law_773 ?_
        refine ev_iload (pc := 774) (i := 4) rfl dL_law_774 ?_
        refine ev_iconst (pc := 776) (v := 1) (by decide) dL_law_776 ?_
        refine ev_iadd (pc := 777)  dL_law_777 ?_
        obtain ⟨g389, h390⟩ := qk_el h36; clear h36
        refine ev_sld (pc := 778) (inb_el g389) dL_law_778 ?_
        refine ev_aload_n (pc := 779) (i := 0) rfl rfl rfl dL_law_779 ?_
        refine ev_iload (pc := 780) (i := 4) rfl dL_law_780 ?_
        refine ev_iconst (pc := 782) (v := 2) (by decide) dL_law_782 ?_
        refine ev_iadd (pc := 783)  dL_law_783 ?_
        obtain ⟨g391, h392⟩ := qk_el h390; clear h390
        refine ev_sld (pc := 784) (inb_el g391) dL_law_784 ?_
        refine ev_aload_n (pc := 785) (i := 3) rfl rfl rfl dL_law_785 ?_
        obtain ⟨x393, S394, e395, h396⟩ := qc_el h392; clear h392
        refine xv_callH (pc := 786) (k := (1 + 1 * n)) (j := (6 + 6 * n)) (st := []) (as := [.ref l1, .int (X.xs ((l4 + 1) : Int32).toNatClampNeg), .int (X.xs ((l4 + 2) : Int32).toNatClampNeg), .ref l3]) (v := (some (.int x393))) (S' := S394) ok_L_alike (e_L_alike (k := 1) (j := 6) (Or.inr ⟨Nat.le_refl _, Nat.le_refl _⟩) e395) (by omega) (by omega) (by decide) rfl (Nat.le_of_ble_eq_true rfl) rfl gw_888 dL_law_786 ?_
        refine ev_istore (pc := 789) (L' := [some (.retAddr 0), some (.ref l1), some (.ref l2), some (.ref l3), some (.int l4), some (.int x393), none]) (i := 5) (by decide) rfl rfl dL_law_789 ?_
        refine ev_aload_n (pc := 791) (i := 2) rfl rfl rfl dL_law_791 ?_
        refine ev_aload_n (pc := 792) (i := 0) rfl rfl rfl dL_law_792 ?_
        refine ev_iload (pc := 793) (i := 4) rfl dL_law_793 ?_
        refine ev_iconst (pc := 795) (v := 1) (by decide) dL_law_795 ?_
        refine ev_iadd (pc := 796)  dL_law_796 ?_
        obtain ⟨g397, h398⟩ := qk_el h396; clear h396
        refine ev_sld (pc := 797) (inb_el g397) dL_law_797 ?_
        refine ev_aload_n (pc := 798) (i := 0) rfl rfl rfl dL_law_798 ?_
        refine ev_iload (pc := 799) (i := 4) rfl dL_law_799 ?_
        refine ev_iconst (pc := 801) (v := 2) (by decide) dL_law_801 ?_
        refine ev_iadd (pc := 802)  dL_law_802 ?_
        obtain ⟨g399, h400⟩ := qk_el h398; clear h398
        refine ev_sld (pc := 803) (inb_el g399) dL_law_803 ?_
        obtain ⟨g401, h402⟩ := qk_el h400; clear h400
        obtain ⟨x403, S404, e405, h406⟩ := qc_el h402; clear h402
        refine xv_callV (pc := 804) (st := []) (as := [.int (X.xs ((l4 + 1) : Int32).toNatClampNeg), .int (X.xs ((l4 + 2) : Int32).toNatClampNeg)]) (v := (some (.int x403))) (S' := S404) ok_X12_alike (e_X12_alike e405) (isb_el g401) (by decide) rfl (Nat.le_of_ble_eq_true rfl) rfl gw_1515 dL_law_804 ?_
        refine ev_istore (pc := 807) (L' := [some (.retAddr 0), some (.ref l1), some (.ref l2), some (.ref l3), some (.int l4), some (.int x393), some (.int x403)]) (i := 6) (by decide) rfl rfl dL_law_807 ?_
        refine ev_aload_n (pc := 809) (i := 2) rfl rfl rfl dL_law_809 ?_
        obtain ⟨g407, h408⟩ := qk_el h406; clear h406
        obtain ⟨x409, S410, e411, h412⟩ := qc_el h408; clear h408
        refine xv_callV (pc := 810) (st := []) (as := []) (v := (some (.int x409))) (S' := S410) ok_X12_thrown (e_X12_thrown e411) (isb_el g407) (by decide) rfl (Nat.le_of_ble_eq_true rfl) rfl gw_1115 dL_law_810 ?_
        refine ev_iload (pc := 813) (i := 5) rfl dL_law_813 ?_
        refine ev_ic_eq (pc := 815) (tgt := 820) (by decide) dL_law_815 (fun c413 => ?_) (fun c413 => ?_)
        · replace h412 := qi_t h412 c413
          refine ev_iload (pc := 820) (i := 5) rfl dL_law_820 ?_
          refine ev_if_ne (pc := 822) (tgt := 844) (by decide) dL_law_822 (fun c415 => ?_) (fun c415 => ?_)
          · replace h412 := qi_f h412 c415
            refine ev_goto (pc := 844) (tgt := 1346) (by decide) dL_law_844 ?_
            refine ev_iinc (pc := 1346) (L' := [some (.retAddr 0), some (.ref l1), some (.ref l2), some (.ref l3), some (.int (l4 + 9)), some (.int x393), some (.int x403)]) (i := 4) (v := (l4 + 9)) rfl rfl (by decide) rfl rfl dL_law_1346 ?_
            refine ev_goto (pc := 1349) (tgt := 23) (by decide) dL_law_1349 ?_
            exact ev_mono (Nat.le_refl _) (by omega) (by omega) (ev_weak (qL_s (qL_s (qL_s (qL_s (qL_s (qL_n (qL_n qL_nil))))))) (ih _ _ _ _ _ _ h412))
          · replace h412 := qi_t h412 c415
            refine ev_aload_n (pc := 825) (i := 3) rfl rfl rfl dL_law_825 ?_
            refine ev_iconst (pc := 826) (v := 0) (by decide) dL_law_826 ?_
            obtain ⟨g417, h418⟩ := qk_el h412; clear h412
            obtain ⟨g419, h420⟩ := qk_el h418; clear h418
            obtain ⟨x421, e422, h423⟩ := qv_el h420; clear h420
            refine yv_lald (pc := 827) (isb_el g417) (inb_el g419) e422 dL_law_827 ?_
            refine ev_iload (pc := 828) (i := 6) rfl dL_law_828 ?_
            refine ev_if_eq (pc := 830) (tgt := 837) (by decide) dL_law_830 (fun c424 => ?_) (fun c424 => ?_)
            · replace h423 := qi_t h423 c424
              refine ev_lconst (pc := 837) (v := 0) (by decide) dL_law_837 ?_
              refine ev_lcmp (pc := 838)  dL_law_838 ?_
              refine ev_if_eq (pc := 839) (tgt := 844) (by decide) dL_law_839 (fun c426 => ?_) (fun c426 => ?_)
              · replace h423 := qi_t h423 (lc_eq c426)
                refine ev_goto (pc := 844) (tgt := 1346) (by decide) dL_law_844 ?_
                refine ev_iinc (pc := 1346) (L' := [some (.retAddr 0), some (.ref l1), some (.ref l2), some (.ref l3), some (.int (l4 + 9)), some (.int x393), some (.int x403)]) (i := 4) (v := (l4 + 9)) rfl rfl (by decide) rfl rfl dL_law_1346 ?_
                refine ev_goto (pc := 1349) (tgt := 23) (by decide) dL_law_1349 ?_
                exact ev_mono (Nat.le_refl _) (by omega) (by omega) (ev_weak (qL_s (qL_s (qL_s (qL_s (qL_s (qL_n (qL_n qL_nil))))))) (ih _ _ _ _ _ _ h423))
              · replace h423 := qi_f h423 (lc_eqN c426)
                refine ev_iconst (pc := 842) (v := 0) (by decide) dL_law_842 ?_
                exact ev_ireturn (pc := 843) rfl rfl (qRI_eq h423) dL_law_843
            · replace h423 := qi_f h423 c424
              refine ev_lconst (pc := 833) (v := 1) (by decide) dL_law_833 ?_
              refine ev_goto (pc := 834) (tgt := 838) (by decide) dL_law_834 ?_
              refine ev_lcmp (pc := 838)  dL_law_838 ?_
              refine ev_if_eq (pc := 839) (tgt := 844) (by decide) dL_law_839 (fun c428 => ?_) (fun c428 => ?_)
              · replace h423 := qi_t h423 (lc_eq c428)
                refine ev_goto (pc := 844) (tgt := 1346) (by decide) dL_law_844 ?_
                refine ev_iinc (pc := 1346) (L' := [some (.retAddr 0), some (.ref l1), some (.ref l2), some (.ref l3), some (.int (l4 + 9)), some (.int x393), some (.int x403)]) (i := 4) (v := (l4 + 9)) rfl rfl (by decide) rfl rfl dL_law_1346 ?_
                refine ev_goto (pc := 1349) (tgt := 23) (by decide) dL_law_1349 ?_
                exact ev_mono (Nat.le_refl _) (by omega) (by omega) (ev_weak (qL_s (qL_s (qL_s (qL_s (qL_s (qL_n (qL_n qL_nil))))))) (ih _ _ _ _ _ _ h423))
              · replace h423 := qi_f h423 (lc_eqN c428)
                refine ev_iconst (pc := 842) (v := 0) (by decide) dL_law_842 ?_
                exact ev_ireturn (pc := 843) rfl rfl (qRI_eq h423) dL_law_843
        · replace h412 := qi_f h412 c413
          refine ev_iconst (pc := 818) (v := 0) (by decide) dL_law_818 ?_
          exact ev_ireturn (pc := 819) rfl rfl (qRI_eq h412) dL_law_819
      replace h36 := qi_f h36 c388
      by_cases c430 : ((X.xs (l4 : Int32).toNatClampNeg) &&& 31) = 11
      · refine ev_tableIn (pc := 40) (off := 807) (tgt := 847) (by rw [c430]; decide) (by rw [c430]; decide) (by rw [c430]; rfl) (by decide) dL_law_40 ?_
        replace h36 := qi_t h36 c430
        refine ev_aload_n (pc := 847) (i := 1) rfl rfl rfl dL_law_847 ?_
        refine ev_aload_n (pc := 848) (i := 0) rfl rfl rfl dL_law_848 ?_
        refine ev_iload (pc := 849) (i := 4) rfl dL_law_849 ?_
        refine ev_iconst (pc := 851) (v := 1) (by decide) dL_law_851 ?_
        refine ev_iadd (pc := 852)  dL_law_852 ?_
        obtain ⟨g431, h432⟩ := qk_el h36; clear h36
        refine ev_sld (pc := 853) (inb_el g431) dL_law_853 ?_
        refine ev_aload_n (pc := 854) (i := 3) rfl rfl rfl dL_law_854 ?_
        obtain ⟨x433, S434, e435, h436⟩ := qc_el h432; clear h432
        refine xv_callH (pc := 855) (k := (1 + 1 * n)) (j := (6 + 6 * n)) (st := []) (as := [.ref l1, .int (X.xs ((l4 + 1) : Int32).toNatClampNeg), .ref l3]) (v := (some (.int x433))) (S' := S434) ok_L_found (e_L_found (k := 1) (j := 6) (Or.inr ⟨Nat.le_refl _, Nat.le_refl _⟩) e435) (by omega) (by omega) (by decide) rfl (Nat.le_of_ble_eq_true rfl) rfl gw_899 dL_law_855 ?_
        refine ev_istore (pc := 858) (L' := [some (.retAddr 0), some (.ref l1), some (.ref l2), some (.ref l3), some (.int l4), some (.int x433), none]) (i := 5) (by decide) rfl rfl dL_law_858 ?_
        refine ev_aload_n (pc := 860) (i := 2) rfl rfl rfl dL_law_860 ?_
        refine ev_aload_n (pc := 861) (i := 0) rfl rfl rfl dL_law_861 ?_
        refine ev_iload (pc := 862) (i := 4) rfl dL_law_862 ?_
        refine ev_iconst (pc := 864) (v := 1) (by decide) dL_law_864 ?_
        refine ev_iadd (pc := 865)  dL_law_865 ?_
        obtain ⟨g437, h438⟩ := qk_el h436; clear h436
        refine ev_sld (pc := 866) (inb_el g437) dL_law_866 ?_
        obtain ⟨g439, h440⟩ := qk_el h438; clear h438
        obtain ⟨x441, S442, e443, h444⟩ := qc_el h440; clear h440
        refine xv_callV (pc := 867) (st := []) (as := [.int (X.xs ((l4 + 1) : Int32).toNatClampNeg)]) (v := (some (.int x441))) (S' := S442) ok_X12_found (e_X12_found e443) (isb_el g439) (by decide) rfl (Nat.le_of_ble_eq_true rfl) rfl gw_1519 dL_law_867 ?_
        refine ev_istore (pc := 870) (L' := [some (.retAddr 0), some (.ref l1), some (.ref l2), some (.ref l3), some (.int l4), some (.int x433), some (.int x441)]) (i := 6) (by decide) rfl rfl dL_law_870 ?_
        refine ev_aload_n (pc := 872) (i := 2) rfl rfl rfl dL_law_872 ?_
        obtain ⟨g445, h446⟩ := qk_el h444; clear h444
        obtain ⟨x447, S448, e449, h450⟩ := qc_el h446; clear h446
        refine xv_callV (pc := 873) (st := []) (as := []) (v := (some (.int x447))) (S' := S448) ok_X12_thrown (e_X12_thrown e449) (isb_el g445) (by decide) rfl (Nat.le_of_ble_eq_true rfl) rfl gw_1115 dL_law_873 ?_
        refine ev_iload (pc := 876) (i := 5) rfl dL_law_876 ?_
        refine ev_ic_eq (pc := 878) (tgt := 883) (by decide) dL_law_878 (fun c451 => ?_) (fun c451 => ?_)
        · replace h450 := qi_t h450 c451
          refine ev_iload (pc := 883) (i := 5) rfl dL_law_883 ?_
          refine ev_if_ne (pc := 885) (tgt := 900) (by decide) dL_law_885 (fun c453 => ?_) (fun c453 => ?_)
          · replace h450 := qi_f h450 c453
            refine ev_goto (pc := 900) (tgt := 1346) (by decide) dL_law_900 ?_
            refine ev_iinc (pc := 1346) (L' := [some (.retAddr 0), some (.ref l1), some (.ref l2), some (.ref l3), some (.int (l4 + 9)), some (.int x433), some (.int x441)]) (i := 4) (v := (l4 + 9)) rfl rfl (by decide) rfl rfl dL_law_1346 ?_
            refine ev_goto (pc := 1349) (tgt := 23) (by decide) dL_law_1349 ?_
            exact ev_mono (Nat.le_refl _) (by omega) (by omega) (ev_weak (qL_s (qL_s (qL_s (qL_s (qL_s (qL_n (qL_n qL_nil))))))) (ih _ _ _ _ _ _ h450))
          · replace h450 := qi_t h450 c453
            refine ev_aload_n (pc := 888) (i := 3) rfl rfl rfl dL_law_888 ?_
            refine ev_iconst (pc := 889) (v := 0) (by decide) dL_law_889 ?_
            obtain ⟨g455, h456⟩ := qk_el h450; clear h450
            obtain ⟨g457, h458⟩ := qk_el h456; clear h456
            obtain ⟨x459, e460, h461⟩ := qv_el h458; clear h458
            refine yv_lald (pc := 890) (isb_el g455) (inb_el g457) e460 dL_law_890 ?_
            refine ev_iload (pc := 891) (i := 6) rfl dL_law_891 ?_
            refine ev_i2l (pc := 893)  dL_law_893 ?_
            refine ev_lcmp (pc := 894)  dL_law_894 ?_
            refine ev_if_eq (pc := 895) (tgt := 900) (by decide) dL_law_895 (fun c462 => ?_) (fun c462 => ?_)
            · replace h461 := qi_t h461 (lc_eq c462)
              refine ev_goto (pc := 900) (tgt := 1346) (by decide) dL_law_900 ?_
              refine ev_iinc (pc := 1346) (L' := [some (.retAddr 0), some (.ref l1), some (.ref l2), some (.ref l3), some (.int (l4 + 9)), some (.int x433), some (.int x441)]) (i := 4) (v := (l4 + 9)) rfl rfl (by decide) rfl rfl dL_law_1346 ?_
              refine ev_goto (pc := 1349) (tgt := 23) (by decide) dL_law_1349 ?_
              exact ev_mono (Nat.le_refl _) (by omega) (by omega) (ev_weak (qL_s (qL_s (qL_s (qL_s (qL_s (qL_n (qL_n qL_nil))))))) (ih _ _ _ _ _ _ h461))
            · replace h461 := qi_f h461 (lc_eqN c462)
              refine ev_iconst (pc := 898) (v := 0) (by decide) dL_law_898 ?_
              exact ev_ireturn (pc := 899) rfl rfl (qRI_eq h461) dL_law_899
        · replace h450 := qi_f h450 c451
          refine ev_iconst (pc := 881) (v := 0) (by decide) dL_law_881 ?_
          exact ev_ireturn (pc := 882) rfl rfl (qRI_eq h450) dL_law_882
      replace h36 := qi_f h36 c430
      by_cases c464 : ((X.xs (l4 : Int32).toNatClampNeg) &&& 31) = 12
      · refine ev_tableIn (pc := 40) (off := 863) (tgt := 903) (by rw [c464]; decide) (by rw [c464]; decide) (by rw [c464]; rfl) (by decide) dL_law_40 ?_
        replace h36 := qi_t h36 c464
        refine ev_aload_n (pc := 903) (i := 1) rfl rfl rfl dL_law_903 ?_
        refine ev_aload_n (pc := 904) (i := 0) rfl rfl rfl dL_law_904 ?_
        refine ev_iload (pc := 905) (i := 4) rfl dL_law_905 ?_
        refine ev_iconst (pc := 907) (v := 1) (by decide) dL_law_907 ?_
        refine ev_iadd (pc := 908)  dL_law_908 ?_
        obtain ⟨g465, h466⟩ := qk_el h36; clear h36
        refine ev_sld (pc := 909) (inb_el g465) dL_law_909 ?_
        refine ev_aload_n (pc := 910) (i := 0) rfl rfl rfl dL_law_910 ?_
        refine ev_iload (pc := 911) (i := 4) rfl dL_law_911 ?_
        refine ev_iconst (pc := 913) (v := 2) (by decide) dL_law_913 ?_
        refine ev_iadd (pc := 914)  dL_law_914 ?_
        obtain ⟨g467, h468⟩ := qk_el h466; clear h466
        refine ev_sld (pc := 915) (inb_el g467) dL_law_915 ?_
        refine ev_aload_n (pc := 916) (i := 3) rfl rfl rfl dL_law_916 ?_
        obtain ⟨x469, S470, e471, h472⟩ := qc_el h468; clear h468
        refine xv_callH (pc := 917) (k := (1 + 1 * n)) (j := (6 + 6 * n)) (st := []) (as := [.ref l1, .int (X.xs ((l4 + 1) : Int32).toNatClampNeg), .int (X.xs ((l4 + 2) : Int32).toNatClampNeg), .ref l3]) (v := (some (.int x469))) (S' := S470) ok_L_least (e_L_least (k := 1) (j := 6) (Or.inr ⟨Nat.le_refl _, Nat.le_refl _⟩) e471) (by omega) (by omega) (by decide) rfl (Nat.le_of_ble_eq_true rfl) rfl gw_907 dL_law_917 ?_
        refine ev_istore (pc := 920) (L' := [some (.retAddr 0), some (.ref l1), some (.ref l2), some (.ref l3), some (.int l4), some (.int x469), none]) (i := 5) (by decide) rfl rfl dL_law_920 ?_
        refine ev_aload_n (pc := 922) (i := 2) rfl rfl rfl dL_law_922 ?_
        refine ev_aload_n (pc := 923) (i := 0) rfl rfl rfl dL_law_923 ?_
        refine ev_iload (pc := 924) (i := 4) rfl dL_law_924 ?_
        refine ev_iconst (pc := 926) (v := 1) (by decide) dL_law_926 ?_
        refine ev_iadd (pc := 927)  dL_law_927 ?_
        obtain ⟨g473, h474⟩ := qk_el h472; clear h472
        refine ev_sld (pc := 928) (inb_el g473) dL_law_928 ?_
        refine ev_aload_n (pc := 929) (i := 0) rfl rfl rfl dL_law_929 ?_
        refine ev_iload (pc := 930) (i := 4) rfl dL_law_930 ?_
        refine ev_iconst (pc := 932) (v := 2) (by decide) dL_law_932 ?_
        refine ev_iadd (pc := 933)  dL_law_933 ?_
        obtain ⟨g475, h476⟩ := qk_el h474; clear h474
        refine ev_sld (pc := 934) (inb_el g475) dL_law_934 ?_
        obtain ⟨g477, h478⟩ := qk_el h476; clear h476
        obtain ⟨x479, S480, e481, h482⟩ := qc_el h478; clear h478
        refine xv_callV (pc := 935) (st := []) (as := [.int (X.xs ((l4 + 1) : Int32).toNatClampNeg), .int (X.xs ((l4 + 2) : Int32).toNatClampNeg)]) (v := (some (.int x479))) (S' := S480) ok_X12_least (e_X12_least e481) (isb_el g477) (by decide) rfl (Nat.le_of_ble_eq_true rfl) rfl gw_1523 dL_law_935 ?_
        refine ev_istore (pc := 938) (L' := [some (.retAddr 0), some (.ref l1), some (.ref l2), some (.ref l3), some (.int l4), some (.int x469), some (.int x479)]) (i := 6) (by decide) rfl rfl dL_law_938 ?_
        refine ev_aload_n (pc := 940) (i := 2) rfl rfl rfl dL_law_940 ?_
        obtain ⟨g483, h484⟩ := qk_el h482; clear h482
        obtain ⟨x485, S486, e487, h488⟩ := qc_el h484; clear h484
        refine xv_callV (pc := 941) (st := []) (as := []) (v := (some (.int x485))) (S' := S486) ok_X12_thrown (e_X12_thrown e487) (isb_el g483) (by decide) rfl (Nat.le_of_ble_eq_true rfl) rfl gw_1115 dL_law_941 ?_
        refine ev_iload (pc := 944) (i := 5) rfl dL_law_944 ?_
        refine ev_ic_eq (pc := 946) (tgt := 951) (by decide) dL_law_946 (fun c489 => ?_) (fun c489 => ?_)
        · replace h488 := qi_t h488 c489
          refine ev_iload (pc := 951) (i := 5) rfl dL_law_951 ?_
          refine ev_if_ne (pc := 953) (tgt := 968) (by decide) dL_law_953 (fun c491 => ?_) (fun c491 => ?_)
          · replace h488 := qi_f h488 c491
            refine ev_goto (pc := 968) (tgt := 1346) (by decide) dL_law_968 ?_
            refine ev_iinc (pc := 1346) (L' := [some (.retAddr 0), some (.ref l1), some (.ref l2), some (.ref l3), some (.int (l4 + 9)), some (.int x469), some (.int x479)]) (i := 4) (v := (l4 + 9)) rfl rfl (by decide) rfl rfl dL_law_1346 ?_
            refine ev_goto (pc := 1349) (tgt := 23) (by decide) dL_law_1349 ?_
            exact ev_mono (Nat.le_refl _) (by omega) (by omega) (ev_weak (qL_s (qL_s (qL_s (qL_s (qL_s (qL_n (qL_n qL_nil))))))) (ih _ _ _ _ _ _ h488))
          · replace h488 := qi_t h488 c491
            refine ev_aload_n (pc := 956) (i := 3) rfl rfl rfl dL_law_956 ?_
            refine ev_iconst (pc := 957) (v := 0) (by decide) dL_law_957 ?_
            obtain ⟨g493, h494⟩ := qk_el h488; clear h488
            obtain ⟨g495, h496⟩ := qk_el h494; clear h494
            obtain ⟨x497, e498, h499⟩ := qv_el h496; clear h496
            refine yv_lald (pc := 958) (isb_el g493) (inb_el g495) e498 dL_law_958 ?_
            refine ev_iload (pc := 959) (i := 6) rfl dL_law_959 ?_
            refine ev_i2l (pc := 961)  dL_law_961 ?_
            refine ev_lcmp (pc := 962)  dL_law_962 ?_
            refine ev_if_eq (pc := 963) (tgt := 968) (by decide) dL_law_963 (fun c500 => ?_) (fun c500 => ?_)
            · replace h499 := qi_t h499 (lc_eq c500)
              refine ev_goto (pc := 968) (tgt := 1346) (by decide) dL_law_968 ?_
              refine ev_iinc (pc := 1346) (L' := [some (.retAddr 0), some (.ref l1), some (.ref l2), some (.ref l3), some (.int (l4 + 9)), some (.int x469), some (.int x479)]) (i := 4) (v := (l4 + 9)) rfl rfl (by decide) rfl rfl dL_law_1346 ?_
              refine ev_goto (pc := 1349) (tgt := 23) (by decide) dL_law_1349 ?_
              exact ev_mono (Nat.le_refl _) (by omega) (by omega) (ev_weak (qL_s (qL_s (qL_s (qL_s (qL_s (qL_n (qL_n qL_nil))))))) (ih _ _ _ _ _ _ h499))
            · replace h499 := qi_f h499 (lc_eqN c500)
              refine ev_iconst (pc := 966) (v := 0) (by decide) dL_law_966 ?_
              exact ev_ireturn (pc := 967) rfl rfl (qRI_eq h499) dL_law_967
        · replace h488 := qi_f h488 c489
          refine ev_iconst (pc := 949) (v := 0) (by decide) dL_law_949 ?_
          exact ev_ireturn (pc := 950) rfl rfl (qRI_eq h488) dL_law_950
      replace h36 := qi_f h36 c464
      by_cases c502 : ((X.xs (l4 : Int32).toNatClampNeg) &&& 31) = 13
      · refine ev_tableIn (pc := 40) (off := 931) (tgt := 971) (by rw [c502]; decide) (by rw [c502]; decide) (by rw [c502]; rfl) (by decide) dL_law_40 ?_
        replace h36 := qi_t h36 c502
        refine ev_aload_n (pc := 971) (i := 1) rfl rfl rfl dL_law_971 ?_
        refine ev_aload_n (pc := 972) (i := 0) rfl rfl rfl dL_law_972 ?_
        refine ev_iload (pc := 973) (i := 4) rfl dL_law_973 ?_
        refine ev_iconst (pc := 975) (v := 1) (by decide) dL_law_975 ?_
        refine ev_iadd (pc := 976)  dL_law_976 ?_
        obtain ⟨g503, h504⟩ := qk_el h36; clear h36
        refine ev_sld (pc := 977) (inb_el g503) dL_law_977 ?_
        obtain ⟨g505, h506⟩ := qk_el h504; clear h504
        obtain ⟨x507, S508, e509, h510⟩ := qc_el h506; clear h506
        refine xv_callV (pc := 978) (st := []) (as := [.int (X.xs ((l4 + 1) : Int32).toNatClampNeg)]) (v := (some (.int x507))) (S' := S508) ok_X11_now (e_X11_now e509) (isb_el g505) (by decide) rfl (Nat.le_of_ble_eq_true rfl) rfl gw_349 dL_law_978 ?_
        refine ev_aload_n (pc := 981) (i := 2) rfl rfl rfl dL_law_981 ?_
        refine ev_aload_n (pc := 982) (i := 0) rfl rfl rfl dL_law_982 ?_
        refine ev_iload (pc := 983) (i := 4) rfl dL_law_983 ?_
        refine ev_iconst (pc := 985) (v := 1) (by decide) dL_law_985 ?_
        refine ev_iadd (pc := 986)  dL_law_986 ?_
        obtain ⟨g511, h512⟩ := qk_el h510; clear h510
        refine ev_sld (pc := 987) (inb_el g511) dL_law_987 ?_
        obtain ⟨g513, h514⟩ := qk_el h512; clear h512
        obtain ⟨x515, S516, e517, h518⟩ := qc_el h514; clear h514
        refine xv_callV (pc := 988) (st := [.int x507]) (as := [.int (X.xs ((l4 + 1) : Int32).toNatClampNeg)]) (v := (some (.int x515))) (S' := S516) ok_X12_now (e_X12_now e517) (isb_el g513) (by decide) rfl (Nat.le_of_ble_eq_true rfl) rfl gw_1531 dL_law_988 ?_
        refine ev_ic_eq (pc := 991) (tgt := 1346) (by decide) dL_law_991 (fun c519 => ?_) (fun c519 => ?_)
        · replace h518 := qi_t h518 c519
          refine ev_iinc (pc := 1346) (L' := [some (.retAddr 0), some (.ref l1), some (.ref l2), some (.ref l3), some (.int (l4 + 9)), none, none]) (i := 4) (v := (l4 + 9)) rfl rfl (by decide) rfl rfl dL_law_1346 ?_
          refine ev_goto (pc := 1349) (tgt := 23) (by decide) dL_law_1349 ?_
          exact ev_mono (Nat.le_refl _) (by omega) (by omega) (ev_weak (qL_s (qL_s (qL_s (qL_s (qL_s (qL_n (qL_n qL_nil))))))) (ih _ _ _ _ _ _ h518))
        · replace h518 := qi_f h518 c519
          refine ev_iconst (pc := 994) (v := 0) (by decide) dL_law_994 ?_
          exact ev_ireturn (pc := 995) rfl rfl (qRI_eq h518) dL_law_995
      replace h36 := qi_f h36 c502
      by_cases c521 : ((X.xs (l4 : Int32).toNatClampNeg) &&& 31) = 14
      · refine ev_tableIn (pc := 40) (off := 956) (tgt := 996) (by rw [c521]; decide) (by rw [c521]; decide) (by rw [c521]; rfl) (by decide) dL_law_40 ?_
        replace h36 := qi_t h36 c521
        refine ev_aload_n (pc := 996) (i := 1) rfl rfl rfl dL_law_996 ?_
        refine ev_aload_n (pc := 997) (i := 0) rfl rfl rfl dL_law_997 ?_
        refine ev_iload (pc := 998) (i := 4) rfl dL_law_998 ?_
        refine ev_iconst (pc := 1000) (v := 1) (by decide) dL_law_1000 ?_
        refine ev_iadd (pc := 1001)  dL_law_1001 ?_
        obtain ⟨g522, h523⟩ := qk_el h36; clear h36
        refine ev_sld (pc := 1002) (inb_el g522) dL_law_1002 ?_
        obtain ⟨g524, h525⟩ := qk_el h523; clear h523
        obtain ⟨x526, S527, e528, h529⟩ := qc_el h525; clear h525
        refine xv_callV (pc := 1003) (st := []) (as := [.int (X.xs ((l4 + 1) : Int32).toNatClampNeg)]) (v := (some (.int x526))) (S' := S527) ok_X11_room (e_X11_room e528) (isb_el g524) (by decide) rfl (Nat.le_of_ble_eq_true rfl) rfl gw_366 dL_law_1003 ?_
        refine ev_aload_n (pc := 1006) (i := 2) rfl rfl rfl dL_law_1006 ?_
        refine ev_aload_n (pc := 1007) (i := 0) rfl rfl rfl dL_law_1007 ?_
        refine ev_iload (pc := 1008) (i := 4) rfl dL_law_1008 ?_
        refine ev_iconst (pc := 1010) (v := 1) (by decide) dL_law_1010 ?_
        refine ev_iadd (pc := 1011)  dL_law_1011 ?_
        obtain ⟨g530, h531⟩ := qk_el h529; clear h529
        refine ev_sld (pc := 1012) (inb_el g530) dL_law_1012 ?_
        obtain ⟨g532, h533⟩ := qk_el h531; clear h531
        obtain ⟨x534, S535, e536, h537⟩ := qc_el h533; clear h533
        refine xv_callV (pc := 1013) (st := [.int x526]) (as := [.int (X.xs ((l4 + 1) : Int32).toNatClampNeg)]) (v := (some (.int x534))) (S' := S535) ok_X12_room (e_X12_room e536) (isb_el g532) (by decide) rfl (Nat.le_of_ble_eq_true rfl) rfl gw_1540 dL_law_1013 ?_
        refine ev_ic_eq (pc := 1016) (tgt := 1346) (by decide) dL_law_1016 (fun c538 => ?_) (fun c538 => ?_)
        · replace h537 := qi_t h537 c538
          refine ev_iinc (pc := 1346) (L' := [some (.retAddr 0), some (.ref l1), some (.ref l2), some (.ref l3), some (.int (l4 + 9)), none, none]) (i := 4) (v := (l4 + 9)) rfl rfl (by decide) rfl rfl dL_law_1346 ?_
          refine ev_goto (pc := 1349) (tgt := 23) (by decide) dL_law_1349 ?_
          exact ev_mono (Nat.le_refl _) (by omega) (by omega) (ev_weak (qL_s (qL_s (qL_s (qL_s (qL_s (qL_n (qL_n qL_nil))))))) (ih _ _ _ _ _ _ h537))
        · replace h537 := qi_f h537 c538
          refine ev_iconst (pc := 1019) (v := 0) (by decide) dL_law_1019 ?_
          exact ev_ireturn (pc := 1020) rfl rfl (qRI_eq h537) dL_law_1020
      replace h36 := qi_f h36 c521
      by_cases c540 : ((X.xs (l4 : Int32).toNatClampNeg) &&& 31) = 15
      · refine ev_tableIn (pc := 40) (off := 981) (tgt := 1021) (by rw [c540]; decide) (by rw [c540]; decide) (by rw [c540]; rfl) (by decide) dL_law_40 ?_
        replace h36 := qi_t h36 c540
        refine ev_aload_n (pc := 1021) (i := 1) rfl rfl rfl dL_law_1021 ?_
        refine ev_aload_n (pc := 1022) (i := 0) rfl rfl rfl dL_law_1022 ?_
        refine ev_iload (pc := 1023) (i := 4) rfl dL_law_1023 ?_
        refine ev_iconst (pc := 1025) (v := 1) (by decide) dL_law_1025 ?_
        refine ev_iadd (pc := 1026)  dL_law_1026 ?_
        obtain ⟨g541, h542⟩ := qk_el h36; clear h36
        refine ev_sld (pc := 1027) (inb_el g541) dL_law_1027 ?_
        refine ev_aload_n (pc := 1028) (i := 0) rfl rfl rfl dL_law_1028 ?_
        refine ev_iload (pc := 1029) (i := 4) rfl dL_law_1029 ?_
        refine ev_iconst (pc := 1031) (v := 2) (by decide) dL_law_1031 ?_
        refine ev_iadd (pc := 1032)  dL_law_1032 ?_
        obtain ⟨g543, h544⟩ := qk_el h542; clear h542
        refine ev_sld (pc := 1033) (inb_el g543) dL_law_1033 ?_
        refine ev_aload_n (pc := 1034) (i := 0) rfl rfl rfl dL_law_1034 ?_
        refine ev_iload (pc := 1035) (i := 4) rfl dL_law_1035 ?_
        refine ev_iconst (pc := 1037) (v := 3) (by decide) dL_law_1037 ?_
        refine ev_iadd (pc := 1038)  dL_law_1038 ?_
        obtain ⟨g545, h546⟩ := qk_el h544; clear h544
        refine ev_sld (pc := 1039) (inb_el g545) dL_law_1039 ?_
        refine ev_aload_n (pc := 1040) (i := 0) rfl rfl rfl dL_law_1040 ?_
        refine ev_iload (pc := 1041) (i := 4) rfl dL_law_1041 ?_
        refine ev_iconst (pc := 1043) (v := 4) (by decide) dL_law_1043 ?_
        refine ev_iadd (pc := 1044)  dL_law_1044 ?_
        obtain ⟨g547, h548⟩ := qk_el h546; clear h546
        refine ev_sld (pc := 1045) (inb_el g547) dL_law_1045 ?_
        refine ev_aload_n (pc := 1046) (i := 0) rfl rfl rfl dL_law_1046 ?_
        refine ev_iload (pc := 1047) (i := 4) rfl dL_law_1047 ?_
        refine ev_iconst (pc := 1049) (v := 5) (by decide) dL_law_1049 ?_
        refine ev_iadd (pc := 1050)  dL_law_1050 ?_
        obtain ⟨g549, h550⟩ := qk_el h548; clear h548
        refine ev_sld (pc := 1051) (inb_el g549) dL_law_1051 ?_
        refine ev_aload_n (pc := 1052) (i := 0) rfl rfl rfl dL_law_1052 ?_
        refine ev_iload (pc := 1053) (i := 4) rfl dL_law_1053 ?_
        refine ev_bipush (pc := 1055) (v := 6) (by decide) dL_law_1055 ?_
        refine ev_iadd (pc := 1057)  dL_law_1057 ?_
        obtain ⟨g551, h552⟩ := qk_el h550; clear h550
        refine ev_sld (pc := 1058) (inb_el g551) dL_law_1058 ?_
        refine ev_aload_n (pc := 1059) (i := 0) rfl rfl rfl dL_law_1059 ?_
        refine ev_iload (pc := 1060) (i := 4) rfl dL_law_1060 ?_
        refine ev_bipush (pc := 1062) (v := 7) (by decide) dL_law_1062 ?_
        refine ev_iadd (pc := 1064)  dL_law_1064 ?_
        obtain ⟨g553, h554⟩ := qk_el h552; clear h552
        refine ev_sld (pc := 1065) (inb_el g553) dL_law_1065 ?_
        refine ev_aload_n (pc := 1066) (i := 3) rfl rfl rfl dL_law_1066 ?_
        obtain ⟨x555, S556, e557, h558⟩ := qc_el h554; clear h554
        refine xv_callH (pc := 1067) (k := (1 + 1 * n)) (j := (6 + 6 * n)) (st := []) (as := [.ref l1, .int (X.xs ((l4 + 1) : Int32).toNatClampNeg), .int (X.xs ((l4 + 2) : Int32).toNatClampNeg), .int (X.xs ((l4 + 3) : Int32).toNatClampNeg), .int (X.xs ((l4 + 4) : Int32).toNatClampNeg), .int (X.xs ((l4 + 5) : Int32).toNatClampNeg), .int (X.xs ((l4 + 6) : Int32).toNatClampNeg), .int (X.xs ((l4 + 7) : Int32).toNatClampNeg), .ref l3]) (v := (some (.int x555))) (S' := S556) ok_L_packet (e_L_packet (k := 1) (j := 6) (Or.inr ⟨Nat.le_refl _, Nat.le_refl _⟩) e557) (by omega) (by omega) (by decide) rfl (Nat.le_of_ble_eq_true rfl) rfl gw_928 dL_law_1067 ?_
        refine ev_istore (pc := 1070) (L' := [some (.retAddr 0), some (.ref l1), some (.ref l2), some (.ref l3), some (.int l4), some (.int x555), none]) (i := 5) (by decide) rfl rfl dL_law_1070 ?_
        refine ev_aload_n (pc := 1072) (i := 2) rfl rfl rfl dL_law_1072 ?_
        refine ev_aload_n (pc := 1073) (i := 0) rfl rfl rfl dL_law_1073 ?_
        refine ev_iload (pc := 1074) (i := 4) rfl dL_law_1074 ?_
        refine ev_iconst (pc := 1076) (v := 1) (by decide) dL_law_1076 ?_
        refine ev_iadd (pc := 1077)  dL_law_1077 ?_
        obtain ⟨g559, h560⟩ := qk_el h558; clear h558
        refine ev_sld (pc := 1078) (inb_el g559) dL_law_1078 ?_
        refine ev_aload_n (pc := 1079) (i := 0) rfl rfl rfl dL_law_1079 ?_
        refine ev_iload (pc := 1080) (i := 4) rfl dL_law_1080 ?_
        refine ev_iconst (pc := 1082) (v := 2) (by decide) dL_law_1082 ?_
        refine ev_iadd (pc := 1083)  dL_law_1083 ?_
        obtain ⟨g561, h562⟩ := qk_el h560; clear h560
        refine ev_sld (pc := 1084) (inb_el g561) dL_law_1084 ?_
        refine ev_aload_n (pc := 1085) (i := 0) rfl rfl rfl dL_law_1085 ?_
        refine ev_iload (pc := 1086) (i := 4) rfl dL_law_1086 ?_
        refine ev_iconst (pc := 1088) (v := 3) (by decide) dL_law_1088 ?_
        refine ev_iadd (pc := 1089)  dL_law_1089 ?_
        obtain ⟨g563, h564⟩ := qk_el h562; clear h562
        refine ev_sld (pc := 1090) (inb_el g563) dL_law_1090 ?_
        refine ev_aload_n (pc := 1091) (i := 0) rfl rfl rfl dL_law_1091 ?_
        refine ev_iload (pc := 1092) (i := 4) rfl dL_law_1092 ?_
        refine ev_iconst (pc := 1094) (v := 4) (by decide) dL_law_1094 ?_
        refine ev_iadd (pc := 1095)  dL_law_1095 ?_
        obtain ⟨g565, h566⟩ := qk_el h564; clear h564
        refine ev_sld (pc := 1096) (inb_el g565) dL_law_1096 ?_
        refine ev_aload_n (pc := 1097) (i := 0) rfl rfl rfl dL_law_1097 ?_
        refine ev_iload (pc := 1098) (i := 4) rfl dL_law_1098 ?_
        refine ev_iconst (pc := 1100) (v := 5) (by decide) dL_law_1100 ?_
        refine ev_iadd (pc := 1101)  dL_law_1101 ?_
        obtain ⟨g567, h568⟩ := qk_el h566; clear h566
        refine ev_sld (pc := 1102) (inb_el g567) dL_law_1102 ?_
        refine ev_aload_n (pc := 1103) (i := 0) rfl rfl rfl dL_law_1103 ?_
        refine ev_iload (pc := 1104) (i := 4) rfl dL_law_1104 ?_
        refine ev_bipush (pc := 1106) (v := 6) (by decide) dL_law_1106 ?_
        refine ev_iadd (pc := 1108)  dL_law_1108 ?_
        obtain ⟨g569, h570⟩ := qk_el h568; clear h568
        refine ev_sld (pc := 1109) (inb_el g569) dL_law_1109 ?_
        refine ev_aload_n (pc := 1110) (i := 0) rfl rfl rfl dL_law_1110 ?_
        refine ev_iload (pc := 1111) (i := 4) rfl dL_law_1111 ?_
        refine ev_bipush (pc := 1113) (v := 7) (by decide) dL_law_1113 ?_
        refine ev_iadd (pc := 1115)  dL_law_1115 ?_
        obtain ⟨g571, h572⟩ := qk_el h570; clear h570
        refine ev_sld (pc := 1116) (inb_el g571) dL_law_1116 ?_
        obtain ⟨g573, h574⟩ := qk_el h572; clear h572
        obtain ⟨x575, S576, e577, h578⟩ := qc_el h574; clear h574
        refine xv_callV (pc := 1117) (st := []) (as := [.int (X.xs ((l4 + 1) : Int32).toNatClampNeg), .int (X.xs ((l4 + 2) : Int32).toNatClampNeg), .int (X.xs ((l4 + 3) : Int32).toNatClampNeg), .int (X.xs ((l4 + 4) : Int32).toNatClampNeg), .int (X.xs ((l4 + 5) : Int32).toNatClampNeg), .int (X.xs ((l4 + 6) : Int32).toNatClampNeg), .int (X.xs ((l4 + 7) : Int32).toNatClampNeg)]) (v := (some (.int x575))) (S' := S576) ok_X12_packet (e_X12_packet e577) (isb_el g573) (by decide) rfl (Nat.le_of_ble_eq_true rfl) rfl gw_1544 dL_law_1117 ?_
        refine ev_istore (pc := 1120) (L' := [some (.retAddr 0), some (.ref l1), some (.ref l2), some (.ref l3), some (.int l4), some (.int x555), some (.int x575)]) (i := 6) (by decide) rfl rfl dL_law_1120 ?_
        refine ev_aload_n (pc := 1122) (i := 2) rfl rfl rfl dL_law_1122 ?_
        obtain ⟨g579, h580⟩ := qk_el h578; clear h578
        obtain ⟨x581, S582, e583, h584⟩ := qc_el h580; clear h580
        refine xv_callV (pc := 1123) (st := []) (as := []) (v := (some (.int x581))) (S' := S582) ok_X12_thrown (e_X12_thrown e583) (isb_el g579) (by decide) rfl (Nat.le_of_ble_eq_true rfl) rfl gw_1115 dL_law_1123 ?_
        refine ev_iload (pc := 1126) (i := 5) rfl dL_law_1126 ?_
        refine ev_ic_eq (pc := 1128) (tgt := 1133) (by decide) dL_law_1128 (fun c585 => ?_) (fun c585 => ?_)
        · replace h584 := qi_t h584 c585
          refine ev_iload (pc := 1133) (i := 5) rfl dL_law_1133 ?_
          refine ev_if_ne (pc := 1135) (tgt := 1150) (by decide) dL_law_1135 (fun c587 => ?_) (fun c587 => ?_)
          · replace h584 := qi_f h584 c587
            refine ev_goto (pc := 1150) (tgt := 1346) (by decide) dL_law_1150 ?_
            refine ev_iinc (pc := 1346) (L' := [some (.retAddr 0), some (.ref l1), some (.ref l2), some (.ref l3), some (.int (l4 + 9)), some (.int x555), some (.int x575)]) (i := 4) (v := (l4 + 9)) rfl rfl (by decide) rfl rfl dL_law_1346 ?_
            refine ev_goto (pc := 1349) (tgt := 23) (by decide) dL_law_1349 ?_
            exact ev_mono (Nat.le_refl _) (by omega) (by omega) (ev_weak (qL_s (qL_s (qL_s (qL_s (qL_s (qL_n (qL_n qL_nil))))))) (ih _ _ _ _ _ _ h584))
          · replace h584 := qi_t h584 c587
            refine ev_aload_n (pc := 1138) (i := 3) rfl rfl rfl dL_law_1138 ?_
            refine ev_iconst (pc := 1139) (v := 0) (by decide) dL_law_1139 ?_
            obtain ⟨g589, h590⟩ := qk_el h584; clear h584
            obtain ⟨g591, h592⟩ := qk_el h590; clear h590
            obtain ⟨x593, e594, h595⟩ := qv_el h592; clear h592
            refine yv_lald (pc := 1140) (isb_el g589) (inb_el g591) e594 dL_law_1140 ?_
            refine ev_iload (pc := 1141) (i := 6) rfl dL_law_1141 ?_
            refine ev_i2l (pc := 1143)  dL_law_1143 ?_
            refine ev_lcmp (pc := 1144)  dL_law_1144 ?_
            refine ev_if_eq (pc := 1145) (tgt := 1150) (by decide) dL_law_1145 (fun c596 => ?_) (fun c596 => ?_)
            · replace h595 := qi_t h595 (lc_eq c596)
              refine ev_goto (pc := 1150) (tgt := 1346) (by decide) dL_law_1150 ?_
              refine ev_iinc (pc := 1346) (L' := [some (.retAddr 0), some (.ref l1), some (.ref l2), some (.ref l3), some (.int (l4 + 9)), some (.int x555), some (.int x575)]) (i := 4) (v := (l4 + 9)) rfl rfl (by decide) rfl rfl dL_law_1346 ?_
              refine ev_goto (pc := 1349) (tgt := 23) (by decide) dL_law_1349 ?_
              exact ev_mono (Nat.le_refl _) (by omega) (by omega) (ev_weak (qL_s (qL_s (qL_s (qL_s (qL_s (qL_n (qL_n qL_nil))))))) (ih _ _ _ _ _ _ h595))
            · replace h595 := qi_f h595 (lc_eqN c596)
              refine ev_iconst (pc := 1148) (v := 0) (by decide) dL_law_1148 ?_
              exact ev_ireturn (pc := 1149) rfl rfl (qRI_eq h595) dL_law_1149
        · replace h584 := qi_f h584 c585
          refine ev_iconst (pc := 1131) (v := 0) (by decide) dL_law_1131 ?_
          exact ev_ireturn (pc := 1132) rfl rfl (qRI_eq h584) dL_law_1132
      replace h36 := qi_f h36 c540
      by_cases c598 : ((X.xs (l4 : Int32).toNatClampNeg) &&& 31) = 16
      · refine ev_tableIn (pc := 40) (off := 1113) (tgt := 1153) (by rw [c598]; decide) (by rw [c598]; decide) (by rw [c598]; rfl) (by decide) dL_law_40 ?_
        replace h36 := qi_t h36 c598
        refine ev_aload_n (pc := 1153) (i := 1) rfl rfl rfl dL_law_1153 ?_
        refine ev_aload_n (pc := 1154) (i := 0) rfl rfl rfl dL_law_1154 ?_
        refine ev_iload (pc := 1155) (i := 4) rfl dL_law_1155 ?_
        refine ev_iconst (pc := 1157) (v := 1) (by decide) dL_law_1157 ?_
        refine ev_iadd (pc := 1158)  dL_law_1158 ?_
        obtain ⟨g599, h600⟩ := qk_el h36; clear h36
        refine ev_sld (pc := 1159) (inb_el g599) dL_law_1159 ?_
        refine ev_aload_n (pc := 1160) (i := 3) rfl rfl rfl dL_law_1160 ?_
        obtain ⟨x601, S602, e603, h604⟩ := qc_el h600; clear h600
        refine xv_callH (pc := 1161) (k := (1 + 1 * n)) (j := (6 + 6 * n)) (st := []) (as := [.ref l1, .int (X.xs ((l4 + 1) : Int32).toNatClampNeg), .ref l3]) (v := (some (.int x601))) (S' := S602) ok_L_datagram (e_L_datagram (k := 1) (j := 6) (Or.inr ⟨Nat.le_refl _, Nat.le_refl _⟩) e603) (by omega) (by omega) (by decide) rfl (Nat.le_of_ble_eq_true rfl) rfl gw_1012 dL_law_1161 ?_
        refine ev_istore (pc := 1164) (L' := [some (.retAddr 0), some (.ref l1), some (.ref l2), some (.ref l3), some (.int l4), some (.int x601), none]) (i := 5) (by decide) rfl rfl dL_law_1164 ?_
        refine ev_aload_n (pc := 1166) (i := 2) rfl rfl rfl dL_law_1166 ?_
        refine ev_aload_n (pc := 1167) (i := 0) rfl rfl rfl dL_law_1167 ?_
        refine ev_iload (pc := 1168) (i := 4) rfl dL_law_1168 ?_
        refine ev_iconst (pc := 1170) (v := 1) (by decide) dL_law_1170 ?_
        refine ev_iadd (pc := 1171)  dL_law_1171 ?_
        obtain ⟨g605, h606⟩ := qk_el h604; clear h604
        refine ev_sld (pc := 1172) (inb_el g605) dL_law_1172 ?_
        obtain ⟨g607, h608⟩ := qk_el h606; clear h606
        obtain ⟨x609, S610, e611, h612⟩ := qc_el h608; clear h608
        refine xv_callV (pc := 1173) (st := []) (as := [.int (X.xs ((l4 + 1) : Int32).toNatClampNeg)]) (v := (some (.int x609))) (S' := S610) ok_X12_datagram (e_X12_datagram e611) (isb_el g607) (by decide) rfl (Nat.le_of_ble_eq_true rfl) rfl gw_1578 dL_law_1173 ?_
        refine ev_istore (pc := 1176) (L' := [some (.retAddr 0), some (.ref l1), some (.ref l2), some (.ref l3), some (.int l4), some (.int x601), some (.int x609)]) (i := 6) (by decide) rfl rfl dL_law_1176 ?_
        refine ev_aload_n (pc := 1178) (i := 2) rfl rfl rfl dL_law_1178 ?_
        obtain ⟨g613, h614⟩ := qk_el h612; clear h612
        obtain ⟨x615, S616, e617, h618⟩ := qc_el h614; clear h614
        refine xv_callV (pc := 1179) (st := []) (as := []) (v := (some (.int x615))) (S' := S616) ok_X12_thrown (e_X12_thrown e617) (isb_el g613) (by decide) rfl (Nat.le_of_ble_eq_true rfl) rfl gw_1115 dL_law_1179 ?_
        refine ev_iload (pc := 1182) (i := 5) rfl dL_law_1182 ?_
        refine ev_ic_eq (pc := 1184) (tgt := 1189) (by decide) dL_law_1184 (fun c619 => ?_) (fun c619 => ?_)
        · replace h618 := qi_t h618 c619
          refine ev_iload (pc := 1189) (i := 5) rfl dL_law_1189 ?_
          refine ev_if_ne (pc := 1191) (tgt := 1206) (by decide) dL_law_1191 (fun c621 => ?_) (fun c621 => ?_)
          · replace h618 := qi_f h618 c621
            refine ev_goto (pc := 1206) (tgt := 1346) (by decide) dL_law_1206 ?_
            refine ev_iinc (pc := 1346) (L' := [some (.retAddr 0), some (.ref l1), some (.ref l2), some (.ref l3), some (.int (l4 + 9)), some (.int x601), some (.int x609)]) (i := 4) (v := (l4 + 9)) rfl rfl (by decide) rfl rfl dL_law_1346 ?_
            refine ev_goto (pc := 1349) (tgt := 23) (by decide) dL_law_1349 ?_
            exact ev_mono (Nat.le_refl _) (by omega) (by omega) (ev_weak (qL_s (qL_s (qL_s (qL_s (qL_s (qL_n (qL_n qL_nil))))))) (ih _ _ _ _ _ _ h618))
          · replace h618 := qi_t h618 c621
            refine ev_aload_n (pc := 1194) (i := 3) rfl rfl rfl dL_law_1194 ?_
            refine ev_iconst (pc := 1195) (v := 0) (by decide) dL_law_1195 ?_
            obtain ⟨g623, h624⟩ := qk_el h618; clear h618
            obtain ⟨g625, h626⟩ := qk_el h624; clear h624
            obtain ⟨x627, e628, h629⟩ := qv_el h626; clear h626
            refine yv_lald (pc := 1196) (isb_el g623) (inb_el g625) e628 dL_law_1196 ?_
            refine ev_iload (pc := 1197) (i := 6) rfl dL_law_1197 ?_
            refine ev_i2l (pc := 1199)  dL_law_1199 ?_
            refine ev_lcmp (pc := 1200)  dL_law_1200 ?_
            refine ev_if_eq (pc := 1201) (tgt := 1206) (by decide) dL_law_1201 (fun c630 => ?_) (fun c630 => ?_)
            · replace h629 := qi_t h629 (lc_eq c630)
              refine ev_goto (pc := 1206) (tgt := 1346) (by decide) dL_law_1206 ?_
              refine ev_iinc (pc := 1346) (L' := [some (.retAddr 0), some (.ref l1), some (.ref l2), some (.ref l3), some (.int (l4 + 9)), some (.int x601), some (.int x609)]) (i := 4) (v := (l4 + 9)) rfl rfl (by decide) rfl rfl dL_law_1346 ?_
              refine ev_goto (pc := 1349) (tgt := 23) (by decide) dL_law_1349 ?_
              exact ev_mono (Nat.le_refl _) (by omega) (by omega) (ev_weak (qL_s (qL_s (qL_s (qL_s (qL_s (qL_n (qL_n qL_nil))))))) (ih _ _ _ _ _ _ h629))
            · replace h629 := qi_f h629 (lc_eqN c630)
              refine ev_iconst (pc := 1204) (v := 0) (by decide) dL_law_1204 ?_
              exact ev_ireturn (pc := 1205) rfl rfl (qRI_eq h629) dL_law_1205
        · replace h618 := qi_f h618 c619
          refine ev_iconst (pc := 1187) (v := 0) (by decide) dL_law_1187 ?_
          exact ev_ireturn (pc := 1188) rfl rfl (qRI_eq h618) dL_law_1188
      replace h36 := qi_f h36 c598
      by_cases c632 : ((X.xs (l4 : Int32).toNatClampNeg) &&& 31) = 17
      · refine ev_tableIn (pc := 40) (off := 1169) (tgt := 1209) (by rw [c632]; decide) (by rw [c632]; decide) (by rw [c632]; rfl) (by decide) dL_law_40 ?_
        replace h36 := qi_t h36 c632
        refine ev_aload_n (pc := 1209) (i := 1) rfl rfl rfl dL_law_1209 ?_
        refine ev_aload_n (pc := 1210) (i := 3) rfl rfl rfl dL_law_1210 ?_
        obtain ⟨x633, S634, e635, h636⟩ := qc_el h36; clear h36
        refine xv_callH (pc := 1211) (k := (1 + 1 * n)) (j := (6 + 6 * n)) (st := []) (as := [.ref l1, .ref l3]) (v := (some (.int x633))) (S' := S634) ok_L_pack (e_L_pack (k := 1) (j := 6) (Or.inr ⟨Nat.le_refl _, Nat.le_refl _⟩) e635) (by omega) (by omega) (by decide) rfl (Nat.le_of_ble_eq_true rfl) rfl gw_1081 dL_law_1211 ?_
        refine ev_istore (pc := 1214) (L' := [some (.retAddr 0), some (.ref l1), some (.ref l2), some (.ref l3), some (.int l4), some (.int x633), none]) (i := 5) (by decide) rfl rfl dL_law_1214 ?_
        refine ev_aload_n (pc := 1216) (i := 2) rfl rfl rfl dL_law_1216 ?_
        obtain ⟨g637, h638⟩ := qk_el h636; clear h636
        obtain ⟨x639, S640, e641, h642⟩ := qc_el h638; clear h638
        refine xv_callV (pc := 1217) (st := []) (as := []) (v := (some (.int x639))) (S' := S640) ok_X12_pack (e_X12_pack e641) (isb_el g637) (by decide) rfl (Nat.le_of_ble_eq_true rfl) rfl gw_1606 dL_law_1217 ?_
        refine ev_istore (pc := 1220) (L' := [some (.retAddr 0), some (.ref l1), some (.ref l2), some (.ref l3), some (.int l4), some (.int x633), some (.int x639)]) (i := 6) (by decide) rfl rfl dL_law_1220 ?_
        refine ev_aload_n (pc := 1222) (i := 2) rfl rfl rfl dL_law_1222 ?_
        obtain ⟨g643, h644⟩ := qk_el h642; clear h642
        obtain ⟨x645, S646, e647, h648⟩ := qc_el h644; clear h644
        refine xv_callV (pc := 1223) (st := []) (as := []) (v := (some (.int x645))) (S' := S646) ok_X12_thrown (e_X12_thrown e647) (isb_el g643) (by decide) rfl (Nat.le_of_ble_eq_true rfl) rfl gw_1115 dL_law_1223 ?_
        refine ev_iload (pc := 1226) (i := 5) rfl dL_law_1226 ?_
        refine ev_ic_eq (pc := 1228) (tgt := 1233) (by decide) dL_law_1228 (fun c649 => ?_) (fun c649 => ?_)
        · replace h648 := qi_t h648 c649
          refine ev_iload (pc := 1233) (i := 5) rfl dL_law_1233 ?_
          refine ev_if_ne (pc := 1235) (tgt := 1250) (by decide) dL_law_1235 (fun c651 => ?_) (fun c651 => ?_)
          · replace h648 := qi_f h648 c651
            refine ev_goto (pc := 1250) (tgt := 1346) (by decide) dL_law_1250 ?_
            refine ev_iinc (pc := 1346) (L' := [some (.retAddr 0), some (.ref l1), some (.ref l2), some (.ref l3), some (.int (l4 + 9)), some (.int x633), some (.int x639)]) (i := 4) (v := (l4 + 9)) rfl rfl (by decide) rfl rfl dL_law_1346 ?_
            refine ev_goto (pc := 1349) (tgt := 23) (by decide) dL_law_1349 ?_
            exact ev_mono (Nat.le_refl _) (by omega) (by omega) (ev_weak (qL_s (qL_s (qL_s (qL_s (qL_s (qL_n (qL_n qL_nil))))))) (ih _ _ _ _ _ _ h648))
          · replace h648 := qi_t h648 c651
            refine ev_aload_n (pc := 1238) (i := 3) rfl rfl rfl dL_law_1238 ?_
            refine ev_iconst (pc := 1239) (v := 0) (by decide) dL_law_1239 ?_
            obtain ⟨g653, h654⟩ := qk_el h648; clear h648
            obtain ⟨g655, h656⟩ := qk_el h654; clear h654
            obtain ⟨x657, e658, h659⟩ := qv_el h656; clear h656
            refine yv_lald (pc := 1240) (isb_el g653) (inb_el g655) e658 dL_law_1240 ?_
            refine ev_iload (pc := 1241) (i := 6) rfl dL_law_1241 ?_
            refine ev_i2l (pc := 1243)  dL_law_1243 ?_
            refine ev_lcmp (pc := 1244)  dL_law_1244 ?_
            refine ev_if_eq (pc := 1245) (tgt := 1250) (by decide) dL_law_1245 (fun c660 => ?_) (fun c660 => ?_)
            · replace h659 := qi_t h659 (lc_eq c660)
              refine ev_goto (pc := 1250) (tgt := 1346) (by decide) dL_law_1250 ?_
              refine ev_iinc (pc := 1346) (L' := [some (.retAddr 0), some (.ref l1), some (.ref l2), some (.ref l3), some (.int (l4 + 9)), some (.int x633), some (.int x639)]) (i := 4) (v := (l4 + 9)) rfl rfl (by decide) rfl rfl dL_law_1346 ?_
              refine ev_goto (pc := 1349) (tgt := 23) (by decide) dL_law_1349 ?_
              exact ev_mono (Nat.le_refl _) (by omega) (by omega) (ev_weak (qL_s (qL_s (qL_s (qL_s (qL_s (qL_n (qL_n qL_nil))))))) (ih _ _ _ _ _ _ h659))
            · replace h659 := qi_f h659 (lc_eqN c660)
              refine ev_iconst (pc := 1248) (v := 0) (by decide) dL_law_1248 ?_
              exact ev_ireturn (pc := 1249) rfl rfl (qRI_eq h659) dL_law_1249
        · replace h648 := qi_f h648 c649
          refine ev_iconst (pc := 1231) (v := 0) (by decide) dL_law_1231 ?_
          exact ev_ireturn (pc := 1232) rfl rfl (qRI_eq h648) dL_law_1232
      replace h36 := qi_f h36 c632
      by_cases c662 : ((X.xs (l4 : Int32).toNatClampNeg) &&& 31) = 18
      · refine ev_tableIn (pc := 40) (off := 1213) (tgt := 1253) (by rw [c662]; decide) (by rw [c662]; decide) (by rw [c662]; rfl) (by decide) dL_law_40 ?_
        replace h36 := qi_t h36 c662
        refine ev_aload_n (pc := 1253) (i := 1) rfl rfl rfl dL_law_1253 ?_
        refine ev_aload_n (pc := 1254) (i := 0) rfl rfl rfl dL_law_1254 ?_
        refine ev_iload (pc := 1255) (i := 4) rfl dL_law_1255 ?_
        refine ev_iconst (pc := 1257) (v := 1) (by decide) dL_law_1257 ?_
        refine ev_iadd (pc := 1258)  dL_law_1258 ?_
        obtain ⟨g663, h664⟩ := qk_el h36; clear h36
        refine ev_sld (pc := 1259) (inb_el g663) dL_law_1259 ?_
        refine ev_aload_n (pc := 1260) (i := 0) rfl rfl rfl dL_law_1260 ?_
        refine ev_iload (pc := 1261) (i := 4) rfl dL_law_1261 ?_
        refine ev_iconst (pc := 1263) (v := 2) (by decide) dL_law_1263 ?_
        refine ev_iadd (pc := 1264)  dL_law_1264 ?_
        obtain ⟨g665, h666⟩ := qk_el h664; clear h664
        refine ev_sld (pc := 1265) (inb_el g665) dL_law_1265 ?_
        refine ev_aload_n (pc := 1266) (i := 3) rfl rfl rfl dL_law_1266 ?_
        obtain ⟨x667, S668, e669, h670⟩ := qc_el h666; clear h666
        refine xv_callH (pc := 1267) (k := (1 + 1 * n)) (j := (6 + 6 * n)) (st := []) (as := [.ref l1, .int (X.xs ((l4 + 1) : Int32).toNatClampNeg), .int (X.xs ((l4 + 2) : Int32).toNatClampNeg), .ref l3]) (v := (some (.int x667))) (S' := S668) ok_L_connection (e_L_connection (k := 1) (j := 6) (Or.inr ⟨Nat.le_refl _, Nat.le_refl _⟩) e669) (by omega) (by omega) (by decide) rfl (Nat.le_of_ble_eq_true rfl) rfl gw_1101 dL_law_1267 ?_
        refine ev_istore (pc := 1270) (L' := [some (.retAddr 0), some (.ref l1), some (.ref l2), some (.ref l3), some (.int l4), some (.int x667), none]) (i := 5) (by decide) rfl rfl dL_law_1270 ?_
        refine ev_aload_n (pc := 1272) (i := 2) rfl rfl rfl dL_law_1272 ?_
        refine ev_aload_n (pc := 1273) (i := 0) rfl rfl rfl dL_law_1273 ?_
        refine ev_iload (pc := 1274) (i := 4) rfl dL_law_1274 ?_
        refine ev_iconst (pc := 1276) (v := 1) (by decide) dL_law_1276 ?_
        refine ev_iadd (pc := 1277)  dL_law_1277 ?_
        obtain ⟨g671, h672⟩ := qk_el h670; clear h670
        refine ev_sld (pc := 1278) (inb_el g671) dL_law_1278 ?_
        refine ev_aload_n (pc := 1279) (i := 0) rfl rfl rfl dL_law_1279 ?_
        refine ev_iload (pc := 1280) (i := 4) rfl dL_law_1280 ?_
        refine ev_iconst (pc := 1282) (v := 2) (by decide) dL_law_1282 ?_
        refine ev_iadd (pc := 1283)  dL_law_1283 ?_
        obtain ⟨g673, h674⟩ := qk_el h672; clear h672
        refine ev_sld (pc := 1284) (inb_el g673) dL_law_1284 ?_
        obtain ⟨g675, h676⟩ := qk_el h674; clear h674
        obtain ⟨x677, S678, e679, h680⟩ := qc_el h676; clear h676
        refine xv_callV (pc := 1285) (st := []) (as := [.int (X.xs ((l4 + 1) : Int32).toNatClampNeg), .int (X.xs ((l4 + 2) : Int32).toNatClampNeg)]) (v := (some (.int x677))) (S' := S678) ok_X12_connection (e_X12_connection e679) (isb_el g675) (by decide) rfl (Nat.le_of_ble_eq_true rfl) rfl gw_1622 dL_law_1285 ?_
        refine ev_istore (pc := 1288) (L' := [some (.retAddr 0), some (.ref l1), some (.ref l2), some (.ref l3), some (.int l4), some (.int x667), some (.int x677)]) (i := 6) (by decide) rfl rfl dL_law_1288 ?_
        refine ev_aload_n (pc := 1290) (i := 2) rfl rfl rfl dL_law_1290 ?_
        obtain ⟨g681, h682⟩ := qk_el h680; clear h680
        obtain ⟨x683, S684, e685, h686⟩ := qc_el h682; clear h682
        refine xv_callV (pc := 1291) (st := []) (as := []) (v := (some (.int x683))) (S' := S684) ok_X12_thrown (e_X12_thrown e685) (isb_el g681) (by decide) rfl (Nat.le_of_ble_eq_true rfl) rfl gw_1115 dL_law_1291 ?_
        refine ev_iload (pc := 1294) (i := 5) rfl dL_law_1294 ?_
        refine ev_ic_eq (pc := 1296) (tgt := 1301) (by decide) dL_law_1296 (fun c687 => ?_) (fun c687 => ?_)
        · replace h686 := qi_t h686 c687
          refine ev_iload (pc := 1301) (i := 5) rfl dL_law_1301 ?_
          refine ev_if_ne (pc := 1303) (tgt := 1318) (by decide) dL_law_1303 (fun c689 => ?_) (fun c689 => ?_)
          · replace h686 := qi_f h686 c689
            refine ev_goto (pc := 1318) (tgt := 1346) (by decide) dL_law_1318 ?_
            refine ev_iinc (pc := 1346) (L' := [some (.retAddr 0), some (.ref l1), some (.ref l2), some (.ref l3), some (.int (l4 + 9)), some (.int x667), some (.int x677)]) (i := 4) (v := (l4 + 9)) rfl rfl (by decide) rfl rfl dL_law_1346 ?_
            refine ev_goto (pc := 1349) (tgt := 23) (by decide) dL_law_1349 ?_
            exact ev_mono (Nat.le_refl _) (by omega) (by omega) (ev_weak (qL_s (qL_s (qL_s (qL_s (qL_s (qL_n (qL_n qL_nil))))))) (ih _ _ _ _ _ _ h686))
          · replace h686 := qi_t h686 c689
            refine ev_aload_n (pc := 1306) (i := 3) rfl rfl rfl dL_law_1306 ?_
            refine ev_iconst (pc := 1307) (v := 0) (by decide) dL_law_1307 ?_
            obtain ⟨g691, h692⟩ := qk_el h686; clear h686
            obtain ⟨g693, h694⟩ := qk_el h692; clear h692
            obtain ⟨x695, e696, h697⟩ := qv_el h694; clear h694
            refine yv_lald (pc := 1308) (isb_el g691) (inb_el g693) e696 dL_law_1308 ?_
            refine ev_iload (pc := 1309) (i := 6) rfl dL_law_1309 ?_
            refine ev_i2l (pc := 1311)  dL_law_1311 ?_
            refine ev_lcmp (pc := 1312)  dL_law_1312 ?_
            refine ev_if_eq (pc := 1313) (tgt := 1318) (by decide) dL_law_1313 (fun c698 => ?_) (fun c698 => ?_)
            · replace h697 := qi_t h697 (lc_eq c698)
              refine ev_goto (pc := 1318) (tgt := 1346) (by decide) dL_law_1318 ?_
              refine ev_iinc (pc := 1346) (L' := [some (.retAddr 0), some (.ref l1), some (.ref l2), some (.ref l3), some (.int (l4 + 9)), some (.int x667), some (.int x677)]) (i := 4) (v := (l4 + 9)) rfl rfl (by decide) rfl rfl dL_law_1346 ?_
              refine ev_goto (pc := 1349) (tgt := 23) (by decide) dL_law_1349 ?_
              exact ev_mono (Nat.le_refl _) (by omega) (by omega) (ev_weak (qL_s (qL_s (qL_s (qL_s (qL_s (qL_n (qL_n qL_nil))))))) (ih _ _ _ _ _ _ h697))
            · replace h697 := qi_f h697 (lc_eqN c698)
              refine ev_iconst (pc := 1316) (v := 0) (by decide) dL_law_1316 ?_
              exact ev_ireturn (pc := 1317) rfl rfl (qRI_eq h697) dL_law_1317
        · replace h686 := qi_f h686 c687
          refine ev_iconst (pc := 1299) (v := 0) (by decide) dL_law_1299 ?_
          exact ev_ireturn (pc := 1300) rfl rfl (qRI_eq h686) dL_law_1300
      replace h36 := qi_f h36 c662
      by_cases c700 : ((X.xs (l4 : Int32).toNatClampNeg) &&& 31) = 19
      · refine ev_tableIn (pc := 40) (off := 1281) (tgt := 1321) (by rw [c700]; decide) (by rw [c700]; decide) (by rw [c700]; rfl) (by decide) dL_law_40 ?_
        replace h36 := qi_t h36 c700
        refine ev_aload_n (pc := 1321) (i := 1) rfl rfl rfl dL_law_1321 ?_
        refine ev_aload_n (pc := 1322) (i := 0) rfl rfl rfl dL_law_1322 ?_
        refine ev_iload (pc := 1323) (i := 4) rfl dL_law_1323 ?_
        refine ev_iconst (pc := 1325) (v := 1) (by decide) dL_law_1325 ?_
        refine ev_iadd (pc := 1326)  dL_law_1326 ?_
        obtain ⟨g701, h702⟩ := qk_el h36; clear h36
        refine ev_sld (pc := 1327) (inb_el g701) dL_law_1327 ?_
        obtain ⟨g703, h704⟩ := qk_el h702; clear h702
        obtain ⟨x705, S706, e707, h708⟩ := qc_el h704; clear h704
        refine xv_callV (pc := 1328) (st := []) (as := [.int (X.xs ((l4 + 1) : Int32).toNatClampNeg)]) (v := (some (.int x705))) (S' := S706) ok_X11_count (e_X11_count e707) (isb_el g703) (by decide) rfl (Nat.le_of_ble_eq_true rfl) rfl gw_374 dL_law_1328 ?_
        refine ev_aload_n (pc := 1331) (i := 2) rfl rfl rfl dL_law_1331 ?_
        refine ev_aload_n (pc := 1332) (i := 0) rfl rfl rfl dL_law_1332 ?_
        refine ev_iload (pc := 1333) (i := 4) rfl dL_law_1333 ?_
        refine ev_iconst (pc := 1335) (v := 1) (by decide) dL_law_1335 ?_
        refine ev_iadd (pc := 1336)  dL_law_1336 ?_
        obtain ⟨g709, h710⟩ := qk_el h708; clear h708
        refine ev_sld (pc := 1337) (inb_el g709) dL_law_1337 ?_
        obtain ⟨g711, h712⟩ := qk_el h710; clear h710
        obtain ⟨x713, S714, e715, h716⟩ := qc_el h712; clear h712
        refine xv_callV (pc := 1338) (st := [.int x705]) (as := [.int (X.xs ((l4 + 1) : Int32).toNatClampNeg)]) (v := (some (.int x713))) (S' := S714) ok_X12_count (e_X12_count e715) (isb_el g711) (by decide) rfl (Nat.le_of_ble_eq_true rfl) rfl gw_1626 dL_law_1338 ?_
        refine ev_ic_eq (pc := 1341) (tgt := 1346) (by decide) dL_law_1341 (fun c717 => ?_) (fun c717 => ?_)
        · replace h716 := qi_t h716 c717
          refine ev_iinc (pc := 1346) (L' := [some (.retAddr 0), some (.ref l1), some (.ref l2), some (.ref l3), some (.int (l4 + 9)), none, none]) (i := 4) (v := (l4 + 9)) rfl rfl (by decide) rfl rfl dL_law_1346 ?_
          refine ev_goto (pc := 1349) (tgt := 23) (by decide) dL_law_1349 ?_
          exact ev_mono (Nat.le_refl _) (by omega) (by omega) (ev_weak (qL_s (qL_s (qL_s (qL_s (qL_s (qL_n (qL_n qL_nil))))))) (ih _ _ _ _ _ _ h716))
        · replace h716 := qi_f h716 c717
          refine ev_iconst (pc := 1344) (v := 0) (by decide) dL_law_1344 ?_
          exact ev_ireturn (pc := 1345) rfl rfl (qRI_eq h716) dL_law_1345
      replace h36 := qi_f h36 c700
      refine ev_tableOut (pc := 40) (tgt := 1346) (by have z0 := ti_ne c37 (n := 0) rfl; have z1 := ti_ne c72 (n := 1) rfl; have z2 := ti_ne c91 (n := 2) rfl; have z3 := ti_ne c125 (n := 3) rfl; have z4 := ti_ne c140 (n := 4) rfl; have z5 := ti_ne c174 (n := 5) rfl; have z6 := ti_ne c216 (n := 6) rfl; have z7 := ti_ne c250 (n := 7) rfl; have z8 := ti_ne c284 (n := 8) rfl; have z9 := ti_ne c346 (n := 9) rfl; have z10 := ti_ne c388 (n := 10) rfl; have z11 := ti_ne c430 (n := 11) rfl; have z12 := ti_ne c464 (n := 12) rfl; have z13 := ti_ne c502 (n := 13) rfl; have z14 := ti_ne c521 (n := 14) rfl; have z15 := ti_ne c540 (n := 15) rfl; have z16 := ti_ne c598 (n := 16) rfl; have z17 := ti_ne c632 (n := 17) rfl; have z18 := ti_ne c662 (n := 18) rfl; have z19 := ti_ne c700 (n := 19) rfl; omega) (by decide) dL_law_40 ?_
      refine ev_iinc (pc := 1346) (L' := [some (.retAddr 0), some (.ref l1), some (.ref l2), some (.ref l3), some (.int (l4 + 9)), none, none]) (i := 4) (v := (l4 + 9)) rfl rfl (by decide) rfl rfl dL_law_1346 ?_
      refine ev_goto (pc := 1349) (tgt := 23) (by decide) dL_law_1349 ?_
      exact ev_mono (Nat.le_refl _) (by omega) (by omega) (ev_weak (qL_s (qL_s (qL_s (qL_s (qL_s (qL_n (qL_n qL_nil))))))) (ih _ _ _ _ _ _ h36))
theorem e_L_law {X : gk_X} {F : Nat} {S : gk_S}  {r : (Int32 × gk_S)} (h0 : f_L_law X F S  = some r) : EvW X m_L_law 67 956 52668 0 [some (.retAddr 0), none, none, none, none, none, none] [] S (qRI r) := by
  unfold f_L_law at h0
  show EvW X m_L_law 67 956 52668 0 [some (.retAddr 0), none, none, none, none, none, none] [] S _
  obtain ⟨g1, h2⟩ := qk_el h0; clear h0
  obtain ⟨b3, e4, h5⟩ := qv_el h2; clear h2
  obtain ⟨S6, e7, h8⟩ := qv_el h5; clear h5
  refine zv_new (pc := 0) (nf := 14) (by omega) (by omega) rfl (k := 955) (j := 52654) (ci := 8) g1 (by decide) e4 e7 gw_25 gw_26 gw_1 dL_law_0 ?_
  refine ev_dup (pc := 3) (.inr rfl) dL_law_3 ?_
  obtain ⟨x9, S10, e11, h12⟩ := qc_el h8; clear h8
  refine xv_callI (pc := 4) (k := 535) (j := 43013) (st := [.ref b3]) (as := []) (v := none) (S' := S10) ok_X11_init (e_X11_init e11) (by omega) (by omega) (by decide) rfl (Nat.le_of_ble_eq_true rfl) rfl gw_27 dL_law_4 ?_
  refine ev_astore_n (pc := 7) (L' := [some (.retAddr 0), some (.ref b3), none, none, none, none, none]) (i := 1) rfl (by decide) rfl rfl rfl dL_law_7 ?_
  obtain ⟨g13, h14⟩ := qk_el h12; clear h12
  obtain ⟨b15, e16, h17⟩ := qv_el h14; clear h14
  obtain ⟨S18, e19, h20⟩ := qv_el h17; clear h17
  refine zv_new (pc := 8) (nf := 42) (by omega) (by omega) rfl (k := 534) (j := 42971) (ci := 9) g13 (by decide) e16 e19 gw_1132 gw_1126 gw_10 dL_law_8 ?_
  refine ev_dup (pc := 11) (.inr rfl) dL_law_11 ?_
  obtain ⟨x21, S22, e23, h24⟩ := qc_el h20; clear h20
  refine xv_callI (pc := 12) (k := 515) (j := 3085) (st := [.ref b15]) (as := []) (v := none) (S' := S22) ok_X12_init (e_X12_init e23) (by omega) (by omega) (by decide) rfl (Nat.le_of_ble_eq_true rfl) rfl gw_1133 dL_law_12 ?_
  refine ev_astore_n (pc := 15) (L' := [some (.retAddr 0), some (.ref b3), some (.ref b15), none, none, none, none]) (i := 2) rfl (by decide) rfl rfl rfl dL_law_15 ?_
  refine ev_iconst (pc := 16) (v := 1) (by decide) dL_law_16 ?_
  obtain ⟨g25, h26⟩ := qk_el h24; clear h24
  obtain ⟨b27, e28, h29⟩ := qv_el h26; clear h26
  obtain ⟨S30, e31, h32⟩ := qv_el h29; clear h29
  refine zv_newa (pc := 17) (by omega) (by omega) (k := 514) (j := 3084) (kd := 12) (N := 1) (atype := .long) g25 (by simp) e28 e31 gw_89 (by decide) (by decide) (by decide) dL_law_17 ?_
  refine ev_astore_n (pc := 19) (L' := [some (.retAddr 0), some (.ref b3), some (.ref b15), some (.ref b27), none, none, none]) (i := 3) rfl (by decide) rfl rfl rfl dL_law_19 ?_
  refine ev_iconst (pc := 20) (v := 0) (by decide) dL_law_20 ?_
  refine ev_istore (pc := 21) (L' := [some (.retAddr 0), some (.ref b3), some (.ref b15), some (.ref b27), some (.int 0), none, none]) (i := 4) (by decide) rfl rfl dL_law_21 ?_
  exact ev_weak (qL_s (qL_s (qL_s (qL_s (qL_s (qL_n (qL_n qL_nil))))))) (e_L_law_23 513 _ _ _ _ _ _ h32)
