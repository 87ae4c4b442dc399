theorem dX12_datagram_0 : decode cX12_datagram 0 = .ok (.aload_n 0, 1) := by decide +kernel
theorem dX12_datagram_1 : decode cX12_datagram 1 = .ok (.iload_n 1, 1) := by decide +kernel
theorem dX12_datagram_2 : decode cX12_datagram 2 = .ok (.iconst 3, 1) := by decide +kernel
theorem dX12_datagram_3 : decode cX12_datagram 3 = .ok (.invokestatic 250, 3) := by decide +kernel
theorem dX12_datagram_6 : decode cX12_datagram 6 = .ok (.iconst 1, 1) := by decide +kernel
theorem dX12_datagram_7 : decode cX12_datagram 7 = .ok (.invokevirtual 176, 3) := by decide +kernel
theorem dX12_datagram_10 : decode cX12_datagram 10 = .ok (.ifCond .eq 5, 3) := by decide +kernel
theorem dX12_datagram_13 : decode cX12_datagram 13 = .ok (.iconst 0, 1) := by decide +kernel
theorem dX12_datagram_14 : decode cX12_datagram 14 = .ok (.ireturn, 1) := by decide +kernel
theorem dX12_datagram_15 : decode cX12_datagram 15 = .ok (.aload_n 0, 1) := by decide +kernel
theorem dX12_datagram_16 : decode cX12_datagram 16 = .ok (.getfield 7, 3) := by decide +kernel
theorem dX12_datagram_19 : decode cX12_datagram 19 = .ok (.istore_n 2, 1) := by decide +kernel
theorem dX12_datagram_20 : decode cX12_datagram 20 = .ok (.aload_n 0, 1) := by decide +kernel
theorem dX12_datagram_21 : decode cX12_datagram 21 = .ok (.iconst 0, 1) := by decide +kernel
theorem dX12_datagram_22 : decode cX12_datagram 22 = .ok (.putfield 7, 3) := by decide +kernel
theorem dX12_datagram_25 : decode cX12_datagram 25 = .ok (.iload_n 2, 1) := by decide +kernel
theorem dX12_datagram_26 : decode cX12_datagram 26 = .ok (.bipush 20, 2) := by decide +kernel
theorem dX12_datagram_28 : decode cX12_datagram 28 = .ok (.if_icmp .ge 10, 3) := by decide +kernel
theorem dX12_datagram_31 : decode cX12_datagram 31 = .ok (.aload_n 0, 1) := by decide +kernel
theorem dX12_datagram_32 : decode cX12_datagram 32 = .ok (.iconst 1, 1) := by decide +kernel
theorem dX12_datagram_33 : decode cX12_datagram 33 = .ok (.iload_n 2, 1) := by decide +kernel
theorem dX12_datagram_34 : decode cX12_datagram 34 = .ok (.invokevirtual 397, 3) := by decide +kernel
theorem dX12_datagram_37 : decode cX12_datagram 37 = .ok (.ireturn, 1) := by decide +kernel
theorem dX12_datagram_38 : decode cX12_datagram 38 = .ok (.aload_n 0, 1) := by decide +kernel
theorem dX12_datagram_39 : decode cX12_datagram 39 = .ok (.getfield 14, 3) := by decide +kernel
theorem dX12_datagram_42 : decode cX12_datagram 42 = .ok (.iconst 0, 1) := by decide +kernel
theorem dX12_datagram_43 : decode cX12_datagram 43 = .ok (.baload, 1) := by decide +kernel
theorem dX12_datagram_44 : decode cX12_datagram 44 = .ok (.sipush 255, 3) := by decide +kernel
theorem dX12_datagram_47 : decode cX12_datagram 47 = .ok (.iand, 1) := by decide +kernel
theorem dX12_datagram_48 : decode cX12_datagram 48 = .ok (.istore_n 3, 1) := by decide +kernel
theorem dX12_datagram_49 : decode cX12_datagram 49 = .ok (.iload_n 3, 1) := by decide +kernel
theorem dX12_datagram_50 : decode cX12_datagram 50 = .ok (.bipush 69, 2) := by decide +kernel
theorem dX12_datagram_52 : decode cX12_datagram 52 = .ok (.if_icmp .lt 9, 3) := by decide +kernel
theorem dX12_datagram_55 : decode cX12_datagram 55 = .ok (.iload_n 3, 1) := by decide +kernel
theorem dX12_datagram_56 : decode cX12_datagram 56 = .ok (.bipush 79, 2) := by decide +kernel
theorem dX12_datagram_58 : decode cX12_datagram 58 = .ok (.if_icmp .le 10, 3) := by decide +kernel
theorem dX12_datagram_61 : decode cX12_datagram 61 = .ok (.aload_n 0, 1) := by decide +kernel
theorem dX12_datagram_62 : decode cX12_datagram 62 = .ok (.iconst 2, 1) := by decide +kernel
theorem dX12_datagram_63 : decode cX12_datagram 63 = .ok (.iconst 0, 1) := by decide +kernel
theorem dX12_datagram_64 : decode cX12_datagram 64 = .ok (.invokevirtual 397, 3) := by decide +kernel
theorem dX12_datagram_67 : decode cX12_datagram 67 = .ok (.ireturn, 1) := by decide +kernel
theorem dX12_datagram_68 : decode cX12_datagram 68 = .ok (.iconst 4, 1) := by decide +kernel
theorem dX12_datagram_69 : decode cX12_datagram 69 = .ok (.iload_n 3, 1) := by decide +kernel
theorem dX12_datagram_70 : decode cX12_datagram 70 = .ok (.bipush 64, 2) := by decide +kernel
theorem dX12_datagram_72 : decode cX12_datagram 72 = .ok (.isub, 1) := by decide +kernel
theorem dX12_datagram_73 : decode cX12_datagram 73 = .ok (.imul, 1) := by decide +kernel
theorem dX12_datagram_74 : decode cX12_datagram 74 = .ok (.istore 4, 2) := by decide +kernel
theorem dX12_datagram_76 : decode cX12_datagram 76 = .ok (.aload_n 0, 1) := by decide +kernel
theorem dX12_datagram_77 : decode cX12_datagram 77 = .ok (.iconst 2, 1) := by decide +kernel
theorem dX12_datagram_78 : decode cX12_datagram 78 = .ok (.invokevirtual 394, 3) := by decide +kernel
theorem dX12_datagram_81 : decode cX12_datagram 81 = .ok (.iload_n 2, 1) := by decide +kernel
theorem dX12_datagram_82 : decode cX12_datagram 82 = .ok (.if_icmp .ne 9, 3) := by decide +kernel
theorem dX12_datagram_85 : decode cX12_datagram 85 = .ok (.iload_n 2, 1) := by decide +kernel
theorem dX12_datagram_86 : decode cX12_datagram 86 = .ok (.iload 4, 2) := by decide +kernel
theorem dX12_datagram_88 : decode cX12_datagram 88 = .ok (.if_icmp .ge 10, 3) := by decide +kernel
theorem dX12_datagram_91 : decode cX12_datagram 91 = .ok (.aload_n 0, 1) := by decide +kernel
theorem dX12_datagram_92 : decode cX12_datagram 92 = .ok (.iconst 3, 1) := by decide +kernel
theorem dX12_datagram_93 : decode cX12_datagram 93 = .ok (.iconst 2, 1) := by decide +kernel
theorem dX12_datagram_94 : decode cX12_datagram 94 = .ok (.invokevirtual 397, 3) := by decide +kernel
theorem dX12_datagram_97 : decode cX12_datagram 97 = .ok (.ireturn, 1) := by decide +kernel
theorem dX12_datagram_98 : decode cX12_datagram 98 = .ok (.aload_n 0, 1) := by decide +kernel
theorem dX12_datagram_99 : decode cX12_datagram 99 = .ok (.iconst 0, 1) := by decide +kernel
theorem dX12_datagram_100 : decode cX12_datagram 100 = .ok (.iload 4, 2) := by decide +kernel
theorem dX12_datagram_102 : decode cX12_datagram 102 = .ok (.iconst 0, 1) := by decide +kernel
theorem dX12_datagram_103 : decode cX12_datagram 103 = .ok (.invokevirtual 400, 3) := by decide +kernel
theorem dX12_datagram_106 : decode cX12_datagram 106 = .ok (.ldc 253, 2) := by decide +kernel
theorem dX12_datagram_108 : decode cX12_datagram 108 = .ok (.if_icmp .eq 11, 3) := by decide +kernel
theorem dX12_datagram_111 : decode cX12_datagram 111 = .ok (.aload_n 0, 1) := by decide +kernel
theorem dX12_datagram_112 : decode cX12_datagram 112 = .ok (.iconst 4, 1) := by decide +kernel
theorem dX12_datagram_113 : decode cX12_datagram 113 = .ok (.bipush 10, 2) := by decide +kernel
theorem dX12_datagram_115 : decode cX12_datagram 115 = .ok (.invokevirtual 397, 3) := by decide +kernel
theorem dX12_datagram_118 : decode cX12_datagram 118 = .ok (.ireturn, 1) := by decide +kernel
theorem dX12_datagram_119 : decode cX12_datagram 119 = .ok (.aload_n 0, 1) := by decide +kernel
theorem dX12_datagram_120 : decode cX12_datagram 120 = .ok (.getfield 14, 3) := by decide +kernel
theorem dX12_datagram_123 : decode cX12_datagram 123 = .ok (.bipush 6, 2) := by decide +kernel
theorem dX12_datagram_125 : decode cX12_datagram 125 = .ok (.baload, 1) := by decide +kernel
theorem dX12_datagram_126 : decode cX12_datagram 126 = .ok (.bipush 63, 2) := by decide +kernel
theorem dX12_datagram_128 : decode cX12_datagram 128 = .ok (.iand, 1) := by decide +kernel
theorem dX12_datagram_129 : decode cX12_datagram 129 = .ok (.ifCond .ne 13, 3) := by decide +kernel
theorem dX12_datagram_132 : decode cX12_datagram 132 = .ok (.aload_n 0, 1) := by decide +kernel
theorem dX12_datagram_133 : decode cX12_datagram 133 = .ok (.getfield 14, 3) := by decide +kernel
theorem dX12_datagram_136 : decode cX12_datagram 136 = .ok (.bipush 7, 2) := by decide +kernel
theorem dX12_datagram_138 : decode cX12_datagram 138 = .ok (.baload, 1) := by decide +kernel
theorem dX12_datagram_139 : decode cX12_datagram 139 = .ok (.ifCond .eq 11, 3) := by decide +kernel
theorem dX12_datagram_142 : decode cX12_datagram 142 = .ok (.aload_n 0, 1) := by decide +kernel
theorem dX12_datagram_143 : decode cX12_datagram 143 = .ok (.iconst 5, 1) := by decide +kernel
theorem dX12_datagram_144 : decode cX12_datagram 144 = .ok (.bipush 6, 2) := by decide +kernel
theorem dX12_datagram_146 : decode cX12_datagram 146 = .ok (.invokevirtual 397, 3) := by decide +kernel
theorem dX12_datagram_149 : decode cX12_datagram 149 = .ok (.ireturn, 1) := by decide +kernel
theorem dX12_datagram_150 : decode cX12_datagram 150 = .ok (.aload_n 0, 1) := by decide +kernel
theorem dX12_datagram_151 : decode cX12_datagram 151 = .ok (.getfield 14, 3) := by decide +kernel
theorem dX12_datagram_154 : decode cX12_datagram 154 = .ok (.bipush 9, 2) := by decide +kernel
theorem dX12_datagram_156 : decode cX12_datagram 156 = .ok (.baload, 1) := by decide +kernel
theorem dX12_datagram_157 : decode cX12_datagram 157 = .ok (.sipush 255, 3) := by decide +kernel
theorem dX12_datagram_160 : decode cX12_datagram 160 = .ok (.iand, 1) := by decide +kernel
theorem dX12_datagram_161 : decode cX12_datagram 161 = .ok (.istore 5, 2) := by decide +kernel
theorem dX12_datagram_163 : decode cX12_datagram 163 = .ok (.iload_n 2, 1) := by decide +kernel
theorem dX12_datagram_164 : decode cX12_datagram 164 = .ok (.iload 4, 2) := by decide +kernel
theorem dX12_datagram_166 : decode cX12_datagram 166 = .ok (.isub, 1) := by decide +kernel
theorem dX12_datagram_167 : decode cX12_datagram 167 = .ok (.istore 6, 2) := by decide +kernel
theorem dX12_datagram_169 : decode cX12_datagram 169 = .ok (.aload_n 0, 1) := by decide +kernel
theorem dX12_datagram_170 : decode cX12_datagram 170 = .ok (.iload 5, 2) := by decide +kernel
theorem dX12_datagram_172 : decode cX12_datagram 172 = .ok (.iload 4, 2) := by decide +kernel
theorem dX12_datagram_174 : decode cX12_datagram 174 = .ok (.iload_n 2, 1) := by decide +kernel
theorem dX12_datagram_175 : decode cX12_datagram 175 = .ok (.invokevirtual 403, 3) := by decide +kernel
theorem dX12_datagram_178 : decode cX12_datagram 178 = .ok (.ifCond .ne 12, 3) := by decide +kernel
theorem dX12_datagram_181 : decode cX12_datagram 181 = .ok (.aload_n 0, 1) := by decide +kernel
theorem dX12_datagram_182 : decode cX12_datagram 182 = .ok (.bipush 6, 2) := by decide +kernel
theorem dX12_datagram_184 : decode cX12_datagram 184 = .ok (.iload 4, 2) := by decide +kernel
theorem dX12_datagram_186 : decode cX12_datagram 186 = .ok (.invokevirtual 397, 3) := by decide +kernel
theorem dX12_datagram_189 : decode cX12_datagram 189 = .ok (.ireturn, 1) := by decide +kernel
theorem dX12_datagram_190 : decode cX12_datagram 190 = .ok (.aload_n 0, 1) := by decide +kernel
theorem dX12_datagram_191 : decode cX12_datagram 191 = .ok (.bipush 12, 2) := by decide +kernel
theorem dX12_datagram_193 : decode cX12_datagram 193 = .ok (.invokevirtual 394, 3) := by decide +kernel
theorem dX12_datagram_196 : decode cX12_datagram 196 = .ok (.aload_n 0, 1) := by decide +kernel
theorem dX12_datagram_197 : decode cX12_datagram 197 = .ok (.bipush 14, 2) := by decide +kernel
theorem dX12_datagram_199 : decode cX12_datagram 199 = .ok (.invokevirtual 394, 3) := by decide +kernel
theorem dX12_datagram_202 : decode cX12_datagram 202 = .ok (.iadd, 1) := by decide +kernel
theorem dX12_datagram_203 : decode cX12_datagram 203 = .ok (.aload_n 0, 1) := by decide +kernel
theorem dX12_datagram_204 : decode cX12_datagram 204 = .ok (.bipush 16, 2) := by decide +kernel
theorem dX12_datagram_206 : decode cX12_datagram 206 = .ok (.invokevirtual 394, 3) := by decide +kernel
theorem dX12_datagram_209 : decode cX12_datagram 209 = .ok (.iadd, 1) := by decide +kernel
theorem dX12_datagram_210 : decode cX12_datagram 210 = .ok (.aload_n 0, 1) := by decide +kernel
theorem dX12_datagram_211 : decode cX12_datagram 211 = .ok (.bipush 18, 2) := by decide +kernel
theorem dX12_datagram_213 : decode cX12_datagram 213 = .ok (.invokevirtual 394, 3) := by decide +kernel
theorem dX12_datagram_216 : decode cX12_datagram 216 = .ok (.iadd, 1) := by decide +kernel
theorem dX12_datagram_217 : decode cX12_datagram 217 = .ok (.iload 5, 2) := by decide +kernel
theorem dX12_datagram_219 : decode cX12_datagram 219 = .ok (.iadd, 1) := by decide +kernel
theorem dX12_datagram_220 : decode cX12_datagram 220 = .ok (.iload 6, 2) := by decide +kernel
theorem dX12_datagram_222 : decode cX12_datagram 222 = .ok (.iadd, 1) := by decide +kernel
theorem dX12_datagram_223 : decode cX12_datagram 223 = .ok (.istore 7, 2) := by decide +kernel
theorem dX12_datagram_225 : decode cX12_datagram 225 = .ok (.iload 5, 2) := by decide +kernel
theorem dX12_datagram_227 : decode cX12_datagram 227 = .ok (.bipush 17, 2) := by decide +kernel
theorem dX12_datagram_229 : decode cX12_datagram 229 = .ok (.if_icmp .ne 19, 3) := by decide +kernel
theorem dX12_datagram_232 : decode cX12_datagram 232 = .ok (.aload_n 0, 1) := by decide +kernel
theorem dX12_datagram_233 : decode cX12_datagram 233 = .ok (.iload 4, 2) := by decide +kernel
theorem dX12_datagram_235 : decode cX12_datagram 235 = .ok (.bipush 6, 2) := by decide +kernel
theorem dX12_datagram_237 : decode cX12_datagram 237 = .ok (.iadd, 1) := by decide +kernel
theorem dX12_datagram_238 : decode cX12_datagram 238 = .ok (.invokevirtual 394, 3) := by decide +kernel
theorem dX12_datagram_241 : decode cX12_datagram 241 = .ok (.ifCond .ne 7, 3) := by decide +kernel
theorem dX12_datagram_244 : decode cX12_datagram 244 = .ok (.iconst 1, 1) := by decide +kernel
theorem dX12_datagram_245 : decode cX12_datagram 245 = .ok (.goto 4, 3) := by decide +kernel
theorem dX12_datagram_248 : decode cX12_datagram 248 = .ok (.iconst 0, 1) := by decide +kernel
theorem dX12_datagram_249 : decode cX12_datagram 249 = .ok (.istore 8, 2) := by decide +kernel
theorem dX12_datagram_251 : decode cX12_datagram 251 = .ok (.iload 5, 2) := by decide +kernel
theorem dX12_datagram_253 : decode cX12_datagram 253 = .ok (.bipush 6, 2) := by decide +kernel
theorem dX12_datagram_255 : decode cX12_datagram 255 = .ok (.if_icmp .eq 15, 3) := by decide +kernel
theorem dX12_datagram_258 : decode cX12_datagram 258 = .ok (.iload 5, 2) := by decide +kernel
theorem dX12_datagram_260 : decode cX12_datagram 260 = .ok (.bipush 17, 2) := by decide +kernel
theorem dX12_datagram_262 : decode cX12_datagram 262 = .ok (.if_icmp .ne 49, 3) := by decide +kernel
theorem dX12_datagram_265 : decode cX12_datagram 265 = .ok (.iload 8, 2) := by decide +kernel
theorem dX12_datagram_267 : decode cX12_datagram 267 = .ok (.ifCond .ne 44, 3) := by decide +kernel
theorem dX12_datagram_270 : decode cX12_datagram 270 = .ok (.aload_n 0, 1) := by decide +kernel
theorem dX12_datagram_271 : decode cX12_datagram 271 = .ok (.iload 4, 2) := by decide +kernel
theorem dX12_datagram_273 : decode cX12_datagram 273 = .ok (.iload_n 2, 1) := by decide +kernel
theorem dX12_datagram_274 : decode cX12_datagram 274 = .ok (.iload 7, 2) := by decide +kernel
theorem dX12_datagram_276 : decode cX12_datagram 276 = .ok (.invokevirtual 400, 3) := by decide +kernel
theorem dX12_datagram_279 : decode cX12_datagram 279 = .ok (.ldc 253, 2) := by decide +kernel
theorem dX12_datagram_281 : decode cX12_datagram 281 = .ok (.if_icmp .eq 30, 3) := by decide +kernel
theorem dX12_datagram_284 : decode cX12_datagram 284 = .ok (.aload_n 0, 1) := by decide +kernel
theorem dX12_datagram_285 : decode cX12_datagram 285 = .ok (.bipush 7, 2) := by decide +kernel
theorem dX12_datagram_287 : decode cX12_datagram 287 = .ok (.iload 5, 2) := by decide +kernel
theorem dX12_datagram_289 : decode cX12_datagram 289 = .ok (.bipush 6, 2) := by decide +kernel
theorem dX12_datagram_291 : decode cX12_datagram 291 = .ok (.if_icmp .ne 11, 3) := by decide +kernel
theorem dX12_datagram_294 : decode cX12_datagram 294 = .ok (.iload 4, 2) := by decide +kernel
theorem dX12_datagram_296 : decode cX12_datagram 296 = .ok (.bipush 16, 2) := by decide +kernel
theorem dX12_datagram_298 : decode cX12_datagram 298 = .ok (.iadd, 1) := by decide +kernel
theorem dX12_datagram_299 : decode cX12_datagram 299 = .ok (.goto 8, 3) := by decide +kernel
theorem dX12_datagram_302 : decode cX12_datagram 302 = .ok (.iload 4, 2) := by decide +kernel
theorem dX12_datagram_304 : decode cX12_datagram 304 = .ok (.bipush 6, 2) := by decide +kernel
theorem dX12_datagram_306 : decode cX12_datagram 306 = .ok (.iadd, 1) := by decide +kernel
theorem dX12_datagram_307 : decode cX12_datagram 307 = .ok (.invokevirtual 397, 3) := by decide +kernel
theorem dX12_datagram_310 : decode cX12_datagram 310 = .ok (.ireturn, 1) := by decide +kernel
theorem dX12_datagram_311 : decode cX12_datagram 311 = .ok (.iload 5, 2) := by decide +kernel
theorem dX12_datagram_313 : decode cX12_datagram 313 = .ok (.iconst 1, 1) := by decide +kernel
theorem dX12_datagram_314 : decode cX12_datagram 314 = .ok (.if_icmp .ne 27, 3) := by decide +kernel
theorem dX12_datagram_317 : decode cX12_datagram 317 = .ok (.aload_n 0, 1) := by decide +kernel
theorem dX12_datagram_318 : decode cX12_datagram 318 = .ok (.iload 4, 2) := by decide +kernel
theorem dX12_datagram_320 : decode cX12_datagram 320 = .ok (.iload_n 2, 1) := by decide +kernel
theorem dX12_datagram_321 : decode cX12_datagram 321 = .ok (.iconst 0, 1) := by decide +kernel
theorem dX12_datagram_322 : decode cX12_datagram 322 = .ok (.invokevirtual 400, 3) := by decide +kernel
theorem dX12_datagram_325 : decode cX12_datagram 325 = .ok (.ldc 253, 2) := by decide +kernel
theorem dX12_datagram_327 : decode cX12_datagram 327 = .ok (.if_icmp .eq 14, 3) := by decide +kernel
theorem dX12_datagram_330 : decode cX12_datagram 330 = .ok (.aload_n 0, 1) := by decide +kernel
theorem dX12_datagram_331 : decode cX12_datagram 331 = .ok (.bipush 7, 2) := by decide +kernel
theorem dX12_datagram_333 : decode cX12_datagram 333 = .ok (.iload 4, 2) := by decide +kernel
theorem dX12_datagram_335 : decode cX12_datagram 335 = .ok (.iconst 2, 1) := by decide +kernel
theorem dX12_datagram_336 : decode cX12_datagram 336 = .ok (.iadd, 1) := by decide +kernel
theorem dX12_datagram_337 : decode cX12_datagram 337 = .ok (.invokevirtual 397, 3) := by decide +kernel
theorem dX12_datagram_340 : decode cX12_datagram 340 = .ok (.ireturn, 1) := by decide +kernel
theorem dX12_datagram_341 : decode cX12_datagram 341 = .ok (.aload_n 0, 1) := by decide +kernel
theorem dX12_datagram_342 : decode cX12_datagram 342 = .ok (.iconst 0, 1) := by decide +kernel
theorem dX12_datagram_343 : decode cX12_datagram 343 = .ok (.putfield 154, 3) := by decide +kernel
theorem dX12_datagram_346 : decode cX12_datagram 346 = .ok (.iload 5, 2) := by decide +kernel
theorem dX12_datagram_348 : decode cX12_datagram 348 = .ok (.bipush 6, 2) := by decide +kernel
theorem dX12_datagram_350 : decode cX12_datagram 350 = .ok (.if_icmp .eq 10, 3) := by decide +kernel
theorem dX12_datagram_353 : decode cX12_datagram 353 = .ok (.iload 5, 2) := by decide +kernel
theorem dX12_datagram_355 : decode cX12_datagram 355 = .ok (.bipush 17, 2) := by decide +kernel
theorem dX12_datagram_357 : decode cX12_datagram 357 = .ok (.if_icmp .ne 7, 3) := by decide +kernel
theorem dX12_datagram_360 : decode cX12_datagram 360 = .ok (.iconst 1, 1) := by decide +kernel
theorem dX12_datagram_361 : decode cX12_datagram 361 = .ok (.goto 4, 3) := by decide +kernel
theorem dX12_datagram_364 : decode cX12_datagram 364 = .ok (.iconst 0, 1) := by decide +kernel
theorem dX12_datagram_365 : decode cX12_datagram 365 = .ok (.istore 9, 2) := by decide +kernel
theorem dX12_datagram_367 : decode cX12_datagram 367 = .ok (.iload 5, 2) := by decide +kernel
theorem dX12_datagram_369 : decode cX12_datagram 369 = .ok (.iconst 1, 1) := by decide +kernel
theorem dX12_datagram_370 : decode cX12_datagram 370 = .ok (.if_icmp .ne 17, 3) := by decide +kernel
theorem dX12_datagram_373 : decode cX12_datagram 373 = .ok (.aload_n 0, 1) := by decide +kernel
theorem dX12_datagram_374 : decode cX12_datagram 374 = .ok (.getfield 14, 3) := by decide +kernel
theorem dX12_datagram_377 : decode cX12_datagram 377 = .ok (.iload 4, 2) := by decide +kernel
theorem dX12_datagram_379 : decode cX12_datagram 379 = .ok (.baload, 1) := by decide +kernel
theorem dX12_datagram_380 : decode cX12_datagram 380 = .ok (.sipush 255, 3) := by decide +kernel
theorem dX12_datagram_383 : decode cX12_datagram 383 = .ok (.iand, 1) := by decide +kernel
theorem dX12_datagram_384 : decode cX12_datagram 384 = .ok (.goto 4, 3) := by decide +kernel
theorem dX12_datagram_387 : decode cX12_datagram 387 = .ok (.iconst (-1), 1) := by decide +kernel
theorem dX12_datagram_388 : decode cX12_datagram 388 = .ok (.istore 10, 2) := by decide +kernel
theorem dX12_datagram_390 : decode cX12_datagram 390 = .ok (.iload 9, 2) := by decide +kernel
theorem dX12_datagram_392 : decode cX12_datagram 392 = .ok (.ifCond .ne 9, 3) := by decide +kernel
theorem dX12_datagram_395 : decode cX12_datagram 395 = .ok (.iload 5, 2) := by decide +kernel
theorem dX12_datagram_397 : decode cX12_datagram 397 = .ok (.iconst 1, 1) := by decide +kernel
theorem dX12_datagram_398 : decode cX12_datagram 398 = .ok (.if_icmp .ne 12, 3) := by decide +kernel
theorem dX12_datagram_401 : decode cX12_datagram 401 = .ok (.aload_n 0, 1) := by decide +kernel
theorem dX12_datagram_402 : decode cX12_datagram 402 = .ok (.iload 4, 2) := by decide +kernel
theorem dX12_datagram_404 : decode cX12_datagram 404 = .ok (.invokevirtual 394, 3) := by decide +kernel
theorem dX12_datagram_407 : decode cX12_datagram 407 = .ok (.goto 4, 3) := by decide +kernel
theorem dX12_datagram_410 : decode cX12_datagram 410 = .ok (.iconst 0, 1) := by decide +kernel
theorem dX12_datagram_411 : decode cX12_datagram 411 = .ok (.istore 11, 2) := by decide +kernel
theorem dX12_datagram_413 : decode cX12_datagram 413 = .ok (.iload 9, 2) := by decide +kernel
theorem dX12_datagram_415 : decode cX12_datagram 415 = .ok (.ifCond .eq 14, 3) := by decide +kernel
theorem dX12_datagram_418 : decode cX12_datagram 418 = .ok (.aload_n 0, 1) := by decide +kernel
theorem dX12_datagram_419 : decode cX12_datagram 419 = .ok (.iload 4, 2) := by decide +kernel
theorem dX12_datagram_421 : decode cX12_datagram 421 = .ok (.iconst 2, 1) := by decide +kernel
theorem dX12_datagram_422 : decode cX12_datagram 422 = .ok (.iadd, 1) := by decide +kernel
theorem dX12_datagram_423 : decode cX12_datagram 423 = .ok (.invokevirtual 394, 3) := by decide +kernel
theorem dX12_datagram_426 : decode cX12_datagram 426 = .ok (.goto 27, 3) := by decide +kernel
theorem dX12_datagram_429 : decode cX12_datagram 429 = .ok (.iload 10, 2) := by decide +kernel
theorem dX12_datagram_431 : decode cX12_datagram 431 = .ok (.ifCond .eq 10, 3) := by decide +kernel
theorem dX12_datagram_434 : decode cX12_datagram 434 = .ok (.iload 10, 2) := by decide +kernel
theorem dX12_datagram_436 : decode cX12_datagram 436 = .ok (.bipush 8, 2) := by decide +kernel
theorem dX12_datagram_438 : decode cX12_datagram 438 = .ok (.if_icmp .ne 14, 3) := by decide +kernel
theorem dX12_datagram_441 : decode cX12_datagram 441 = .ok (.aload_n 0, 1) := by decide +kernel
theorem dX12_datagram_442 : decode cX12_datagram 442 = .ok (.iload 4, 2) := by decide +kernel
theorem dX12_datagram_444 : decode cX12_datagram 444 = .ok (.iconst 4, 1) := by decide +kernel
theorem dX12_datagram_445 : decode cX12_datagram 445 = .ok (.iadd, 1) := by decide +kernel
theorem dX12_datagram_446 : decode cX12_datagram 446 = .ok (.invokevirtual 394, 3) := by decide +kernel
theorem dX12_datagram_449 : decode cX12_datagram 449 = .ok (.goto 4, 3) := by decide +kernel
theorem dX12_datagram_452 : decode cX12_datagram 452 = .ok (.iconst 0, 1) := by decide +kernel
theorem dX12_datagram_453 : decode cX12_datagram 453 = .ok (.istore 12, 2) := by decide +kernel
theorem dX12_datagram_455 : decode cX12_datagram 455 = .ok (.aload_n 0, 1) := by decide +kernel
theorem dX12_datagram_456 : decode cX12_datagram 456 = .ok (.iload 10, 2) := by decide +kernel
theorem dX12_datagram_458 : decode cX12_datagram 458 = .ok (.iconst 3, 1) := by decide +kernel
theorem dX12_datagram_459 : decode cX12_datagram 459 = .ok (.if_icmp .eq 29, 3) := by decide +kernel
theorem dX12_datagram_462 : decode cX12_datagram 462 = .ok (.iload 10, 2) := by decide +kernel
theorem dX12_datagram_464 : decode cX12_datagram 464 = .ok (.iconst 4, 1) := by decide +kernel
theorem dX12_datagram_465 : decode cX12_datagram 465 = .ok (.if_icmp .eq 23, 3) := by decide +kernel
theorem dX12_datagram_468 : decode cX12_datagram 468 = .ok (.iload 10, 2) := by decide +kernel
theorem dX12_datagram_470 : decode cX12_datagram 470 = .ok (.iconst 5, 1) := by decide +kernel
theorem dX12_datagram_471 : decode cX12_datagram 471 = .ok (.if_icmp .eq 17, 3) := by decide +kernel
theorem dX12_datagram_474 : decode cX12_datagram 474 = .ok (.iload 10, 2) := by decide +kernel
theorem dX12_datagram_476 : decode cX12_datagram 476 = .ok (.bipush 11, 2) := by decide +kernel
theorem dX12_datagram_478 : decode cX12_datagram 478 = .ok (.if_icmp .eq 10, 3) := by decide +kernel
theorem dX12_datagram_481 : decode cX12_datagram 481 = .ok (.iload 10, 2) := by decide +kernel
theorem dX12_datagram_483 : decode cX12_datagram 483 = .ok (.bipush 12, 2) := by decide +kernel
theorem dX12_datagram_485 : decode cX12_datagram 485 = .ok (.if_icmp .ne 20, 3) := by decide +kernel
theorem dX12_datagram_488 : decode cX12_datagram 488 = .ok (.aload_n 0, 1) := by decide +kernel
theorem dX12_datagram_489 : decode cX12_datagram 489 = .ok (.iload 4, 2) := by decide +kernel
theorem dX12_datagram_491 : decode cX12_datagram 491 = .ok (.bipush 8, 2) := by decide +kernel
theorem dX12_datagram_493 : decode cX12_datagram 493 = .ok (.iadd, 1) := by decide +kernel
theorem dX12_datagram_494 : decode cX12_datagram 494 = .ok (.iload_n 2, 1) := by decide +kernel
theorem dX12_datagram_495 : decode cX12_datagram 495 = .ok (.invokevirtual 406, 3) := by decide +kernel
theorem dX12_datagram_498 : decode cX12_datagram 498 = .ok (.ifCond .eq 7, 3) := by decide +kernel
theorem dX12_datagram_501 : decode cX12_datagram 501 = .ok (.iconst 1, 1) := by decide +kernel
theorem dX12_datagram_502 : decode cX12_datagram 502 = .ok (.goto 4, 3) := by decide +kernel
theorem dX12_datagram_505 : decode cX12_datagram 505 = .ok (.iconst 0, 1) := by decide +kernel
theorem dX12_datagram_506 : decode cX12_datagram 506 = .ok (.putfield 357, 3) := by decide +kernel
theorem dX12_datagram_509 : decode cX12_datagram 509 = .ok (.aload_n 0, 1) := by decide +kernel
theorem dX12_datagram_510 : decode cX12_datagram 510 = .ok (.iload_n 1, 1) := by decide +kernel
theorem dX12_datagram_511 : decode cX12_datagram 511 = .ok (.iload 5, 2) := by decide +kernel
theorem dX12_datagram_513 : decode cX12_datagram 513 = .ok (.aload_n 0, 1) := by decide +kernel
theorem dX12_datagram_514 : decode cX12_datagram 514 = .ok (.bipush 12, 2) := by decide +kernel
theorem dX12_datagram_516 : decode cX12_datagram 516 = .ok (.invokevirtual 409, 3) := by decide +kernel
theorem dX12_datagram_519 : decode cX12_datagram 519 = .ok (.aload_n 0, 1) := by decide +kernel
theorem dX12_datagram_520 : decode cX12_datagram 520 = .ok (.bipush 16, 2) := by decide +kernel
theorem dX12_datagram_522 : decode cX12_datagram 522 = .ok (.invokevirtual 409, 3) := by decide +kernel
theorem dX12_datagram_525 : decode cX12_datagram 525 = .ok (.iload 11, 2) := by decide +kernel
theorem dX12_datagram_527 : decode cX12_datagram 527 = .ok (.iload 12, 2) := by decide +kernel
theorem dX12_datagram_529 : decode cX12_datagram 529 = .ok (.iload 5, 2) := by decide +kernel
theorem dX12_datagram_531 : decode cX12_datagram 531 = .ok (.bipush 6, 2) := by decide +kernel
theorem dX12_datagram_533 : decode cX12_datagram 533 = .ok (.if_icmp .ne 19, 3) := by decide +kernel
theorem dX12_datagram_536 : decode cX12_datagram 536 = .ok (.aload_n 0, 1) := by decide +kernel
theorem dX12_datagram_537 : decode cX12_datagram 537 = .ok (.getfield 14, 3) := by decide +kernel
theorem dX12_datagram_540 : decode cX12_datagram 540 = .ok (.iload 4, 2) := by decide +kernel
theorem dX12_datagram_542 : decode cX12_datagram 542 = .ok (.bipush 13, 2) := by decide +kernel
theorem dX12_datagram_544 : decode cX12_datagram 544 = .ok (.iadd, 1) := by decide +kernel
theorem dX12_datagram_545 : decode cX12_datagram 545 = .ok (.baload, 1) := by decide +kernel
theorem dX12_datagram_546 : decode cX12_datagram 546 = .ok (.bipush 63, 2) := by decide +kernel
theorem dX12_datagram_548 : decode cX12_datagram 548 = .ok (.iand, 1) := by decide +kernel
theorem dX12_datagram_549 : decode cX12_datagram 549 = .ok (.goto 4, 3) := by decide +kernel
theorem dX12_datagram_552 : decode cX12_datagram 552 = .ok (.iconst 0, 1) := by decide +kernel
theorem dX12_datagram_553 : decode cX12_datagram 553 = .ok (.invokevirtual 359, 3) := by decide +kernel
theorem dX12_datagram_556 : decode cX12_datagram 556 = .ok (.ireturn, 1) := by decide +kernel
theorem e_X12_datagram_61 {X : gk_X} {F : Nat} {l0 : Nat} {S : gk_S} {r : (Int32 × gk_S)} (h0 : f_X12_datagram_61 F l0 S = some r) : EvW X m_X12_datagram 4 0 0 61 [some (.ref l0), none, none, none, none, none, none, none, none, none, none, none, none] [] S (qRI r) := by
  unfold f_X12_datagram_61 at h0
  refine ev_aload_n (pc := 61) (i := 0) rfl rfl rfl dX12_datagram_61 ?_
  refine ev_iconst (pc := 62) (v := 2) (by decide) dX12_datagram_62 ?_
  refine ev_iconst (pc := 63) (v := 0) (by decide) dX12_datagram_63 ?_
  obtain ⟨g35, h36⟩ := qk_el h0; clear h0
  obtain ⟨x37, S38, e39, h40⟩ := qc_el h36; clear h36
  refine xv_callV (pc := 64) (st := []) (as := [.int 2, .int 0]) (v := (some (.int x37))) (S' := S38) ok_X12_faulty (e_X12_faulty e39) (isb_el g35) (by decide) rfl (Nat.le_of_ble_eq_true rfl) rfl gw_1582 dX12_datagram_64 ?_
  exact ev_ireturn (pc := 67) rfl (nar_int _) (qRI_eq h40) dX12_datagram_67
theorem e_X12_datagram_91 {X : gk_X} {F : Nat} {l0 : Nat} {S : gk_S} {r : (Int32 × gk_S)} (h0 : f_X12_datagram_91 F l0 S = some r) : EvW X m_X12_datagram 4 0 0 91 [some (.ref l0), none, none, none, none, none, none, none, none, none, none, none, none] [] S (qRI r) := by
  unfold f_X12_datagram_91 at h0
  refine ev_aload_n (pc := 91) (i := 0) rfl rfl rfl dX12_datagram_91 ?_
  refine ev_iconst (pc := 92) (v := 3) (by decide) dX12_datagram_92 ?_
  refine ev_iconst (pc := 93) (v := 2) (by decide) dX12_datagram_93 ?_
  obtain ⟨g52, h53⟩ := qk_el h0; clear h0
  obtain ⟨x54, S55, e56, h57⟩ := qc_el h53; clear h53
  refine xv_callV (pc := 94) (st := []) (as := [.int 3, .int 2]) (v := (some (.int x54))) (S' := S55) ok_X12_faulty (e_X12_faulty e56) (isb_el g52) (by decide) rfl (Nat.le_of_ble_eq_true rfl) rfl gw_1582 dX12_datagram_94 ?_
  exact ev_ireturn (pc := 97) rfl (nar_int _) (qRI_eq h57) dX12_datagram_97
theorem e_X12_datagram_142 {X : gk_X} {F : Nat} {l0 : Nat} {S : gk_S} {r : (Int32 × gk_S)} (h0 : f_X12_datagram_142 F l0 S = some r) : EvW X m_X12_datagram 4 0 0 142 [some (.ref l0), none, none, none, none, none, none, none, none, none, none, none, none] [] S (qRI r) := by
  unfold f_X12_datagram_142 at h0
  refine ev_aload_n (pc := 142) (i := 0) rfl rfl rfl dX12_datagram_142 ?_
  refine ev_iconst (pc := 143) (v := 5) (by decide) dX12_datagram_143 ?_
  refine ev_bipush (pc := 144) (v := 6) (by decide) dX12_datagram_144 ?_
  obtain ⟨g82, h83⟩ := qk_el h0; clear h0
  obtain ⟨x84, S85, e86, h87⟩ := qc_el h83; clear h83
  refine xv_callV (pc := 146) (st := []) (as := [.int 5, .int 6]) (v := (some (.int x84))) (S' := S85) ok_X12_faulty (e_X12_faulty e86) (isb_el g82) (by decide) rfl (Nat.le_of_ble_eq_true rfl) rfl gw_1582 dX12_datagram_146 ?_
  exact ev_ireturn (pc := 149) rfl (nar_int _) (qRI_eq h87) dX12_datagram_149
theorem e_X12_datagram_553 {X : gk_X} {F : Nat} {s0 : Int32} {s1 : Int32} {s2 : Int32} {s3 : Int32} {s4 : Int32} {s5 : Int32} {s6 : Int32} {s7 : Nat} {S : gk_S} {r : (Int32 × gk_S)} (h0 : f_X12_datagram_553 F s0 s1 s2 s3 s4 s5 s6 s7 S = some r) : EvW X m_X12_datagram 4 0 0 553 [none, none, none, none, none, none, none, none, none, none, none, none, none] [.int s0, .int s1, .int s2, .int s3, .int s4, .int s5, .int s6, .ref s7] S (qRI r) := by
  unfold f_X12_datagram_553 at h0
  obtain ⟨g215, h216⟩ := qk_el h0; clear h0
  obtain ⟨x217, S218, e219, h220⟩ := qc_el h216; clear h216
  refine xv_callV (pc := 553) (st := []) (as := [.int s6, .int s5, .int s4, .int s3, .int s2, .int s1, .int s0]) (v := (some (.int x217))) (S' := S218) ok_X12_comes (e_X12_comes e219) (isb_el g215) (by decide) rfl (Nat.le_of_ble_eq_true rfl) rfl gw_1548 dX12_datagram_553 ?_
  exact ev_ireturn (pc := 556) rfl (nar_int _) (qRI_eq h220) dX12_datagram_556
theorem e_X12_datagram_506 {X : gk_X} {F : Nat} {l0 : Nat} {l1 : Int32} {l4 : Int32} {l5 : Int32} {l11 : Int32} {l12 : Int32} {s0 : Int32} {s1 : Nat} {S : gk_S} {r : (Int32 × gk_S)} (h0 : f_X12_datagram_506 F l0 l1 l4 l5 l11 l12 s0 s1 S = some r) : EvW X m_X12_datagram 4 0 0 506 [some (.ref l0), some (.int l1), none, none, some (.int l4), some (.int l5), none, none, none, none, none, some (.int l11), some (.int l12)] [.int s0, .ref s1] S (qRI r) := by
  unfold f_X12_datagram_506 at h0
  obtain ⟨g194, h195⟩ := qk_el h0; clear h0
  obtain ⟨g196, h197⟩ := qk_el h195; clear h195
  obtain ⟨S198, e199, h200⟩ := qv_el h197; clear h197
  refine yv_putI (pc := 506) fn_941 (zb_fit g196) (isb_el g194) e199 gw_1181 dX12_datagram_506 ?_
  refine ev_aload_n (pc := 509) (i := 0) rfl rfl rfl dX12_datagram_509 ?_
  refine ev_iload_n (pc := 510) (i := 1) rfl rfl dX12_datagram_510 ?_
  refine ev_iload (pc := 511) (i := 5) rfl dX12_datagram_511 ?_
  refine ev_aload_n (pc := 513) (i := 0) rfl rfl rfl dX12_datagram_513 ?_
  refine ev_bipush (pc := 514) (v := 12) (by decide) dX12_datagram_514 ?_
  obtain ⟨g201, h202⟩ := qk_el h200; clear h200
  obtain ⟨x203, S204, e205, h206⟩ := qc_el h202; clear h202
  refine xv_callV (pc := 516) (st := [.int l5, .int l1, .ref l0]) (as := [.int 12]) (v := (some (.int x203))) (S' := S204) ok_X12_address (e_X12_address e205) (isb_el g201) (by decide) rfl (Nat.le_of_ble_eq_true rfl) rfl gw_1602 dX12_datagram_516 ?_
  refine ev_aload_n (pc := 519) (i := 0) rfl rfl rfl dX12_datagram_519 ?_
  refine ev_bipush (pc := 520) (v := 16) (by decide) dX12_datagram_520 ?_
  obtain ⟨g207, h208⟩ := qk_el h206; clear h206
  obtain ⟨x209, S210, e211, h212⟩ := qc_el h208; clear h208
  refine xv_callV (pc := 522) (st := [.int x203, .int l5, .int l1, .ref l0]) (as := [.int 16]) (v := (some (.int x209))) (S' := S210) ok_X12_address (e_X12_address e211) (isb_el g207) (by decide) rfl (Nat.le_of_ble_eq_true rfl) rfl gw_1602 dX12_datagram_522 ?_
  refine ev_iload (pc := 525) (i := 11) rfl dX12_datagram_525 ?_
  refine ev_iload (pc := 527) (i := 12) rfl dX12_datagram_527 ?_
  refine ev_iload (pc := 529) (i := 5) rfl dX12_datagram_529 ?_
  refine ev_bipush (pc := 531) (v := 6) (by decide) dX12_datagram_531 ?_
  refine ev_ic_ne (pc := 533) (tgt := 552) (by decide) dX12_datagram_533 (fun c213 => ?_) (fun c213 => ?_)
  · replace h212 := qi_f h212 c213
    refine ev_iconst (pc := 552) (v := 0) (by decide) dX12_datagram_552 ?_
    exact ev_weak (qL_n (qL_n (qL_n (qL_n (qL_n (qL_n (qL_n (qL_n (qL_n (qL_n (qL_n (qL_n (qL_n qL_nil))))))))))))) (e_X12_datagram_553 h212)
  · replace h212 := qi_t h212 c213
    refine ev_aload_n (pc := 536) (i := 0) rfl rfl rfl dX12_datagram_536 ?_
    obtain ⟨g221, h222⟩ := qk_el h212; clear h212
    obtain ⟨b223, e224, h225⟩ := qP_el h222; clear h222
    refine xv_getP (pc := 537) fn_901 (isb_el g221) e224 gw_1141 dX12_datagram_537 ?_
    refine ev_iload (pc := 540) (i := 4) rfl dX12_datagram_540 ?_
    refine ev_bipush (pc := 542) (v := 13) (by decide) dX12_datagram_542 ?_
    refine ev_iadd (pc := 544)  dX12_datagram_544 ?_
    obtain ⟨g226, h227⟩ := qk_el h225; clear h225
    obtain ⟨g228, h229⟩ := qk_el h227; clear h227
    obtain ⟨x230, e231, h232⟩ := qv_el h229; clear h229
    refine yv_bald (pc := 545) (isb_el g226) (inb_el g228) e231 dX12_datagram_545 ?_
    refine ev_bipush (pc := 546) (v := 63) (by decide) dX12_datagram_546 ?_
    refine ev_iand (pc := 548)  dX12_datagram_548 ?_
    refine ev_goto (pc := 549) (tgt := 553) (by decide) dX12_datagram_549 ?_
    exact ev_weak (qL_n (qL_n (qL_n (qL_n (qL_n (qL_n (qL_n (qL_n (qL_n (qL_n (qL_n (qL_n (qL_n qL_nil))))))))))))) (e_X12_datagram_553 h232)
theorem e_X12_datagram_488 {X : gk_X} {F : Nat} {l0 : Nat} {l1 : Int32} {l2 : Int32} {l4 : Int32} {l5 : Int32} {l11 : Int32} {l12 : Int32} {s0 : Nat} {S : gk_S} {r : (Int32 × gk_S)} (h0 : f_X12_datagram_488 F l0 l1 l2 l4 l5 l11 l12 s0 S = some r) : EvW X m_X12_datagram 4 0 0 488 [some (.ref l0), some (.int l1), some (.int l2), none, some (.int l4), some (.int l5), none, none, none, none, none, some (.int l11), some (.int l12)] [.ref s0] S (qRI r) := by
  unfold f_X12_datagram_488 at h0
  refine ev_aload_n (pc := 488) (i := 0) rfl rfl rfl dX12_datagram_488 ?_
  refine ev_iload (pc := 489) (i := 4) rfl dX12_datagram_489 ?_
  refine ev_bipush (pc := 491) (v := 8) (by decide) dX12_datagram_491 ?_
  refine ev_iadd (pc := 493)  dX12_datagram_493 ?_
  refine ev_iload_n (pc := 494) (i := 2) rfl rfl dX12_datagram_494 ?_
  obtain ⟨g186, h187⟩ := qk_el h0; clear h0
  obtain ⟨x188, S189, e190, h191⟩ := qc_el h187; clear h187
  refine xv_callV (pc := 495) (st := [.ref s0]) (as := [.int (l4 + 8), .int l2]) (v := (some (.int x188))) (S' := S189) ok_X12_readsTale (e_X12_readsTale e190) (isb_el g186) (by decide) rfl (Nat.le_of_ble_eq_true rfl) rfl gw_1598 dX12_datagram_495 ?_
  refine ev_if_eq (pc := 498) (tgt := 505) (by decide) dX12_datagram_498 (fun c192 => ?_) (fun c192 => ?_)
  · replace h191 := qi_t h191 c192
    refine ev_iconst (pc := 505) (v := 0) (by decide) dX12_datagram_505 ?_
    exact ev_weak (qL_s (qL_s (qL_n (qL_n (qL_s (qL_s (qL_n (qL_n (qL_n (qL_n (qL_n (qL_s (qL_s qL_nil))))))))))))) (e_X12_datagram_506 h191)
  · replace h191 := qi_f h191 c192
    refine ev_iconst (pc := 501) (v := 1) (by decide) dX12_datagram_501 ?_
    refine ev_goto (pc := 502) (tgt := 506) (by decide) dX12_datagram_502 ?_
    exact ev_weak (qL_s (qL_s (qL_n (qL_n (qL_s (qL_s (qL_n (qL_n (qL_n (qL_n (qL_n (qL_s (qL_s qL_nil))))))))))))) (e_X12_datagram_506 h191)
theorem e_X12_datagram_453 {X : gk_X} {F : Nat} {l0 : Nat} {l1 : Int32} {l2 : Int32} {l4 : Int32} {l5 : Int32} {l10 : Int32} {l11 : Int32} {s0 : Int32} {S : gk_S} {r : (Int32 × gk_S)} (h0 : f_X12_datagram_453 F l0 l1 l2 l4 l5 l10 l11 s0 S = some r) : EvW X m_X12_datagram 4 0 0 453 [some (.ref l0), some (.int l1), some (.int l2), none, some (.int l4), some (.int l5), none, none, none, none, some (.int l10), some (.int l11), none] [.int s0] S (qRI r) := by
  unfold f_X12_datagram_453 at h0
  refine ev_istore (pc := 453) (L' := [some (.ref l0), some (.int l1), some (.int l2), none, some (.int l4), some (.int l5), none, none, none, none, some (.int l10), some (.int l11), some (.int s0)]) (i := 12) (by decide) rfl rfl dX12_datagram_453 ?_
  refine ev_aload_n (pc := 455) (i := 0) rfl rfl rfl dX12_datagram_455 ?_
  refine ev_iload (pc := 456) (i := 10) rfl dX12_datagram_456 ?_
  refine ev_iconst (pc := 458) (v := 3) (by decide) dX12_datagram_458 ?_
  refine ev_ic_eq (pc := 459) (tgt := 488) (by decide) dX12_datagram_459 (fun c184 => ?_) (fun c184 => ?_)
  · replace h0 := qi_t h0 c184
    exact ev_weak (qL_s (qL_s (qL_s (qL_n (qL_s (qL_s (qL_n (qL_n (qL_n (qL_n (qL_n (qL_s (qL_s qL_nil))))))))))))) (e_X12_datagram_488 h0)
  · replace h0 := qi_f h0 c184
    refine ev_iload (pc := 462) (i := 10) rfl dX12_datagram_462 ?_
    refine ev_iconst (pc := 464) (v := 4) (by decide) dX12_datagram_464 ?_
    refine ev_ic_eq (pc := 465) (tgt := 488) (by decide) dX12_datagram_465 (fun c233 => ?_) (fun c233 => ?_)
    · replace h0 := qi_t h0 c233
      exact ev_weak (qL_s (qL_s (qL_s (qL_n (qL_s (qL_s (qL_n (qL_n (qL_n (qL_n (qL_n (qL_s (qL_s qL_nil))))))))))))) (e_X12_datagram_488 h0)
    · replace h0 := qi_f h0 c233
      refine ev_iload (pc := 468) (i := 10) rfl dX12_datagram_468 ?_
      refine ev_iconst (pc := 470) (v := 5) (by decide) dX12_datagram_470 ?_
      refine ev_ic_eq (pc := 471) (tgt := 488) (by decide) dX12_datagram_471 (fun c235 => ?_) (fun c235 => ?_)
      · replace h0 := qi_t h0 c235
        exact ev_weak (qL_s (qL_s (qL_s (qL_n (qL_s (qL_s (qL_n (qL_n (qL_n (qL_n (qL_n (qL_s (qL_s qL_nil))))))))))))) (e_X12_datagram_488 h0)
      · replace h0 := qi_f h0 c235
        refine ev_iload (pc := 474) (i := 10) rfl dX12_datagram_474 ?_
        refine ev_bipush (pc := 476) (v := 11) (by decide) dX12_datagram_476 ?_
        refine ev_ic_eq (pc := 478) (tgt := 488) (by decide) dX12_datagram_478 (fun c237 => ?_) (fun c237 => ?_)
        · replace h0 := qi_t h0 c237
          exact ev_weak (qL_s (qL_s (qL_s (qL_n (qL_s (qL_s (qL_n (qL_n (qL_n (qL_n (qL_n (qL_s (qL_s qL_nil))))))))))))) (e_X12_datagram_488 h0)
        · replace h0 := qi_f h0 c237
          refine ev_iload (pc := 481) (i := 10) rfl dX12_datagram_481 ?_
          refine ev_bipush (pc := 483) (v := 12) (by decide) dX12_datagram_483 ?_
          refine ev_ic_ne (pc := 485) (tgt := 505) (by decide) dX12_datagram_485 (fun c239 => ?_) (fun c239 => ?_)
          · replace h0 := qi_f h0 c239
            refine ev_iconst (pc := 505) (v := 0) (by decide) dX12_datagram_505 ?_
            exact ev_weak (qL_s (qL_s (qL_n (qL_n (qL_s (qL_s (qL_n (qL_n (qL_n (qL_n (qL_n (qL_s (qL_s qL_nil))))))))))))) (e_X12_datagram_506 h0)
          · replace h0 := qi_t h0 c239
            exact ev_weak (qL_s (qL_s (qL_s (qL_n (qL_s (qL_s (qL_n (qL_n (qL_n (qL_n (qL_n (qL_s (qL_s qL_nil))))))))))))) (e_X12_datagram_488 h0)
theorem e_X12_datagram_441 {X : gk_X} {F : Nat} {l0 : Nat} {l1 : Int32} {l2 : Int32} {l4 : Int32} {l5 : Int32} {l10 : Int32} {l11 : Int32} {S : gk_S} {r : (Int32 × gk_S)} (h0 : f_X12_datagram_441 F l0 l1 l2 l4 l5 l10 l11 S = some r) : EvW X m_X12_datagram 4 0 0 441 [some (.ref l0), some (.int l1), some (.int l2), none, some (.int l4), some (.int l5), none, none, none, none, some (.int l10), some (.int l11), none] [] S (qRI r) := by
  unfold f_X12_datagram_441 at h0
  refine ev_aload_n (pc := 441) (i := 0) rfl rfl rfl dX12_datagram_441 ?_
  refine ev_iload (pc := 442) (i := 4) rfl dX12_datagram_442 ?_
  refine ev_iconst (pc := 444) (v := 4) (by decide) dX12_datagram_444 ?_
  refine ev_iadd (pc := 445)  dX12_datagram_445 ?_
  obtain ⟨g178, h179⟩ := qk_el h0; clear h0
  obtain ⟨x180, S181, e182, h183⟩ := qc_el h179; clear h179
  refine xv_callV (pc := 446) (st := []) (as := [.int (l4 + 4)]) (v := (some (.int x180))) (S' := S181) ok_X12_two (e_X12_two e182) (isb_el g178) (by decide) rfl (Nat.le_of_ble_eq_true rfl) rfl gw_1586 dX12_datagram_446 ?_
  refine ev_goto (pc := 449) (tgt := 453) (by decide) dX12_datagram_449 ?_
  exact ev_weak (qL_s (qL_s (qL_s (qL_n (qL_s (qL_s (qL_n (qL_n (qL_n (qL_n (qL_s (qL_s (qL_n qL_nil))))))))))))) (e_X12_datagram_453 h183)
theorem e_X12_datagram_411 {X : gk_X} {F : Nat} {l0 : Nat} {l1 : Int32} {l2 : Int32} {l4 : Int32} {l5 : Int32} {l9 : Int32} {l10 : Int32} {s0 : Int32} {S : gk_S} {r : (Int32 × gk_S)} (h0 : f_X12_datagram_411 F l0 l1 l2 l4 l5 l9 l10 s0 S = some r) : EvW X m_X12_datagram 4 0 0 411 [some (.ref l0), some (.int l1), some (.int l2), none, some (.int l4), some (.int l5), none, none, none, some (.int l9), some (.int l10), none, none] [.int s0] S (qRI r) := by
  unfold f_X12_datagram_411 at h0
  refine ev_istore (pc := 411) (L' := [some (.ref l0), some (.int l1), some (.int l2), none, some (.int l4), some (.int l5), none, none, none, some (.int l9), some (.int l10), some (.int s0), none]) (i := 11) (by decide) rfl rfl dX12_datagram_411 ?_
  refine ev_iload (pc := 413) (i := 9) rfl dX12_datagram_413 ?_
  refine ev_if_eq (pc := 415) (tgt := 429) (by decide) dX12_datagram_415 (fun c174 => ?_) (fun c174 => ?_)
  · replace h0 := qi_t h0 c174
    refine ev_iload (pc := 429) (i := 10) rfl dX12_datagram_429 ?_
    refine ev_if_eq (pc := 431) (tgt := 441) (by decide) dX12_datagram_431 (fun c176 => ?_) (fun c176 => ?_)
    · replace h0 := qi_t h0 c176
      exact ev_weak (qL_s (qL_s (qL_s (qL_n (qL_s (qL_s (qL_n (qL_n (qL_n (qL_n (qL_s (qL_s (qL_n qL_nil))))))))))))) (e_X12_datagram_441 h0)
    · replace h0 := qi_f h0 c176
      refine ev_iload (pc := 434) (i := 10) rfl dX12_datagram_434 ?_
      refine ev_bipush (pc := 436) (v := 8) (by decide) dX12_datagram_436 ?_
      refine ev_ic_ne (pc := 438) (tgt := 452) (by decide) dX12_datagram_438 (fun c241 => ?_) (fun c241 => ?_)
      · replace h0 := qi_f h0 c241
        refine ev_iconst (pc := 452) (v := 0) (by decide) dX12_datagram_452 ?_
        exact ev_weak (qL_s (qL_s (qL_s (qL_n (qL_s (qL_s (qL_n (qL_n (qL_n (qL_n (qL_s (qL_s (qL_n qL_nil))))))))))))) (e_X12_datagram_453 h0)
      · replace h0 := qi_t h0 c241
        exact ev_weak (qL_s (qL_s (qL_s (qL_n (qL_s (qL_s (qL_n (qL_n (qL_n (qL_n (qL_s (qL_s (qL_n qL_nil))))))))))))) (e_X12_datagram_441 h0)
  · replace h0 := qi_f h0 c174
    refine ev_aload_n (pc := 418) (i := 0) rfl rfl rfl dX12_datagram_418 ?_
    refine ev_iload (pc := 419) (i := 4) rfl dX12_datagram_419 ?_
    refine ev_iconst (pc := 421) (v := 2) (by decide) dX12_datagram_421 ?_
    refine ev_iadd (pc := 422)  dX12_datagram_422 ?_
    obtain ⟨g243, h244⟩ := qk_el h0; clear h0
    obtain ⟨x245, S246, e247, h248⟩ := qc_el h244; clear h244
    refine xv_callV (pc := 423) (st := []) (as := [.int (l4 + 2)]) (v := (some (.int x245))) (S' := S246) ok_X12_two (e_X12_two e247) (isb_el g243) (by decide) rfl (Nat.le_of_ble_eq_true rfl) rfl gw_1586 dX12_datagram_423 ?_
    refine ev_goto (pc := 426) (tgt := 453) (by decide) dX12_datagram_426 ?_
    exact ev_weak (qL_s (qL_s (qL_s (qL_n (qL_s (qL_s (qL_n (qL_n (qL_n (qL_n (qL_s (qL_s (qL_n qL_nil))))))))))))) (e_X12_datagram_453 h248)
theorem e_X12_datagram_401 {X : gk_X} {F : Nat} {l0 : Nat} {l1 : Int32} {l2 : Int32} {l4 : Int32} {l5 : Int32} {l9 : Int32} {l10 : Int32} {S : gk_S} {r : (Int32 × gk_S)} (h0 : f_X12_datagram_401 F l0 l1 l2 l4 l5 l9 l10 S = some r) : EvW X m_X12_datagram 4 0 0 401 [some (.ref l0), some (.int l1), some (.int l2), none, some (.int l4), some (.int l5), none, none, none, some (.int l9), some (.int l10), none, none] [] S (qRI r) := by
  unfold f_X12_datagram_401 at h0
  refine ev_aload_n (pc := 401) (i := 0) rfl rfl rfl dX12_datagram_401 ?_
  refine ev_iload (pc := 402) (i := 4) rfl dX12_datagram_402 ?_
  obtain ⟨g168, h169⟩ := qk_el h0; clear h0
  obtain ⟨x170, S171, e172, h173⟩ := qc_el h169; clear h169
  refine xv_callV (pc := 404) (st := []) (as := [.int l4]) (v := (some (.int x170))) (S' := S171) ok_X12_two (e_X12_two e172) (isb_el g168) (by decide) rfl (Nat.le_of_ble_eq_true rfl) rfl gw_1586 dX12_datagram_404 ?_
  refine ev_goto (pc := 407) (tgt := 411) (by decide) dX12_datagram_407 ?_
  exact ev_weak (qL_s (qL_s (qL_s (qL_n (qL_s (qL_s (qL_n (qL_n (qL_n (qL_s (qL_s (qL_n (qL_n qL_nil))))))))))))) (e_X12_datagram_411 h173)
theorem e_X12_datagram_388 {X : gk_X} {F : Nat} {l0 : Nat} {l1 : Int32} {l2 : Int32} {l4 : Int32} {l5 : Int32} {l9 : Int32} {s0 : Int32} {S : gk_S} {r : (Int32 × gk_S)} (h0 : f_X12_datagram_388 F l0 l1 l2 l4 l5 l9 s0 S = some r) : EvW X m_X12_datagram 4 0 0 388 [some (.ref l0), some (.int l1), some (.int l2), none, some (.int l4), some (.int l5), none, none, none, some (.int l9), none, none, none] [.int s0] S (qRI r) := by
  unfold f_X12_datagram_388 at h0
  refine ev_istore (pc := 388) (L' := [some (.ref l0), some (.int l1), some (.int l2), none, some (.int l4), some (.int l5), none, none, none, some (.int l9), some (.int s0), none, none]) (i := 10) (by decide) rfl rfl dX12_datagram_388 ?_
  refine ev_iload (pc := 390) (i := 9) rfl dX12_datagram_390 ?_
  refine ev_if_ne (pc := 392) (tgt := 401) (by decide) dX12_datagram_392 (fun c166 => ?_) (fun c166 => ?_)
  · replace h0 := qi_f h0 c166
    exact ev_weak (qL_s (qL_s (qL_s (qL_n (qL_s (qL_s (qL_n (qL_n (qL_n (qL_s (qL_s (qL_n (qL_n qL_nil))))))))))))) (e_X12_datagram_401 h0)
  · replace h0 := qi_t h0 c166
    refine ev_iload (pc := 395) (i := 5) rfl dX12_datagram_395 ?_
    refine ev_iconst (pc := 397) (v := 1) (by decide) dX12_datagram_397 ?_
    refine ev_ic_ne (pc := 398) (tgt := 410) (by decide) dX12_datagram_398 (fun c249 => ?_) (fun c249 => ?_)
    · replace h0 := qi_f h0 c249
      refine ev_iconst (pc := 410) (v := 0) (by decide) dX12_datagram_410 ?_
      exact ev_weak (qL_s (qL_s (qL_s (qL_n (qL_s (qL_s (qL_n (qL_n (qL_n (qL_s (qL_s (qL_n (qL_n qL_nil))))))))))))) (e_X12_datagram_411 h0)
    · replace h0 := qi_t h0 c249
      exact ev_weak (qL_s (qL_s (qL_s (qL_n (qL_s (qL_s (qL_n (qL_n (qL_n (qL_s (qL_s (qL_n (qL_n qL_nil))))))))))))) (e_X12_datagram_401 h0)
theorem e_X12_datagram_365 {X : gk_X} {F : Nat} {l0 : Nat} {l1 : Int32} {l2 : Int32} {l4 : Int32} {l5 : Int32} {s0 : Int32} {S : gk_S} {r : (Int32 × gk_S)} (h0 : f_X12_datagram_365 F l0 l1 l2 l4 l5 s0 S = some r) : EvW X m_X12_datagram 4 0 0 365 [some (.ref l0), some (.int l1), some (.int l2), none, some (.int l4), some (.int l5), none, none, none, none, none, none, none] [.int s0] S (qRI r) := by
  unfold f_X12_datagram_365 at h0
  refine ev_istore (pc := 365) (L' := [some (.ref l0), some (.int l1), some (.int l2), none, some (.int l4), some (.int l5), none, none, none, some (.int s0), none, none, none]) (i := 9) (by decide) rfl rfl dX12_datagram_365 ?_
  refine ev_iload (pc := 367) (i := 5) rfl dX12_datagram_367 ?_
  refine ev_iconst (pc := 369) (v := 1) (by decide) dX12_datagram_369 ?_
  refine ev_ic_ne (pc := 370) (tgt := 387) (by decide) dX12_datagram_370 (fun c164 => ?_) (fun c164 => ?_)
  · replace h0 := qi_f h0 c164
    refine ev_iconst (pc := 387) (v := -1) (by decide) dX12_datagram_387 ?_
    exact ev_weak (qL_s (qL_s (qL_s (qL_n (qL_s (qL_s (qL_n (qL_n (qL_n (qL_s (qL_n (qL_n (qL_n qL_nil))))))))))))) (e_X12_datagram_388 h0)
  · replace h0 := qi_t h0 c164
    refine ev_aload_n (pc := 373) (i := 0) rfl rfl rfl dX12_datagram_373 ?_
    obtain ⟨g251, h252⟩ := qk_el h0; clear h0
    obtain ⟨b253, e254, h255⟩ := qP_el h252; clear h252
    refine xv_getP (pc := 374) fn_901 (isb_el g251) e254 gw_1141 dX12_datagram_374 ?_
    refine ev_iload (pc := 377) (i := 4) rfl dX12_datagram_377 ?_
    obtain ⟨g256, h257⟩ := qk_el h255; clear h255
    obtain ⟨g258, h259⟩ := qk_el h257; clear h257
    obtain ⟨x260, e261, h262⟩ := qv_el h259; clear h259
    refine yv_bald (pc := 379) (isb_el g256) (inb_el g258) e261 dX12_datagram_379 ?_
    refine ev_sipush (pc := 380) (v := 255) (by decide) dX12_datagram_380 ?_
    refine ev_iand (pc := 383)  dX12_datagram_383 ?_
    refine ev_goto (pc := 384) (tgt := 388) (by decide) dX12_datagram_384 ?_
    exact ev_weak (qL_s (qL_s (qL_s (qL_n (qL_s (qL_s (qL_n (qL_n (qL_n (qL_s (qL_n (qL_n (qL_n qL_nil))))))))))))) (e_X12_datagram_388 h262)
theorem e_X12_datagram_341 {X : gk_X} {F : Nat} {l0 : Nat} {l1 : Int32} {l2 : Int32} {l4 : Int32} {l5 : Int32} {S : gk_S} {r : (Int32 × gk_S)} (h0 : f_X12_datagram_341 F l0 l1 l2 l4 l5 S = some r) : EvW X m_X12_datagram 4 0 0 341 [some (.ref l0), some (.int l1), some (.int l2), none, some (.int l4), some (.int l5), none, none, none, none, none, none, none] [] S (qRI r) := by
  unfold f_X12_datagram_341 at h0
  refine ev_aload_n (pc := 341) (i := 0) rfl rfl rfl dX12_datagram_341 ?_
  refine ev_iconst (pc := 342) (v := 0) (by decide) dX12_datagram_342 ?_
  obtain ⟨g157, h158⟩ := qk_el h0; clear h0
  obtain ⟨S159, e160, h161⟩ := qv_el h158; clear h158
  refine yv_putI (pc := 343) fn_918 ⟨rfl, rfl⟩ (isb_el g157) e160 gw_1158 dX12_datagram_343 ?_
  refine ev_iload (pc := 346) (i := 5) rfl dX12_datagram_346 ?_
  refine ev_bipush (pc := 348) (v := 6) (by decide) dX12_datagram_348 ?_
  refine ev_ic_eq (pc := 350) (tgt := 360) (by decide) dX12_datagram_350 (fun c162 => ?_) (fun c162 => ?_)
  · replace h161 := qi_t h161 c162
    refine ev_iconst (pc := 360) (v := 1) (by decide) dX12_datagram_360 ?_
    refine ev_goto (pc := 361) (tgt := 365) (by decide) dX12_datagram_361 ?_
    exact ev_weak (qL_s (qL_s (qL_s (qL_n (qL_s (qL_s (qL_n (qL_n (qL_n (qL_n (qL_n (qL_n (qL_n qL_nil))))))))))))) (e_X12_datagram_365 h161)
  · replace h161 := qi_f h161 c162
    refine ev_iload (pc := 353) (i := 5) rfl dX12_datagram_353 ?_
    refine ev_bipush (pc := 355) (v := 17) (by decide) dX12_datagram_355 ?_
    refine ev_ic_ne (pc := 357) (tgt := 364) (by decide) dX12_datagram_357 (fun c263 => ?_) (fun c263 => ?_)
    · replace h161 := qi_f h161 c263
      refine ev_iconst (pc := 364) (v := 0) (by decide) dX12_datagram_364 ?_
      exact ev_weak (qL_s (qL_s (qL_s (qL_n (qL_s (qL_s (qL_n (qL_n (qL_n (qL_n (qL_n (qL_n (qL_n qL_nil))))))))))))) (e_X12_datagram_365 h161)
    · replace h161 := qi_t h161 c263
      refine ev_iconst (pc := 360) (v := 1) (by decide) dX12_datagram_360 ?_
      refine ev_goto (pc := 361) (tgt := 365) (by decide) dX12_datagram_361 ?_
      exact ev_weak (qL_s (qL_s (qL_s (qL_n (qL_s (qL_s (qL_n (qL_n (qL_n (qL_n (qL_n (qL_n (qL_n qL_nil))))))))))))) (e_X12_datagram_365 h161)
theorem e_X12_datagram_311 {X : gk_X} {F : Nat} {l0 : Nat} {l1 : Int32} {l2 : Int32} {l4 : Int32} {l5 : Int32} {S : gk_S} {r : (Int32 × gk_S)} (h0 : f_X12_datagram_311 F l0 l1 l2 l4 l5 S = some r) : EvW X m_X12_datagram 4 0 0 311 [some (.ref l0), some (.int l1), some (.int l2), none, some (.int l4), some (.int l5), none, none, none, none, none, none, none] [] S (qRI r) := by
  unfold f_X12_datagram_311 at h0
  refine ev_iload (pc := 311) (i := 5) rfl dX12_datagram_311 ?_
  refine ev_iconst (pc := 313) (v := 1) (by decide) dX12_datagram_313 ?_
  refine ev_ic_ne (pc := 314) (tgt := 341) (by decide) dX12_datagram_314 (fun c155 => ?_) (fun c155 => ?_)
  · replace h0 := qi_f h0 c155
    exact ev_weak (qL_s (qL_s (qL_s (qL_n (qL_s (qL_s (qL_n (qL_n (qL_n (qL_n (qL_n (qL_n (qL_n qL_nil))))))))))))) (e_X12_datagram_341 h0)
  · replace h0 := qi_t h0 c155
    refine ev_aload_n (pc := 317) (i := 0) rfl rfl rfl dX12_datagram_317 ?_
    refine ev_iload (pc := 318) (i := 4) rfl dX12_datagram_318 ?_
    refine ev_iload_n (pc := 320) (i := 2) rfl rfl dX12_datagram_320 ?_
    refine ev_iconst (pc := 321) (v := 0) (by decide) dX12_datagram_321 ?_
    obtain ⟨g265, h266⟩ := qk_el h0; clear h0
    obtain ⟨x267, S268, e269, h270⟩ := qc_el h266; clear h266
    refine xv_callV (pc := 322) (st := []) (as := [.int l4, .int l2, .int 0]) (v := (some (.int x267))) (S' := S268) ok_X12_summed (e_X12_summed e269) (isb_el g265) (by decide) rfl (Nat.le_of_ble_eq_true rfl) rfl gw_1590 dX12_datagram_322 ?_
    refine ev_ldc (pc := 325) (v := 65535) gw_1435 dX12_datagram_325 ?_
    refine ev_ic_eq (pc := 327) (tgt := 341) (by decide) dX12_datagram_327 (fun c271 => ?_) (fun c271 => ?_)
    · replace h270 := qi_t h270 c271
      exact ev_weak (qL_s (qL_s (qL_s (qL_n (qL_s (qL_s (qL_n (qL_n (qL_n (qL_n (qL_n (qL_n (qL_n qL_nil))))))))))))) (e_X12_datagram_341 h270)
    · replace h270 := qi_f h270 c271
      refine ev_aload_n (pc := 330) (i := 0) rfl rfl rfl dX12_datagram_330 ?_
      refine ev_bipush (pc := 331) (v := 7) (by decide) dX12_datagram_331 ?_
      refine ev_iload (pc := 333) (i := 4) rfl dX12_datagram_333 ?_
      refine ev_iconst (pc := 335) (v := 2) (by decide) dX12_datagram_335 ?_
      refine ev_iadd (pc := 336)  dX12_datagram_336 ?_
      obtain ⟨g273, h274⟩ := qk_el h270; clear h270
      obtain ⟨x275, S276, e277, h278⟩ := qc_el h274; clear h274
      refine xv_callV (pc := 337) (st := []) (as := [.int 7, .int (l4 + 2)]) (v := (some (.int x275))) (S' := S276) ok_X12_faulty (e_X12_faulty e277) (isb_el g273) (by decide) rfl (Nat.le_of_ble_eq_true rfl) rfl gw_1582 dX12_datagram_337 ?_
      exact ev_ireturn (pc := 340) rfl (nar_int _) (qRI_eq h278) dX12_datagram_340
theorem e_X12_datagram_307 {X : gk_X} {F : Nat} {s0 : Int32} {s1 : Int32} {s2 : Nat} {S : gk_S} {r : (Int32 × gk_S)} (h0 : f_X12_datagram_307 F s0 s1 s2 S = some r) : EvW X m_X12_datagram 4 0 0 307 [none, none, none, none, none, none, none, none, none, none, none, none, none] [.int s0, .int s1, .ref s2] S (qRI r) := by
  unfold f_X12_datagram_307 at h0
  obtain ⟨g281, h282⟩ := qk_el h0; clear h0
  obtain ⟨x283, S284, e285, h286⟩ := qc_el h282; clear h282
  refine xv_callV (pc := 307) (st := []) (as := [.int s1, .int s0]) (v := (some (.int x283))) (S' := S284) ok_X12_faulty (e_X12_faulty e285) (isb_el g281) (by decide) rfl (Nat.le_of_ble_eq_true rfl) rfl gw_1582 dX12_datagram_307 ?_
  exact ev_ireturn (pc := 310) rfl (nar_int _) (qRI_eq h286) dX12_datagram_310
theorem e_X12_datagram_270 {X : gk_X} {F : Nat} {l0 : Nat} {l1 : Int32} {l2 : Int32} {l4 : Int32} {l5 : Int32} {l7 : Int32} {S : gk_S} {r : (Int32 × gk_S)} (h0 : f_X12_datagram_270 F l0 l1 l2 l4 l5 l7 S = some r) : EvW X m_X12_datagram 4 0 0 270 [some (.ref l0), some (.int l1), some (.int l2), none, some (.int l4), some (.int l5), none, some (.int l7), none, none, none, none, none] [] S (qRI r) := by
  unfold f_X12_datagram_270 at h0
  refine ev_aload_n (pc := 270) (i := 0) rfl rfl rfl dX12_datagram_270 ?_
  refine ev_iload (pc := 271) (i := 4) rfl dX12_datagram_271 ?_
  refine ev_iload_n (pc := 273) (i := 2) rfl rfl dX12_datagram_273 ?_
  refine ev_iload (pc := 274) (i := 7) rfl dX12_datagram_274 ?_
  obtain ⟨g147, h148⟩ := qk_el h0; clear h0
  obtain ⟨x149, S150, e151, h152⟩ := qc_el h148; clear h148
  refine xv_callV (pc := 276) (st := []) (as := [.int l4, .int l2, .int l7]) (v := (some (.int x149))) (S' := S150) ok_X12_summed (e_X12_summed e151) (isb_el g147) (by decide) rfl (Nat.le_of_ble_eq_true rfl) rfl gw_1590 dX12_datagram_276 ?_
  refine ev_ldc (pc := 279) (v := 65535) gw_1435 dX12_datagram_279 ?_
  refine ev_ic_eq (pc := 281) (tgt := 311) (by decide) dX12_datagram_281 (fun c153 => ?_) (fun c153 => ?_)
  · replace h152 := qi_t h152 c153
    exact ev_weak (qL_s (qL_s (qL_s (qL_n (qL_s (qL_s (qL_n (qL_n (qL_n (qL_n (qL_n (qL_n (qL_n qL_nil))))))))))))) (e_X12_datagram_311 h152)
  · replace h152 := qi_f h152 c153
    refine ev_aload_n (pc := 284) (i := 0) rfl rfl rfl dX12_datagram_284 ?_
    refine ev_bipush (pc := 285) (v := 7) (by decide) dX12_datagram_285 ?_
    refine ev_iload (pc := 287) (i := 5) rfl dX12_datagram_287 ?_
    refine ev_bipush (pc := 289) (v := 6) (by decide) dX12_datagram_289 ?_
    refine ev_ic_ne (pc := 291) (tgt := 302) (by decide) dX12_datagram_291 (fun c279 => ?_) (fun c279 => ?_)
    · replace h152 := qi_f h152 c279
      refine ev_iload (pc := 302) (i := 4) rfl dX12_datagram_302 ?_
      refine ev_bipush (pc := 304) (v := 6) (by decide) dX12_datagram_304 ?_
      refine ev_iadd (pc := 306)  dX12_datagram_306 ?_
      exact ev_weak (qL_n (qL_n (qL_n (qL_n (qL_n (qL_n (qL_n (qL_n (qL_n (qL_n (qL_n (qL_n (qL_n qL_nil))))))))))))) (e_X12_datagram_307 h152)
    · replace h152 := qi_t h152 c279
      refine ev_iload (pc := 294) (i := 4) rfl dX12_datagram_294 ?_
      refine ev_bipush (pc := 296) (v := 16) (by decide) dX12_datagram_296 ?_
      refine ev_iadd (pc := 298)  dX12_datagram_298 ?_
      refine ev_goto (pc := 299) (tgt := 307) (by decide) dX12_datagram_299 ?_
      exact ev_weak (qL_n (qL_n (qL_n (qL_n (qL_n (qL_n (qL_n (qL_n (qL_n (qL_n (qL_n (qL_n (qL_n qL_nil))))))))))))) (e_X12_datagram_307 h152)
theorem e_X12_datagram_249 {X : gk_X} {F : Nat} {l0 : Nat} {l1 : Int32} {l2 : Int32} {l4 : Int32} {l5 : Int32} {l7 : Int32} {s0 : Int32} {S : gk_S} {r : (Int32 × gk_S)} (h0 : f_X12_datagram_249 F l0 l1 l2 l4 l5 l7 s0 S = some r) : EvW X m_X12_datagram 4 0 0 249 [some (.ref l0), some (.int l1), some (.int l2), none, some (.int l4), some (.int l5), none, some (.int l7), none, none, none, none, none] [.int s0] S (qRI r) := by
  unfold f_X12_datagram_249 at h0
  refine ev_istore (pc := 249) (L' := [some (.ref l0), some (.int l1), some (.int l2), none, some (.int l4), some (.int l5), none, some (.int l7), some (.int s0), none, none, none, none]) (i := 8) (by decide) rfl rfl dX12_datagram_249 ?_
  refine ev_iload (pc := 251) (i := 5) rfl dX12_datagram_251 ?_
  refine ev_bipush (pc := 253) (v := 6) (by decide) dX12_datagram_253 ?_
  refine ev_ic_eq (pc := 255) (tgt := 270) (by decide) dX12_datagram_255 (fun c145 => ?_) (fun c145 => ?_)
  · replace h0 := qi_t h0 c145
    exact ev_weak (qL_s (qL_s (qL_s (qL_n (qL_s (qL_s (qL_n (qL_s (qL_n (qL_n (qL_n (qL_n (qL_n qL_nil))))))))))))) (e_X12_datagram_270 h0)
  · replace h0 := qi_f h0 c145
    refine ev_iload (pc := 258) (i := 5) rfl dX12_datagram_258 ?_
    refine ev_bipush (pc := 260) (v := 17) (by decide) dX12_datagram_260 ?_
    refine ev_ic_ne (pc := 262) (tgt := 311) (by decide) dX12_datagram_262 (fun c287 => ?_) (fun c287 => ?_)
    · replace h0 := qi_f h0 c287
      exact ev_weak (qL_s (qL_s (qL_s (qL_n (qL_s (qL_s (qL_n (qL_n (qL_n (qL_n (qL_n (qL_n (qL_n qL_nil))))))))))))) (e_X12_datagram_311 h0)
    · replace h0 := qi_t h0 c287
      refine ev_iload (pc := 265) (i := 8) rfl dX12_datagram_265 ?_
      refine ev_if_ne (pc := 267) (tgt := 311) (by decide) dX12_datagram_267 (fun c289 => ?_) (fun c289 => ?_)
      · replace h0 := qi_f h0 c289
        exact ev_weak (qL_s (qL_s (qL_s (qL_n (qL_s (qL_s (qL_n (qL_n (qL_n (qL_n (qL_n (qL_n (qL_n qL_nil))))))))))))) (e_X12_datagram_311 h0)
      · replace h0 := qi_t h0 c289
        exact ev_weak (qL_s (qL_s (qL_s (qL_n (qL_s (qL_s (qL_n (qL_s (qL_n (qL_n (qL_n (qL_n (qL_n qL_nil))))))))))))) (e_X12_datagram_270 h0)
theorem e_X12_datagram {X : gk_X} {F : Nat} {S : gk_S} {a : Nat} {p0 : Int32} {r : (Int32 × gk_S)} (h0 : f_X12_datagram F S a p0 = some r) : EvM X m_X12_datagram 4 0 0 [.ref a, .int p0] S (qRI r) := by
  unfold f_X12_datagram at h0
  refine ev_method (by decide +kernel) rfl rfl (Nat.le_of_ble_eq_true rfl) ?_
  show EvW X m_X12_datagram 4 0 0 0 [some (.ref a), some (.int p0), none, none, none, none, none, none, none, none, none, none, none] [] S _
  refine ev_aload_n (pc := 0) (i := 0) rfl rfl rfl dX12_datagram_0 ?_
  refine ev_iload_n (pc := 1) (i := 1) rfl rfl dX12_datagram_1 ?_
  refine ev_iconst (pc := 2) (v := 3) (by decide) dX12_datagram_2 ?_
  obtain ⟨x1, S2, e3, h4⟩ := qc_el h0; clear h0
  refine xv_callS (pc := 3) (st := [.ref a]) (as := [.int p0, .int 3]) (v := (some (.int x1))) (S' := S2) ok_X12_isNone (e_X12_isNone e3) (by decide) rfl (Nat.le_of_ble_eq_true rfl) rfl gw_1432 dX12_datagram_3 ?_
  refine ev_iconst (pc := 6) (v := 1) (by decide) dX12_datagram_6 ?_
  obtain ⟨g5, h6⟩ := qk_el h4; clear h4
  obtain ⟨x7, S8, e9, h10⟩ := qc_el h6; clear h6
  refine xv_callV (pc := 7) (st := []) (as := [.int x1, .int 1]) (v := (some (.int x7))) (S' := S8) ok_X12_throwsIf (e_X12_throwsIf e9) (isb_el g5) (by decide) rfl (Nat.le_of_ble_eq_true rfl) rfl gw_1272 dX12_datagram_7 ?_
  refine ev_if_eq (pc := 10) (tgt := 15) (by decide) dX12_datagram_10 (fun c11 => ?_) (fun c11 => ?_)
  · replace h10 := qi_t h10 c11
    refine ev_aload_n (pc := 15) (i := 0) rfl rfl rfl dX12_datagram_15 ?_
    obtain ⟨g13, h14⟩ := qk_el h10; clear h10
    obtain ⟨x15, e16, h17⟩ := qv_el h14; clear h14
    refine xv_getIv (pc := 16) fn_902 (isb_el g13) e16 gw_1142 dX12_datagram_16 ?_
    refine ev_istore_n (pc := 19) (L' := [some (.ref a), some (.int p0), some (.int x15), none, none, none, none, none, none, none, none, none, none]) (i := 2) rfl (by decide) rfl rfl dX12_datagram_19 ?_
    refine ev_aload_n (pc := 20) (i := 0) rfl rfl rfl dX12_datagram_20 ?_
    refine ev_iconst (pc := 21) (v := 0) (by decide) dX12_datagram_21 ?_
    obtain ⟨S18, e19, h20⟩ := qv_el h17; clear h17
    refine yv_putI (pc := 22) fn_902 ⟨rfl, rfl⟩ (isb_el g13) e19 gw_1142 dX12_datagram_22 ?_
    refine ev_iload_n (pc := 25) (i := 2) rfl rfl dX12_datagram_25 ?_
    refine ev_bipush (pc := 26) (v := 20) (by decide) dX12_datagram_26 ?_
    refine ev_ic_ge (pc := 28) (tgt := 38) (by decide) dX12_datagram_28 (fun c21 => ?_) (fun c21 => ?_)
    · replace h20 := qi_t h20 c21
      refine ev_aload_n (pc := 38) (i := 0) rfl rfl rfl dX12_datagram_38 ?_
      obtain ⟨b23, e24, h25⟩ := qP_el h20; clear h20
      refine xv_getP (pc := 39) fn_901 (is_sI (isb_el g13) e19) e24 gw_1141 dX12_datagram_39 ?_
      refine ev_iconst (pc := 42) (v := 0) (by decide) dX12_datagram_42 ?_
      obtain ⟨g26, h27⟩ := qk_el h25; clear h25
      obtain ⟨g28, h29⟩ := qk_el h27; clear h27
      obtain ⟨x30, e31, h32⟩ := qv_el h29; clear h29
      refine yv_bald (pc := 43) (isb_el g26) (inb_el g28) e31 dX12_datagram_43 ?_
      refine ev_sipush (pc := 44) (v := 255) (by decide) dX12_datagram_44 ?_
      refine ev_iand (pc := 47)  dX12_datagram_47 ?_
      refine ev_istore_n (pc := 48) (L' := [some (.ref a), some (.int p0), some (.int x15), some (.int (x30 &&& 255)), none, none, none, none, none, none, none, none, none]) (i := 3) rfl (by decide) rfl rfl dX12_datagram_48 ?_
      refine ev_iload_n (pc := 49) (i := 3) rfl rfl dX12_datagram_49 ?_
      refine ev_bipush (pc := 50) (v := 69) (by decide) dX12_datagram_50 ?_
      refine ev_ic_lt (pc := 52) (tgt := 61) (by decide) dX12_datagram_52 (fun c33 => ?_) (fun c33 => ?_)
      · replace h32 := qi_t h32 c33
        exact ev_weak (qL_s (qL_n (qL_n (qL_n (qL_n (qL_n (qL_n (qL_n (qL_n (qL_n (qL_n (qL_n (qL_n qL_nil))))))))))))) (e_X12_datagram_61 h32)
      · replace h32 := qi_f h32 c33
        refine ev_iload_n (pc := 55) (i := 3) rfl rfl dX12_datagram_55 ?_
        refine ev_bipush (pc := 56) (v := 79) (by decide) dX12_datagram_56 ?_
        refine ev_ic_le (pc := 58) (tgt := 68) (by decide) dX12_datagram_58 (fun c41 => ?_) (fun c41 => ?_)
        · replace h32 := qi_t h32 c41
          refine ev_iconst (pc := 68) (v := 4) (by decide) dX12_datagram_68 ?_
          refine ev_iload_n (pc := 69) (i := 3) rfl rfl dX12_datagram_69 ?_
          refine ev_bipush (pc := 70) (v := 64) (by decide) dX12_datagram_70 ?_
          refine ev_isub (pc := 72)  dX12_datagram_72 ?_
          refine ev_imul (pc := 73)  dX12_datagram_73 ?_
          obtain ⟨x43, e44, h45⟩ := qv_el h32; clear h32
          refine xv_top e44 ?_
          refine ev_istore (pc := 74) (L' := [some (.ref a), some (.int p0), some (.int x15), some (.int (x30 &&& 255)), some (.int x43), none, none, none, none, none, none, none, none]) (i := 4) (by decide) rfl rfl dX12_datagram_74 ?_
          refine ev_aload_n (pc := 76) (i := 0) rfl rfl rfl dX12_datagram_76 ?_
          refine ev_iconst (pc := 77) (v := 2) (by decide) dX12_datagram_77 ?_
          obtain ⟨x46, S47, e48, h49⟩ := qc_el h45; clear h45
          refine xv_callV (pc := 78) (st := []) (as := [.int 2]) (v := (some (.int x46))) (S' := S47) ok_X12_two (e_X12_two e48) (is_sI (isb_el g13) e19) (by decide) rfl (Nat.le_of_ble_eq_true rfl) rfl gw_1586 dX12_datagram_78 ?_
          refine ev_iload_n (pc := 81) (i := 2) rfl rfl dX12_datagram_81 ?_
          refine ev_ic_ne (pc := 82) (tgt := 91) (by decide) dX12_datagram_82 (fun c50 => ?_) (fun c50 => ?_)
          · replace h49 := qi_f h49 c50
            exact ev_weak (qL_s (qL_n (qL_n (qL_n (qL_n (qL_n (qL_n (qL_n (qL_n (qL_n (qL_n (qL_n (qL_n qL_nil))))))))))))) (e_X12_datagram_91 h49)
          · replace h49 := qi_t h49 c50
            refine ev_iload_n (pc := 85) (i := 2) rfl rfl dX12_datagram_85 ?_
            refine ev_iload (pc := 86) (i := 4) rfl dX12_datagram_86 ?_
            refine ev_ic_ge (pc := 88) (tgt := 98) (by decide) dX12_datagram_88 (fun c58 => ?_) (fun c58 => ?_)
            · replace h49 := qi_t h49 c58
              refine ev_aload_n (pc := 98) (i := 0) rfl rfl rfl dX12_datagram_98 ?_
              refine ev_iconst (pc := 99) (v := 0) (by decide) dX12_datagram_99 ?_
              refine ev_iload (pc := 100) (i := 4) rfl dX12_datagram_100 ?_
              refine ev_iconst (pc := 102) (v := 0) (by decide) dX12_datagram_102 ?_
              obtain ⟨g60, h61⟩ := qk_el h49; clear h49
              obtain ⟨x62, S63, e64, h65⟩ := qc_el h61; clear h61
              refine xv_callV (pc := 103) (st := []) (as := [.int 0, .int x43, .int 0]) (v := (some (.int x62))) (S' := S63) ok_X12_summed (e_X12_summed e64) (isb_el g60) (by decide) rfl (Nat.le_of_ble_eq_true rfl) rfl gw_1590 dX12_datagram_103 ?_
              refine ev_ldc (pc := 106) (v := 65535) gw_1435 dX12_datagram_106 ?_
              refine ev_ic_eq (pc := 108) (tgt := 119) (by decide) dX12_datagram_108 (fun c66 => ?_) (fun c66 => ?_)
              · replace h65 := qi_t h65 c66
                refine ev_aload_n (pc := 119) (i := 0) rfl rfl rfl dX12_datagram_119 ?_
                obtain ⟨g68, h69⟩ := qk_el h65; clear h65
                obtain ⟨b70, e71, h72⟩ := qP_el h69; clear h69
                refine xv_getP (pc := 120) fn_901 (isb_el g68) e71 gw_1141 dX12_datagram_120 ?_
                refine ev_bipush (pc := 123) (v := 6) (by decide) dX12_datagram_123 ?_
                obtain ⟨g73, h74⟩ := qk_el h72; clear h72
                obtain ⟨g75, h76⟩ := qk_el h74; clear h74
                obtain ⟨x77, e78, h79⟩ := qv_el h76; clear h76
                refine yv_bald (pc := 125) (isb_el g73) (inb_el g75) e78 dX12_datagram_125 ?_
                refine ev_bipush (pc := 126) (v := 63) (by decide) dX12_datagram_126 ?_
                refine ev_iand (pc := 128)  dX12_datagram_128 ?_
                refine ev_if_ne (pc := 129) (tgt := 142) (by decide) dX12_datagram_129 (fun c80 => ?_) (fun c80 => ?_)
                · replace h79 := qi_f h79 c80
                  exact ev_weak (qL_s (qL_n (qL_n (qL_n (qL_n (qL_n (qL_n (qL_n (qL_n (qL_n (qL_n (qL_n (qL_n qL_nil))))))))))))) (e_X12_datagram_142 h79)
                · replace h79 := qi_t h79 c80
                  refine ev_aload_n (pc := 132) (i := 0) rfl rfl rfl dX12_datagram_132 ?_
                  obtain ⟨b88, e89, h90⟩ := qP_el h79; clear h79
                  refine xv_getP (pc := 133) fn_901 (isb_el g68) e89 gw_1141 dX12_datagram_133 ?_
                  refine ev_bipush (pc := 136) (v := 7) (by decide) dX12_datagram_136 ?_
                  obtain ⟨g91, h92⟩ := qk_el h90; clear h90
                  obtain ⟨g93, h94⟩ := qk_el h92; clear h92
                  obtain ⟨x95, e96, h97⟩ := qv_el h94; clear h94
                  refine yv_bald (pc := 138) (isb_el g91) (inb_el g93) e96 dX12_datagram_138 ?_
                  refine ev_if_eq (pc := 139) (tgt := 150) (by decide) dX12_datagram_139 (fun c98 => ?_) (fun c98 => ?_)
                  · replace h97 := qi_t h97 c98
                    refine ev_aload_n (pc := 150) (i := 0) rfl rfl rfl dX12_datagram_150 ?_
                    obtain ⟨b100, e101, h102⟩ := qP_el h97; clear h97
                    refine xv_getP (pc := 151) fn_901 (isb_el g68) e101 gw_1141 dX12_datagram_151 ?_
                    refine ev_bipush (pc := 154) (v := 9) (by decide) dX12_datagram_154 ?_
                    obtain ⟨g103, h104⟩ := qk_el h102; clear h102
                    obtain ⟨g105, h106⟩ := qk_el h104; clear h104
                    obtain ⟨x107, e108, h109⟩ := qv_el h106; clear h106
                    refine yv_bald (pc := 156) (isb_el g103) (inb_el g105) e108 dX12_datagram_156 ?_
                    refine ev_sipush (pc := 157) (v := 255) (by decide) dX12_datagram_157 ?_
                    refine ev_iand (pc := 160)  dX12_datagram_160 ?_
                    refine ev_istore (pc := 161) (L' := [some (.ref a), some (.int p0), some (.int x15), some (.int (x30 &&& 255)), some (.int x43), some (.int (x107 &&& 255)), none, none, none, none, none, none, none]) (i := 5) (by decide) rfl rfl dX12_datagram_161 ?_
                    refine ev_iload_n (pc := 163) (i := 2) rfl rfl dX12_datagram_163 ?_
                    refine ev_iload (pc := 164) (i := 4) rfl dX12_datagram_164 ?_
                    refine ev_isub (pc := 166)  dX12_datagram_166 ?_
                    refine ev_istore (pc := 167) (L' := [some (.ref a), some (.int p0), some (.int x15), some (.int (x30 &&& 255)), some (.int x43), some (.int (x107 &&& 255)), some (.int (x15 - x43)), none, none, none, none, none, none]) (i := 6) (by decide) rfl rfl dX12_datagram_167 ?_
                    refine ev_aload_n (pc := 169) (i := 0) rfl rfl rfl dX12_datagram_169 ?_
                    refine ev_iload (pc := 170) (i := 5) rfl dX12_datagram_170 ?_
                    refine ev_iload (pc := 172) (i := 4) rfl dX12_datagram_172 ?_
                    refine ev_iload_n (pc := 174) (i := 2) rfl rfl dX12_datagram_174 ?_
                    obtain ⟨x110, S111, e112, h113⟩ := qc_el h109; clear h109
                    refine xv_callV (pc := 175) (st := []) (as := [.int (x107 &&& 255), .int x43, .int x15]) (v := (some (.int x110))) (S' := S111) ok_X12_isLong (e_X12_isLong e112) (isb_el g68) (by decide) rfl (Nat.le_of_ble_eq_true rfl) rfl gw_1594 dX12_datagram_175 ?_
                    refine ev_if_ne (pc := 178) (tgt := 190) (by decide) dX12_datagram_178 (fun c114 => ?_) (fun c114 => ?_)
                    · replace h113 := qi_f h113 c114
                      refine ev_aload_n (pc := 190) (i := 0) rfl rfl rfl dX12_datagram_190 ?_
                      refine ev_bipush (pc := 191) (v := 12) (by decide) dX12_datagram_191 ?_
                      obtain ⟨g116, h117⟩ := qk_el h113; clear h113
                      obtain ⟨x118, S119, e120, h121⟩ := qc_el h117; clear h117
                      refine xv_callV (pc := 193) (st := []) (as := [.int 12]) (v := (some (.int x118))) (S' := S119) ok_X12_two (e_X12_two e120) (isb_el g116) (by decide) rfl (Nat.le_of_ble_eq_true rfl) rfl gw_1586 dX12_datagram_193 ?_
                      refine ev_aload_n (pc := 196) (i := 0) rfl rfl rfl dX12_datagram_196 ?_
                      refine ev_bipush (pc := 197) (v := 14) (by decide) dX12_datagram_197 ?_
                      obtain ⟨g122, h123⟩ := qk_el h121; clear h121
                      obtain ⟨x124, S125, e126, h127⟩ := qc_el h123; clear h123
                      refine xv_callV (pc := 199) (st := [.int x118]) (as := [.int 14]) (v := (some (.int x124))) (S' := S125) ok_X12_two (e_X12_two e126) (isb_el g122) (by decide) rfl (Nat.le_of_ble_eq_true rfl) rfl gw_1586 dX12_datagram_199 ?_
                      refine ev_iadd (pc := 202)  dX12_datagram_202 ?_
                      refine ev_aload_n (pc := 203) (i := 0) rfl rfl rfl dX12_datagram_203 ?_
                      refine ev_bipush (pc := 204) (v := 16) (by decide) dX12_datagram_204 ?_
                      obtain ⟨g128, h129⟩ := qk_el h127; clear h127
                      obtain ⟨x130, S131, e132, h133⟩ := qc_el h129; clear h129
                      refine xv_callV (pc := 206) (st := [.int (x118 + x124)]) (as := [.int 16]) (v := (some (.int x130))) (S' := S131) ok_X12_two (e_X12_two e132) (isb_el g128) (by decide) rfl (Nat.le_of_ble_eq_true rfl) rfl gw_1586 dX12_datagram_206 ?_
                      refine ev_iadd (pc := 209)  dX12_datagram_209 ?_
                      refine ev_aload_n (pc := 210) (i := 0) rfl rfl rfl dX12_datagram_210 ?_
                      refine ev_bipush (pc := 211) (v := 18) (by decide) dX12_datagram_211 ?_
                      obtain ⟨g134, h135⟩ := qk_el h133; clear h133
                      obtain ⟨x136, S137, e138, h139⟩ := qc_el h135; clear h135
                      refine xv_callV (pc := 213) (st := [.int ((x118 + x124) + x130)]) (as := [.int 18]) (v := (some (.int x136))) (S' := S137) ok_X12_two (e_X12_two e138) (isb_el g134) (by decide) rfl (Nat.le_of_ble_eq_true rfl) rfl gw_1586 dX12_datagram_213 ?_
                      refine ev_iadd (pc := 216)  dX12_datagram_216 ?_
                      refine ev_iload (pc := 217) (i := 5) rfl dX12_datagram_217 ?_
                      refine ev_iadd (pc := 219)  dX12_datagram_219 ?_
                      refine ev_iload (pc := 220) (i := 6) rfl dX12_datagram_220 ?_
                      refine ev_iadd (pc := 222)  dX12_datagram_222 ?_
                      obtain ⟨x140, e141, h142⟩ := qv_el h139; clear h139
                      refine xv_top e141 ?_
                      refine ev_istore (pc := 223) (L' := [some (.ref a), some (.int p0), some (.int x15), some (.int (x30 &&& 255)), some (.int x43), some (.int (x107 &&& 255)), some (.int (x15 - x43)), some (.int x140), none, none, none, none, none]) (i := 7) (by decide) rfl rfl dX12_datagram_223 ?_
                      refine ev_iload (pc := 225) (i := 5) rfl dX12_datagram_225 ?_
                      refine ev_bipush (pc := 227) (v := 17) (by decide) dX12_datagram_227 ?_
                      refine ev_ic_ne (pc := 229) (tgt := 248) (by decide) dX12_datagram_229 (fun c143 => ?_) (fun c143 => ?_)
                      · replace h142 := qi_f h142 c143
                        refine ev_iconst (pc := 248) (v := 0) (by decide) dX12_datagram_248 ?_
                        exact ev_weak (qL_s (qL_s (qL_s (qL_n (qL_s (qL_s (qL_n (qL_s (qL_n (qL_n (qL_n (qL_n (qL_n qL_nil))))))))))))) (e_X12_datagram_249 h142)
                      · replace h142 := qi_t h142 c143
                        refine ev_aload_n (pc := 232) (i := 0) rfl rfl rfl dX12_datagram_232 ?_
                        refine ev_iload (pc := 233) (i := 4) rfl dX12_datagram_233 ?_
                        refine ev_bipush (pc := 235) (v := 6) (by decide) dX12_datagram_235 ?_
                        refine ev_iadd (pc := 237)  dX12_datagram_237 ?_
                        obtain ⟨g291, h292⟩ := qk_el h142; clear h142
                        obtain ⟨x293, S294, e295, h296⟩ := qc_el h292; clear h292
                        refine xv_callV (pc := 238) (st := []) (as := [.int (x43 + 6)]) (v := (some (.int x293))) (S' := S294) ok_X12_two (e_X12_two e295) (isb_el g291) (by decide) rfl (Nat.le_of_ble_eq_true rfl) rfl gw_1586 dX12_datagram_238 ?_
                        refine ev_if_ne (pc := 241) (tgt := 248) (by decide) dX12_datagram_241 (fun c297 => ?_) (fun c297 => ?_)
                        · replace h296 := qi_f h296 c297
                          refine ev_iconst (pc := 248) (v := 0) (by decide) dX12_datagram_248 ?_
                          exact ev_weak (qL_s (qL_s (qL_s (qL_n (qL_s (qL_s (qL_n (qL_s (qL_n (qL_n (qL_n (qL_n (qL_n qL_nil))))))))))))) (e_X12_datagram_249 h296)
                        · replace h296 := qi_t h296 c297
                          refine ev_iconst (pc := 244) (v := 1) (by decide) dX12_datagram_244 ?_
                          refine ev_goto (pc := 245) (tgt := 249) (by decide) dX12_datagram_245 ?_
                          exact ev_weak (qL_s (qL_s (qL_s (qL_n (qL_s (qL_s (qL_n (qL_s (qL_n (qL_n (qL_n (qL_n (qL_n qL_nil))))))))))))) (e_X12_datagram_249 h296)
                    · replace h113 := qi_t h113 c114
                      refine ev_aload_n (pc := 181) (i := 0) rfl rfl rfl dX12_datagram_181 ?_
                      refine ev_bipush (pc := 182) (v := 6) (by decide) dX12_datagram_182 ?_
                      refine ev_iload (pc := 184) (i := 4) rfl dX12_datagram_184 ?_
                      obtain ⟨g299, h300⟩ := qk_el h113; clear h113
                      obtain ⟨x301, S302, e303, h304⟩ := qc_el h300; clear h300
                      refine xv_callV (pc := 186) (st := []) (as := [.int 6, .int x43]) (v := (some (.int x301))) (S' := S302) ok_X12_faulty (e_X12_faulty e303) (isb_el g299) (by decide) rfl (Nat.le_of_ble_eq_true rfl) rfl gw_1582 dX12_datagram_186 ?_
                      exact ev_ireturn (pc := 189) rfl (nar_int _) (qRI_eq h304) dX12_datagram_189
                  · replace h97 := qi_f h97 c98
                    exact ev_weak (qL_s (qL_n (qL_n (qL_n (qL_n (qL_n (qL_n (qL_n (qL_n (qL_n (qL_n (qL_n (qL_n qL_nil))))))))))))) (e_X12_datagram_142 h97)
              · replace h65 := qi_f h65 c66
                refine ev_aload_n (pc := 111) (i := 0) rfl rfl rfl dX12_datagram_111 ?_
                refine ev_iconst (pc := 112) (v := 4) (by decide) dX12_datagram_112 ?_
                refine ev_bipush (pc := 113) (v := 10) (by decide) dX12_datagram_113 ?_
                obtain ⟨g305, h306⟩ := qk_el h65; clear h65
                obtain ⟨x307, S308, e309, h310⟩ := qc_el h306; clear h306
                refine xv_callV (pc := 115) (st := []) (as := [.int 4, .int 10]) (v := (some (.int x307))) (S' := S308) ok_X12_faulty (e_X12_faulty e309) (isb_el g305) (by decide) rfl (Nat.le_of_ble_eq_true rfl) rfl gw_1582 dX12_datagram_115 ?_
                exact ev_ireturn (pc := 118) rfl (nar_int _) (qRI_eq h310) dX12_datagram_118
            · replace h49 := qi_f h49 c58
              exact ev_weak (qL_s (qL_n (qL_n (qL_n (qL_n (qL_n (qL_n (qL_n (qL_n (qL_n (qL_n (qL_n (qL_n qL_nil))))))))))))) (e_X12_datagram_91 h49)
        · replace h32 := qi_f h32 c41
          exact ev_weak (qL_s (qL_n (qL_n (qL_n (qL_n (qL_n (qL_n (qL_n (qL_n (qL_n (qL_n (qL_n (qL_n qL_nil))))))))))))) (e_X12_datagram_61 h32)
    · replace h20 := qi_f h20 c21
      refine ev_aload_n (pc := 31) (i := 0) rfl rfl rfl dX12_datagram_31 ?_
      refine ev_iconst (pc := 32) (v := 1) (by decide) dX12_datagram_32 ?_
      refine ev_iload_n (pc := 33) (i := 2) rfl rfl dX12_datagram_33 ?_
      obtain ⟨x311, S312, e313, h314⟩ := qc_el h20; clear h20
      refine xv_callV (pc := 34) (st := []) (as := [.int 1, .int x15]) (v := (some (.int x311))) (S' := S312) ok_X12_faulty (e_X12_faulty e313) (is_sI (isb_el g13) e19) (by decide) rfl (Nat.le_of_ble_eq_true rfl) rfl gw_1582 dX12_datagram_34 ?_
      exact ev_ireturn (pc := 37) rfl (nar_int _) (qRI_eq h314) dX12_datagram_37
  · replace h10 := qi_f h10 c11
    refine ev_iconst (pc := 13) (v := 0) (by decide) dX12_datagram_13 ?_
    exact ev_ireturn (pc := 14) rfl (nar_int _) (qRI_eq h10) dX12_datagram_14
theorem dX2_setPair_0 : decode cX2_setPair 0 = .ok (.iload_n 1, 1) := by decide +kernel
theorem dX2_setPair_1 : decode cX2_setPair 1 = .ok (.ifCond .lt 45, 3) := by decide +kernel
theorem dX2_setPair_4 : decode cX2_setPair 4 = .ok (.iload_n 1, 1) := by decide +kernel
theorem dX2_setPair_5 : decode cX2_setPair 5 = .ok (.iconst 1, 1) := by decide +kernel
theorem dX2_setPair_6 : decode cX2_setPair 6 = .ok (.iadd, 1) := by decide +kernel
theorem dX2_setPair_7 : decode cX2_setPair 7 = .ok (.aload_n 0, 1) := by decide +kernel
theorem dX2_setPair_8 : decode cX2_setPair 8 = .ok (.getfield 13, 3) := by decide +kernel
theorem dX2_setPair_11 : decode cX2_setPair 11 = .ok (.if_icmp .ge 35, 3) := by decide +kernel
theorem dX2_setPair_14 : decode cX2_setPair 14 = .ok (.iload_n 1, 1) := by decide +kernel
theorem dX2_setPair_15 : decode cX2_setPair 15 = .ok (.iconst 1, 1) := by decide +kernel
theorem dX2_setPair_16 : decode cX2_setPair 16 = .ok (.iadd, 1) := by decide +kernel
theorem dX2_setPair_17 : decode cX2_setPair 17 = .ok (.aload_n 0, 1) := by decide +kernel
theorem dX2_setPair_18 : decode cX2_setPair 18 = .ok (.getfield 7, 3) := by decide +kernel
theorem dX2_setPair_21 : decode cX2_setPair 21 = .ok (.arraylength, 1) := by decide +kernel
theorem dX2_setPair_22 : decode cX2_setPair 22 = .ok (.if_icmp .ge 24, 3) := by decide +kernel
theorem dX2_setPair_25 : decode cX2_setPair 25 = .ok (.aload_n 0, 1) := by decide +kernel
theorem dX2_setPair_26 : decode cX2_setPair 26 = .ok (.getfield 7, 3) := by decide +kernel
theorem dX2_setPair_29 : decode cX2_setPair 29 = .ok (.iload_n 1, 1) := by decide +kernel
theorem dX2_setPair_30 : decode cX2_setPair 30 = .ok (.iload_n 2, 1) := by decide +kernel
theorem dX2_setPair_31 : decode cX2_setPair 31 = .ok (.bipush 8, 2) := by decide +kernel
theorem dX2_setPair_33 : decode cX2_setPair 33 = .ok (.iushr, 1) := by decide +kernel
theorem dX2_setPair_34 : decode cX2_setPair 34 = .ok (.i2b, 1) := by decide +kernel
theorem dX2_setPair_35 : decode cX2_setPair 35 = .ok (.bastore, 1) := by decide +kernel
theorem dX2_setPair_36 : decode cX2_setPair 36 = .ok (.aload_n 0, 1) := by decide +kernel
theorem dX2_setPair_37 : decode cX2_setPair 37 = .ok (.getfield 7, 3) := by decide +kernel
theorem dX2_setPair_40 : decode cX2_setPair 40 = .ok (.iload_n 1, 1) := by decide +kernel
theorem dX2_setPair_41 : decode cX2_setPair 41 = .ok (.iconst 1, 1) := by decide +kernel
theorem dX2_setPair_42 : decode cX2_setPair 42 = .ok (.iadd, 1) := by decide +kernel
theorem dX2_setPair_43 : decode cX2_setPair 43 = .ok (.iload_n 2, 1) := by decide +kernel
theorem dX2_setPair_44 : decode cX2_setPair 44 = .ok (.i2b, 1) := by decide +kernel
theorem dX2_setPair_45 : decode cX2_setPair 45 = .ok (.bastore, 1) := by decide +kernel
theorem dX2_setPair_46 : decode cX2_setPair 46 = .ok (.return_, 1) := by decide +kernel
theorem e_X2_setPair {X : gk_X} {F : Nat} {S : gk_S} {a : Nat} {p0 : Int32} {p1 : Int32} {r : (Unit × gk_S)} (h0 : f_X2_setPair F S a p0 p1 = some r) : EvM X m_X2_setPair 1 0 0 [.ref a, .int p0, .int p1] S (qRU r) := by
  unfold f_X2_setPair at h0
  refine ev_method (by decide +kernel) rfl rfl (Nat.le_of_ble_eq_true rfl) ?_
  show EvW X m_X2_setPair 1 0 0 0 [some (.ref a), some (.int p0), some (.int p1)] [] S _
  refine ev_iload_n (pc := 0) (i := 1) rfl rfl dX2_setPair_0 ?_
  refine ev_if_lt (pc := 1) (tgt := 46) (by decide) dX2_setPair_1 (fun c1 => ?_) (fun c1 => ?_)
  · replace h0 := qi_t h0 c1
    exact ev_return (pc := 46) rfl (qRU_eq h0) dX2_setPair_46
  · replace h0 := qi_f h0 c1
    refine ev_iload_n (pc := 4) (i := 1) rfl rfl dX2_setPair_4 ?_
    refine ev_iconst (pc := 5) (v := 1) (by decide) dX2_setPair_5 ?_
    refine ev_iadd (pc := 6)  dX2_setPair_6 ?_
    refine ev_aload_n (pc := 7) (i := 0) rfl rfl rfl dX2_setPair_7 ?_
    obtain ⟨g3, h4⟩ := qk_el h0; clear h0
    obtain ⟨x5, e6, h7⟩ := qv_el h4; clear h4
    refine xv_getIv (pc := 8) fn_101 (isb_el g3) e6 gw_40 dX2_setPair_8 ?_
    refine ev_ic_ge (pc := 11) (tgt := 46) (by decide) dX2_setPair_11 (fun c8 => ?_) (fun c8 => ?_)
    · replace h7 := qi_t h7 c8
      exact ev_return (pc := 46) rfl (qRU_eq h7) dX2_setPair_46
    · replace h7 := qi_f h7 c8
      refine ev_iload_n (pc := 14) (i := 1) rfl rfl dX2_setPair_14 ?_
      refine ev_iconst (pc := 15) (v := 1) (by decide) dX2_setPair_15 ?_
      refine ev_iadd (pc := 16)  dX2_setPair_16 ?_
      refine ev_aload_n (pc := 17) (i := 0) rfl rfl rfl dX2_setPair_17 ?_
      obtain ⟨b10, e11, h12⟩ := qP_el h7; clear h7
      refine xv_getP (pc := 18) fn_100 (isb_el g3) e11 gw_39 dX2_setPair_18 ?_
      obtain ⟨g13, h14⟩ := qk_el h12; clear h12
      obtain ⟨n15, e16, h17⟩ := qv_el h14; clear h14
      refine xv_alen (pc := 21) (n := n15) (isb_el g13) (by decide) e16 dX2_setPair_21 ?_
      refine ev_ic_ge (pc := 22) (tgt := 46) (by decide) dX2_setPair_22 (fun c18 => ?_) (fun c18 => ?_)
      · replace h17 := qi_t h17 c18
        exact ev_return (pc := 46) rfl (qRU_eq h17) dX2_setPair_46
      · replace h17 := qi_f h17 c18
        refine ev_aload_n (pc := 25) (i := 0) rfl rfl rfl dX2_setPair_25 ?_
        obtain ⟨b20, e21, h22⟩ := qP_el h17; clear h17
        refine xv_getP (pc := 26) fn_100 (isb_el g3) e21 gw_39 dX2_setPair_26 ?_
        refine ev_iload_n (pc := 29) (i := 1) rfl rfl dX2_setPair_29 ?_
        refine ev_iload_n (pc := 30) (i := 2) rfl rfl dX2_setPair_30 ?_
        refine ev_bipush (pc := 31) (v := 8) (by decide) dX2_setPair_31 ?_
        refine ev_iushr (pc := 33)  dX2_setPair_33 ?_
        obtain ⟨x23, e24, h25⟩ := qv_el h22; clear h22
        refine xv_top e24 ?_
        refine ev_i2b (pc := 34)  dX2_setPair_34 ?_
        obtain ⟨g26, h27⟩ := qk_el h25; clear h25
        obtain ⟨g28, h29⟩ := qk_el h27; clear h27
        obtain ⟨S30, e31, h32⟩ := qv_el h29; clear h29
        refine yv_bast (pc := 35) (isb_el g26) (inb_el g28) e31 dX2_setPair_35 ?_
        refine ev_aload_n (pc := 36) (i := 0) rfl rfl rfl dX2_setPair_36 ?_
        obtain ⟨b33, e34, h35⟩ := qP_el h32; clear h32
        refine xv_getP (pc := 37) fn_100 (is_wB (isb_el g3) e31) e34 gw_39 dX2_setPair_37 ?_
        refine ev_iload_n (pc := 40) (i := 1) rfl rfl dX2_setPair_40 ?_
        refine ev_iconst (pc := 41) (v := 1) (by decide) dX2_setPair_41 ?_
        refine ev_iadd (pc := 42)  dX2_setPair_42 ?_
        refine ev_iload_n (pc := 43) (i := 2) rfl rfl dX2_setPair_43 ?_
        refine ev_i2b (pc := 44)  dX2_setPair_44 ?_
        obtain ⟨g36, h37⟩ := qk_el h35; clear h35
        obtain ⟨g38, h39⟩ := qk_el h37; clear h37
        obtain ⟨S40, e41, h42⟩ := qv_el h39; clear h39
        refine yv_bast (pc := 45) (isb_el g36) (inb_el g38) e41 dX2_setPair_45 ?_
        exact ev_return (pc := 46) rfl (qRU_eq h42) dX2_setPair_46
theorem dX10_putBody_0 : decode cX10_putBody 0 = .ok (.aload_n 0, 1) := by decide +kernel
theorem dX10_putBody_1 : decode cX10_putBody 1 = .ok (.getfield 46, 3) := by decide +kernel
theorem dX10_putBody_4 : decode cX10_putBody 4 = .ok (.iconst 4, 1) := by decide +kernel
theorem dX10_putBody_5 : decode cX10_putBody 5 = .ok (.laload, 1) := by decide +kernel
theorem dX10_putBody_6 : decode cX10_putBody 6 = .ok (.l2i, 1) := by decide +kernel
theorem dX10_putBody_7 : decode cX10_putBody 7 = .ok (.istore_n 3, 1) := by decide +kernel
theorem dX10_putBody_8 : decode cX10_putBody 8 = .ok (.aload_n 0, 1) := by decide +kernel
theorem dX10_putBody_9 : decode cX10_putBody 9 = .ok (.getfield 46, 3) := by decide +kernel
theorem dX10_putBody_12 : decode cX10_putBody 12 = .ok (.iconst 5, 1) := by decide +kernel
theorem dX10_putBody_13 : decode cX10_putBody 13 = .ok (.laload, 1) := by decide +kernel
theorem dX10_putBody_14 : decode cX10_putBody 14 = .ok (.l2i, 1) := by decide +kernel
theorem dX10_putBody_15 : decode cX10_putBody 15 = .ok (.istore 4, 2) := by decide +kernel
theorem dX10_putBody_17 : decode cX10_putBody 17 = .ok (.aload_n 2, 1) := by decide +kernel
theorem dX10_putBody_18 : decode cX10_putBody 18 = .ok (.iload_n 3, 1) := by decide +kernel
theorem dX10_putBody_19 : decode cX10_putBody 19 = .ok (.invokevirtual 73, 3) := by decide +kernel
theorem dX10_putBody_22 : decode cX10_putBody 22 = .ok (.iload_n 1, 1) := by decide +kernel
theorem dX10_putBody_23 : decode cX10_putBody 23 = .ok (.lookupswitch 86 #[(6, 25), (17, 66)], 25) := by decide +kernel
theorem dX10_putBody_48 : decode cX10_putBody 48 = .ok (.aload_n 2, 1) := by decide +kernel
theorem dX10_putBody_49 : decode cX10_putBody 49 = .ok (.iload 4, 2) := by decide +kernel
theorem dX10_putBody_51 : decode cX10_putBody 51 = .ok (.invokevirtual 73, 3) := by decide +kernel
theorem dX10_putBody_54 : decode cX10_putBody 54 = .ok (.aload_n 2, 1) := by decide +kernel
theorem dX10_putBody_55 : decode cX10_putBody 55 = .ok (.iconst 0, 1) := by decide +kernel
theorem dX10_putBody_56 : decode cX10_putBody 56 = .ok (.invokevirtual 77, 3) := by decide +kernel
theorem dX10_putBody_59 : decode cX10_putBody 59 = .ok (.aload_n 2, 1) := by decide +kernel
theorem dX10_putBody_60 : decode cX10_putBody 60 = .ok (.iconst 0, 1) := by decide +kernel
theorem dX10_putBody_61 : decode cX10_putBody 61 = .ok (.invokevirtual 77, 3) := by decide +kernel
theorem dX10_putBody_64 : decode cX10_putBody 64 = .ok (.aload_n 2, 1) := by decide +kernel
theorem dX10_putBody_65 : decode cX10_putBody 65 = .ok (.sipush 20480, 3) := by decide +kernel
theorem dX10_putBody_68 : decode cX10_putBody 68 = .ok (.aload_n 0, 1) := by decide +kernel
theorem dX10_putBody_69 : decode cX10_putBody 69 = .ok (.getfield 59, 3) := by decide +kernel
theorem dX10_putBody_72 : decode cX10_putBody 72 = .ok (.iadd, 1) := by decide +kernel
theorem dX10_putBody_73 : decode cX10_putBody 73 = .ok (.invokevirtual 73, 3) := by decide +kernel
theorem dX10_putBody_76 : decode cX10_putBody 76 = .ok (.aload_n 2, 1) := by decide +kernel
theorem dX10_putBody_77 : decode cX10_putBody 77 = .ok (.iconst 0, 1) := by decide +kernel
theorem dX10_putBody_78 : decode cX10_putBody 78 = .ok (.invokevirtual 73, 3) := by decide +kernel
theorem dX10_putBody_81 : decode cX10_putBody 81 = .ok (.aload_n 2, 1) := by decide +kernel
theorem dX10_putBody_82 : decode cX10_putBody 82 = .ok (.iconst 0, 1) := by decide +kernel
theorem dX10_putBody_83 : decode cX10_putBody 83 = .ok (.invokevirtual 77, 3) := by decide +kernel
theorem dX10_putBody_86 : decode cX10_putBody 86 = .ok (.goto 50, 3) := by decide +kernel
theorem dX10_putBody_89 : decode cX10_putBody 89 = .ok (.aload_n 2, 1) := by decide +kernel
theorem dX10_putBody_90 : decode cX10_putBody 90 = .ok (.iload 4, 2) := by decide +kernel
theorem dX10_putBody_92 : decode cX10_putBody 92 = .ok (.invokevirtual 73, 3) := by decide +kernel
theorem dX10_putBody_95 : decode cX10_putBody 95 = .ok (.aload_n 2, 1) := by decide +kernel
theorem dX10_putBody_96 : decode cX10_putBody 96 = .ok (.bipush 8, 2) := by decide +kernel
theorem dX10_putBody_98 : decode cX10_putBody 98 = .ok (.invokevirtual 73, 3) := by decide +kernel
theorem dX10_putBody_101 : decode cX10_putBody 101 = .ok (.aload_n 2, 1) := by decide +kernel
theorem dX10_putBody_102 : decode cX10_putBody 102 = .ok (.iconst 0, 1) := by decide +kernel
theorem dX10_putBody_103 : decode cX10_putBody 103 = .ok (.invokevirtual 73, 3) := by decide +kernel
theorem dX10_putBody_106 : decode cX10_putBody 106 = .ok (.goto 30, 3) := by decide +kernel
theorem dX10_putBody_109 : decode cX10_putBody 109 = .ok (.aload_n 2, 1) := by decide +kernel
theorem dX10_putBody_110 : decode cX10_putBody 110 = .ok (.iconst 0, 1) := by decide +kernel
theorem dX10_putBody_111 : decode cX10_putBody 111 = .ok (.invokevirtual 73, 3) := by decide +kernel
theorem dX10_putBody_114 : decode cX10_putBody 114 = .ok (.aload_n 2, 1) := by decide +kernel
theorem dX10_putBody_115 : decode cX10_putBody 115 = .ok (.aload_n 0, 1) := by decide +kernel
theorem dX10_putBody_116 : decode cX10_putBody 116 = .ok (.invokevirtual 62, 3) := by decide +kernel
theorem dX10_putBody_119 : decode cX10_putBody 119 = .ok (.ifCond .eq 8, 3) := by decide +kernel
theorem dX10_putBody_122 : decode cX10_putBody 122 = .ok (.iload 4, 2) := by decide +kernel
theorem dX10_putBody_124 : decode cX10_putBody 124 = .ok (.goto 4, 3) := by decide +kernel
theorem dX10_putBody_127 : decode cX10_putBody 127 = .ok (.iconst 0, 1) := by decide +kernel
theorem dX10_putBody_128 : decode cX10_putBody 128 = .ok (.invokevirtual 73, 3) := by decide +kernel
theorem dX10_putBody_131 : decode cX10_putBody 131 = .ok (.aload_n 2, 1) := by decide +kernel
theorem dX10_putBody_132 : decode cX10_putBody 132 = .ok (.iconst 0, 1) := by decide +kernel
theorem dX10_putBody_133 : decode cX10_putBody 133 = .ok (.invokevirtual 73, 3) := by decide +kernel
theorem dX10_putBody_136 : decode cX10_putBody 136 = .ok (.return_, 1) := by decide +kernel
theorem e_X10_putBody_128 {X : gk_X} {F : Nat} {l2 : Nat} {s0 : Int32} {s1 : Nat} {S : gk_S} {r : (Unit × gk_S)} (h0 : f_X10_putBody_128 F l2 s0 s1 S = some r) : EvW X m_X10_putBody 4 0 0 128 [none, none, some (.ref l2), none, none] [.int s0, .ref s1] S (qRU r) := by
  unfold f_X10_putBody_128 at h0
  obtain ⟨g104, h105⟩ := qk_el h0; clear h0
  obtain ⟨x106, S107, e108, h109⟩ := qc_el h105; clear h105
  refine xv_callV (pc := 128) (st := []) (as := [.int s0]) (v := none) (S' := S107) ok_X2_addPair (e_X2_addPair e108) (isb_el g104) (by decide) rfl (Nat.le_of_ble_eq_true rfl) rfl gw_1092 dX10_putBody_128 ?_
  refine ev_aload_n (pc := 131) (i := 2) rfl rfl rfl dX10_putBody_131 ?_
  refine ev_iconst (pc := 132) (v := 0) (by decide) dX10_putBody_132 ?_
  obtain ⟨g110, h111⟩ := qk_el h109; clear h109
  obtain ⟨x112, S113, e114, h115⟩ := qc_el h111; clear h111
  refine xv_callV (pc := 133) (st := []) (as := [.int 0]) (v := none) (S' := S113) ok_X2_addPair (e_X2_addPair e114) (isb_el g110) (by decide) rfl (Nat.le_of_ble_eq_true rfl) rfl gw_1092 dX10_putBody_133 ?_
  exact ev_return (pc := 136) rfl (qRU_eq h115) dX10_putBody_136
theorem e_X10_putBody {X : gk_X} {F : Nat} {S : gk_S} {p0 : Nat} {p1 : Int32} {p2 : Nat} {r : (Unit × gk_S)} (h0 : f_X10_putBody F S p0 p1 p2 = some r) : EvM X m_X10_putBody 4 0 0 [.ref p0, .int p1, .ref p2] S (qRU r) := by
  unfold f_X10_putBody at h0
  refine ev_method (by decide +kernel) rfl rfl (Nat.le_of_ble_eq_true rfl) ?_
  show EvW X m_X10_putBody 4 0 0 0 [some (.ref p0), some (.int p1), some (.ref p2), none, none] [] S _
  refine ev_aload_n (pc := 0) (i := 0) rfl rfl rfl dX10_putBody_0 ?_
  obtain ⟨g1, h2⟩ := qk_el h0; clear h0
  obtain ⟨b3, e4, h5⟩ := qP_el h2; clear h2
  refine xv_getP (pc := 1) fn_200 (isb_el g1) e4 gw_269 dX10_putBody_1 ?_
  refine ev_iconst (pc := 4) (v := 4) (by decide) dX10_putBody_4 ?_
  obtain ⟨g6, h7⟩ := qk_el h5; clear h5
  obtain ⟨g8, h9⟩ := qk_el h7; clear h7
  obtain ⟨x10, e11, h12⟩ := qv_el h9; clear h9
  refine yv_lald (pc := 5) (isb_el g6) (inb_el g8) e11 dX10_putBody_5 ?_
  refine ev_l2i (pc := 6)  dX10_putBody_6 ?_
  refine ev_istore_n (pc := 7) (L' := [some (.ref p0), some (.int p1), some (.ref p2), some (.int ((x10 : Int64).toInt32)), none]) (i := 3) rfl (by decide) rfl rfl dX10_putBody_7 ?_
  refine ev_aload_n (pc := 8) (i := 0) rfl rfl rfl dX10_putBody_8 ?_
  obtain ⟨b13, e14, h15⟩ := qP_el h12; clear h12
  refine xv_getP (pc := 9) fn_200 (isb_el g1) e14 gw_269 dX10_putBody_9 ?_
  refine ev_iconst (pc := 12) (v := 5) (by decide) dX10_putBody_12 ?_
  obtain ⟨g16, h17⟩ := qk_el h15; clear h15
  obtain ⟨g18, h19⟩ := qk_el h17; clear h17
  obtain ⟨x20, e21, h22⟩ := qv_el h19; clear h19
  refine yv_lald (pc := 13) (isb_el g16) (inb_el g18) e21 dX10_putBody_13 ?_
  refine ev_l2i (pc := 14)  dX10_putBody_14 ?_
  refine ev_istore (pc := 15) (L' := [some (.ref p0), some (.int p1), some (.ref p2), some (.int ((x10 : Int64).toInt32)), some (.int ((x20 : Int64).toInt32))]) (i := 4) (by decide) rfl rfl dX10_putBody_15 ?_
  refine ev_aload_n (pc := 17) (i := 2) rfl rfl rfl dX10_putBody_17 ?_
  refine ev_iload_n (pc := 18) (i := 3) rfl rfl dX10_putBody_18 ?_
  obtain ⟨g23, h24⟩ := qk_el h22; clear h22
  obtain ⟨x25, S26, e27, h28⟩ := qc_el h24; clear h24
  refine xv_callV (pc := 19) (st := []) (as := [.int ((x10 : Int64).toInt32)]) (v := none) (S' := S26) ok_X2_addPair (e_X2_addPair e27) (isb_el g23) (by decide) rfl (Nat.le_of_ble_eq_true rfl) rfl gw_1092 dX10_putBody_19 ?_
  refine ev_iload_n (pc := 22) (i := 1) rfl rfl dX10_putBody_22 ?_
  by_cases c29 : p1 = 6
  · refine ev_lookup (pc := 23) (off := 25) (tgt := 48) rfl (by rw [c29]; rfl) (by decide) dX10_putBody_23 ?_
    replace h28 := qi_t h28 c29
    refine ev_aload_n (pc := 48) (i := 2) rfl rfl rfl dX10_putBody_48 ?_
    refine ev_iload (pc := 49) (i := 4) rfl dX10_putBody_49 ?_
    obtain ⟨g30, h31⟩ := qk_el h28; clear h28
    obtain ⟨x32, S33, e34, h35⟩ := qc_el h31; clear h31
    refine xv_callV (pc := 51) (st := []) (as := [.int ((x20 : Int64).toInt32)]) (v := none) (S' := S33) ok_X2_addPair (e_X2_addPair e34) (isb_el g30) (by decide) rfl (Nat.le_of_ble_eq_true rfl) rfl gw_1092 dX10_putBody_51 ?_
    refine ev_aload_n (pc := 54) (i := 2) rfl rfl rfl dX10_putBody_54 ?_
    refine ev_iconst (pc := 55) (v := 0) (by decide) dX10_putBody_55 ?_
    obtain ⟨g36, h37⟩ := qk_el h35; clear h35
    obtain ⟨x38, S39, e40, h41⟩ := qc_el h37; clear h37
    refine xv_callV (pc := 56) (st := []) (as := [.int 0]) (v := none) (S' := S39) ok_X2_addQuad (e_X2_addQuad e40) (isb_el g36) (by decide) rfl (Nat.le_of_ble_eq_true rfl) rfl gw_1093 dX10_putBody_56 ?_
    refine ev_aload_n (pc := 59) (i := 2) rfl rfl rfl dX10_putBody_59 ?_
    refine ev_iconst (pc := 60) (v := 0) (by decide) dX10_putBody_60 ?_
    obtain ⟨g42, h43⟩ := qk_el h41; clear h41
    obtain ⟨x44, S45, e46, h47⟩ := qc_el h43; clear h43
    refine xv_callV (pc := 61) (st := []) (as := [.int 0]) (v := none) (S' := S45) ok_X2_addQuad (e_X2_addQuad e46) (isb_el g42) (by decide) rfl (Nat.le_of_ble_eq_true rfl) rfl gw_1093 dX10_putBody_61 ?_
    refine ev_aload_n (pc := 64) (i := 2) rfl rfl rfl dX10_putBody_64 ?_
    refine ev_sipush (pc := 65) (v := 20480) (by decide) dX10_putBody_65 ?_
    refine ev_aload_n (pc := 68) (i := 0) rfl rfl rfl dX10_putBody_68 ?_
    obtain ⟨g48, h49⟩ := qk_el h47; clear h47
    obtain ⟨x50, e51, h52⟩ := qv_el h49; clear h49
    refine xv_getIv (pc := 69) fn_201 (isb_el g48) e51 gw_274 dX10_putBody_69 ?_
    refine ev_iadd (pc := 72)  dX10_putBody_72 ?_
    obtain ⟨g53, h54⟩ := qk_el h52; clear h52
    obtain ⟨x55, S56, e57, h58⟩ := qc_el h54; clear h54
    refine xv_callV (pc := 73) (st := []) (as := [.int (20480 + x50)]) (v := none) (S' := S56) ok_X2_addPair (e_X2_addPair e57) (isb_el g53) (by decide) rfl (Nat.le_of_ble_eq_true rfl) rfl gw_1092 dX10_putBody_73 ?_
    refine ev_aload_n (pc := 76) (i := 2) rfl rfl rfl dX10_putBody_76 ?_
    refine ev_iconst (pc := 77) (v := 0) (by decide) dX10_putBody_77 ?_
    obtain ⟨g59, h60⟩ := qk_el h58; clear h58
    obtain ⟨x61, S62, e63, h64⟩ := qc_el h60; clear h60
    refine xv_callV (pc := 78) (st := []) (as := [.int 0]) (v := none) (S' := S62) ok_X2_addPair (e_X2_addPair e63) (isb_el g59) (by decide) rfl (Nat.le_of_ble_eq_true rfl) rfl gw_1092 dX10_putBody_78 ?_
    refine ev_aload_n (pc := 81) (i := 2) rfl rfl rfl dX10_putBody_81 ?_
    refine ev_iconst (pc := 82) (v := 0) (by decide) dX10_putBody_82 ?_
    obtain ⟨g65, h66⟩ := qk_el h64; clear h64
    obtain ⟨x67, S68, e69, h70⟩ := qc_el h66; clear h66
    refine xv_callV (pc := 83) (st := []) (as := [.int 0]) (v := none) (S' := S68) ok_X2_addQuad (e_X2_addQuad e69) (isb_el g65) (by decide) rfl (Nat.le_of_ble_eq_true rfl) rfl gw_1093 dX10_putBody_83 ?_
    refine ev_goto (pc := 86) (tgt := 136) (by decide) dX10_putBody_86 ?_
    exact ev_return (pc := 136) rfl (qRU_eq h70) dX10_putBody_136
  replace h28 := qi_f h28 c29
  by_cases c71 : p1 = 17
  · refine ev_lookup (pc := 23) (off := 66) (tgt := 89) rfl (by rw [c71]; rfl) (by decide) dX10_putBody_23 ?_
    replace h28 := qi_t h28 c71
    refine ev_aload_n (pc := 89) (i := 2) rfl rfl rfl dX10_putBody_89 ?_
    refine ev_iload (pc := 90) (i := 4) rfl dX10_putBody_90 ?_
    obtain ⟨g72, h73⟩ := qk_el h28; clear h28
    obtain ⟨x74, S75, e76, h77⟩ := qc_el h73; clear h73
    refine xv_callV (pc := 92) (st := []) (as := [.int ((x20 : Int64).toInt32)]) (v := none) (S' := S75) ok_X2_addPair (e_X2_addPair e76) (isb_el g72) (by decide) rfl (Nat.le_of_ble_eq_true rfl) rfl gw_1092 dX10_putBody_92 ?_
    refine ev_aload_n (pc := 95) (i := 2) rfl rfl rfl dX10_putBody_95 ?_
    refine ev_bipush (pc := 96) (v := 8) (by decide) dX10_putBody_96 ?_
    obtain ⟨g78, h79⟩ := qk_el h77; clear h77
    obtain ⟨x80, S81, e82, h83⟩ := qc_el h79; clear h79
    refine xv_callV (pc := 98) (st := []) (as := [.int 8]) (v := none) (S' := S81) ok_X2_addPair (e_X2_addPair e82) (isb_el g78) (by decide) rfl (Nat.le_of_ble_eq_true rfl) rfl gw_1092 dX10_putBody_98 ?_
    refine ev_aload_n (pc := 101) (i := 2) rfl rfl rfl dX10_putBody_101 ?_
    refine ev_iconst (pc := 102) (v := 0) (by decide) dX10_putBody_102 ?_
    obtain ⟨g84, h85⟩ := qk_el h83; clear h83
    obtain ⟨x86, S87, e88, h89⟩ := qc_el h85; clear h85
    refine xv_callV (pc := 103) (st := []) (as := [.int 0]) (v := none) (S' := S87) ok_X2_addPair (e_X2_addPair e88) (isb_el g84) (by decide) rfl (Nat.le_of_ble_eq_true rfl) rfl gw_1092 dX10_putBody_103 ?_
    refine ev_goto (pc := 106) (tgt := 136) (by decide) dX10_putBody_106 ?_
    exact ev_return (pc := 136) rfl (qRU_eq h89) dX10_putBody_136
  replace h28 := qi_f h28 c71
  refine ev_lookup (pc := 23) (off := 86) (tgt := 109) rfl (lo_ne (ti_ne c29 rfl) (lo_ne (ti_ne c71 rfl) lo_nil)) (by decide) dX10_putBody_23 ?_
  refine ev_aload_n (pc := 109) (i := 2) rfl rfl rfl dX10_putBody_109 ?_
  refine ev_iconst (pc := 110) (v := 0) (by decide) dX10_putBody_110 ?_
  obtain ⟨g90, h91⟩ := qk_el h28; clear h28
  obtain ⟨x92, S93, e94, h95⟩ := qc_el h91; clear h91
  refine xv_callV (pc := 111) (st := []) (as := [.int 0]) (v := none) (S' := S93) ok_X2_addPair (e_X2_addPair e94) (isb_el g90) (by decide) rfl (Nat.le_of_ble_eq_true rfl) rfl gw_1092 dX10_putBody_111 ?_
  refine ev_aload_n (pc := 114) (i := 2) rfl rfl rfl dX10_putBody_114 ?_
  refine ev_aload_n (pc := 115) (i := 0) rfl rfl rfl dX10_putBody_115 ?_
  obtain ⟨g96, h97⟩ := qk_el h95; clear h95
  obtain ⟨x98, S99, e100, h101⟩ := qc_el h97; clear h97
  refine xv_callV (pc := 116) (st := [.ref p2]) (as := []) (v := (some (.int x98))) (S' := S99) ok_X3_isEcho (e_X3_isEcho e100) (isb_el g96) (by decide) rfl (Nat.le_of_ble_eq_true rfl) rfl gw_1066 dX10_putBody_116 ?_
  refine ev_if_eq (pc := 119) (tgt := 127) (by decide) dX10_putBody_119 (fun c102 => ?_) (fun c102 => ?_)
  · replace h101 := qi_t h101 c102
    refine ev_iconst (pc := 127) (v := 0) (by decide) dX10_putBody_127 ?_
    exact ev_weak (qL_n (qL_n (qL_s (qL_n (qL_n qL_nil))))) (e_X10_putBody_128 h101)
  · replace h101 := qi_f h101 c102
    refine ev_iload (pc := 122) (i := 4) rfl dX10_putBody_122 ?_
    refine ev_goto (pc := 124) (tgt := 128) (by decide) dX10_putBody_124 ?_
    exact ev_weak (qL_n (qL_n (qL_s (qL_n (qL_n qL_nil))))) (e_X10_putBody_128 h101)
theorem dX10_put_0 : decode cX10_put 0 = .ok (.aload_n 0, 1) := by decide +kernel
theorem dX10_put_1 : decode cX10_put 1 = .ok (.getfield 46, 3) := by decide +kernel
theorem dX10_put_4 : decode cX10_put 4 = .ok (.iconst 1, 1) := by decide +kernel
theorem dX10_put_5 : decode cX10_put 5 = .ok (.laload, 1) := by decide +kernel
theorem dX10_put_6 : decode cX10_put 6 = .ok (.l2i, 1) := by decide +kernel
theorem dX10_put_7 : decode cX10_put 7 = .ok (.istore_n 2, 1) := by decide +kernel
theorem dX10_put_8 : decode cX10_put 8 = .ok (.iload_n 2, 1) := by decide +kernel
theorem dX10_put_9 : decode cX10_put 9 = .ok (.bipush 6, 2) := by decide +kernel
theorem dX10_put_11 : decode cX10_put 11 = .ok (.if_icmp .ne 8, 3) := by decide +kernel
theorem dX10_put_14 : decode cX10_put 14 = .ok (.bipush 20, 2) := by decide +kernel
theorem dX10_put_16 : decode cX10_put 16 = .ok (.goto 16, 3) := by decide +kernel
theorem dX10_put_19 : decode cX10_put 19 = .ok (.iload_n 2, 1) := by decide +kernel
theorem dX10_put_20 : decode cX10_put 20 = .ok (.invokestatic 56, 3) := by decide +kernel
theorem dX10_put_23 : decode cX10_put 23 = .ok (.ifCond .eq 8, 3) := by decide +kernel
theorem dX10_put_26 : decode cX10_put 26 = .ok (.bipush 8, 2) := by decide +kernel
theorem dX10_put_28 : decode cX10_put 28 = .ok (.goto 4, 3) := by decide +kernel
theorem dX10_put_31 : decode cX10_put 31 = .ok (.iconst 0, 1) := by decide +kernel
theorem dX10_put_32 : decode cX10_put 32 = .ok (.istore_n 3, 1) := by decide +kernel
theorem dX10_put_33 : decode cX10_put 33 = .ok (.aload_n 1, 1) := by decide +kernel
theorem dX10_put_34 : decode cX10_put 34 = .ok (.sipush 17664, 3) := by decide +kernel
theorem dX10_put_37 : decode cX10_put 37 = .ok (.invokevirtual 73, 3) := by decide +kernel
theorem dX10_put_40 : decode cX10_put 40 = .ok (.aload_n 1, 1) := by decide +kernel
theorem dX10_put_41 : decode cX10_put 41 = .ok (.bipush 20, 2) := by decide +kernel
theorem dX10_put_43 : decode cX10_put 43 = .ok (.iload_n 3, 1) := by decide +kernel
theorem dX10_put_44 : decode cX10_put 44 = .ok (.iadd, 1) := by decide +kernel
theorem dX10_put_45 : decode cX10_put 45 = .ok (.invokevirtual 73, 3) := by decide +kernel
theorem dX10_put_48 : decode cX10_put 48 = .ok (.aload_n 1, 1) := by decide +kernel
theorem dX10_put_49 : decode cX10_put 49 = .ok (.iconst 0, 1) := by decide +kernel
theorem dX10_put_50 : decode cX10_put 50 = .ok (.invokevirtual 77, 3) := by decide +kernel
theorem dX10_put_53 : decode cX10_put 53 = .ok (.aload_n 1, 1) := by decide +kernel
theorem dX10_put_54 : decode cX10_put 54 = .ok (.sipush 16384, 3) := by decide +kernel
theorem dX10_put_57 : decode cX10_put 57 = .ok (.iload_n 2, 1) := by decide +kernel
theorem dX10_put_58 : decode cX10_put 58 = .ok (.iadd, 1) := by decide +kernel
theorem dX10_put_59 : decode cX10_put 59 = .ok (.invokevirtual 73, 3) := by decide +kernel
theorem dX10_put_62 : decode cX10_put 62 = .ok (.aload_n 1, 1) := by decide +kernel
theorem dX10_put_63 : decode cX10_put 63 = .ok (.iconst 0, 1) := by decide +kernel
theorem dX10_put_64 : decode cX10_put 64 = .ok (.invokevirtual 73, 3) := by decide +kernel
theorem dX10_put_67 : decode cX10_put 67 = .ok (.aload_n 1, 1) := by decide +kernel
theorem dX10_put_68 : decode cX10_put 68 = .ok (.aload_n 0, 1) := by decide +kernel
theorem dX10_put_69 : decode cX10_put 69 = .ok (.getfield 46, 3) := by decide +kernel
theorem dX10_put_72 : decode cX10_put 72 = .ok (.iconst 2, 1) := by decide +kernel
theorem dX10_put_73 : decode cX10_put 73 = .ok (.laload, 1) := by decide +kernel
theorem dX10_put_74 : decode cX10_put 74 = .ok (.l2i, 1) := by decide +kernel
theorem dX10_put_75 : decode cX10_put 75 = .ok (.invokevirtual 77, 3) := by decide +kernel
theorem dX10_put_78 : decode cX10_put 78 = .ok (.aload_n 1, 1) := by decide +kernel
theorem dX10_put_79 : decode cX10_put 79 = .ok (.aload_n 0, 1) := by decide +kernel
theorem dX10_put_80 : decode cX10_put 80 = .ok (.getfield 46, 3) := by decide +kernel
theorem dX10_put_83 : decode cX10_put 83 = .ok (.iconst 3, 1) := by decide +kernel
theorem dX10_put_84 : decode cX10_put 84 = .ok (.laload, 1) := by decide +kernel
theorem dX10_put_85 : decode cX10_put 85 = .ok (.l2i, 1) := by decide +kernel
theorem dX10_put_86 : decode cX10_put 86 = .ok (.invokevirtual 77, 3) := by decide +kernel
theorem dX10_put_89 : decode cX10_put 89 = .ok (.aload_n 1, 1) := by decide +kernel
theorem dX10_put_90 : decode cX10_put 90 = .ok (.bipush 10, 2) := by decide +kernel
theorem dX10_put_92 : decode cX10_put 92 = .ok (.ldc 35, 2) := by decide +kernel
theorem dX10_put_94 : decode cX10_put 94 = .ok (.aload_n 1, 1) := by decide +kernel
theorem dX10_put_95 : decode cX10_put 95 = .ok (.iconst 0, 1) := by decide +kernel
theorem dX10_put_96 : decode cX10_put 96 = .ok (.bipush 20, 2) := by decide +kernel
theorem dX10_put_98 : decode cX10_put 98 = .ok (.iconst 0, 1) := by decide +kernel
theorem dX10_put_99 : decode cX10_put 99 = .ok (.invokestatic 31, 3) := by decide +kernel
theorem dX10_put_102 : decode cX10_put 102 = .ok (.isub, 1) := by decide +kernel
theorem dX10_put_103 : decode cX10_put 103 = .ok (.invokevirtual 80, 3) := by decide +kernel
theorem dX10_put_106 : decode cX10_put 106 = .ok (.iload_n 3, 1) := by decide +kernel
theorem dX10_put_107 : decode cX10_put 107 = .ok (.ifCond .le 59, 3) := by decide +kernel
theorem dX10_put_110 : decode cX10_put 110 = .ok (.aload_n 0, 1) := by decide +kernel
theorem dX10_put_111 : decode cX10_put 111 = .ok (.iload_n 2, 1) := by decide +kernel
theorem dX10_put_112 : decode cX10_put 112 = .ok (.aload_n 1, 1) := by decide +kernel
theorem dX10_put_113 : decode cX10_put 113 = .ok (.invokestatic 84, 3) := by decide +kernel
theorem dX10_put_116 : decode cX10_put 116 = .ok (.ldc 35, 2) := by decide +kernel
theorem dX10_put_118 : decode cX10_put 118 = .ok (.aload_n 1, 1) := by decide +kernel
theorem dX10_put_119 : decode cX10_put 119 = .ok (.bipush 20, 2) := by decide +kernel
theorem dX10_put_121 : decode cX10_put 121 = .ok (.aload_n 1, 1) := by decide +kernel
theorem dX10_put_122 : decode cX10_put 122 = .ok (.getfield 9, 3) := by decide +kernel
theorem dX10_put_125 : decode cX10_put 125 = .ok (.aload_n 1, 1) := by decide +kernel
theorem dX10_put_126 : decode cX10_put 126 = .ok (.bipush 20, 2) := by decide +kernel
theorem dX10_put_128 : decode cX10_put 128 = .ok (.invokestatic 88, 3) := by decide +kernel
theorem dX10_put_131 : decode cX10_put 131 = .ok (.invokestatic 31, 3) := by decide +kernel
theorem dX10_put_134 : decode cX10_put 134 = .ok (.isub, 1) := by decide +kernel
theorem dX10_put_135 : decode cX10_put 135 = .ok (.istore 4, 2) := by decide +kernel
theorem dX10_put_137 : decode cX10_put 137 = .ok (.aload_n 1, 1) := by decide +kernel
theorem dX10_put_138 : decode cX10_put 138 = .ok (.bipush 20, 2) := by decide +kernel
theorem dX10_put_140 : decode cX10_put 140 = .ok (.iload_n 2, 1) := by decide +kernel
theorem dX10_put_141 : decode cX10_put 141 = .ok (.invokestatic 43, 3) := by decide +kernel
theorem dX10_put_144 : decode cX10_put 144 = .ok (.iadd, 1) := by decide +kernel
theorem dX10_put_145 : decode cX10_put 145 = .ok (.iload_n 2, 1) := by decide +kernel
theorem dX10_put_146 : decode cX10_put 146 = .ok (.bipush 17, 2) := by decide +kernel
theorem dX10_put_148 : decode cX10_put 148 = .ok (.if_icmp .ne 13, 3) := by decide +kernel
theorem dX10_put_151 : decode cX10_put 151 = .ok (.iload 4, 2) := by decide +kernel
theorem dX10_put_153 : decode cX10_put 153 = .ok (.ifCond .ne 8, 3) := by decide +kernel
theorem dX10_put_156 : decode cX10_put 156 = .ok (.ldc 35, 2) := by decide +kernel
theorem dX10_put_158 : decode cX10_put 158 = .ok (.goto 5, 3) := by decide +kernel
theorem dX10_put_161 : decode cX10_put 161 = .ok (.iload 4, 2) := by decide +kernel
theorem dX10_put_163 : decode cX10_put 163 = .ok (.invokevirtual 80, 3) := by decide +kernel
theorem dX10_put_166 : decode cX10_put 166 = .ok (.return_, 1) := by decide +kernel
theorem e_X10_put_163 {X : gk_X} {F : Nat} {s0 : Int32} {s1 : Int32} {s2 : Nat} {S : gk_S} {r : (Unit × gk_S)} (h0 : f_X10_put_163 F s0 s1 s2 S = some r) : EvW X m_X10_put 5 0 0 163 [none, none, none, none, none] [.int s0, .int s1, .ref s2] S (qRU r) := by
  unfold f_X10_put_163 at h0
  obtain ⟨g122, h123⟩ := qk_el h0; clear h0
  obtain ⟨x124, S125, e126, h127⟩ := qc_el h123; clear h123
  refine xv_callV (pc := 163) (st := []) (as := [.int s1, .int s0]) (v := none) (S' := S125) ok_X2_setPair (e_X2_setPair e126) (isb_el g122) (by decide) rfl (Nat.le_of_ble_eq_true rfl) rfl gw_1094 dX10_put_163 ?_
  exact ev_return (pc := 166) rfl (qRU_eq h127) dX10_put_166
theorem e_X10_put_32 {X : gk_X} {F : Nat} {l0 : Nat} {l1 : Nat} {l2 : Int32} {s0 : Int32} {S : gk_S} {r : (Unit × gk_S)} (h0 : f_X10_put_32 F l0 l1 l2 s0 S = some r) : EvW X m_X10_put 5 0 0 32 [some (.ref l0), some (.ref l1), some (.int l2), none, none] [.int s0] S (qRU r) := by
  unfold f_X10_put_32 at h0
  refine ev_istore_n (pc := 32) (L' := [some (.ref l0), some (.ref l1), some (.int l2), some (.int s0), none]) (i := 3) rfl (by decide) rfl rfl dX10_put_32 ?_
  refine ev_aload_n (pc := 33) (i := 1) rfl rfl rfl dX10_put_33 ?_
  refine ev_sipush (pc := 34) (v := 17664) (by decide) dX10_put_34 ?_
  obtain ⟨g21, h22⟩ := qk_el h0; clear h0
  obtain ⟨x23, S24, e25, h26⟩ := qc_el h22; clear h22
  refine xv_callV (pc := 37) (st := []) (as := [.int 17664]) (v := none) (S' := S24) ok_X2_addPair (e_X2_addPair e25) (isb_el g21) (by decide) rfl (Nat.le_of_ble_eq_true rfl) rfl gw_1092 dX10_put_37 ?_
  refine ev_aload_n (pc := 40) (i := 1) rfl rfl rfl dX10_put_40 ?_
  refine ev_bipush (pc := 41) (v := 20) (by decide) dX10_put_41 ?_
  refine ev_iload_n (pc := 43) (i := 3) rfl rfl dX10_put_43 ?_
  refine ev_iadd (pc := 44)  dX10_put_44 ?_
  obtain ⟨g27, h28⟩ := qk_el h26; clear h26
  obtain ⟨x29, S30, e31, h32⟩ := qc_el h28; clear h28
  refine xv_callV (pc := 45) (st := []) (as := [.int (20 + s0)]) (v := none) (S' := S30) ok_X2_addPair (e_X2_addPair e31) (isb_el g27) (by decide) rfl (Nat.le_of_ble_eq_true rfl) rfl gw_1092 dX10_put_45 ?_
  refine ev_aload_n (pc := 48) (i := 1) rfl rfl rfl dX10_put_48 ?_
  refine ev_iconst (pc := 49) (v := 0) (by decide) dX10_put_49 ?_
  obtain ⟨g33, h34⟩ := qk_el h32; clear h32
  obtain ⟨x35, S36, e37, h38⟩ := qc_el h34; clear h34
  refine xv_callV (pc := 50) (st := []) (as := [.int 0]) (v := none) (S' := S36) ok_X2_addQuad (e_X2_addQuad e37) (isb_el g33) (by decide) rfl (Nat.le_of_ble_eq_true rfl) rfl gw_1093 dX10_put_50 ?_
  refine ev_aload_n (pc := 53) (i := 1) rfl rfl rfl dX10_put_53 ?_
  refine ev_sipush (pc := 54) (v := 16384) (by decide) dX10_put_54 ?_
  refine ev_iload_n (pc := 57) (i := 2) rfl rfl dX10_put_57 ?_
  refine ev_iadd (pc := 58)  dX10_put_58 ?_
  obtain ⟨g39, h40⟩ := qk_el h38; clear h38
  obtain ⟨x41, S42, e43, h44⟩ := qc_el h40; clear h40
  refine xv_callV (pc := 59) (st := []) (as := [.int (16384 + l2)]) (v := none) (S' := S42) ok_X2_addPair (e_X2_addPair e43) (isb_el g39) (by decide) rfl (Nat.le_of_ble_eq_true rfl) rfl gw_1092 dX10_put_59 ?_
  refine ev_aload_n (pc := 62) (i := 1) rfl rfl rfl dX10_put_62 ?_
  refine ev_iconst (pc := 63) (v := 0) (by decide) dX10_put_63 ?_
  obtain ⟨g45, h46⟩ := qk_el h44; clear h44
  obtain ⟨x47, S48, e49, h50⟩ := qc_el h46; clear h46
  refine xv_callV (pc := 64) (st := []) (as := [.int 0]) (v := none) (S' := S48) ok_X2_addPair (e_X2_addPair e49) (isb_el g45) (by decide) rfl (Nat.le_of_ble_eq_true rfl) rfl gw_1092 dX10_put_64 ?_
  refine ev_aload_n (pc := 67) (i := 1) rfl rfl rfl dX10_put_67 ?_
  refine ev_aload_n (pc := 68) (i := 0) rfl rfl rfl dX10_put_68 ?_
  obtain ⟨g51, h52⟩ := qk_el h50; clear h50
  obtain ⟨b53, e54, h55⟩ := qP_el h52; clear h52
  refine xv_getP (pc := 69) fn_200 (isb_el g51) e54 gw_269 dX10_put_69 ?_
  refine ev_iconst (pc := 72) (v := 2) (by decide) dX10_put_72 ?_
  obtain ⟨g56, h57⟩ := qk_el h55; clear h55
  obtain ⟨g58, h59⟩ := qk_el h57; clear h57
  obtain ⟨x60, e61, h62⟩ := qv_el h59; clear h59
  refine yv_lald (pc := 73) (isb_el g56) (inb_el g58) e61 dX10_put_73 ?_
  refine ev_l2i (pc := 74)  dX10_put_74 ?_
  obtain ⟨g63, h64⟩ := qk_el h62; clear h62
  obtain ⟨x65, S66, e67, h68⟩ := qc_el h64; clear h64
  refine xv_callV (pc := 75) (st := []) (as := [.int ((x60 : Int64).toInt32)]) (v := none) (S' := S66) ok_X2_addQuad (e_X2_addQuad e67) (isb_el g63) (by decide) rfl (Nat.le_of_ble_eq_true rfl) rfl gw_1093 dX10_put_75 ?_
  refine ev_aload_n (pc := 78) (i := 1) rfl rfl rfl dX10_put_78 ?_
  refine ev_aload_n (pc := 79) (i := 0) rfl rfl rfl dX10_put_79 ?_
  obtain ⟨g69, h70⟩ := qk_el h68; clear h68
  obtain ⟨b71, e72, h73⟩ := qP_el h70; clear h70
  refine xv_getP (pc := 80) fn_200 (isb_el g69) e72 gw_269 dX10_put_80 ?_
  refine ev_iconst (pc := 83) (v := 3) (by decide) dX10_put_83 ?_
  obtain ⟨g74, h75⟩ := qk_el h73; clear h73
  obtain ⟨g76, h77⟩ := qk_el h75; clear h75
  obtain ⟨x78, e79, h80⟩ := qv_el h77; clear h77
  refine yv_lald (pc := 84) (isb_el g74) (inb_el g76) e79 dX10_put_84 ?_
  refine ev_l2i (pc := 85)  dX10_put_85 ?_
  obtain ⟨g81, h82⟩ := qk_el h80; clear h80
  obtain ⟨x83, S84, e85, h86⟩ := qc_el h82; clear h82
  refine xv_callV (pc := 86) (st := []) (as := [.int ((x78 : Int64).toInt32)]) (v := none) (S' := S84) ok_X2_addQuad (e_X2_addQuad e85) (isb_el g81) (by decide) rfl (Nat.le_of_ble_eq_true rfl) rfl gw_1093 dX10_put_86 ?_
  refine ev_aload_n (pc := 89) (i := 1) rfl rfl rfl dX10_put_89 ?_
  refine ev_bipush (pc := 90) (v := 10) (by decide) dX10_put_90 ?_
  refine ev_ldc (pc := 92) (v := 65535) gw_1038 dX10_put_92 ?_
  refine ev_aload_n (pc := 94) (i := 1) rfl rfl rfl dX10_put_94 ?_
  refine ev_iconst (pc := 95) (v := 0) (by decide) dX10_put_95 ?_
  refine ev_bipush (pc := 96) (v := 20) (by decide) dX10_put_96 ?_
  refine ev_iconst (pc := 98) (v := 0) (by decide) dX10_put_98 ?_
  obtain ⟨x87, S88, e89, h90⟩ := qc_el h86; clear h86
  refine xv_callS (pc := 99) (st := [.int 65535, .int 10, .ref l1]) (as := [.ref l1, .int 0, .int 20, .int 0]) (v := (some (.int x87))) (S' := S88) ok_X10_sum (e_X10_sum e89) (by decide) rfl (Nat.le_of_ble_eq_true rfl) rfl gw_1035 dX10_put_99 ?_
  refine ev_isub (pc := 102)  dX10_put_102 ?_
  obtain ⟨g91, h92⟩ := qk_el h90; clear h90
  obtain ⟨x93, S94, e95, h96⟩ := qc_el h92; clear h92
  refine xv_callV (pc := 103) (st := []) (as := [.int 10, .int (65535 - x87)]) (v := none) (S' := S94) ok_X2_setPair (e_X2_setPair e95) (isb_el g91) (by decide) rfl (Nat.le_of_ble_eq_true rfl) rfl gw_1094 dX10_put_103 ?_
  refine ev_iload_n (pc := 106) (i := 3) rfl rfl dX10_put_106 ?_
  refine ev_if_le (pc := 107) (tgt := 166) (by decide) dX10_put_107 (fun c97 => ?_) (fun c97 => ?_)
  · replace h96 := qi_t h96 c97
    exact ev_return (pc := 166) rfl (qRU_eq h96) dX10_put_166
  · replace h96 := qi_f h96 c97
    refine ev_aload_n (pc := 110) (i := 0) rfl rfl rfl dX10_put_110 ?_
    refine ev_iload_n (pc := 111) (i := 2) rfl rfl dX10_put_111 ?_
    refine ev_aload_n (pc := 112) (i := 1) rfl rfl rfl dX10_put_112 ?_
    obtain ⟨x99, S100, e101, h102⟩ := qc_el h96; clear h96
    refine xv_callS (pc := 113) (st := []) (as := [.ref l0, .int l2, .ref l1]) (v := none) (S' := S100) ok_X10_putBody (e_X10_putBody e101) (by decide) rfl (Nat.le_of_ble_eq_true rfl) rfl gw_1098 dX10_put_113 ?_
    refine ev_ldc (pc := 116) (v := 65535) gw_1038 dX10_put_116 ?_
    refine ev_aload_n (pc := 118) (i := 1) rfl rfl rfl dX10_put_118 ?_
    refine ev_bipush (pc := 119) (v := 20) (by decide) dX10_put_119 ?_
    refine ev_aload_n (pc := 121) (i := 1) rfl rfl rfl dX10_put_121 ?_
    obtain ⟨g103, h104⟩ := qk_el h102; clear h102
    obtain ⟨x105, e106, h107⟩ := qv_el h104; clear h104
    refine xv_getIv (pc := 122) fn_101 (isb_el g103) e106 gw_41 dX10_put_122 ?_
    refine ev_aload_n (pc := 125) (i := 1) rfl rfl rfl dX10_put_125 ?_
    refine ev_bipush (pc := 126) (v := 20) (by decide) dX10_put_126 ?_
    obtain ⟨x108, S109, e110, h111⟩ := qc_el h107; clear h107
    refine xv_callS (pc := 128) (st := [.int x105, .int 20, .ref l1, .int 65535]) (as := [.ref l1, .int 20]) (v := (some (.int x108))) (S' := S109) ok_X10_seed (e_X10_seed e110) (by decide) rfl (Nat.le_of_ble_eq_true rfl) rfl gw_1048 dX10_put_128 ?_
    obtain ⟨x112, S113, e114, h115⟩ := qc_el h111; clear h111
    refine xv_callS (pc := 131) (st := [.int 65535]) (as := [.ref l1, .int 20, .int x105, .int x108]) (v := (some (.int x112))) (S' := S113) ok_X10_sum (e_X10_sum e114) (by decide) rfl (Nat.le_of_ble_eq_true rfl) rfl gw_1035 dX10_put_131 ?_
    refine ev_isub (pc := 134)  dX10_put_134 ?_
    refine ev_istore (pc := 135) (L' := [some (.ref l0), some (.ref l1), some (.int l2), some (.int s0), some (.int (65535 - x112))]) (i := 4) (by decide) rfl rfl dX10_put_135 ?_
    refine ev_aload_n (pc := 137) (i := 1) rfl rfl rfl dX10_put_137 ?_
    refine ev_bipush (pc := 138) (v := 20) (by decide) dX10_put_138 ?_
    refine ev_iload_n (pc := 140) (i := 2) rfl rfl dX10_put_140 ?_
    obtain ⟨x116, S117, e118, h119⟩ := qc_el h115; clear h115
    refine xv_callS (pc := 141) (st := [.int 20, .ref l1]) (as := [.int l2]) (v := (some (.int x116))) (S' := S117) ok_X10_sumPlace (e_X10_sumPlace e118) (by decide) rfl (Nat.le_of_ble_eq_true rfl) rfl gw_1054 dX10_put_141 ?_
    refine ev_iadd (pc := 144)  dX10_put_144 ?_
    refine ev_iload_n (pc := 145) (i := 2) rfl rfl dX10_put_145 ?_
    refine ev_bipush (pc := 146) (v := 17) (by decide) dX10_put_146 ?_
    refine ev_ic_ne (pc := 148) (tgt := 161) (by decide) dX10_put_148 (fun c120 => ?_) (fun c120 => ?_)
    · replace h119 := qi_f h119 c120
      refine ev_iload (pc := 161) (i := 4) rfl dX10_put_161 ?_
      exact ev_weak (qL_n (qL_n (qL_n (qL_n (qL_n qL_nil))))) (e_X10_put_163 h119)
    · replace h119 := qi_t h119 c120
      refine ev_iload (pc := 151) (i := 4) rfl dX10_put_151 ?_
      refine ev_if_ne (pc := 153) (tgt := 161) (by decide) dX10_put_153 (fun c128 => ?_) (fun c128 => ?_)
      · replace h119 := qi_f h119 c128
        refine ev_iload (pc := 161) (i := 4) rfl dX10_put_161 ?_
        exact ev_weak (qL_n (qL_n (qL_n (qL_n (qL_n qL_nil))))) (e_X10_put_163 h119)
      · replace h119 := qi_t h119 c128
        refine ev_ldc (pc := 156) (v := 65535) gw_1038 dX10_put_156 ?_
        refine ev_goto (pc := 158) (tgt := 163) (by decide) dX10_put_158 ?_
        exact ev_weak (qL_n (qL_n (qL_n (qL_n (qL_n qL_nil))))) (e_X10_put_163 h119)
theorem e_X10_put {X : gk_X} {F : Nat} {S : gk_S} {p0 : Nat} {p1 : Nat} {r : (Unit × gk_S)} (h0 : f_X10_put F S p0 p1 = some r) : EvM X m_X10_put 5 0 0 [.ref p0, .ref p1] S (qRU r) := by
  unfold f_X10_put at h0
  refine ev_method (by decide +kernel) rfl rfl (Nat.le_of_ble_eq_true rfl) ?_
  show EvW X m_X10_put 5 0 0 0 [some (.ref p0), some (.ref p1), none, none, none] [] S _
  refine ev_aload_n (pc := 0) (i := 0) rfl rfl rfl dX10_put_0 ?_
  obtain ⟨g1, h2⟩ := qk_el h0; clear h0
  obtain ⟨b3, e4, h5⟩ := qP_el h2; clear h2
  refine xv_getP (pc := 1) fn_200 (isb_el g1) e4 gw_269 dX10_put_1 ?_
  refine ev_iconst (pc := 4) (v := 1) (by decide) dX10_put_4 ?_
  obtain ⟨g6, h7⟩ := qk_el h5; clear h5
  obtain ⟨g8, h9⟩ := qk_el h7; clear h7
  obtain ⟨x10, e11, h12⟩ := qv_el h9; clear h9
  refine yv_lald (pc := 5) (isb_el g6) (inb_el g8) e11 dX10_put_5 ?_
  refine ev_l2i (pc := 6)  dX10_put_6 ?_
  refine ev_istore_n (pc := 7) (L' := [some (.ref p0), some (.ref p1), some (.int ((x10 : Int64).toInt32)), none, none]) (i := 2) rfl (by decide) rfl rfl dX10_put_7 ?_
  refine ev_iload_n (pc := 8) (i := 2) rfl rfl dX10_put_8 ?_
  refine ev_bipush (pc := 9) (v := 6) (by decide) dX10_put_9 ?_
  refine ev_ic_ne (pc := 11) (tgt := 19) (by decide) dX10_put_11 (fun c13 => ?_) (fun c13 => ?_)
  · replace h12 := qi_f h12 c13
    refine ev_iload_n (pc := 19) (i := 2) rfl rfl dX10_put_19 ?_
    obtain ⟨x15, S16, e17, h18⟩ := qc_el h12; clear h12
    refine xv_callS (pc := 20) (st := []) (as := [.int ((x10 : Int64).toInt32)]) (v := (some (.int x15))) (S' := S16) ok_X10_hasBody (e_X10_hasBody e17) (by decide) rfl (Nat.le_of_ble_eq_true rfl) rfl gw_1045 dX10_put_20 ?_
    refine ev_if_eq (pc := 23) (tgt := 31) (by decide) dX10_put_23 (fun c19 => ?_) (fun c19 => ?_)
    · replace h18 := qi_t h18 c19
      refine ev_iconst (pc := 31) (v := 0) (by decide) dX10_put_31 ?_
      exact ev_weak (qL_s (qL_s (qL_s (qL_n (qL_n qL_nil))))) (e_X10_put_32 h18)
    · replace h18 := qi_f h18 c19
      refine ev_bipush (pc := 26) (v := 8) (by decide) dX10_put_26 ?_
      refine ev_goto (pc := 28) (tgt := 32) (by decide) dX10_put_28 ?_
      exact ev_weak (qL_s (qL_s (qL_s (qL_n (qL_n qL_nil))))) (e_X10_put_32 h18)
  · replace h12 := qi_t h12 c13
    refine ev_bipush (pc := 14) (v := 20) (by decide) dX10_put_14 ?_
    refine ev_goto (pc := 16) (tgt := 32) (by decide) dX10_put_16 ?_
    exact ev_weak (qL_s (qL_s (qL_s (qL_n (qL_n qL_nil))))) (e_X10_put_32 h12)
theorem dX11_pack_0 : decode cX11_pack 0 = .ok (.aload_n 0, 1) := by decide +kernel
theorem dX11_pack_1 : decode cX11_pack 1 = .ok (.getfield 80, 3) := by decide +kernel
theorem dX11_pack_4 : decode cX11_pack 4 = .ok (.ifCond .ne 13, 3) := by decide +kernel
theorem dX11_pack_7 : decode cX11_pack 7 = .ok (.new 112, 3) := by decide +kernel
theorem dX11_pack_10 : decode cX11_pack 10 = .ok (.dup, 1) := by decide +kernel
theorem dX11_pack_11 : decode cX11_pack 11 = .ok (.ldc 221, 2) := by decide +kernel
theorem dX11_pack_13 : decode cX11_pack 13 = .ok (.invokespecial 116, 3) := by decide +kernel
theorem dX11_pack_16 : decode cX11_pack 16 = .ok (.athrow, 1) := by decide +kernel
theorem dX11_pack_17 : decode cX11_pack 17 = .ok (.aload_n 0, 1) := by decide +kernel
theorem dX11_pack_18 : decode cX11_pack 18 = .ok (.getfield 18, 3) := by decide +kernel
theorem dX11_pack_21 : decode cX11_pack 21 = .ok (.iconst 0, 1) := by decide +kernel
theorem dX11_pack_22 : decode cX11_pack 22 = .ok (.putfield 83, 3) := by decide +kernel
theorem dX11_pack_25 : decode cX11_pack 25 = .ok (.aload_n 0, 1) := by decide +kernel
theorem dX11_pack_26 : decode cX11_pack 26 = .ok (.getfield 58, 3) := by decide +kernel
theorem dX11_pack_29 : decode cX11_pack 29 = .ok (.aload_n 0, 1) := by decide +kernel
theorem dX11_pack_30 : decode cX11_pack 30 = .ok (.getfield 18, 3) := by decide +kernel
theorem dX11_pack_33 : decode cX11_pack 33 = .ok (.invokestatic 223, 3) := by decide +kernel
theorem dX11_pack_36 : decode cX11_pack 36 = .ok (.aload_n 0, 1) := by decide +kernel
theorem dX11_pack_37 : decode cX11_pack 37 = .ok (.getfield 18, 3) := by decide +kernel
theorem dX11_pack_40 : decode cX11_pack 40 = .ok (.getfield 83, 3) := by decide +kernel
theorem dX11_pack_43 : decode cX11_pack 43 = .ok (.ireturn, 1) := by decide +kernel
theorem e_X11_pack {X : gk_X} {F : Nat} {k j : Nat} {S : gk_S} {a : Nat} {r : ((Int32 ⊕ String) × gk_S)} (hb : qb r k j) (h0 : f_X11_pack F S a = some r) : EvM X m_X11_pack 6 k j [.ref a] S (qXI r) := by
  unfold f_X11_pack at h0
  refine ev_method (by decide +kernel) rfl rfl (Nat.le_of_ble_eq_true rfl) ?_
  show EvW X m_X11_pack 6 k j 0 [some (.ref a)] [] S _
  refine ev_aload_n (pc := 0) (i := 0) rfl rfl rfl dX11_pack_0 ?_
  obtain ⟨g1, h2⟩ := qk_el h0; clear h0
  obtain ⟨x3, e4, h5⟩ := qv_el h2; clear h2
  refine xv_getIv (pc := 1) fn_813 (isb_el g1) e4 gw_295 dX11_pack_1 ?_
  refine ev_if_ne (pc := 4) (tgt := 17) (by decide) dX11_pack_4 (fun c6 => ?_) (fun c6 => ?_)
  · replace h5 := qi_f h5 c6
    refine ev_aload_n (pc := 17) (i := 0) rfl rfl rfl dX11_pack_17 ?_
    obtain ⟨b8, e9, h10⟩ := qP_el h5; clear h5
    refine xv_getP (pc := 18) fn_801 (isb_el g1) e9 gw_283 dX11_pack_18 ?_
    refine ev_iconst (pc := 21) (v := 0) (by decide) dX11_pack_21 ?_
    obtain ⟨g11, h12⟩ := qk_el h10; clear h10
    obtain ⟨S13, e14, h15⟩ := qv_el h12; clear h12
    refine yv_putI (pc := 22) fn_101 ⟨rfl, rfl⟩ (isb_el g11) e14 gw_42 dX11_pack_22 ?_
    refine ev_aload_n (pc := 25) (i := 0) rfl rfl rfl dX11_pack_25 ?_
    obtain ⟨b16, e17, h18⟩ := qP_el h15; clear h15
    refine xv_getP (pc := 26) fn_806 (is_sI (isb_el g1) e14) e17 gw_288 dX11_pack_26 ?_
    refine ev_aload_n (pc := 29) (i := 0) rfl rfl rfl dX11_pack_29 ?_
    obtain ⟨b19, e20, h21⟩ := qP_el h18; clear h18
    refine xv_getP (pc := 30) fn_801 (is_sI (isb_el g1) e14) e20 gw_283 dX11_pack_30 ?_
    obtain ⟨x22, S23, e24, h25⟩ := qc_el h21; clear h21
    refine xv_callS (pc := 33) (st := []) (as := [.ref b16, .ref b19]) (v := none) (S' := S23) ok_X10_put (e_X10_put e24) (by decide) rfl (Nat.le_of_ble_eq_true rfl) rfl gw_1089 dX11_pack_33 ?_
    refine ev_aload_n (pc := 36) (i := 0) rfl rfl rfl dX11_pack_36 ?_
    obtain ⟨g26, h27⟩ := qk_el h25; clear h25
    obtain ⟨b28, e29, h30⟩ := qP_el h27; clear h27
    refine xv_getP (pc := 37) fn_801 (isb_el g26) e29 gw_283 dX11_pack_37 ?_
    obtain ⟨g31, h32⟩ := qk_el h30; clear h30
    obtain ⟨x33, e34, h35⟩ := qv_el h32; clear h32
    refine xv_getIv (pc := 40) fn_101 (isb_el g31) e34 gw_42 dX11_pack_40 ?_
    cases h35
    exact ev_ireturn (pc := 43) rfl (nar_int _) rfl dX11_pack_43
  · replace h5 := qi_t h5 c6
    cases h5
    exact ev_throwN (pc := 7) (i := 30) (by decide) rfl rfl rfl rfl gw_680 gw_19 rfl (by decide) (by decide) (qb_inr hb).1 (qb_inr hb).2 rfl dX11_pack_7 dX11_pack_10 dX11_pack_11 dX11_pack_13 dX11_pack_16
theorem dL_pack_0 : decode cL_pack 0 = .ok (.aload_n 1, 1) := by decide +kernel
theorem dL_pack_1 : decode cL_pack 1 = .ok (.iconst 0, 1) := by decide +kernel
theorem dL_pack_2 : decode cL_pack 2 = .ok (.aload_n 0, 1) := by decide +kernel
theorem dL_pack_3 : decode cL_pack 3 = .ok (.invokevirtual 57, 3) := by decide +kernel
theorem dL_pack_6 : decode cL_pack 6 = .ok (.i2l, 1) := by decide +kernel
theorem dL_pack_7 : decode cL_pack 7 = .ok (.lastore, 1) := by decide +kernel
theorem dL_pack_8 : decode cL_pack 8 = .ok (.goto 6, 3) := by decide +kernel
theorem dL_pack_11 : decode cL_pack 11 = .ok (.astore_n 2, 1) := by decide +kernel
theorem dL_pack_12 : decode cL_pack 12 = .ok (.iconst 1, 1) := by decide +kernel
theorem dL_pack_13 : decode cL_pack 13 = .ok (.ireturn, 1) := by decide +kernel
theorem dL_pack_14 : decode cL_pack 14 = .ok (.iconst 0, 1) := by decide +kernel
theorem dL_pack_15 : decode cL_pack 15 = .ok (.ireturn, 1) := by decide +kernel
theorem e_L_pack {X : gk_X} {F : Nat} {k j : Nat} {S : gk_S} {p0 : Nat} {p1 : Nat} {r : (Int32 × gk_S)} (hb : r.1 = 0 ∨ (1 ≤ k ∧ 6 ≤ j)) (h0 : f_L_pack F S p0 p1 = some r) : EvM X m_L_pack 7 k j [.ref p0, .ref p1] S (qRI r) := by
  unfold f_L_pack at h0
  refine ev_methodH (by decide +kernel) (by decide) rfl (Nat.le_of_ble_eq_true rfl) ?_
  show EvW X m_L_pack 7 k j 0 [some (.ref p0), some (.ref p1), none] [] S _
  refine ev_aload_n (pc := 0) (i := 1) rfl rfl rfl dL_pack_0 ?_
  refine ev_iconst (pc := 1) (v := 0) (by decide) dL_pack_1 ?_
  refine ev_aload_n (pc := 2) (i := 0) rfl rfl rfl dL_pack_2 ?_
  obtain ⟨g1, h2⟩ := qk_el h0; clear h0
  rcases qh_el h2 with ⟨E7, T8, e5, h6⟩ | ⟨x3, S4, e5, h6⟩
  · by_cases c9 : E7 = gx_E
    · replace h6 := qi_t h6 c9; subst c9
      have hb9 : 1 ≤ k ∧ 6 ≤ j := by cases h6; exact hb.resolve_left (show ¬ (1 : Int32) = 0 by decide)
      refine yv_catV (pc := 3) (st := [.int 0, .ref p1]) (as := []) (i9 := 2) (len9 := 1) (pre := []) (suf := []) (x := (0, 8, 11, 22)) (name := "java/util/NoSuchElementException") ok_X11_pack (e_X11_pack (k := k) (j := j) (fun _ _ => hb9) e5) (isb_el g1) rfl (by intro z hz; cases hz) (by decide) (by decide) (by decide) gw_672 (by decide +kernel) (.inr ⟨2, rfl, rfl, rfl⟩) (by decide) rfl (gl9 rfl) (by decide) rfl (Nat.le_of_ble_eq_true rfl) rfl gw_1084 dL_pack_3 dL_pack_11 ?_
      refine ev_iconst (pc := 12) (v := 1) (by decide) dL_pack_12 ?_
      exact ev_ireturn (pc := 13) rfl rfl (by cases h6; rfl) dL_pack_13
    replace h6 := qi_f h6 c9
    cases h6
  clear h2
  refine xv_callV (pc := 3) (st := [.int 0, .ref p1]) (as := []) (v := (some (.int x3))) (S' := S4) ok_X11_pack (e_X11_pack (k := 0) (j := 0) qb_inl e5) (isb_el g1) (by decide) rfl (Nat.le_of_ble_eq_true rfl) rfl gw_1084 dL_pack_3 ?_
  refine ev_i2l (pc := 6)  dL_pack_6 ?_
  obtain ⟨g10, h11⟩ := qk_el h6; clear h6
  obtain ⟨g12, h13⟩ := qk_el h11; clear h11
  obtain ⟨S14, e15, h16⟩ := qv_el h13; clear h13
  refine yv_last (pc := 7) (isb_el g10) (inb_el g12) e15 dL_pack_7 ?_
  refine ev_goto (pc := 8) (tgt := 14) (by decide) dL_pack_8 ?_
  refine ev_iconst (pc := 14) (v := 0) (by decide) dL_pack_14 ?_
  exact ev_ireturn (pc := 15) rfl (nar_int _) (qRI_eq h16) dL_pack_15
theorem dX12_putTwo_0 : decode cX12_putTwo 0 = .ok (.aload_n 0, 1) := by decide +kernel
theorem dX12_putTwo_1 : decode cX12_putTwo 1 = .ok (.iload_n 1, 1) := by decide +kernel
theorem dX12_putTwo_2 : decode cX12_putTwo 2 = .ok (.bipush 8, 2) := by decide +kernel
theorem dX12_putTwo_4 : decode cX12_putTwo 4 = .ok (.ishr, 1) := by decide +kernel
theorem dX12_putTwo_5 : decode cX12_putTwo 5 = .ok (.invokevirtual 228, 3) := by decide +kernel
theorem dX12_putTwo_8 : decode cX12_putTwo 8 = .ok (.aload_n 0, 1) := by decide +kernel
theorem dX12_putTwo_9 : decode cX12_putTwo 9 = .ok (.iload_n 1, 1) := by decide +kernel
theorem dX12_putTwo_10 : decode cX12_putTwo 10 = .ok (.invokevirtual 228, 3) := by decide +kernel
theorem dX12_putTwo_13 : decode cX12_putTwo 13 = .ok (.return_, 1) := by decide +kernel
theorem e_X12_putTwo {X : gk_X} {F : Nat} {S : gk_S} {a : Nat} {p0 : Int32} {r : (Unit × gk_S)} (h0 : f_X12_putTwo F S a p0 = some r) : EvM X m_X12_putTwo 2 0 0 [.ref a, .int p0] S (qRU r) := by
  unfold f_X12_putTwo at h0
  refine ev_method (by decide +kernel) rfl rfl (Nat.le_of_ble_eq_true rfl) ?_
  show EvW X m_X12_putTwo 2 0 0 0 [some (.ref a), some (.int p0)] [] S _
  refine ev_aload_n (pc := 0) (i := 0) rfl rfl rfl dX12_putTwo_0 ?_
  refine ev_iload_n (pc := 1) (i := 1) rfl rfl dX12_putTwo_1 ?_
  refine ev_bipush (pc := 2) (v := 8) (by decide) dX12_putTwo_2 ?_
  refine ev_ishr (pc := 4)  dX12_putTwo_4 ?_
  obtain ⟨g1, h2⟩ := qk_el h0; clear h0
  obtain ⟨x3, S4, e5, h6⟩ := qc_el h2; clear h2
  refine xv_callV (pc := 5) (st := []) (as := [.int ((p0 : Int32) >>> ((8 : Int32) &&& 31))]) (v := none) (S' := S4) ok_X12_put (e_X12_put e5) (isb_el g1) (by decide) rfl (Nat.le_of_ble_eq_true rfl) rfl gw_1403 dX12_putTwo_5 ?_
  refine ev_aload_n (pc := 8) (i := 0) rfl rfl rfl dX12_putTwo_8 ?_
  refine ev_iload_n (pc := 9) (i := 1) rfl rfl dX12_putTwo_9 ?_
  obtain ⟨g7, h8⟩ := qk_el h6; clear h6
  obtain ⟨x9, S10, e11, h12⟩ := qc_el h8; clear h8
  refine xv_callV (pc := 10) (st := []) (as := [.int p0]) (v := none) (S' := S10) ok_X12_put (e_X12_put e11) (isb_el g7) (by decide) rfl (Nat.le_of_ble_eq_true rfl) rfl gw_1403 dX12_putTwo_10 ?_
  exact ev_return (pc := 13) rfl (qRU_eq h12) dX12_putTwo_13
theorem dX12_outTwo_0 : decode cX12_outTwo 0 = .ok (.aload_n 0, 1) := by decide +kernel
theorem dX12_outTwo_1 : decode cX12_outTwo 1 = .ok (.getfield 68, 3) := by decide +kernel
theorem dX12_outTwo_4 : decode cX12_outTwo 4 = .ok (.iload_n 1, 1) := by decide +kernel
theorem dX12_outTwo_5 : decode cX12_outTwo 5 = .ok (.baload, 1) := by decide +kernel
theorem dX12_outTwo_6 : decode cX12_outTwo 6 = .ok (.sipush 255, 3) := by decide +kernel
theorem dX12_outTwo_9 : decode cX12_outTwo 9 = .ok (.iand, 1) := by decide +kernel
theorem dX12_outTwo_10 : decode cX12_outTwo 10 = .ok (.bipush 8, 2) := by decide +kernel
theorem dX12_outTwo_12 : decode cX12_outTwo 12 = .ok (.ishl, 1) := by decide +kernel
theorem dX12_outTwo_13 : decode cX12_outTwo 13 = .ok (.aload_n 0, 1) := by decide +kernel
theorem dX12_outTwo_14 : decode cX12_outTwo 14 = .ok (.getfield 68, 3) := by decide +kernel
theorem dX12_outTwo_17 : decode cX12_outTwo 17 = .ok (.iload_n 1, 1) := by decide +kernel
theorem dX12_outTwo_18 : decode cX12_outTwo 18 = .ok (.iconst 1, 1) := by decide +kernel
theorem dX12_outTwo_19 : decode cX12_outTwo 19 = .ok (.iadd, 1) := by decide +kernel
theorem dX12_outTwo_20 : decode cX12_outTwo 20 = .ok (.baload, 1) := by decide +kernel
theorem dX12_outTwo_21 : decode cX12_outTwo 21 = .ok (.sipush 255, 3) := by decide +kernel
theorem dX12_outTwo_24 : decode cX12_outTwo 24 = .ok (.iand, 1) := by decide +kernel
theorem dX12_outTwo_25 : decode cX12_outTwo 25 = .ok (.ior, 1) := by decide +kernel
theorem dX12_outTwo_26 : decode cX12_outTwo 26 = .ok (.ireturn, 1) := by decide +kernel
theorem e_X12_outTwo {X : gk_X} {F : Nat} {S : gk_S} {a : Nat} {p0 : Int32} {r : (Int32 × gk_S)} (h0 : f_X12_outTwo F S a p0 = some r) : EvM X m_X12_outTwo 1 0 0 [.ref a, .int p0] S (qRI r) := by
  unfold f_X12_outTwo at h0
  refine ev_method (by decide +kernel) rfl rfl (Nat.le_of_ble_eq_true rfl) ?_
  show EvW X m_X12_outTwo 1 0 0 0 [some (.ref a), some (.int p0)] [] S _
  refine ev_aload_n (pc := 0) (i := 0) rfl rfl rfl dX12_outTwo_0 ?_
  obtain ⟨g1, h2⟩ := qk_el h0; clear h0
  obtain ⟨b3, e4, h5⟩ := qP_el h2; clear h2
  refine xv_getP (pc := 1) fn_920 (isb_el g1) e4 gw_1160 dX12_outTwo_1 ?_
  refine ev_iload_n (pc := 4) (i := 1) rfl rfl dX12_outTwo_4 ?_
  obtain ⟨g6, h7⟩ := qk_el h5; clear h5
  obtain ⟨g8, h9⟩ := qk_el h7; clear h7
  obtain ⟨x10, e11, h12⟩ := qv_el h9; clear h9
  refine yv_bald (pc := 5) (isb_el g6) (inb_el g8) e11 dX12_outTwo_5 ?_
  refine ev_sipush (pc := 6) (v := 255) (by decide) dX12_outTwo_6 ?_
  refine ev_iand (pc := 9)  dX12_outTwo_9 ?_
  refine ev_bipush (pc := 10) (v := 8) (by decide) dX12_outTwo_10 ?_
  refine ev_ishl (pc := 12)  dX12_outTwo_12 ?_
  refine ev_aload_n (pc := 13) (i := 0) rfl rfl rfl dX12_outTwo_13 ?_
  obtain ⟨b13, e14, h15⟩ := qP_el h12; clear h12
  refine xv_getP (pc := 14) fn_920 (isb_el g1) e14 gw_1160 dX12_outTwo_14 ?_
  refine ev_iload_n (pc := 17) (i := 1) rfl rfl dX12_outTwo_17 ?_
  refine ev_iconst (pc := 18) (v := 1) (by decide) dX12_outTwo_18 ?_
  refine ev_iadd (pc := 19)  dX12_outTwo_19 ?_
  obtain ⟨g16, h17⟩ := qk_el h15; clear h15
  obtain ⟨g18, h19⟩ := qk_el h17; clear h17
  obtain ⟨x20, e21, h22⟩ := qv_el h19; clear h19
  refine yv_bald (pc := 20) (isb_el g16) (inb_el g18) e21 dX12_outTwo_20 ?_
  refine ev_sipush (pc := 21) (v := 255) (by decide) dX12_outTwo_21 ?_
  refine ev_iand (pc := 24)  dX12_outTwo_24 ?_
  refine ev_ior (pc := 25)  dX12_outTwo_25 ?_
  exact ev_ireturn (pc := 26) rfl (nar_int _) (qRI_eq h22) dX12_outTwo_26
theorem dX12_sumAt_0 : decode cX12_sumAt 0 = .ok (.iload 4, 2) := by decide +kernel
theorem dX12_sumAt_2 : decode cX12_sumAt 2 = .ok (.i2l, 1) := by decide +kernel
theorem dX12_sumAt_3 : decode cX12_sumAt 3 = .ok (.lstore 5, 2) := by decide +kernel
theorem dX12_sumAt_5 : decode cX12_sumAt 5 = .ok (.iload_n 2, 1) := by decide +kernel
theorem dX12_sumAt_6 : decode cX12_sumAt 6 = .ok (.istore 7, 2) := by decide +kernel
theorem dX12_sumAt_8 : decode cX12_sumAt 8 = .ok (.iload 7, 2) := by decide +kernel
theorem dX12_sumAt_10 : decode cX12_sumAt 10 = .ok (.iload_n 3, 1) := by decide +kernel
theorem dX12_sumAt_11 : decode cX12_sumAt 11 = .ok (.if_icmp .ge 21, 3) := by decide +kernel
theorem dX12_sumAt_14 : decode cX12_sumAt 14 = .ok (.lload 5, 2) := by decide +kernel
theorem dX12_sumAt_16 : decode cX12_sumAt 16 = .ok (.aload_n 0, 1) := by decide +kernel
theorem dX12_sumAt_17 : decode cX12_sumAt 17 = .ok (.iload 7, 2) := by decide +kernel
theorem dX12_sumAt_19 : decode cX12_sumAt 19 = .ok (.invokevirtual 412, 3) := by decide +kernel
theorem dX12_sumAt_22 : decode cX12_sumAt 22 = .ok (.i2l, 1) := by decide +kernel
theorem dX12_sumAt_23 : decode cX12_sumAt 23 = .ok (.ladd, 1) := by decide +kernel
theorem dX12_sumAt_24 : decode cX12_sumAt 24 = .ok (.lstore 5, 2) := by decide +kernel
theorem dX12_sumAt_26 : decode cX12_sumAt 26 = .ok (.iinc 7 2, 3) := by decide +kernel
theorem dX12_sumAt_29 : decode cX12_sumAt 29 = .ok (.goto (-21), 3) := by decide +kernel
theorem dX12_sumAt_32 : decode cX12_sumAt 32 = .ok (.lload 5, 2) := by decide +kernel
theorem dX12_sumAt_34 : decode cX12_sumAt 34 = .ok (.ldc2_w 27, 3) := by decide +kernel
theorem dX12_sumAt_37 : decode cX12_sumAt 37 = .ok (.lcmp, 1) := by decide +kernel
theorem dX12_sumAt_38 : decode cX12_sumAt 38 = .ok (.ifCond .le 20, 3) := by decide +kernel
theorem dX12_sumAt_41 : decode cX12_sumAt 41 = .ok (.lload 5, 2) := by decide +kernel
theorem dX12_sumAt_43 : decode cX12_sumAt 43 = .ok (.ldc2_w 27, 3) := by decide +kernel
theorem dX12_sumAt_46 : decode cX12_sumAt 46 = .ok (.land, 1) := by decide +kernel
theorem dX12_sumAt_47 : decode cX12_sumAt 47 = .ok (.lload 5, 2) := by decide +kernel
theorem dX12_sumAt_49 : decode cX12_sumAt 49 = .ok (.bipush 16, 2) := by decide +kernel
theorem dX12_sumAt_51 : decode cX12_sumAt 51 = .ok (.lshr, 1) := by decide +kernel
theorem dX12_sumAt_52 : decode cX12_sumAt 52 = .ok (.ladd, 1) := by decide +kernel
theorem dX12_sumAt_53 : decode cX12_sumAt 53 = .ok (.lstore 5, 2) := by decide +kernel
theorem dX12_sumAt_55 : decode cX12_sumAt 55 = .ok (.goto (-23), 3) := by decide +kernel
theorem dX12_sumAt_58 : decode cX12_sumAt 58 = .ok (.ldc 253, 2) := by decide +kernel
theorem dX12_sumAt_60 : decode cX12_sumAt 60 = .ok (.lload 5, 2) := by decide +kernel
theorem dX12_sumAt_62 : decode cX12_sumAt 62 = .ok (.l2i, 1) := by decide +kernel
theorem dX12_sumAt_63 : decode cX12_sumAt 63 = .ok (.isub, 1) := by decide +kernel
theorem dX12_sumAt_64 : decode cX12_sumAt 64 = .ok (.istore 7, 2) := by decide +kernel
theorem dX12_sumAt_66 : decode cX12_sumAt 66 = .ok (.aload_n 0, 1) := by decide +kernel
theorem dX12_sumAt_67 : decode cX12_sumAt 67 = .ok (.getfield 93, 3) := by decide +kernel
theorem dX12_sumAt_70 : decode cX12_sumAt 70 = .ok (.iconst 1, 1) := by decide +kernel
theorem dX12_sumAt_71 : decode cX12_sumAt 71 = .ok (.iaload, 1) := by decide +kernel
theorem dX12_sumAt_72 : decode cX12_sumAt 72 = .ok (.bipush 17, 2) := by decide +kernel
theorem dX12_sumAt_74 : decode cX12_sumAt 74 = .ok (.if_icmp .ne 18, 3) := by decide +kernel
theorem dX12_sumAt_77 : decode cX12_sumAt 77 = .ok (.iload_n 1, 1) := by decide +kernel
theorem dX12_sumAt_78 : decode cX12_sumAt 78 = .ok (.bipush 20, 2) := by decide +kernel
theorem dX12_sumAt_80 : decode cX12_sumAt 80 = .ok (.if_icmp .le 12, 3) := by decide +kernel
theorem dX12_sumAt_83 : decode cX12_sumAt 83 = .ok (.iload 7, 2) := by decide +kernel
theorem dX12_sumAt_85 : decode cX12_sumAt 85 = .ok (.ifCond .ne 7, 3) := by decide +kernel
theorem dX12_sumAt_88 : decode cX12_sumAt 88 = .ok (.ldc 253, 2) := by decide +kernel
theorem dX12_sumAt_90 : decode cX12_sumAt 90 = .ok (.istore 7, 2) := by decide +kernel
theorem dX12_sumAt_92 : decode cX12_sumAt 92 = .ok (.aload_n 0, 1) := by decide +kernel
theorem dX12_sumAt_93 : decode cX12_sumAt 93 = .ok (.getfield 68, 3) := by decide +kernel
theorem dX12_sumAt_96 : decode cX12_sumAt 96 = .ok (.iload_n 1, 1) := by decide +kernel
theorem dX12_sumAt_97 : decode cX12_sumAt 97 = .ok (.iload 7, 2) := by decide +kernel
theorem dX12_sumAt_99 : decode cX12_sumAt 99 = .ok (.bipush 8, 2) := by decide +kernel
theorem dX12_sumAt_101 : decode cX12_sumAt 101 = .ok (.ishr, 1) := by decide +kernel
theorem dX12_sumAt_102 : decode cX12_sumAt 102 = .ok (.i2b, 1) := by decide +kernel
theorem dX12_sumAt_103 : decode cX12_sumAt 103 = .ok (.bastore, 1) := by decide +kernel
theorem dX12_sumAt_104 : decode cX12_sumAt 104 = .ok (.aload_n 0, 1) := by decide +kernel
theorem dX12_sumAt_105 : decode cX12_sumAt 105 = .ok (.getfield 68, 3) := by decide +kernel
theorem dX12_sumAt_108 : decode cX12_sumAt 108 = .ok (.iload_n 1, 1) := by decide +kernel
theorem dX12_sumAt_109 : decode cX12_sumAt 109 = .ok (.iconst 1, 1) := by decide +kernel
theorem dX12_sumAt_110 : decode cX12_sumAt 110 = .ok (.iadd, 1) := by decide +kernel
theorem dX12_sumAt_111 : decode cX12_sumAt 111 = .ok (.iload 7, 2) := by decide +kernel
theorem dX12_sumAt_113 : decode cX12_sumAt 113 = .ok (.i2b, 1) := by decide +kernel
theorem dX12_sumAt_114 : decode cX12_sumAt 114 = .ok (.bastore, 1) := by decide +kernel
theorem dX12_sumAt_115 : decode cX12_sumAt 115 = .ok (.return_, 1) := by decide +kernel
theorem e_X12_sumAt_92 {X : gk_X} {F : Nat} {l0 : Nat} {l1 : Int32} {l7 : Int32} {S : gk_S} {r : (Unit × gk_S)} (h0 : f_X12_sumAt_92 F l0 l1 l7 S = some r) : EvW X m_X12_sumAt 2 0 0 92 [some (.ref l0), some (.int l1), none, none, none, none, none, some (.int l7)] [] S (qRU r) := by
  unfold f_X12_sumAt_92 at h0
  refine ev_aload_n (pc := 92) (i := 0) rfl rfl rfl dX12_sumAt_92 ?_
  obtain ⟨g22, h23⟩ := qk_el h0; clear h0
  obtain ⟨b24, e25, h26⟩ := qP_el h23; clear h23
  refine xv_getP (pc := 93) fn_920 (isb_el g22) e25 gw_1160 dX12_sumAt_93 ?_
  refine ev_iload_n (pc := 96) (i := 1) rfl rfl dX12_sumAt_96 ?_
  refine ev_iload (pc := 97) (i := 7) rfl dX12_sumAt_97 ?_
  refine ev_bipush (pc := 99) (v := 8) (by decide) dX12_sumAt_99 ?_
  refine ev_ishr (pc := 101)  dX12_sumAt_101 ?_
  refine ev_i2b (pc := 102)  dX12_sumAt_102 ?_
  obtain ⟨g27, h28⟩ := qk_el h26; clear h26
  obtain ⟨g29, h30⟩ := qk_el h28; clear h28
  obtain ⟨S31, e32, h33⟩ := qv_el h30; clear h30
  refine yv_bast (pc := 103) (isb_el g27) (inb_el g29) e32 dX12_sumAt_103 ?_
  refine ev_aload_n (pc := 104) (i := 0) rfl rfl rfl dX12_sumAt_104 ?_
  obtain ⟨b34, e35, h36⟩ := qP_el h33; clear h33
  refine xv_getP (pc := 105) fn_920 (is_wB (isb_el g22) e32) e35 gw_1160 dX12_sumAt_105 ?_
  refine ev_iload_n (pc := 108) (i := 1) rfl rfl dX12_sumAt_108 ?_
  refine ev_iconst (pc := 109) (v := 1) (by decide) dX12_sumAt_109 ?_
  refine ev_iadd (pc := 110)  dX12_sumAt_110 ?_
  refine ev_iload (pc := 111) (i := 7) rfl dX12_sumAt_111 ?_
  refine ev_i2b (pc := 113)  dX12_sumAt_113 ?_
  obtain ⟨g37, h38⟩ := qk_el h36; clear h36
  obtain ⟨g39, h40⟩ := qk_el h38; clear h38
  obtain ⟨S41, e42, h43⟩ := qv_el h40; clear h40
  refine yv_bast (pc := 114) (isb_el g37) (inb_el g39) e42 dX12_sumAt_114 ?_
  exact ev_return (pc := 115) rfl (qRU_eq h43) dX12_sumAt_115
theorem e_X12_sumAt_32 {X : gk_X} {F : Nat} : ∀ (n : Nat) (l0 : Nat) (l1 : Int32) (l5 : Int64) (S : gk_S) (r : (Unit × gk_S)), f_X12_sumAt_32 F n l0 l1 l5 S = some r → EvW X m_X12_sumAt 2 0 0 32 [some (.ref l0), some (.int l1), none, none, none, some (.long l5), none, none] [] S (qRU r) := by
  intro n
  induction n with
  | zero => intro l0 l1 l5 S r h0; rw [f_X12_sumAt_32] at h0; cases h0
  | succ n ih =>
    intro l0 l1 l5 S r h0; rw [f_X12_sumAt_32] at h0
    refine ev_lload (pc := 32) (i := 5) rfl dX12_sumAt_32 ?_
    refine ev_ldc2 (pc := 34) (v := 65535) gw_1350 dX12_sumAt_34 ?_
    refine ev_lcmp (pc := 37)  dX12_sumAt_37 ?_
    refine ev_if_le (pc := 38) (tgt := 58) (by decide) dX12_sumAt_38 (fun c3 => ?_) (fun c3 => ?_)
    · replace h0 := qi_t h0 (lc_le c3)
      refine ev_ldc (pc := 58) (v := 65535) gw_1435 dX12_sumAt_58 ?_
      refine ev_lload (pc := 60) (i := 5) rfl dX12_sumAt_60 ?_
      refine ev_l2i (pc := 62)  dX12_sumAt_62 ?_
      refine ev_isub (pc := 63)  dX12_sumAt_63 ?_
      obtain ⟨x5, e6, h7⟩ := qv_el h0; clear h0
      refine xv_top e6 ?_
      refine ev_istore (pc := 64) (L' := [some (.ref l0), some (.int l1), none, none, none, some (.long l5), none, some (.int x5)]) (i := 7) (by decide) rfl rfl dX12_sumAt_64 ?_
      refine ev_aload_n (pc := 66) (i := 0) rfl rfl rfl dX12_sumAt_66 ?_
      obtain ⟨g8, h9⟩ := qk_el h7; clear h7
      obtain ⟨b10, e11, h12⟩ := qP_el h9; clear h9
      refine xv_getP (pc := 67) fn_939 (isb_el g8) e11 gw_1179 dX12_sumAt_67 ?_
      refine ev_iconst (pc := 70) (v := 1) (by decide) dX12_sumAt_70 ?_
      obtain ⟨g13, h14⟩ := qk_el h12; clear h12
      obtain ⟨g15, h16⟩ := qk_el h14; clear h14
      obtain ⟨x17, e18, h19⟩ := qv_el h16; clear h16
      refine yv_iald (pc := 71) (isb_el g13) (inb_el g15) e18 dX12_sumAt_71 ?_
      refine ev_bipush (pc := 72) (v := 17) (by decide) dX12_sumAt_72 ?_
      refine ev_ic_ne (pc := 74) (tgt := 92) (by decide) dX12_sumAt_74 (fun c20 => ?_) (fun c20 => ?_)
      · replace h19 := qi_f h19 c20
        exact ev_weak (qL_s (qL_s (qL_n (qL_n (qL_n (qL_n (qL_n (qL_s qL_nil)))))))) (e_X12_sumAt_92 h19)
      · replace h19 := qi_t h19 c20
        refine ev_iload_n (pc := 77) (i := 1) rfl rfl dX12_sumAt_77 ?_
        refine ev_bipush (pc := 78) (v := 20) (by decide) dX12_sumAt_78 ?_
        refine ev_ic_le (pc := 80) (tgt := 92) (by decide) dX12_sumAt_80 (fun c44 => ?_) (fun c44 => ?_)
        · replace h19 := qi_t h19 c44
          exact ev_weak (qL_s (qL_s (qL_n (qL_n (qL_n (qL_n (qL_n (qL_s qL_nil)))))))) (e_X12_sumAt_92 h19)
        · replace h19 := qi_f h19 c44
          refine ev_iload (pc := 83) (i := 7) rfl dX12_sumAt_83 ?_
          refine ev_if_ne (pc := 85) (tgt := 92) (by decide) dX12_sumAt_85 (fun c46 => ?_) (fun c46 => ?_)
          · replace h19 := qi_f h19 c46
            exact ev_weak (qL_s (qL_s (qL_n (qL_n (qL_n (qL_n (qL_n (qL_s qL_nil)))))))) (e_X12_sumAt_92 h19)
          · replace h19 := qi_t h19 c46
            refine ev_ldc (pc := 88) (v := 65535) gw_1435 dX12_sumAt_88 ?_
            refine ev_istore (pc := 90) (L' := [some (.ref l0), some (.int l1), none, none, none, some (.long l5), none, some (.int 65535)]) (i := 7) (by decide) rfl rfl dX12_sumAt_90 ?_
            exact ev_weak (qL_s (qL_s (qL_n (qL_n (qL_n (qL_n (qL_n (qL_s qL_nil)))))))) (e_X12_sumAt_92 h19)
    · replace h0 := qi_f h0 (lc_leN c3)
      refine ev_lload (pc := 41) (i := 5) rfl dX12_sumAt_41 ?_
      refine ev_ldc2 (pc := 43) (v := 65535) gw_1350 dX12_sumAt_43 ?_
      refine ev_land (pc := 46)  dX12_sumAt_46 ?_
      refine ev_lload (pc := 47) (i := 5) rfl dX12_sumAt_47 ?_
      refine ev_bipush (pc := 49) (v := 16) (by decide) dX12_sumAt_49 ?_
      refine ev_lshr (pc := 51)  dX12_sumAt_51 ?_
      refine ev_ladd (pc := 52)  dX12_sumAt_52 ?_
      obtain ⟨x48, e49, h50⟩ := qv_el h0; clear h0
      refine xv_topl e49 ?_
      refine ev_lstore (pc := 53) (L' := [some (.ref l0), some (.int l1), none, none, none, some (.long x48), none, none]) (i := 5) (by decide) rfl rfl dX12_sumAt_53 ?_
      refine ev_goto (pc := 55) (tgt := 32) (by decide) dX12_sumAt_55 ?_
      exact (ev_weak (qL_s (qL_s (qL_n (qL_n (qL_n (qL_s (qL_n (qL_n qL_nil)))))))) (ih _ _ _ _ _ h50))
theorem e_X12_sumAt_8 {X : gk_X} {F : Nat} : ∀ (n : Nat) (l0 : Nat) (l1 : Int32) (l3 : Int32) (l5 : Int64) (l7 : Int32) (S : gk_S) (r : (Unit × gk_S)), f_X12_sumAt_8 F n l0 l1 l3 l5 l7 S = some r → EvW X m_X12_sumAt 2 0 0 8 [some (.ref l0), some (.int l1), none, some (.int l3), none, some (.long l5), none, some (.int l7)] [] S (qRU r) := by
  intro n
  induction n with
  | zero => intro l0 l1 l3 l5 l7 S r h0; rw [f_X12_sumAt_8] at h0; cases h0
  | succ n ih =>
    intro l0 l1 l3 l5 l7 S r h0; rw [f_X12_sumAt_8] at h0
    refine ev_iload (pc := 8) (i := 7) rfl dX12_sumAt_8 ?_
    refine ev_iload_n (pc := 10) (i := 3) rfl rfl dX12_sumAt_10 ?_
    refine ev_ic_ge (pc := 11) (tgt := 32) (by decide) dX12_sumAt_11 (fun c1 => ?_) (fun c1 => ?_)
    · replace h0 := qi_t h0 c1
      exact ev_weak (qL_s (qL_s (qL_n (qL_n (qL_n (qL_s (qL_n (qL_n qL_nil)))))))) (e_X12_sumAt_32 F _ _ _ _ _ h0)
    · replace h0 := qi_f h0 c1
      refine ev_lload (pc := 14) (i := 5) rfl dX12_sumAt_14 ?_
      refine ev_aload_n (pc := 16) (i := 0) rfl rfl rfl dX12_sumAt_16 ?_
      refine ev_iload (pc := 17) (i := 7) rfl dX12_sumAt_17 ?_
      obtain ⟨g51, h52⟩ := qk_el h0; clear h0
      obtain ⟨x53, S54, e55, h56⟩ := qc_el h52; clear h52
      refine xv_callV (pc := 19) (st := [.long l5]) (as := [.int l7]) (v := (some (.int x53))) (S' := S54) ok_X12_outTwo (e_X12_outTwo e55) (isb_el g51) (by decide) rfl (Nat.le_of_ble_eq_true rfl) rfl gw_1618 dX12_sumAt_19 ?_
      refine ev_i2l (pc := 22)  dX12_sumAt_22 ?_
      refine ev_ladd (pc := 23)  dX12_sumAt_23 ?_
      obtain ⟨x57, e58, h59⟩ := qv_el h56; clear h56
      refine xv_topl e58 ?_
      refine ev_lstore (pc := 24) (L' := [some (.ref l0), some (.int l1), none, some (.int l3), none, some (.long x57), none, some (.int l7)]) (i := 5) (by decide) rfl rfl dX12_sumAt_24 ?_
      refine ev_iinc (pc := 26) (L' := [some (.ref l0), some (.int l1), none, some (.int l3), none, some (.long x57), none, some (.int (l7 + 2))]) (i := 7) (v := (l7 + 2)) rfl rfl (by decide) rfl rfl dX12_sumAt_26 ?_
      refine ev_goto (pc := 29) (tgt := 8) (by decide) dX12_sumAt_29 ?_
      exact (ev_weak (qL_s (qL_s (qL_n (qL_s (qL_n (qL_s (qL_n (qL_s qL_nil)))))))) (ih _ _ _ _ _ _ _ h59))
theorem e_X12_sumAt {X : gk_X} {F : Nat} {S : gk_S} {a : Nat} {p0 : Int32} {p1 : Int32} {p2 : Int32} {p3 : Int32} {r : (Unit × gk_S)} (h0 : f_X12_sumAt F S a p0 p1 p2 p3 = some r) : EvM X m_X12_sumAt 2 0 0 [.ref a, .int p0, .int p1, .int p2, .int p3] S (qRU r) := by
  unfold f_X12_sumAt at h0
  refine ev_method (by decide +kernel) rfl rfl (Nat.le_of_ble_eq_true rfl) ?_
  show EvW X m_X12_sumAt 2 0 0 0 [some (.ref a), some (.int p0), some (.int p1), some (.int p2), some (.int p3), none, none, none] [] S _
  refine ev_iload (pc := 0) (i := 4) rfl dX12_sumAt_0 ?_
  refine ev_i2l (pc := 2)  dX12_sumAt_2 ?_
  refine ev_lstore (pc := 3) (L' := [some (.ref a), some (.int p0), some (.int p1), some (.int p2), some (.int p3), some (.long ((p3 : Int32).toInt64)), none, none]) (i := 5) (by decide) rfl rfl dX12_sumAt_3 ?_
  refine ev_iload_n (pc := 5) (i := 2) rfl rfl dX12_sumAt_5 ?_
  refine ev_istore (pc := 6) (L' := [some (.ref a), some (.int p0), some (.int p1), some (.int p2), some (.int p3), some (.long ((p3 : Int32).toInt64)), none, some (.int p1)]) (i := 7) (by decide) rfl rfl dX12_sumAt_6 ?_
  exact ev_weak (qL_s (qL_s (qL_n (qL_s (qL_n (qL_s (qL_n (qL_s qL_nil)))))))) (e_X12_sumAt_8 F _ _ _ _ _ _ _ h0)
theorem dX12_pack_0 : decode cX12_pack 0 = .ok (.aload_n 0, 1) := by decide +kernel
theorem dX12_pack_1 : decode cX12_pack 1 = .ok (.aload_n 0, 1) := by decide +kernel
theorem dX12_pack_2 : decode cX12_pack 2 = .ok (.getfield 363, 3) := by decide +kernel
theorem dX12_pack_5 : decode cX12_pack 5 = .ok (.ifCond .ne 7, 3) := by decide +kernel
theorem dX12_pack_8 : decode cX12_pack 8 = .ok (.iconst 1, 1) := by decide +kernel
theorem dX12_pack_9 : decode cX12_pack 9 = .ok (.goto 4, 3) := by decide +kernel
theorem dX12_pack_12 : decode cX12_pack 12 = .ok (.iconst 0, 1) := by decide +kernel
theorem dX12_pack_13 : decode cX12_pack 13 = .ok (.iconst 1, 1) := by decide +kernel
theorem dX12_pack_14 : decode cX12_pack 14 = .ok (.invokevirtual 176, 3) := by decide +kernel
theorem dX12_pack_17 : decode cX12_pack 17 = .ok (.ifCond .eq 5, 3) := by decide +kernel
theorem dX12_pack_20 : decode cX12_pack 20 = .ok (.iconst 0, 1) := by decide +kernel
theorem dX12_pack_21 : decode cX12_pack 21 = .ok (.ireturn, 1) := by decide +kernel
theorem dX12_pack_22 : decode cX12_pack 22 = .ok (.aload_n 0, 1) := by decide +kernel
theorem dX12_pack_23 : decode cX12_pack 23 = .ok (.iconst 0, 1) := by decide +kernel
theorem dX12_pack_24 : decode cX12_pack 24 = .ok (.putfield 225, 3) := by decide +kernel
theorem dX12_pack_27 : decode cX12_pack 27 = .ok (.aload_n 0, 1) := by decide +kernel
theorem dX12_pack_28 : decode cX12_pack 28 = .ok (.getfield 93, 3) := by decide +kernel
theorem dX12_pack_31 : decode cX12_pack 31 = .ok (.iconst 1, 1) := by decide +kernel
theorem dX12_pack_32 : decode cX12_pack 32 = .ok (.iaload, 1) := by decide +kernel
theorem dX12_pack_33 : decode cX12_pack 33 = .ok (.istore_n 1, 1) := by decide +kernel
theorem dX12_pack_34 : decode cX12_pack 34 = .ok (.iload_n 1, 1) := by decide +kernel
theorem dX12_pack_35 : decode cX12_pack 35 = .ok (.bipush 6, 2) := by decide +kernel
theorem dX12_pack_37 : decode cX12_pack 37 = .ok (.if_icmp .ne 8, 3) := by decide +kernel
theorem dX12_pack_40 : decode cX12_pack 40 = .ok (.bipush 20, 2) := by decide +kernel
theorem dX12_pack_42 : decode cX12_pack 42 = .ok (.goto 20, 3) := by decide +kernel
theorem dX12_pack_45 : decode cX12_pack 45 = .ok (.iload_n 1, 1) := by decide +kernel
theorem dX12_pack_46 : decode cX12_pack 46 = .ok (.bipush 17, 2) := by decide +kernel
theorem dX12_pack_48 : decode cX12_pack 48 = .ok (.if_icmp .eq 8, 3) := by decide +kernel
theorem dX12_pack_51 : decode cX12_pack 51 = .ok (.iload_n 1, 1) := by decide +kernel
theorem dX12_pack_52 : decode cX12_pack 52 = .ok (.iconst 1, 1) := by decide +kernel
theorem dX12_pack_53 : decode cX12_pack 53 = .ok (.if_icmp .ne 8, 3) := by decide +kernel
theorem dX12_pack_56 : decode cX12_pack 56 = .ok (.bipush 8, 2) := by decide +kernel
theorem dX12_pack_58 : decode cX12_pack 58 = .ok (.goto 4, 3) := by decide +kernel
theorem dX12_pack_61 : decode cX12_pack 61 = .ok (.iconst 0, 1) := by decide +kernel
theorem dX12_pack_62 : decode cX12_pack 62 = .ok (.istore_n 2, 1) := by decide +kernel
theorem dX12_pack_63 : decode cX12_pack 63 = .ok (.aload_n 0, 1) := by decide +kernel
theorem dX12_pack_64 : decode cX12_pack 64 = .ok (.bipush 69, 2) := by decide +kernel
theorem dX12_pack_66 : decode cX12_pack 66 = .ok (.invokevirtual 228, 3) := by decide +kernel
theorem dX12_pack_69 : decode cX12_pack 69 = .ok (.aload_n 0, 1) := by decide +kernel
theorem dX12_pack_70 : decode cX12_pack 70 = .ok (.iconst 0, 1) := by decide +kernel
theorem dX12_pack_71 : decode cX12_pack 71 = .ok (.invokevirtual 228, 3) := by decide +kernel
theorem dX12_pack_74 : decode cX12_pack 74 = .ok (.aload_n 0, 1) := by decide +kernel
theorem dX12_pack_75 : decode cX12_pack 75 = .ok (.bipush 20, 2) := by decide +kernel
theorem dX12_pack_77 : decode cX12_pack 77 = .ok (.iload_n 2, 1) := by decide +kernel
theorem dX12_pack_78 : decode cX12_pack 78 = .ok (.iadd, 1) := by decide +kernel
theorem dX12_pack_79 : decode cX12_pack 79 = .ok (.invokevirtual 415, 3) := by decide +kernel
theorem dX12_pack_82 : decode cX12_pack 82 = .ok (.aload_n 0, 1) := by decide +kernel
theorem dX12_pack_83 : decode cX12_pack 83 = .ok (.iconst 0, 1) := by decide +kernel
theorem dX12_pack_84 : decode cX12_pack 84 = .ok (.invokevirtual 415, 3) := by decide +kernel
theorem dX12_pack_87 : decode cX12_pack 87 = .ok (.aload_n 0, 1) := by decide +kernel
theorem dX12_pack_88 : decode cX12_pack 88 = .ok (.iconst 0, 1) := by decide +kernel
theorem dX12_pack_89 : decode cX12_pack 89 = .ok (.invokevirtual 415, 3) := by decide +kernel
theorem dX12_pack_92 : decode cX12_pack 92 = .ok (.aload_n 0, 1) := by decide +kernel
theorem dX12_pack_93 : decode cX12_pack 93 = .ok (.bipush 64, 2) := by decide +kernel
theorem dX12_pack_95 : decode cX12_pack 95 = .ok (.invokevirtual 228, 3) := by decide +kernel
theorem dX12_pack_98 : decode cX12_pack 98 = .ok (.aload_n 0, 1) := by decide +kernel
theorem dX12_pack_99 : decode cX12_pack 99 = .ok (.iload_n 1, 1) := by decide +kernel
theorem dX12_pack_100 : decode cX12_pack 100 = .ok (.invokevirtual 228, 3) := by decide +kernel
theorem dX12_pack_103 : decode cX12_pack 103 = .ok (.aload_n 0, 1) := by decide +kernel
theorem dX12_pack_104 : decode cX12_pack 104 = .ok (.iconst 0, 1) := by decide +kernel
theorem dX12_pack_105 : decode cX12_pack 105 = .ok (.invokevirtual 415, 3) := by decide +kernel
theorem dX12_pack_108 : decode cX12_pack 108 = .ok (.iconst 2, 1) := by decide +kernel
theorem dX12_pack_109 : decode cX12_pack 109 = .ok (.istore_n 3, 1) := by decide +kernel
theorem dX12_pack_110 : decode cX12_pack 110 = .ok (.iload_n 3, 1) := by decide +kernel
theorem dX12_pack_111 : decode cX12_pack 111 = .ok (.iconst 4, 1) := by decide +kernel
theorem dX12_pack_112 : decode cX12_pack 112 = .ok (.if_icmp .ge 32, 3) := by decide +kernel
theorem dX12_pack_115 : decode cX12_pack 115 = .ok (.aload_n 0, 1) := by decide +kernel
theorem dX12_pack_116 : decode cX12_pack 116 = .ok (.aload_n 0, 1) := by decide +kernel
theorem dX12_pack_117 : decode cX12_pack 117 = .ok (.getfield 93, 3) := by decide +kernel
theorem dX12_pack_120 : decode cX12_pack 120 = .ok (.iload_n 3, 1) := by decide +kernel
theorem dX12_pack_121 : decode cX12_pack 121 = .ok (.iaload, 1) := by decide +kernel
theorem dX12_pack_122 : decode cX12_pack 122 = .ok (.bipush 16, 2) := by decide +kernel
theorem dX12_pack_124 : decode cX12_pack 124 = .ok (.ishr, 1) := by decide +kernel
theorem dX12_pack_125 : decode cX12_pack 125 = .ok (.invokevirtual 415, 3) := by decide +kernel
theorem dX12_pack_128 : decode cX12_pack 128 = .ok (.aload_n 0, 1) := by decide +kernel
theorem dX12_pack_129 : decode cX12_pack 129 = .ok (.aload_n 0, 1) := by decide +kernel
theorem dX12_pack_130 : decode cX12_pack 130 = .ok (.getfield 93, 3) := by decide +kernel
theorem dX12_pack_133 : decode cX12_pack 133 = .ok (.iload_n 3, 1) := by decide +kernel
theorem dX12_pack_134 : decode cX12_pack 134 = .ok (.iaload, 1) := by decide +kernel
theorem dX12_pack_135 : decode cX12_pack 135 = .ok (.invokevirtual 415, 3) := by decide +kernel
theorem dX12_pack_138 : decode cX12_pack 138 = .ok (.iinc 3 1, 3) := by decide +kernel
theorem dX12_pack_141 : decode cX12_pack 141 = .ok (.goto (-31), 3) := by decide +kernel
theorem dX12_pack_144 : decode cX12_pack 144 = .ok (.iload_n 1, 1) := by decide +kernel
theorem dX12_pack_145 : decode cX12_pack 145 = .ok (.bipush 6, 2) := by decide +kernel
theorem dX12_pack_147 : decode cX12_pack 147 = .ok (.if_icmp .eq 9, 3) := by decide +kernel
theorem dX12_pack_150 : decode cX12_pack 150 = .ok (.iload_n 1, 1) := by decide +kernel
theorem dX12_pack_151 : decode cX12_pack 151 = .ok (.bipush 17, 2) := by decide +kernel
theorem dX12_pack_153 : decode cX12_pack 153 = .ok (.if_icmp .ne 23, 3) := by decide +kernel
theorem dX12_pack_156 : decode cX12_pack 156 = .ok (.aload_n 0, 1) := by decide +kernel
theorem dX12_pack_157 : decode cX12_pack 157 = .ok (.aload_n 0, 1) := by decide +kernel
theorem dX12_pack_158 : decode cX12_pack 158 = .ok (.getfield 93, 3) := by decide +kernel
theorem dX12_pack_161 : decode cX12_pack 161 = .ok (.iconst 4, 1) := by decide +kernel
theorem dX12_pack_162 : decode cX12_pack 162 = .ok (.iaload, 1) := by decide +kernel
theorem dX12_pack_163 : decode cX12_pack 163 = .ok (.invokevirtual 415, 3) := by decide +kernel
theorem dX12_pack_166 : decode cX12_pack 166 = .ok (.aload_n 0, 1) := by decide +kernel
theorem dX12_pack_167 : decode cX12_pack 167 = .ok (.aload_n 0, 1) := by decide +kernel
theorem dX12_pack_168 : decode cX12_pack 168 = .ok (.getfield 93, 3) := by decide +kernel
theorem dX12_pack_171 : decode cX12_pack 171 = .ok (.iconst 5, 1) := by decide +kernel
theorem dX12_pack_172 : decode cX12_pack 172 = .ok (.iaload, 1) := by decide +kernel
theorem dX12_pack_173 : decode cX12_pack 173 = .ok (.invokevirtual 415, 3) := by decide +kernel
theorem dX12_pack_176 : decode cX12_pack 176 = .ok (.iload_n 1, 1) := by decide +kernel
theorem dX12_pack_177 : decode cX12_pack 177 = .ok (.bipush 17, 2) := by decide +kernel
theorem dX12_pack_179 : decode cX12_pack 179 = .ok (.if_icmp .ne 14, 3) := by decide +kernel
theorem dX12_pack_182 : decode cX12_pack 182 = .ok (.aload_n 0, 1) := by decide +kernel
theorem dX12_pack_183 : decode cX12_pack 183 = .ok (.bipush 8, 2) := by decide +kernel
theorem dX12_pack_185 : decode cX12_pack 185 = .ok (.invokevirtual 415, 3) := by decide +kernel
theorem dX12_pack_188 : decode cX12_pack 188 = .ok (.aload_n 0, 1) := by decide +kernel
theorem dX12_pack_189 : decode cX12_pack 189 = .ok (.iconst 0, 1) := by decide +kernel
theorem dX12_pack_190 : decode cX12_pack 190 = .ok (.invokevirtual 415, 3) := by decide +kernel
theorem dX12_pack_193 : decode cX12_pack 193 = .ok (.iload_n 1, 1) := by decide +kernel
theorem dX12_pack_194 : decode cX12_pack 194 = .ok (.bipush 6, 2) := by decide +kernel
theorem dX12_pack_196 : decode cX12_pack 196 = .ok (.if_icmp .ne 56, 3) := by decide +kernel
theorem dX12_pack_199 : decode cX12_pack 199 = .ok (.iconst 0, 1) := by decide +kernel
theorem dX12_pack_200 : decode cX12_pack 200 = .ok (.istore_n 3, 1) := by decide +kernel
theorem dX12_pack_201 : decode cX12_pack 201 = .ok (.iload_n 3, 1) := by decide +kernel
theorem dX12_pack_202 : decode cX12_pack 202 = .ok (.iconst 4, 1) := by decide +kernel
theorem dX12_pack_203 : decode cX12_pack 203 = .ok (.if_icmp .ge 14, 3) := by decide +kernel
theorem dX12_pack_206 : decode cX12_pack 206 = .ok (.aload_n 0, 1) := by decide +kernel
theorem dX12_pack_207 : decode cX12_pack 207 = .ok (.iconst 0, 1) := by decide +kernel
theorem dX12_pack_208 : decode cX12_pack 208 = .ok (.invokevirtual 415, 3) := by decide +kernel
theorem dX12_pack_211 : decode cX12_pack 211 = .ok (.iinc 3 1, 3) := by decide +kernel
theorem dX12_pack_214 : decode cX12_pack 214 = .ok (.goto (-13), 3) := by decide +kernel
theorem dX12_pack_217 : decode cX12_pack 217 = .ok (.aload_n 0, 1) := by decide +kernel
theorem dX12_pack_218 : decode cX12_pack 218 = .ok (.bipush 80, 2) := by decide +kernel
theorem dX12_pack_220 : decode cX12_pack 220 = .ok (.invokevirtual 228, 3) := by decide +kernel
theorem dX12_pack_223 : decode cX12_pack 223 = .ok (.aload_n 0, 1) := by decide +kernel
theorem dX12_pack_224 : decode cX12_pack 224 = .ok (.aload_n 0, 1) := by decide +kernel
theorem dX12_pack_225 : decode cX12_pack 225 = .ok (.getfield 93, 3) := by decide +kernel
theorem dX12_pack_228 : decode cX12_pack 228 = .ok (.bipush 6, 2) := by decide +kernel
theorem dX12_pack_230 : decode cX12_pack 230 = .ok (.iaload, 1) := by decide +kernel
theorem dX12_pack_231 : decode cX12_pack 231 = .ok (.invokevirtual 228, 3) := by decide +kernel
theorem dX12_pack_234 : decode cX12_pack 234 = .ok (.iconst 0, 1) := by decide +kernel
theorem dX12_pack_235 : decode cX12_pack 235 = .ok (.istore_n 3, 1) := by decide +kernel
theorem dX12_pack_236 : decode cX12_pack 236 = .ok (.iload_n 3, 1) := by decide +kernel
theorem dX12_pack_237 : decode cX12_pack 237 = .ok (.iconst 3, 1) := by decide +kernel
theorem dX12_pack_238 : decode cX12_pack 238 = .ok (.if_icmp .ge 14, 3) := by decide +kernel
theorem dX12_pack_241 : decode cX12_pack 241 = .ok (.aload_n 0, 1) := by decide +kernel
theorem dX12_pack_242 : decode cX12_pack 242 = .ok (.iconst 0, 1) := by decide +kernel
theorem dX12_pack_243 : decode cX12_pack 243 = .ok (.invokevirtual 415, 3) := by decide +kernel
theorem dX12_pack_246 : decode cX12_pack 246 = .ok (.iinc 3 1, 3) := by decide +kernel
theorem dX12_pack_249 : decode cX12_pack 249 = .ok (.goto (-13), 3) := by decide +kernel
theorem dX12_pack_252 : decode cX12_pack 252 = .ok (.iload_n 1, 1) := by decide +kernel
theorem dX12_pack_253 : decode cX12_pack 253 = .ok (.iconst 1, 1) := by decide +kernel
theorem dX12_pack_254 : decode cX12_pack 254 = .ok (.if_icmp .ne 65, 3) := by decide +kernel
theorem dX12_pack_257 : decode cX12_pack 257 = .ok (.aload_n 0, 1) := by decide +kernel
theorem dX12_pack_258 : decode cX12_pack 258 = .ok (.aload_n 0, 1) := by decide +kernel
theorem dX12_pack_259 : decode cX12_pack 259 = .ok (.getfield 93, 3) := by decide +kernel
theorem dX12_pack_262 : decode cX12_pack 262 = .ok (.iconst 4, 1) := by decide +kernel
theorem dX12_pack_263 : decode cX12_pack 263 = .ok (.iaload, 1) := by decide +kernel
theorem dX12_pack_264 : decode cX12_pack 264 = .ok (.invokevirtual 415, 3) := by decide +kernel
theorem dX12_pack_267 : decode cX12_pack 267 = .ok (.aload_n 0, 1) := by decide +kernel
theorem dX12_pack_268 : decode cX12_pack 268 = .ok (.iconst 0, 1) := by decide +kernel
theorem dX12_pack_269 : decode cX12_pack 269 = .ok (.invokevirtual 415, 3) := by decide +kernel
theorem dX12_pack_272 : decode cX12_pack 272 = .ok (.aload_n 0, 1) := by decide +kernel
theorem dX12_pack_273 : decode cX12_pack 273 = .ok (.aload_n 0, 1) := by decide +kernel
theorem dX12_pack_274 : decode cX12_pack 274 = .ok (.getfield 93, 3) := by decide +kernel
theorem dX12_pack_277 : decode cX12_pack 277 = .ok (.iconst 4, 1) := by decide +kernel
theorem dX12_pack_278 : decode cX12_pack 278 = .ok (.iaload, 1) := by decide +kernel
theorem dX12_pack_279 : decode cX12_pack 279 = .ok (.sipush 256, 3) := by decide +kernel
theorem dX12_pack_282 : decode cX12_pack 282 = .ok (.idiv, 1) := by decide +kernel
theorem dX12_pack_283 : decode cX12_pack 283 = .ok (.ifCond .eq 18, 3) := by decide +kernel
theorem dX12_pack_286 : decode cX12_pack 286 = .ok (.aload_n 0, 1) := by decide +kernel
theorem dX12_pack_287 : decode cX12_pack 287 = .ok (.getfield 93, 3) := by decide +kernel
theorem dX12_pack_290 : decode cX12_pack 290 = .ok (.iconst 4, 1) := by decide +kernel
theorem dX12_pack_291 : decode cX12_pack 291 = .ok (.iaload, 1) := by decide +kernel
theorem dX12_pack_292 : decode cX12_pack 292 = .ok (.sipush 256, 3) := by decide +kernel
theorem dX12_pack_295 : decode cX12_pack 295 = .ok (.idiv, 1) := by decide +kernel
theorem dX12_pack_296 : decode cX12_pack 296 = .ok (.bipush 8, 2) := by decide +kernel
theorem dX12_pack_298 : decode cX12_pack 298 = .ok (.if_icmp .ne 12, 3) := by decide +kernel
theorem dX12_pack_301 : decode cX12_pack 301 = .ok (.aload_n 0, 1) := by decide +kernel
theorem dX12_pack_302 : decode cX12_pack 302 = .ok (.getfield 93, 3) := by decide +kernel
theorem dX12_pack_305 : decode cX12_pack 305 = .ok (.iconst 5, 1) := by decide +kernel
theorem dX12_pack_306 : decode cX12_pack 306 = .ok (.iaload, 1) := by decide +kernel
theorem dX12_pack_307 : decode cX12_pack 307 = .ok (.goto 4, 3) := by decide +kernel
theorem dX12_pack_310 : decode cX12_pack 310 = .ok (.iconst 0, 1) := by decide +kernel
theorem dX12_pack_311 : decode cX12_pack 311 = .ok (.invokevirtual 415, 3) := by decide +kernel
theorem dX12_pack_314 : decode cX12_pack 314 = .ok (.aload_n 0, 1) := by decide +kernel
theorem dX12_pack_315 : decode cX12_pack 315 = .ok (.iconst 0, 1) := by decide +kernel
theorem dX12_pack_316 : decode cX12_pack 316 = .ok (.invokevirtual 415, 3) := by decide +kernel
theorem dX12_pack_319 : decode cX12_pack 319 = .ok (.aload_n 0, 1) := by decide +kernel
theorem dX12_pack_320 : decode cX12_pack 320 = .ok (.bipush 10, 2) := by decide +kernel
theorem dX12_pack_322 : decode cX12_pack 322 = .ok (.iconst 0, 1) := by decide +kernel
theorem dX12_pack_323 : decode cX12_pack 323 = .ok (.bipush 20, 2) := by decide +kernel
theorem dX12_pack_325 : decode cX12_pack 325 = .ok (.iconst 0, 1) := by decide +kernel
theorem dX12_pack_326 : decode cX12_pack 326 = .ok (.invokevirtual 418, 3) := by decide +kernel
theorem dX12_pack_329 : decode cX12_pack 329 = .ok (.aload_n 0, 1) := by decide +kernel
theorem dX12_pack_330 : decode cX12_pack 330 = .ok (.bipush 12, 2) := by decide +kernel
theorem dX12_pack_332 : decode cX12_pack 332 = .ok (.invokevirtual 412, 3) := by decide +kernel
theorem dX12_pack_335 : decode cX12_pack 335 = .ok (.aload_n 0, 1) := by decide +kernel
theorem dX12_pack_336 : decode cX12_pack 336 = .ok (.bipush 14, 2) := by decide +kernel
theorem dX12_pack_338 : decode cX12_pack 338 = .ok (.invokevirtual 412, 3) := by decide +kernel
theorem dX12_pack_341 : decode cX12_pack 341 = .ok (.iadd, 1) := by decide +kernel
theorem dX12_pack_342 : decode cX12_pack 342 = .ok (.aload_n 0, 1) := by decide +kernel
theorem dX12_pack_343 : decode cX12_pack 343 = .ok (.bipush 16, 2) := by decide +kernel
theorem dX12_pack_345 : decode cX12_pack 345 = .ok (.invokevirtual 412, 3) := by decide +kernel
theorem dX12_pack_348 : decode cX12_pack 348 = .ok (.iadd, 1) := by decide +kernel
theorem dX12_pack_349 : decode cX12_pack 349 = .ok (.aload_n 0, 1) := by decide +kernel
theorem dX12_pack_350 : decode cX12_pack 350 = .ok (.bipush 18, 2) := by decide +kernel
theorem dX12_pack_352 : decode cX12_pack 352 = .ok (.invokevirtual 412, 3) := by decide +kernel
theorem dX12_pack_355 : decode cX12_pack 355 = .ok (.iadd, 1) := by decide +kernel
theorem dX12_pack_356 : decode cX12_pack 356 = .ok (.iload_n 1, 1) := by decide +kernel
theorem dX12_pack_357 : decode cX12_pack 357 = .ok (.iadd, 1) := by decide +kernel
theorem dX12_pack_358 : decode cX12_pack 358 = .ok (.iload_n 2, 1) := by decide +kernel
theorem dX12_pack_359 : decode cX12_pack 359 = .ok (.iadd, 1) := by decide +kernel
theorem dX12_pack_360 : decode cX12_pack 360 = .ok (.istore_n 3, 1) := by decide +kernel
theorem dX12_pack_361 : decode cX12_pack 361 = .ok (.iload_n 1, 1) := by decide +kernel
theorem dX12_pack_362 : decode cX12_pack 362 = .ok (.bipush 6, 2) := by decide +kernel
theorem dX12_pack_364 : decode cX12_pack 364 = .ok (.if_icmp .ne 14, 3) := by decide +kernel
theorem dX12_pack_367 : decode cX12_pack 367 = .ok (.aload_n 0, 1) := by decide +kernel
theorem dX12_pack_368 : decode cX12_pack 368 = .ok (.bipush 36, 2) := by decide +kernel
theorem dX12_pack_370 : decode cX12_pack 370 = .ok (.bipush 20, 2) := by decide +kernel
theorem dX12_pack_372 : decode cX12_pack 372 = .ok (.bipush 40, 2) := by decide +kernel
theorem dX12_pack_374 : decode cX12_pack 374 = .ok (.iload_n 3, 1) := by decide +kernel
theorem dX12_pack_375 : decode cX12_pack 375 = .ok (.invokevirtual 418, 3) := by decide +kernel
theorem dX12_pack_378 : decode cX12_pack 378 = .ok (.iload_n 1, 1) := by decide +kernel
theorem dX12_pack_379 : decode cX12_pack 379 = .ok (.bipush 17, 2) := by decide +kernel
theorem dX12_pack_381 : decode cX12_pack 381 = .ok (.if_icmp .ne 14, 3) := by decide +kernel
theorem dX12_pack_384 : decode cX12_pack 384 = .ok (.aload_n 0, 1) := by decide +kernel
theorem dX12_pack_385 : decode cX12_pack 385 = .ok (.bipush 26, 2) := by decide +kernel
theorem dX12_pack_387 : decode cX12_pack 387 = .ok (.bipush 20, 2) := by decide +kernel
theorem dX12_pack_389 : decode cX12_pack 389 = .ok (.bipush 28, 2) := by decide +kernel
theorem dX12_pack_391 : decode cX12_pack 391 = .ok (.iload_n 3, 1) := by decide +kernel
theorem dX12_pack_392 : decode cX12_pack 392 = .ok (.invokevirtual 418, 3) := by decide +kernel
theorem dX12_pack_395 : decode cX12_pack 395 = .ok (.iload_n 1, 1) := by decide +kernel
theorem dX12_pack_396 : decode cX12_pack 396 = .ok (.iconst 1, 1) := by decide +kernel
theorem dX12_pack_397 : decode cX12_pack 397 = .ok (.if_icmp .ne 14, 3) := by decide +kernel
theorem dX12_pack_400 : decode cX12_pack 400 = .ok (.aload_n 0, 1) := by decide +kernel
theorem dX12_pack_401 : decode cX12_pack 401 = .ok (.bipush 22, 2) := by decide +kernel
theorem dX12_pack_403 : decode cX12_pack 403 = .ok (.bipush 20, 2) := by decide +kernel
theorem dX12_pack_405 : decode cX12_pack 405 = .ok (.bipush 28, 2) := by decide +kernel
theorem dX12_pack_407 : decode cX12_pack 407 = .ok (.iconst 0, 1) := by decide +kernel
theorem dX12_pack_408 : decode cX12_pack 408 = .ok (.invokevirtual 418, 3) := by decide +kernel
theorem dX12_pack_411 : decode cX12_pack 411 = .ok (.aload_n 0, 1) := by decide +kernel
theorem dX12_pack_412 : decode cX12_pack 412 = .ok (.getfield 225, 3) := by decide +kernel
theorem dX12_pack_415 : decode cX12_pack 415 = .ok (.ireturn, 1) := by decide +kernel
theorem e_X12_pack_395 {X : gk_X} {F : Nat} {l0 : Nat} {l1 : Int32} {S : gk_S} {r : (Int32 × gk_S)} (h0 : f_X12_pack_395 F l0 l1 S = some r) : EvW X m_X12_pack 3 0 0 395 [some (.ref l0), some (.int l1), none, none] [] S (qRI r) := by
  unfold f_X12_pack_395 at h0
  refine ev_iload_n (pc := 395) (i := 1) rfl rfl dX12_pack_395 ?_
  refine ev_iconst (pc := 396) (v := 1) (by decide) dX12_pack_396 ?_
  refine ev_ic_ne (pc := 397) (tgt := 411) (by decide) dX12_pack_397 (fun c162 => ?_) (fun c162 => ?_)
  · replace h0 := qi_f h0 c162
    refine ev_aload_n (pc := 411) (i := 0) rfl rfl rfl dX12_pack_411 ?_
    obtain ⟨g164, h165⟩ := qk_el h0; clear h0
    obtain ⟨x166, e167, h168⟩ := qv_el h165; clear h165
    refine xv_getIv (pc := 412) fn_921 (isb_el g164) e167 gw_1161 dX12_pack_412 ?_
    exact ev_ireturn (pc := 415) rfl (nar_int _) (qRI_eq h168) dX12_pack_415
  · replace h0 := qi_t h0 c162
    refine ev_aload_n (pc := 400) (i := 0) rfl rfl rfl dX12_pack_400 ?_
    refine ev_bipush (pc := 401) (v := 22) (by decide) dX12_pack_401 ?_
    refine ev_bipush (pc := 403) (v := 20) (by decide) dX12_pack_403 ?_
    refine ev_bipush (pc := 405) (v := 28) (by decide) dX12_pack_405 ?_
    refine ev_iconst (pc := 407) (v := 0) (by decide) dX12_pack_407 ?_
    obtain ⟨g169, h170⟩ := qk_el h0; clear h0
    obtain ⟨x171, S172, e173, h174⟩ := qc_el h170; clear h170
    refine xv_callV (pc := 408) (st := []) (as := [.int 22, .int 20, .int 28, .int 0]) (v := none) (S' := S172) ok_X12_sumAt (e_X12_sumAt e173) (isb_el g169) (by decide) rfl (Nat.le_of_ble_eq_true rfl) rfl gw_1614 dX12_pack_408 ?_
    refine ev_aload_n (pc := 411) (i := 0) rfl rfl rfl dX12_pack_411 ?_
    obtain ⟨g175, h176⟩ := qk_el h174; clear h174
    obtain ⟨x177, e178, h179⟩ := qv_el h176; clear h176
    refine xv_getIv (pc := 412) fn_921 (isb_el g175) e178 gw_1161 dX12_pack_412 ?_
    exact ev_ireturn (pc := 415) rfl (nar_int _) (qRI_eq h179) dX12_pack_415
theorem e_X12_pack_378 {X : gk_X} {F : Nat} {l0 : Nat} {l1 : Int32} {l3 : Int32} {S : gk_S} {r : (Int32 × gk_S)} (h0 : f_X12_pack_378 F l0 l1 l3 S = some r) : EvW X m_X12_pack 3 0 0 378 [some (.ref l0), some (.int l1), none, some (.int l3)] [] S (qRI r) := by
  unfold f_X12_pack_378 at h0
  refine ev_iload_n (pc := 378) (i := 1) rfl rfl dX12_pack_378 ?_
  refine ev_bipush (pc := 379) (v := 17) (by decide) dX12_pack_379 ?_
  refine ev_ic_ne (pc := 381) (tgt := 395) (by decide) dX12_pack_381 (fun c160 => ?_) (fun c160 => ?_)
  · replace h0 := qi_f h0 c160
    exact ev_weak (qL_s (qL_s (qL_n (qL_n qL_nil)))) (e_X12_pack_395 h0)
  · replace h0 := qi_t h0 c160
    refine ev_aload_n (pc := 384) (i := 0) rfl rfl rfl dX12_pack_384 ?_
    refine ev_bipush (pc := 385) (v := 26) (by decide) dX12_pack_385 ?_
    refine ev_bipush (pc := 387) (v := 20) (by decide) dX12_pack_387 ?_
    refine ev_bipush (pc := 389) (v := 28) (by decide) dX12_pack_389 ?_
    refine ev_iload_n (pc := 391) (i := 3) rfl rfl dX12_pack_391 ?_
    obtain ⟨g180, h181⟩ := qk_el h0; clear h0
    obtain ⟨x182, S183, e184, h185⟩ := qc_el h181; clear h181
    refine xv_callV (pc := 392) (st := []) (as := [.int 26, .int 20, .int 28, .int l3]) (v := none) (S' := S183) ok_X12_sumAt (e_X12_sumAt e184) (isb_el g180) (by decide) rfl (Nat.le_of_ble_eq_true rfl) rfl gw_1614 dX12_pack_392 ?_
    exact ev_weak (qL_s (qL_s (qL_n (qL_n qL_nil)))) (e_X12_pack_395 h185)
theorem e_X12_pack_319 {X : gk_X} {F : Nat} {l0 : Nat} {l1 : Int32} {l2 : Int32} {S : gk_S} {r : (Int32 × gk_S)} (h0 : f_X12_pack_319 F l0 l1 l2 S = some r) : EvW X m_X12_pack 3 0 0 319 [some (.ref l0), some (.int l1), some (.int l2), none] [] S (qRI r) := by
  unfold f_X12_pack_319 at h0
  refine ev_aload_n (pc := 319) (i := 0) rfl rfl rfl dX12_pack_319 ?_
  refine ev_bipush (pc := 320) (v := 10) (by decide) dX12_pack_320 ?_
  refine ev_iconst (pc := 322) (v := 0) (by decide) dX12_pack_322 ?_
  refine ev_bipush (pc := 323) (v := 20) (by decide) dX12_pack_323 ?_
  refine ev_iconst (pc := 325) (v := 0) (by decide) dX12_pack_325 ?_
  obtain ⟨g125, h126⟩ := qk_el h0; clear h0
  obtain ⟨x127, S128, e129, h130⟩ := qc_el h126; clear h126
  refine xv_callV (pc := 326) (st := []) (as := [.int 10, .int 0, .int 20, .int 0]) (v := none) (S' := S128) ok_X12_sumAt (e_X12_sumAt e129) (isb_el g125) (by decide) rfl (Nat.le_of_ble_eq_true rfl) rfl gw_1614 dX12_pack_326 ?_
  refine ev_aload_n (pc := 329) (i := 0) rfl rfl rfl dX12_pack_329 ?_
  refine ev_bipush (pc := 330) (v := 12) (by decide) dX12_pack_330 ?_
  obtain ⟨g131, h132⟩ := qk_el h130; clear h130
  obtain ⟨x133, S134, e135, h136⟩ := qc_el h132; clear h132
  refine xv_callV (pc := 332) (st := []) (as := [.int 12]) (v := (some (.int x133))) (S' := S134) ok_X12_outTwo (e_X12_outTwo e135) (isb_el g131) (by decide) rfl (Nat.le_of_ble_eq_true rfl) rfl gw_1618 dX12_pack_332 ?_
  refine ev_aload_n (pc := 335) (i := 0) rfl rfl rfl dX12_pack_335 ?_
  refine ev_bipush (pc := 336) (v := 14) (by decide) dX12_pack_336 ?_
  obtain ⟨g137, h138⟩ := qk_el h136; clear h136
  obtain ⟨x139, S140, e141, h142⟩ := qc_el h138; clear h138
  refine xv_callV (pc := 338) (st := [.int x133]) (as := [.int 14]) (v := (some (.int x139))) (S' := S140) ok_X12_outTwo (e_X12_outTwo e141) (isb_el g137) (by decide) rfl (Nat.le_of_ble_eq_true rfl) rfl gw_1618 dX12_pack_338 ?_
  refine ev_iadd (pc := 341)  dX12_pack_341 ?_
  refine ev_aload_n (pc := 342) (i := 0) rfl rfl rfl dX12_pack_342 ?_
  refine ev_bipush (pc := 343) (v := 16) (by decide) dX12_pack_343 ?_
  obtain ⟨g143, h144⟩ := qk_el h142; clear h142
  obtain ⟨x145, S146, e147, h148⟩ := qc_el h144; clear h144
  refine xv_callV (pc := 345) (st := [.int (x133 + x139)]) (as := [.int 16]) (v := (some (.int x145))) (S' := S146) ok_X12_outTwo (e_X12_outTwo e147) (isb_el g143) (by decide) rfl (Nat.le_of_ble_eq_true rfl) rfl gw_1618 dX12_pack_345 ?_
  refine ev_iadd (pc := 348)  dX12_pack_348 ?_
  refine ev_aload_n (pc := 349) (i := 0) rfl rfl rfl dX12_pack_349 ?_
  refine ev_bipush (pc := 350) (v := 18) (by decide) dX12_pack_350 ?_
  obtain ⟨g149, h150⟩ := qk_el h148; clear h148
  obtain ⟨x151, S152, e153, h154⟩ := qc_el h150; clear h150
  refine xv_callV (pc := 352) (st := [.int ((x133 + x139) + x145)]) (as := [.int 18]) (v := (some (.int x151))) (S' := S152) ok_X12_outTwo (e_X12_outTwo e153) (isb_el g149) (by decide) rfl (Nat.le_of_ble_eq_true rfl) rfl gw_1618 dX12_pack_352 ?_
  refine ev_iadd (pc := 355)  dX12_pack_355 ?_
  refine ev_iload_n (pc := 356) (i := 1) rfl rfl dX12_pack_356 ?_
  refine ev_iadd (pc := 357)  dX12_pack_357 ?_
  refine ev_iload_n (pc := 358) (i := 2) rfl rfl dX12_pack_358 ?_
  refine ev_iadd (pc := 359)  dX12_pack_359 ?_
  obtain ⟨x155, e156, h157⟩ := qv_el h154; clear h154
  refine xv_top e156 ?_
  refine ev_istore_n (pc := 360) (L' := [some (.ref l0), some (.int l1), some (.int l2), some (.int x155)]) (i := 3) rfl (by decide) rfl rfl dX12_pack_360 ?_
  refine ev_iload_n (pc := 361) (i := 1) rfl rfl dX12_pack_361 ?_
  refine ev_bipush (pc := 362) (v := 6) (by decide) dX12_pack_362 ?_
  refine ev_ic_ne (pc := 364) (tgt := 378) (by decide) dX12_pack_364 (fun c158 => ?_) (fun c158 => ?_)
  · replace h157 := qi_f h157 c158
    exact ev_weak (qL_s (qL_s (qL_n (qL_s qL_nil)))) (e_X12_pack_378 h157)
  · replace h157 := qi_t h157 c158
    refine ev_aload_n (pc := 367) (i := 0) rfl rfl rfl dX12_pack_367 ?_
    refine ev_bipush (pc := 368) (v := 36) (by decide) dX12_pack_368 ?_
    refine ev_bipush (pc := 370) (v := 20) (by decide) dX12_pack_370 ?_
    refine ev_bipush (pc := 372) (v := 40) (by decide) dX12_pack_372 ?_
    refine ev_iload_n (pc := 374) (i := 3) rfl rfl dX12_pack_374 ?_
    obtain ⟨g186, h187⟩ := qk_el h157; clear h157
    obtain ⟨x188, S189, e190, h191⟩ := qc_el h187; clear h187
    refine xv_callV (pc := 375) (st := []) (as := [.int 36, .int 20, .int 40, .int x155]) (v := none) (S' := S189) ok_X12_sumAt (e_X12_sumAt e190) (isb_el g186) (by decide) rfl (Nat.le_of_ble_eq_true rfl) rfl gw_1614 dX12_pack_375 ?_
    exact ev_weak (qL_s (qL_s (qL_n (qL_s qL_nil)))) (e_X12_pack_378 h191)
theorem e_X12_pack_311 {X : gk_X} {F : Nat} {l0 : Nat} {l1 : Int32} {l2 : Int32} {s0 : Int32} {s1 : Nat} {S : gk_S} {r : (Int32 × gk_S)} (h0 : f_X12_pack_311 F l0 l1 l2 s0 s1 S = some r) : EvW X m_X12_pack 3 0 0 311 [some (.ref l0), some (.int l1), some (.int l2), none] [.int s0, .ref s1] S (qRI r) := by
  unfold f_X12_pack_311 at h0
  obtain ⟨g238, h239⟩ := qk_el h0; clear h0
  obtain ⟨x240, S241, e242, h243⟩ := qc_el h239; clear h239
  refine xv_callV (pc := 311) (st := []) (as := [.int s0]) (v := none) (S' := S241) ok_X12_putTwo (e_X12_putTwo e242) (isb_el g238) (by decide) rfl (Nat.le_of_ble_eq_true rfl) rfl gw_1610 dX12_pack_311 ?_
  refine ev_aload_n (pc := 314) (i := 0) rfl rfl rfl dX12_pack_314 ?_
  refine ev_iconst (pc := 315) (v := 0) (by decide) dX12_pack_315 ?_
  obtain ⟨g244, h245⟩ := qk_el h243; clear h243
  obtain ⟨x246, S247, e248, h249⟩ := qc_el h245; clear h245
  refine xv_callV (pc := 316) (st := []) (as := [.int 0]) (v := none) (S' := S247) ok_X12_putTwo (e_X12_putTwo e248) (isb_el g244) (by decide) rfl (Nat.le_of_ble_eq_true rfl) rfl gw_1610 dX12_pack_316 ?_
  exact ev_weak (qL_s (qL_s (qL_s (qL_n qL_nil)))) (e_X12_pack_319 h249)
theorem e_X12_pack_252 {X : gk_X} {F : Nat} {l0 : Nat} {l1 : Int32} {l2 : Int32} {S : gk_S} {r : (Int32 × gk_S)} (h0 : f_X12_pack_252 F l0 l1 l2 S = some r) : EvW X m_X12_pack 3 0 0 252 [some (.ref l0), some (.int l1), some (.int l2), none] [] S (qRI r) := by
  unfold f_X12_pack_252 at h0
  refine ev_iload_n (pc := 252) (i := 1) rfl rfl dX12_pack_252 ?_
  refine ev_iconst (pc := 253) (v := 1) (by decide) dX12_pack_253 ?_
  refine ev_ic_ne (pc := 254) (tgt := 319) (by decide) dX12_pack_254 (fun c123 => ?_) (fun c123 => ?_)
  · replace h0 := qi_f h0 c123
    exact ev_weak (qL_s (qL_s (qL_s (qL_n qL_nil)))) (e_X12_pack_319 h0)
  · replace h0 := qi_t h0 c123
    refine ev_aload_n (pc := 257) (i := 0) rfl rfl rfl dX12_pack_257 ?_
    refine ev_aload_n (pc := 258) (i := 0) rfl rfl rfl dX12_pack_258 ?_
    obtain ⟨g192, h193⟩ := qk_el h0; clear h0
    obtain ⟨b194, e195, h196⟩ := qP_el h193; clear h193
    refine xv_getP (pc := 259) fn_939 (isb_el g192) e195 gw_1179 dX12_pack_259 ?_
    refine ev_iconst (pc := 262) (v := 4) (by decide) dX12_pack_262 ?_
    obtain ⟨g197, h198⟩ := qk_el h196; clear h196
    obtain ⟨g199, h200⟩ := qk_el h198; clear h198
    obtain ⟨x201, e202, h203⟩ := qv_el h200; clear h200
    refine yv_iald (pc := 263) (isb_el g197) (inb_el g199) e202 dX12_pack_263 ?_
    obtain ⟨x204, S205, e206, h207⟩ := qc_el h203; clear h203
    refine xv_callV (pc := 264) (st := []) (as := [.int x201]) (v := none) (S' := S205) ok_X12_putTwo (e_X12_putTwo e206) (isb_el g192) (by decide) rfl (Nat.le_of_ble_eq_true rfl) rfl gw_1610 dX12_pack_264 ?_
    refine ev_aload_n (pc := 267) (i := 0) rfl rfl rfl dX12_pack_267 ?_
    refine ev_iconst (pc := 268) (v := 0) (by decide) dX12_pack_268 ?_
    obtain ⟨g208, h209⟩ := qk_el h207; clear h207
    obtain ⟨x210, S211, e212, h213⟩ := qc_el h209; clear h209
    refine xv_callV (pc := 269) (st := []) (as := [.int 0]) (v := none) (S' := S211) ok_X12_putTwo (e_X12_putTwo e212) (isb_el g208) (by decide) rfl (Nat.le_of_ble_eq_true rfl) rfl gw_1610 dX12_pack_269 ?_
    refine ev_aload_n (pc := 272) (i := 0) rfl rfl rfl dX12_pack_272 ?_
    refine ev_aload_n (pc := 273) (i := 0) rfl rfl rfl dX12_pack_273 ?_
    obtain ⟨g214, h215⟩ := qk_el h213; clear h213
    obtain ⟨b216, e217, h218⟩ := qP_el h215; clear h215
    refine xv_getP (pc := 274) fn_939 (isb_el g214) e217 gw_1179 dX12_pack_274 ?_
    refine ev_iconst (pc := 277) (v := 4) (by decide) dX12_pack_277 ?_
    obtain ⟨g219, h220⟩ := qk_el h218; clear h218
    obtain ⟨g221, h222⟩ := qk_el h220; clear h220
    obtain ⟨x223, e224, h225⟩ := qv_el h222; clear h222
    refine yv_iald (pc := 278) (isb_el g219) (inb_el g221) e224 dX12_pack_278 ?_
    refine ev_sipush (pc := 279) (v := 256) (by decide) dX12_pack_279 ?_
    refine ev_idiv (pc := 282) (by decide) dX12_pack_282 ?_
    refine ev_if_eq (pc := 283) (tgt := 301) (by decide) dX12_pack_283 (fun c226 => ?_) (fun c226 => ?_)
    · replace h225 := qi_t h225 c226
      refine ev_aload_n (pc := 301) (i := 0) rfl rfl rfl dX12_pack_301 ?_
      obtain ⟨b228, e229, h230⟩ := qP_el h225; clear h225
      refine xv_getP (pc := 302) fn_939 (isb_el g214) e229 gw_1179 dX12_pack_302 ?_
      refine ev_iconst (pc := 305) (v := 5) (by decide) dX12_pack_305 ?_
      obtain ⟨g231, h232⟩ := qk_el h230; clear h230
      obtain ⟨g233, h234⟩ := qk_el h232; clear h232
      obtain ⟨x235, e236, h237⟩ := qv_el h234; clear h234
      refine yv_iald (pc := 306) (isb_el g231) (inb_el g233) e236 dX12_pack_306 ?_
      refine ev_goto (pc := 307) (tgt := 311) (by decide) dX12_pack_307 ?_
      exact ev_weak (qL_s (qL_s (qL_s (qL_n qL_nil)))) (e_X12_pack_311 h237)
    · replace h225 := qi_f h225 c226
      refine ev_aload_n (pc := 286) (i := 0) rfl rfl rfl dX12_pack_286 ?_
      obtain ⟨b250, e251, h252⟩ := qP_el h225; clear h225
      refine xv_getP (pc := 287) fn_939 (isb_el g214) e251 gw_1179 dX12_pack_287 ?_
      refine ev_iconst (pc := 290) (v := 4) (by decide) dX12_pack_290 ?_
      obtain ⟨g253, h254⟩ := qk_el h252; clear h252
      obtain ⟨g255, h256⟩ := qk_el h254; clear h254
      obtain ⟨x257, e258, h259⟩ := qv_el h256; clear h256
      refine yv_iald (pc := 291) (isb_el g253) (inb_el g255) e258 dX12_pack_291 ?_
      refine ev_sipush (pc := 292) (v := 256) (by decide) dX12_pack_292 ?_
      refine ev_idiv (pc := 295) (by decide) dX12_pack_295 ?_
      refine ev_bipush (pc := 296) (v := 8) (by decide) dX12_pack_296 ?_
      refine ev_ic_ne (pc := 298) (tgt := 310) (by decide) dX12_pack_298 (fun c260 => ?_) (fun c260 => ?_)
      · replace h259 := qi_f h259 c260
        refine ev_iconst (pc := 310) (v := 0) (by decide) dX12_pack_310 ?_
        exact ev_weak (qL_s (qL_s (qL_s (qL_n qL_nil)))) (e_X12_pack_311 h259)
      · replace h259 := qi_t h259 c260
        refine ev_aload_n (pc := 301) (i := 0) rfl rfl rfl dX12_pack_301 ?_
        obtain ⟨b262, e263, h264⟩ := qP_el h259; clear h259
        refine xv_getP (pc := 302) fn_939 (isb_el g214) e263 gw_1179 dX12_pack_302 ?_
        refine ev_iconst (pc := 305) (v := 5) (by decide) dX12_pack_305 ?_
        obtain ⟨g265, h266⟩ := qk_el h264; clear h264
        obtain ⟨g267, h268⟩ := qk_el h266; clear h266
        obtain ⟨x269, e270, h271⟩ := qv_el h268; clear h268
        refine yv_iald (pc := 306) (isb_el g265) (inb_el g267) e270 dX12_pack_306 ?_
        refine ev_goto (pc := 307) (tgt := 311) (by decide) dX12_pack_307 ?_
        exact ev_weak (qL_s (qL_s (qL_s (qL_n qL_nil)))) (e_X12_pack_311 h271)
theorem e_X12_pack_236 {X : gk_X} {F : Nat} : ∀ (n : Nat) (l0 : Nat) (l1 : Int32) (l2 : Int32) (l3 : Int32) (S : gk_S) (r : (Int32 × gk_S)), f_X12_pack_236 F n l0 l1 l2 l3 S = some r → EvW X m_X12_pack 3 0 0 236 [some (.ref l0), some (.int l1), some (.int l2), some (.int l3)] [] S (qRI r) := by
  intro n
  induction n with
  | zero => intro l0 l1 l2 l3 S r h0; rw [f_X12_pack_236] at h0; cases h0
  | succ n ih =>
    intro l0 l1 l2 l3 S r h0; rw [f_X12_pack_236] at h0
    refine ev_iload_n (pc := 236) (i := 3) rfl rfl dX12_pack_236 ?_
    refine ev_iconst (pc := 237) (v := 3) (by decide) dX12_pack_237 ?_
    refine ev_ic_ge (pc := 238) (tgt := 252) (by decide) dX12_pack_238 (fun c296 => ?_) (fun c296 => ?_)
    · replace h0 := qi_t h0 c296
      exact ev_weak (qL_s (qL_s (qL_s (qL_n qL_nil)))) (e_X12_pack_252 h0)
    · replace h0 := qi_f h0 c296
      refine ev_aload_n (pc := 241) (i := 0) rfl rfl rfl dX12_pack_241 ?_
      refine ev_iconst (pc := 242) (v := 0) (by decide) dX12_pack_242 ?_
      obtain ⟨g298, h299⟩ := qk_el h0; clear h0
      obtain ⟨x300, S301, e302, h303⟩ := qc_el h299; clear h299
      refine xv_callV (pc := 243) (st := []) (as := [.int 0]) (v := none) (S' := S301) ok_X12_putTwo (e_X12_putTwo e302) (isb_el g298) (by decide) rfl (Nat.le_of_ble_eq_true rfl) rfl gw_1610 dX12_pack_243 ?_
      refine ev_iinc (pc := 246) (L' := [some (.ref l0), some (.int l1), some (.int l2), some (.int (l3 + 1))]) (i := 3) (v := (l3 + 1)) rfl rfl (by decide) rfl rfl dX12_pack_246 ?_
      refine ev_goto (pc := 249) (tgt := 236) (by decide) dX12_pack_249 ?_
      exact (ev_weak (qL_s (qL_s (qL_s (qL_s qL_nil)))) (ih _ _ _ _ _ _ h303))
theorem e_X12_pack_201 {X : gk_X} {F : Nat} : ∀ (n : Nat) (l0 : Nat) (l1 : Int32) (l2 : Int32) (l3 : Int32) (S : gk_S) (r : (Int32 × gk_S)), f_X12_pack_201 F n l0 l1 l2 l3 S = some r → EvW X m_X12_pack 3 0 0 201 [some (.ref l0), some (.int l1), some (.int l2), some (.int l3)] [] S (qRI r) := by
  intro n
  induction n with
  | zero => intro l0 l1 l2 l3 S r h0; rw [f_X12_pack_201] at h0; cases h0
  | succ n ih =>
    intro l0 l1 l2 l3 S r h0; rw [f_X12_pack_201] at h0
    refine ev_iload_n (pc := 201) (i := 3) rfl rfl dX12_pack_201 ?_
    refine ev_iconst (pc := 202) (v := 4) (by decide) dX12_pack_202 ?_
    refine ev_ic_ge (pc := 203) (tgt := 217) (by decide) dX12_pack_203 (fun c272 => ?_) (fun c272 => ?_)
    · replace h0 := qi_t h0 c272
      refine ev_aload_n (pc := 217) (i := 0) rfl rfl rfl dX12_pack_217 ?_
      refine ev_bipush (pc := 218) (v := 80) (by decide) dX12_pack_218 ?_
      obtain ⟨g274, h275⟩ := qk_el h0; clear h0
      obtain ⟨x276, S277, e278, h279⟩ := qc_el h275; clear h275
      refine xv_callV (pc := 220) (st := []) (as := [.int 80]) (v := none) (S' := S277) ok_X12_put (e_X12_put e278) (isb_el g274) (by decide) rfl (Nat.le_of_ble_eq_true rfl) rfl gw_1403 dX12_pack_220 ?_
      refine ev_aload_n (pc := 223) (i := 0) rfl rfl rfl dX12_pack_223 ?_
      refine ev_aload_n (pc := 224) (i := 0) rfl rfl rfl dX12_pack_224 ?_
      obtain ⟨g280, h281⟩ := qk_el h279; clear h279
      obtain ⟨b282, e283, h284⟩ := qP_el h281; clear h281
      refine xv_getP (pc := 225) fn_939 (isb_el g280) e283 gw_1179 dX12_pack_225 ?_
      refine ev_bipush (pc := 228) (v := 6) (by decide) dX12_pack_228 ?_
      obtain ⟨g285, h286⟩ := qk_el h284; clear h284
      obtain ⟨g287, h288⟩ := qk_el h286; clear h286
      obtain ⟨x289, e290, h291⟩ := qv_el h288; clear h288
      refine yv_iald (pc := 230) (isb_el g285) (inb_el g287) e290 dX12_pack_230 ?_
      obtain ⟨x292, S293, e294, h295⟩ := qc_el h291; clear h291
      refine xv_callV (pc := 231) (st := []) (as := [.int x289]) (v := none) (S' := S293) ok_X12_put (e_X12_put e294) (isb_el g280) (by decide) rfl (Nat.le_of_ble_eq_true rfl) rfl gw_1403 dX12_pack_231 ?_
      refine ev_iconst (pc := 234) (v := 0) (by decide) dX12_pack_234 ?_
      refine ev_istore_n (pc := 235) (L' := [some (.ref l0), some (.int l1), some (.int l2), some (.int 0)]) (i := 3) rfl (by decide) rfl rfl dX12_pack_235 ?_
      exact ev_weak (qL_s (qL_s (qL_s (qL_s qL_nil)))) (e_X12_pack_236 F _ _ _ _ _ _ h295)
    · replace h0 := qi_f h0 c272
      refine ev_aload_n (pc := 206) (i := 0) rfl rfl rfl dX12_pack_206 ?_
      refine ev_iconst (pc := 207) (v := 0) (by decide) dX12_pack_207 ?_
      obtain ⟨g304, h305⟩ := qk_el h0; clear h0
      obtain ⟨x306, S307, e308, h309⟩ := qc_el h305; clear h305
      refine xv_callV (pc := 208) (st := []) (as := [.int 0]) (v := none) (S' := S307) ok_X12_putTwo (e_X12_putTwo e308) (isb_el g304) (by decide) rfl (Nat.le_of_ble_eq_true rfl) rfl gw_1610 dX12_pack_208 ?_
      refine ev_iinc (pc := 211) (L' := [some (.ref l0), some (.int l1), some (.int l2), some (.int (l3 + 1))]) (i := 3) (v := (l3 + 1)) rfl rfl (by decide) rfl rfl dX12_pack_211 ?_
      refine ev_goto (pc := 214) (tgt := 201) (by decide) dX12_pack_214 ?_
      exact (ev_weak (qL_s (qL_s (qL_s (qL_s qL_nil)))) (ih _ _ _ _ _ _ h309))
theorem e_X12_pack_176 {X : gk_X} {F : Nat} {l0 : Nat} {l1 : Int32} {l2 : Int32} {S : gk_S} {r : (Int32 × gk_S)} (h0 : f_X12_pack_176 F l0 l1 l2 S = some r) : EvW X m_X12_pack 3 0 0 176 [some (.ref l0), some (.int l1), some (.int l2), none] [] S (qRI r) := by
  unfold f_X12_pack_176 at h0
  refine ev_iload_n (pc := 176) (i := 1) rfl rfl dX12_pack_176 ?_
  refine ev_bipush (pc := 177) (v := 17) (by decide) dX12_pack_177 ?_
  refine ev_ic_ne (pc := 179) (tgt := 193) (by decide) dX12_pack_179 (fun c119 => ?_) (fun c119 => ?_)
  · replace h0 := qi_f h0 c119
    refine ev_iload_n (pc := 193) (i := 1) rfl rfl dX12_pack_193 ?_
    refine ev_bipush (pc := 194) (v := 6) (by decide) dX12_pack_194 ?_
    refine ev_ic_ne (pc := 196) (tgt := 252) (by decide) dX12_pack_196 (fun c121 => ?_) (fun c121 => ?_)
    · replace h0 := qi_f h0 c121
      exact ev_weak (qL_s (qL_s (qL_s (qL_n qL_nil)))) (e_X12_pack_252 h0)
    · replace h0 := qi_t h0 c121
      refine ev_iconst (pc := 199) (v := 0) (by decide) dX12_pack_199 ?_
      refine ev_istore_n (pc := 200) (L' := [some (.ref l0), some (.int l1), some (.int l2), some (.int 0)]) (i := 3) rfl (by decide) rfl rfl dX12_pack_200 ?_
      exact ev_weak (qL_s (qL_s (qL_s (qL_s qL_nil)))) (e_X12_pack_201 F _ _ _ _ _ _ h0)
  · replace h0 := qi_t h0 c119
    refine ev_aload_n (pc := 182) (i := 0) rfl rfl rfl dX12_pack_182 ?_
    refine ev_bipush (pc := 183) (v := 8) (by decide) dX12_pack_183 ?_
    obtain ⟨g310, h311⟩ := qk_el h0; clear h0
    obtain ⟨x312, S313, e314, h315⟩ := qc_el h311; clear h311
    refine xv_callV (pc := 185) (st := []) (as := [.int 8]) (v := none) (S' := S313) ok_X12_putTwo (e_X12_putTwo e314) (isb_el g310) (by decide) rfl (Nat.le_of_ble_eq_true rfl) rfl gw_1610 dX12_pack_185 ?_
    refine ev_aload_n (pc := 188) (i := 0) rfl rfl rfl dX12_pack_188 ?_
    refine ev_iconst (pc := 189) (v := 0) (by decide) dX12_pack_189 ?_
    obtain ⟨g316, h317⟩ := qk_el h315; clear h315
    obtain ⟨x318, S319, e320, h321⟩ := qc_el h317; clear h317
    refine xv_callV (pc := 190) (st := []) (as := [.int 0]) (v := none) (S' := S319) ok_X12_putTwo (e_X12_putTwo e320) (isb_el g316) (by decide) rfl (Nat.le_of_ble_eq_true rfl) rfl gw_1610 dX12_pack_190 ?_
    refine ev_iload_n (pc := 193) (i := 1) rfl rfl dX12_pack_193 ?_
    refine ev_bipush (pc := 194) (v := 6) (by decide) dX12_pack_194 ?_
    refine ev_ic_ne (pc := 196) (tgt := 252) (by decide) dX12_pack_196 (fun c322 => ?_) (fun c322 => ?_)
    · replace h321 := qi_f h321 c322
      exact ev_weak (qL_s (qL_s (qL_s (qL_n qL_nil)))) (e_X12_pack_252 h321)
    · replace h321 := qi_t h321 c322
      refine ev_iconst (pc := 199) (v := 0) (by decide) dX12_pack_199 ?_
      refine ev_istore_n (pc := 200) (L' := [some (.ref l0), some (.int l1), some (.int l2), some (.int 0)]) (i := 3) rfl (by decide) rfl rfl dX12_pack_200 ?_
      exact ev_weak (qL_s (qL_s (qL_s (qL_s qL_nil)))) (e_X12_pack_201 F _ _ _ _ _ _ h321)
theorem e_X12_pack_156 {X : gk_X} {F : Nat} {l0 : Nat} {l1 : Int32} {l2 : Int32} {S : gk_S} {r : (Int32 × gk_S)} (h0 : f_X12_pack_156 F l0 l1 l2 S = some r) : EvW X m_X12_pack 3 0 0 156 [some (.ref l0), some (.int l1), some (.int l2), none] [] S (qRI r) := by
  unfold f_X12_pack_156 at h0
  refine ev_aload_n (pc := 156) (i := 0) rfl rfl rfl dX12_pack_156 ?_
  refine ev_aload_n (pc := 157) (i := 0) rfl rfl rfl dX12_pack_157 ?_
  obtain ⟨g87, h88⟩ := qk_el h0; clear h0
  obtain ⟨b89, e90, h91⟩ := qP_el h88; clear h88
  refine xv_getP (pc := 158) fn_939 (isb_el g87) e90 gw_1179 dX12_pack_158 ?_
  refine ev_iconst (pc := 161) (v := 4) (by decide) dX12_pack_161 ?_
  obtain ⟨g92, h93⟩ := qk_el h91; clear h91
  obtain ⟨g94, h95⟩ := qk_el h93; clear h93
  obtain ⟨x96, e97, h98⟩ := qv_el h95; clear h95
  refine yv_iald (pc := 162) (isb_el g92) (inb_el g94) e97 dX12_pack_162 ?_
  obtain ⟨x99, S100, e101, h102⟩ := qc_el h98; clear h98
  refine xv_callV (pc := 163) (st := []) (as := [.int x96]) (v := none) (S' := S100) ok_X12_putTwo (e_X12_putTwo e101) (isb_el g87) (by decide) rfl (Nat.le_of_ble_eq_true rfl) rfl gw_1610 dX12_pack_163 ?_
  refine ev_aload_n (pc := 166) (i := 0) rfl rfl rfl dX12_pack_166 ?_
  refine ev_aload_n (pc := 167) (i := 0) rfl rfl rfl dX12_pack_167 ?_
  obtain ⟨g103, h104⟩ := qk_el h102; clear h102
  obtain ⟨b105, e106, h107⟩ := qP_el h104; clear h104
  refine xv_getP (pc := 168) fn_939 (isb_el g103) e106 gw_1179 dX12_pack_168 ?_
  refine ev_iconst (pc := 171) (v := 5) (by decide) dX12_pack_171 ?_
  obtain ⟨g108, h109⟩ := qk_el h107; clear h107
  obtain ⟨g110, h111⟩ := qk_el h109; clear h109
  obtain ⟨x112, e113, h114⟩ := qv_el h111; clear h111
  refine yv_iald (pc := 172) (isb_el g108) (inb_el g110) e113 dX12_pack_172 ?_
  obtain ⟨x115, S116, e117, h118⟩ := qc_el h114; clear h114
  refine xv_callV (pc := 173) (st := []) (as := [.int x112]) (v := none) (S' := S116) ok_X12_putTwo (e_X12_putTwo e117) (isb_el g103) (by decide) rfl (Nat.le_of_ble_eq_true rfl) rfl gw_1610 dX12_pack_173 ?_
  exact ev_weak (qL_s (qL_s (qL_s (qL_n qL_nil)))) (e_X12_pack_176 h118)
theorem e_X12_pack_110 {X : gk_X} {F : Nat} : ∀ (n : Nat) (l0 : Nat) (l1 : Int32) (l2 : Int32) (l3 : Int32) (S : gk_S) (r : (Int32 × gk_S)), f_X12_pack_110 F n l0 l1 l2 l3 S = some r → EvW X m_X12_pack 3 0 0 110 [some (.ref l0), some (.int l1), some (.int l2), some (.int l3)] [] S (qRI r) := by
  intro n
  induction n with
  | zero => intro l0 l1 l2 l3 S r h0; rw [f_X12_pack_110] at h0; cases h0
  | succ n ih =>
    intro l0 l1 l2 l3 S r h0; rw [f_X12_pack_110] at h0
    refine ev_iload_n (pc := 110) (i := 3) rfl rfl dX12_pack_110 ?_
    refine ev_iconst (pc := 111) (v := 4) (by decide) dX12_pack_111 ?_
    refine ev_ic_ge (pc := 112) (tgt := 144) (by decide) dX12_pack_112 (fun c83 => ?_) (fun c83 => ?_)
    · replace h0 := qi_t h0 c83
      refine ev_iload_n (pc := 144) (i := 1) rfl rfl dX12_pack_144 ?_
      refine ev_bipush (pc := 145) (v := 6) (by decide) dX12_pack_145 ?_
      refine ev_ic_eq (pc := 147) (tgt := 156) (by decide) dX12_pack_147 (fun c85 => ?_) (fun c85 => ?_)
      · replace h0 := qi_t h0 c85
        exact ev_weak (qL_s (qL_s (qL_s (qL_n qL_nil)))) (e_X12_pack_156 h0)
      · replace h0 := qi_f h0 c85
        refine ev_iload_n (pc := 150) (i := 1) rfl rfl dX12_pack_150 ?_
        refine ev_bipush (pc := 151) (v := 17) (by decide) dX12_pack_151 ?_
        refine ev_ic_ne (pc := 153) (tgt := 176) (by decide) dX12_pack_153 (fun c324 => ?_) (fun c324 => ?_)
        · replace h0 := qi_f h0 c324
          exact ev_weak (qL_s (qL_s (qL_s (qL_n qL_nil)))) (e_X12_pack_176 h0)
        · replace h0 := qi_t h0 c324
          exact ev_weak (qL_s (qL_s (qL_s (qL_n qL_nil)))) (e_X12_pack_156 h0)
    · replace h0 := qi_f h0 c83
      refine ev_aload_n (pc := 115) (i := 0) rfl rfl rfl dX12_pack_115 ?_
      refine ev_aload_n (pc := 116) (i := 0) rfl rfl rfl dX12_pack_116 ?_
      obtain ⟨g326, h327⟩ := qk_el h0; clear h0
      obtain ⟨b328, e329, h330⟩ := qP_el h327; clear h327
      refine xv_getP (pc := 117) fn_939 (isb_el g326) e329 gw_1179 dX12_pack_117 ?_
      refine ev_iload_n (pc := 120) (i := 3) rfl rfl dX12_pack_120 ?_
      obtain ⟨g331, h332⟩ := qk_el h330; clear h330
      obtain ⟨g333, h334⟩ := qk_el h332; clear h332
      obtain ⟨x335, e336, h337⟩ := qv_el h334; clear h334
      refine yv_iald (pc := 121) (isb_el g331) (inb_el g333) e336 dX12_pack_121 ?_
      refine ev_bipush (pc := 122) (v := 16) (by decide) dX12_pack_122 ?_
      refine ev_ishr (pc := 124)  dX12_pack_124 ?_
      obtain ⟨x338, S339, e340, h341⟩ := qc_el h337; clear h337
      refine xv_callV (pc := 125) (st := []) (as := [.int ((x335 : Int32) >>> ((16 : Int32) &&& 31))]) (v := none) (S' := S339) ok_X12_putTwo (e_X12_putTwo e340) (isb_el g326) (by decide) rfl (Nat.le_of_ble_eq_true rfl) rfl gw_1610 dX12_pack_125 ?_
      refine ev_aload_n (pc := 128) (i := 0) rfl rfl rfl dX12_pack_128 ?_
      refine ev_aload_n (pc := 129) (i := 0) rfl rfl rfl dX12_pack_129 ?_
      obtain ⟨g342, h343⟩ := qk_el h341; clear h341
      obtain ⟨b344, e345, h346⟩ := qP_el h343; clear h343
      refine xv_getP (pc := 130) fn_939 (isb_el g342) e345 gw_1179 dX12_pack_130 ?_
      refine ev_iload_n (pc := 133) (i := 3) rfl rfl dX12_pack_133 ?_
      obtain ⟨g347, h348⟩ := qk_el h346; clear h346
      obtain ⟨g349, h350⟩ := qk_el h348; clear h348
      obtain ⟨x351, e352, h353⟩ := qv_el h350; clear h350
      refine yv_iald (pc := 134) (isb_el g347) (inb_el g349) e352 dX12_pack_134 ?_
      obtain ⟨x354, S355, e356, h357⟩ := qc_el h353; clear h353
      refine xv_callV (pc := 135) (st := []) (as := [.int x351]) (v := none) (S' := S355) ok_X12_putTwo (e_X12_putTwo e356) (isb_el g342) (by decide) rfl (Nat.le_of_ble_eq_true rfl) rfl gw_1610 dX12_pack_135 ?_
      refine ev_iinc (pc := 138) (L' := [some (.ref l0), some (.int l1), some (.int l2), some (.int (l3 + 1))]) (i := 3) (v := (l3 + 1)) rfl rfl (by decide) rfl rfl dX12_pack_138 ?_
      refine ev_goto (pc := 141) (tgt := 110) (by decide) dX12_pack_141 ?_
      exact (ev_weak (qL_s (qL_s (qL_s (qL_s qL_nil)))) (ih _ _ _ _ _ _ h357))
theorem e_X12_pack_62 {X : gk_X} {F : Nat} {l0 : Nat} {l1 : Int32} {s0 : Int32} {S : gk_S} {r : (Int32 × gk_S)} (h0 : f_X12_pack_62 F l0 l1 s0 S = some r) : EvW X m_X12_pack 3 0 0 62 [some (.ref l0), some (.int l1), none, none] [.int s0] S (qRI r) := by
  unfold f_X12_pack_62 at h0
  refine ev_istore_n (pc := 62) (L' := [some (.ref l0), some (.int l1), some (.int s0), none]) (i := 2) rfl (by decide) rfl rfl dX12_pack_62 ?_
  refine ev_aload_n (pc := 63) (i := 0) rfl rfl rfl dX12_pack_63 ?_
  refine ev_bipush (pc := 64) (v := 69) (by decide) dX12_pack_64 ?_
  obtain ⟨g35, h36⟩ := qk_el h0; clear h0
  obtain ⟨x37, S38, e39, h40⟩ := qc_el h36; clear h36
  refine xv_callV (pc := 66) (st := []) (as := [.int 69]) (v := none) (S' := S38) ok_X12_put (e_X12_put e39) (isb_el g35) (by decide) rfl (Nat.le_of_ble_eq_true rfl) rfl gw_1403 dX12_pack_66 ?_
  refine ev_aload_n (pc := 69) (i := 0) rfl rfl rfl dX12_pack_69 ?_
  refine ev_iconst (pc := 70) (v := 0) (by decide) dX12_pack_70 ?_
  obtain ⟨g41, h42⟩ := qk_el h40; clear h40
  obtain ⟨x43, S44, e45, h46⟩ := qc_el h42; clear h42
  refine xv_callV (pc := 71) (st := []) (as := [.int 0]) (v := none) (S' := S44) ok_X12_put (e_X12_put e45) (isb_el g41) (by decide) rfl (Nat.le_of_ble_eq_true rfl) rfl gw_1403 dX12_pack_71 ?_
  refine ev_aload_n (pc := 74) (i := 0) rfl rfl rfl dX12_pack_74 ?_
  refine ev_bipush (pc := 75) (v := 20) (by decide) dX12_pack_75 ?_
  refine ev_iload_n (pc := 77) (i := 2) rfl rfl dX12_pack_77 ?_
  refine ev_iadd (pc := 78)  dX12_pack_78 ?_
  obtain ⟨g47, h48⟩ := qk_el h46; clear h46
  obtain ⟨x49, S50, e51, h52⟩ := qc_el h48; clear h48
  refine xv_callV (pc := 79) (st := []) (as := [.int (20 + s0)]) (v := none) (S' := S50) ok_X12_putTwo (e_X12_putTwo e51) (isb_el g47) (by decide) rfl (Nat.le_of_ble_eq_true rfl) rfl gw_1610 dX12_pack_79 ?_
  refine ev_aload_n (pc := 82) (i := 0) rfl rfl rfl dX12_pack_82 ?_
  refine ev_iconst (pc := 83) (v := 0) (by decide) dX12_pack_83 ?_
  obtain ⟨g53, h54⟩ := qk_el h52; clear h52
  obtain ⟨x55, S56, e57, h58⟩ := qc_el h54; clear h54
  refine xv_callV (pc := 84) (st := []) (as := [.int 0]) (v := none) (S' := S56) ok_X12_putTwo (e_X12_putTwo e57) (isb_el g53) (by decide) rfl (Nat.le_of_ble_eq_true rfl) rfl gw_1610 dX12_pack_84 ?_
  refine ev_aload_n (pc := 87) (i := 0) rfl rfl rfl dX12_pack_87 ?_
  refine ev_iconst (pc := 88) (v := 0) (by decide) dX12_pack_88 ?_
  obtain ⟨g59, h60⟩ := qk_el h58; clear h58
  obtain ⟨x61, S62, e63, h64⟩ := qc_el h60; clear h60
  refine xv_callV (pc := 89) (st := []) (as := [.int 0]) (v := none) (S' := S62) ok_X12_putTwo (e_X12_putTwo e63) (isb_el g59) (by decide) rfl (Nat.le_of_ble_eq_true rfl) rfl gw_1610 dX12_pack_89 ?_
  refine ev_aload_n (pc := 92) (i := 0) rfl rfl rfl dX12_pack_92 ?_
  refine ev_bipush (pc := 93) (v := 64) (by decide) dX12_pack_93 ?_
  obtain ⟨g65, h66⟩ := qk_el h64; clear h64
  obtain ⟨x67, S68, e69, h70⟩ := qc_el h66; clear h66
  refine xv_callV (pc := 95) (st := []) (as := [.int 64]) (v := none) (S' := S68) ok_X12_put (e_X12_put e69) (isb_el g65) (by decide) rfl (Nat.le_of_ble_eq_true rfl) rfl gw_1403 dX12_pack_95 ?_
  refine ev_aload_n (pc := 98) (i := 0) rfl rfl rfl dX12_pack_98 ?_
  refine ev_iload_n (pc := 99) (i := 1) rfl rfl dX12_pack_99 ?_
  obtain ⟨g71, h72⟩ := qk_el h70; clear h70
  obtain ⟨x73, S74, e75, h76⟩ := qc_el h72; clear h72
  refine xv_callV (pc := 100) (st := []) (as := [.int l1]) (v := none) (S' := S74) ok_X12_put (e_X12_put e75) (isb_el g71) (by decide) rfl (Nat.le_of_ble_eq_true rfl) rfl gw_1403 dX12_pack_100 ?_
  refine ev_aload_n (pc := 103) (i := 0) rfl rfl rfl dX12_pack_103 ?_
  refine ev_iconst (pc := 104) (v := 0) (by decide) dX12_pack_104 ?_
  obtain ⟨g77, h78⟩ := qk_el h76; clear h76
  obtain ⟨x79, S80, e81, h82⟩ := qc_el h78; clear h78
  refine xv_callV (pc := 105) (st := []) (as := [.int 0]) (v := none) (S' := S80) ok_X12_putTwo (e_X12_putTwo e81) (isb_el g77) (by decide) rfl (Nat.le_of_ble_eq_true rfl) rfl gw_1610 dX12_pack_105 ?_
  refine ev_iconst (pc := 108) (v := 2) (by decide) dX12_pack_108 ?_
  refine ev_istore_n (pc := 109) (L' := [some (.ref l0), some (.int l1), some (.int s0), some (.int 2)]) (i := 3) rfl (by decide) rfl rfl dX12_pack_109 ?_
  exact ev_weak (qL_s (qL_s (qL_s (qL_s qL_nil)))) (e_X12_pack_110 F _ _ _ _ _ _ h82)
theorem e_X12_pack_13 {X : gk_X} {F : Nat} {l0 : Nat} {s0 : Int32} {s1 : Nat} {S : gk_S} {r : (Int32 × gk_S)} (h0 : f_X12_pack_13 F l0 s0 s1 S = some r) : EvW X m_X12_pack 3 0 0 13 [some (.ref l0), none, none, none] [.int s0, .ref s1] S (qRI r) := by
  unfold f_X12_pack_13 at h0
  refine ev_iconst (pc := 13) (v := 1) (by decide) dX12_pack_13 ?_
  obtain ⟨g8, h9⟩ := qk_el h0; clear h0
  obtain ⟨x10, S11, e12, h13⟩ := qc_el h9; clear h9
  refine xv_callV (pc := 14) (st := []) (as := [.int s0, .int 1]) (v := (some (.int x10))) (S' := S11) ok_X12_throwsIf (e_X12_throwsIf e12) (isb_el g8) (by decide) rfl (Nat.le_of_ble_eq_true rfl) rfl gw_1272 dX12_pack_14 ?_
  refine ev_if_eq (pc := 17) (tgt := 22) (by decide) dX12_pack_17 (fun c14 => ?_) (fun c14 => ?_)
  · replace h13 := qi_t h13 c14
    refine ev_aload_n (pc := 22) (i := 0) rfl rfl rfl dX12_pack_22 ?_
    refine ev_iconst (pc := 23) (v := 0) (by decide) dX12_pack_23 ?_
    obtain ⟨g16, h17⟩ := qk_el h13; clear h13
    obtain ⟨S18, e19, h20⟩ := qv_el h17; clear h17
    refine yv_putI (pc := 24) fn_921 ⟨rfl, rfl⟩ (isb_el g16) e19 gw_1161 dX12_pack_24 ?_
    refine ev_aload_n (pc := 27) (i := 0) rfl rfl rfl dX12_pack_27 ?_
    obtain ⟨b21, e22, h23⟩ := qP_el h20; clear h20
    refine xv_getP (pc := 28) fn_939 (is_sI (isb_el g16) e19) e22 gw_1179 dX12_pack_28 ?_
    refine ev_iconst (pc := 31) (v := 1) (by decide) dX12_pack_31 ?_
    obtain ⟨g24, h25⟩ := qk_el h23; clear h23
    obtain ⟨g26, h27⟩ := qk_el h25; clear h25
    obtain ⟨x28, e29, h30⟩ := qv_el h27; clear h27
    refine yv_iald (pc := 32) (isb_el g24) (inb_el g26) e29 dX12_pack_32 ?_
    refine ev_istore_n (pc := 33) (L' := [some (.ref l0), some (.int x28), none, none]) (i := 1) rfl (by decide) rfl rfl dX12_pack_33 ?_
    refine ev_iload_n (pc := 34) (i := 1) rfl rfl dX12_pack_34 ?_
    refine ev_bipush (pc := 35) (v := 6) (by decide) dX12_pack_35 ?_
    refine ev_ic_ne (pc := 37) (tgt := 45) (by decide) dX12_pack_37 (fun c31 => ?_) (fun c31 => ?_)
    · replace h30 := qi_f h30 c31
      refine ev_iload_n (pc := 45) (i := 1) rfl rfl dX12_pack_45 ?_
      refine ev_bipush (pc := 46) (v := 17) (by decide) dX12_pack_46 ?_
      refine ev_ic_eq (pc := 48) (tgt := 56) (by decide) dX12_pack_48 (fun c33 => ?_) (fun c33 => ?_)
      · replace h30 := qi_t h30 c33
        refine ev_bipush (pc := 56) (v := 8) (by decide) dX12_pack_56 ?_
        refine ev_goto (pc := 58) (tgt := 62) (by decide) dX12_pack_58 ?_
        exact ev_weak (qL_s (qL_s (qL_n (qL_n qL_nil)))) (e_X12_pack_62 h30)
      · replace h30 := qi_f h30 c33
        refine ev_iload_n (pc := 51) (i := 1) rfl rfl dX12_pack_51 ?_
        refine ev_iconst (pc := 52) (v := 1) (by decide) dX12_pack_52 ?_
        refine ev_ic_ne (pc := 53) (tgt := 61) (by decide) dX12_pack_53 (fun c358 => ?_) (fun c358 => ?_)
        · replace h30 := qi_f h30 c358
          refine ev_iconst (pc := 61) (v := 0) (by decide) dX12_pack_61 ?_
          exact ev_weak (qL_s (qL_s (qL_n (qL_n qL_nil)))) (e_X12_pack_62 h30)
        · replace h30 := qi_t h30 c358
          refine ev_bipush (pc := 56) (v := 8) (by decide) dX12_pack_56 ?_
          refine ev_goto (pc := 58) (tgt := 62) (by decide) dX12_pack_58 ?_
          exact ev_weak (qL_s (qL_s (qL_n (qL_n qL_nil)))) (e_X12_pack_62 h30)
    · replace h30 := qi_t h30 c31
      refine ev_bipush (pc := 40) (v := 20) (by decide) dX12_pack_40 ?_
      refine ev_goto (pc := 42) (tgt := 62) (by decide) dX12_pack_42 ?_
      exact ev_weak (qL_s (qL_s (qL_n (qL_n qL_nil)))) (e_X12_pack_62 h30)
  · replace h13 := qi_f h13 c14
    refine ev_iconst (pc := 20) (v := 0) (by decide) dX12_pack_20 ?_
    exact ev_ireturn (pc := 21) rfl (nar_int _) (qRI_eq h13) dX12_pack_21
theorem e_X12_pack {X : gk_X} {F : Nat} {S : gk_S} {a : Nat} {r : (Int32 × gk_S)} (h0 : f_X12_pack F S a = some r) : EvM X m_X12_pack 3 0 0 [.ref a] S (qRI r) := by
  unfold f_X12_pack at h0
  refine ev_method (by decide +kernel) rfl rfl (Nat.le_of_ble_eq_true rfl) ?_
  show EvW X m_X12_pack 3 0 0 0 [some (.ref a), none, none, none] [] S _
  refine ev_aload_n (pc := 0) (i := 0) rfl rfl rfl dX12_pack_0 ?_
  refine ev_aload_n (pc := 1) (i := 0) rfl rfl rfl dX12_pack_1 ?_
  obtain ⟨g1, h2⟩ := qk_el h0; clear h0
  obtain ⟨x3, e4, h5⟩ := qv_el h2; clear h2
  refine xv_getIv (pc := 2) fn_935 (isb_el g1) e4 gw_1175 dX12_pack_2 ?_
  refine ev_if_ne (pc := 5) (tgt := 12) (by decide) dX12_pack_5 (fun c6 => ?_) (fun c6 => ?_)
  · replace h5 := qi_f h5 c6
    refine ev_iconst (pc := 12) (v := 0) (by decide) dX12_pack_12 ?_
    exact ev_weak (qL_s (qL_n (qL_n (qL_n qL_nil)))) (e_X12_pack_13 h5)
  · replace h5 := qi_t h5 c6
    refine ev_iconst (pc := 8) (v := 1) (by decide) dX12_pack_8 ?_
    refine ev_goto (pc := 9) (tgt := 13) (by decide) dX12_pack_9 ?_
    exact ev_weak (qL_s (qL_n (qL_n (qL_n qL_nil)))) (e_X12_pack_13 h5)
theorem dX12_connection_0 : decode cX12_connection 0 = .ok (.aload_n 0, 1) := by decide +kernel
theorem dX12_connection_1 : decode cX12_connection 1 = .ok (.iload_n 1, 1) := by decide +kernel
theorem dX12_connection_2 : decode cX12_connection 2 = .ok (.ifCond .lt 21, 3) := by decide +kernel
theorem dX12_connection_5 : decode cX12_connection 5 = .ok (.iload_n 1, 1) := by decide +kernel
theorem dX12_connection_6 : decode cX12_connection 6 = .ok (.aload_n 0, 1) := by decide +kernel
theorem dX12_connection_7 : decode cX12_connection 7 = .ok (.getfield 340, 3) := by decide +kernel
theorem dX12_connection_10 : decode cX12_connection 10 = .ok (.if_icmp .ge 13, 3) := by decide +kernel
theorem dX12_connection_13 : decode cX12_connection 13 = .ok (.iload_n 2, 1) := by decide +kernel
theorem dX12_connection_14 : decode cX12_connection 14 = .ok (.ifCond .lt 9, 3) := by decide +kernel
theorem dX12_connection_17 : decode cX12_connection 17 = .ok (.iload_n 2, 1) := by decide +kernel
theorem dX12_connection_18 : decode cX12_connection 18 = .ok (.bipush 8, 2) := by decide +kernel
theorem dX12_connection_20 : decode cX12_connection 20 = .ok (.if_icmp .le 7, 3) := by decide +kernel
theorem dX12_connection_23 : decode cX12_connection 23 = .ok (.iconst 1, 1) := by decide +kernel
theorem dX12_connection_24 : decode cX12_connection 24 = .ok (.goto 4, 3) := by decide +kernel
theorem dX12_connection_27 : decode cX12_connection 27 = .ok (.iconst 0, 1) := by decide +kernel
theorem dX12_connection_28 : decode cX12_connection 28 = .ok (.iconst 1, 1) := by decide +kernel
theorem dX12_connection_29 : decode cX12_connection 29 = .ok (.invokevirtual 176, 3) := by decide +kernel
theorem dX12_connection_32 : decode cX12_connection 32 = .ok (.ifCond .eq 5, 3) := by decide +kernel
theorem dX12_connection_35 : decode cX12_connection 35 = .ok (.iconst 0, 1) := by decide +kernel
theorem dX12_connection_36 : decode cX12_connection 36 = .ok (.ireturn, 1) := by decide +kernel
theorem dX12_connection_37 : decode cX12_connection 37 = .ok (.aload_n 0, 1) := by decide +kernel
theorem dX12_connection_38 : decode cX12_connection 38 = .ok (.getfield 87, 3) := by decide +kernel
theorem dX12_connection_41 : decode cX12_connection 41 = .ok (.bipush 9, 2) := by decide +kernel
theorem dX12_connection_43 : decode cX12_connection 43 = .ok (.iload_n 1, 1) := by decide +kernel
theorem dX12_connection_44 : decode cX12_connection 44 = .ok (.imul, 1) := by decide +kernel
theorem dX12_connection_45 : decode cX12_connection 45 = .ok (.iload_n 2, 1) := by decide +kernel
theorem dX12_connection_46 : decode cX12_connection 46 = .ok (.iadd, 1) := by decide +kernel
theorem dX12_connection_47 : decode cX12_connection 47 = .ok (.iaload, 1) := by decide +kernel
theorem dX12_connection_48 : decode cX12_connection 48 = .ok (.ireturn, 1) := by decide +kernel
theorem e_X12_connection_28 {X : gk_X} {F : Nat} {l0 : Nat} {l1 : Int32} {l2 : Int32} {s0 : Int32} {s1 : Nat} {S : gk_S} {r : (Int32 × gk_S)} (h0 : f_X12_connection_28 F l0 l1 l2 s0 s1 S = some r) : EvW X m_X12_connection 2 0 0 28 [some (.ref l0), some (.int l1), some (.int l2)] [.int s0, .ref s1] S (qRI r) := by
  unfold f_X12_connection_28 at h0
  refine ev_iconst (pc := 28) (v := 1) (by decide) dX12_connection_28 ?_
  obtain ⟨g3, h4⟩ := qk_el h0; clear h0
  obtain ⟨x5, S6, e7, h8⟩ := qc_el h4; clear h4
  refine xv_callV (pc := 29) (st := []) (as := [.int s0, .int 1]) (v := (some (.int x5))) (S' := S6) ok_X12_throwsIf (e_X12_throwsIf e7) (isb_el g3) (by decide) rfl (Nat.le_of_ble_eq_true rfl) rfl gw_1272 dX12_connection_29 ?_
  refine ev_if_eq (pc := 32) (tgt := 37) (by decide) dX12_connection_32 (fun c9 => ?_) (fun c9 => ?_)
  · replace h8 := qi_t h8 c9
    refine ev_aload_n (pc := 37) (i := 0) rfl rfl rfl dX12_connection_37 ?_
    obtain ⟨g11, h12⟩ := qk_el h8; clear h8
    obtain ⟨b13, e14, h15⟩ := qP_el h12; clear h12
    refine xv_getP (pc := 38) fn_931 (isb_el g11) e14 gw_1171 dX12_connection_38 ?_
    refine ev_bipush (pc := 41) (v := 9) (by decide) dX12_connection_41 ?_
    refine ev_iload_n (pc := 43) (i := 1) rfl rfl dX12_connection_43 ?_
    refine ev_imul (pc := 44)  dX12_connection_44 ?_
    refine ev_iload_n (pc := 45) (i := 2) rfl rfl dX12_connection_45 ?_
    refine ev_iadd (pc := 46)  dX12_connection_46 ?_
    obtain ⟨g16, h17⟩ := qk_el h15; clear h15
    obtain ⟨g18, h19⟩ := qk_el h17; clear h17
    obtain ⟨x20, e21, h22⟩ := qv_el h19; clear h19
    refine yv_iald (pc := 47) (isb_el g16) (inb_el g18) e21 dX12_connection_47 ?_
    exact ev_ireturn (pc := 48) rfl (nar_int _) (qRI_eq h22) dX12_connection_48
  · replace h8 := qi_f h8 c9
    refine ev_iconst (pc := 35) (v := 0) (by decide) dX12_connection_35 ?_
    exact ev_ireturn (pc := 36) rfl (nar_int _) (qRI_eq h8) dX12_connection_36
theorem e_X12_connection {X : gk_X} {F : Nat} {S : gk_S} {a : Nat} {p0 : Int32} {p1 : Int32} {r : (Int32 × gk_S)} (h0 : f_X12_connection F S a p0 p1 = some r) : EvM X m_X12_connection 2 0 0 [.ref a, .int p0, .int p1] S (qRI r) := by
  unfold f_X12_connection at h0
  refine ev_method (by decide +kernel) rfl rfl (Nat.le_of_ble_eq_true rfl) ?_
  show EvW X m_X12_connection 2 0 0 0 [some (.ref a), some (.int p0), some (.int p1)] [] S _
  refine ev_aload_n (pc := 0) (i := 0) rfl rfl rfl dX12_connection_0 ?_
  refine ev_iload_n (pc := 1) (i := 1) rfl rfl dX12_connection_1 ?_
  refine ev_if_lt (pc := 2) (tgt := 23) (by decide) dX12_connection_2 (fun c1 => ?_) (fun c1 => ?_)
  · replace h0 := qi_t h0 c1
    refine ev_iconst (pc := 23) (v := 1) (by decide) dX12_connection_23 ?_
    refine ev_goto (pc := 24) (tgt := 28) (by decide) dX12_connection_24 ?_
    exact ev_weak (qL_s (qL_s (qL_s qL_nil))) (e_X12_connection_28 h0)
  · replace h0 := qi_f h0 c1
    refine ev_iload_n (pc := 5) (i := 1) rfl rfl dX12_connection_5 ?_
    refine ev_aload_n (pc := 6) (i := 0) rfl rfl rfl dX12_connection_6 ?_
    obtain ⟨g23, h24⟩ := qk_el h0; clear h0
    obtain ⟨x25, e26, h27⟩ := qv_el h24; clear h24
    refine xv_getIv (pc := 7) fn_932 (isb_el g23) e26 gw_1172 dX12_connection_7 ?_
    refine ev_ic_ge (pc := 10) (tgt := 23) (by decide) dX12_connection_10 (fun c28 => ?_) (fun c28 => ?_)
    · replace h27 := qi_t h27 c28
      refine ev_iconst (pc := 23) (v := 1) (by decide) dX12_connection_23 ?_
      refine ev_goto (pc := 24) (tgt := 28) (by decide) dX12_connection_24 ?_
      exact ev_weak (qL_s (qL_s (qL_s qL_nil))) (e_X12_connection_28 h27)
    · replace h27 := qi_f h27 c28
      refine ev_iload_n (pc := 13) (i := 2) rfl rfl dX12_connection_13 ?_
      refine ev_if_lt (pc := 14) (tgt := 23) (by decide) dX12_connection_14 (fun c30 => ?_) (fun c30 => ?_)
      · replace h27 := qi_t h27 c30
        refine ev_iconst (pc := 23) (v := 1) (by decide) dX12_connection_23 ?_
        refine ev_goto (pc := 24) (tgt := 28) (by decide) dX12_connection_24 ?_
        exact ev_weak (qL_s (qL_s (qL_s qL_nil))) (e_X12_connection_28 h27)
      · replace h27 := qi_f h27 c30
        refine ev_iload_n (pc := 17) (i := 2) rfl rfl dX12_connection_17 ?_
        refine ev_bipush (pc := 18) (v := 8) (by decide) dX12_connection_18 ?_
        refine ev_ic_le (pc := 20) (tgt := 27) (by decide) dX12_connection_20 (fun c32 => ?_) (fun c32 => ?_)
        · replace h27 := qi_t h27 c32
          refine ev_iconst (pc := 27) (v := 0) (by decide) dX12_connection_27 ?_
          exact ev_weak (qL_s (qL_s (qL_s qL_nil))) (e_X12_connection_28 h27)
        · replace h27 := qi_f h27 c32
          refine ev_iconst (pc := 23) (v := 1) (by decide) dX12_connection_23 ?_
          refine ev_goto (pc := 24) (tgt := 28) (by decide) dX12_connection_24 ?_
          exact ev_weak (qL_s (qL_s (qL_s qL_nil))) (e_X12_connection_28 h27)
