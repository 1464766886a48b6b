-- deps: 26 25 24a
/-! The walk of areEdges. -/
theorem dL_areEdges_0 : decode cL_areEdges 0 = .ok (.aload_n 1, 1) := by decide +kernel
theorem dL_areEdges_1 : decode cL_areEdges 1 = .ok (.arraylength, 1) := by decide +kernel
theorem dL_areEdges_2 : decode cL_areEdges 2 = .ok (.istore_n 3, 1) := by decide +kernel
theorem dL_areEdges_3 : decode cL_areEdges 3 = .ok (.iconst 0, 1) := by decide +kernel
theorem dL_areEdges_4 : decode cL_areEdges 4 = .ok (.istore 4, 2) := by decide +kernel
theorem dL_areEdges_6 : decode cL_areEdges 6 = .ok (.iload_n 3, 1) := by decide +kernel
theorem dL_areEdges_7 : decode cL_areEdges 7 = .ok (.iload_n 3, 1) := by decide +kernel
theorem dL_areEdges_8 : decode cL_areEdges 8 = .ok (.multianewarray 151 2, 4) := by decide +kernel
theorem dL_areEdges_12 : decode cL_areEdges 12 = .ok (.astore 5, 2) := by decide +kernel
theorem dL_areEdges_14 : decode cL_areEdges 14 = .ok (.iconst 0, 1) := by decide +kernel
theorem dL_areEdges_15 : decode cL_areEdges 15 = .ok (.istore 6, 2) := by decide +kernel
theorem dL_areEdges_17 : decode cL_areEdges 17 = .ok (.iload 6, 2) := by decide +kernel
theorem dL_areEdges_19 : decode cL_areEdges 19 = .ok (.iload_n 3, 1) := by decide +kernel
theorem dL_areEdges_20 : decode cL_areEdges 20 = .ok (.if_icmp .ge 110, 3) := by decide +kernel
theorem dL_areEdges_23 : decode cL_areEdges 23 = .ok (.iconst 0, 1) := by decide +kernel
theorem dL_areEdges_24 : decode cL_areEdges 24 = .ok (.istore 7, 2) := by decide +kernel
theorem dL_areEdges_26 : decode cL_areEdges 26 = .ok (.iload 7, 2) := by decide +kernel
theorem dL_areEdges_28 : decode cL_areEdges 28 = .ok (.iload_n 3, 1) := by decide +kernel
theorem dL_areEdges_29 : decode cL_areEdges 29 = .ok (.if_icmp .ge 95, 3) := by decide +kernel
theorem dL_areEdges_32 : decode cL_areEdges 32 = .ok (.iload 6, 2) := by decide +kernel
theorem dL_areEdges_34 : decode cL_areEdges 34 = .ok (.iload 7, 2) := by decide +kernel
theorem dL_areEdges_36 : decode cL_areEdges 36 = .ok (.if_icmp .ne 21, 3) := by decide +kernel
theorem dL_areEdges_39 : decode cL_areEdges 39 = .ok (.aload_n 0, 1) := by decide +kernel
theorem dL_areEdges_40 : decode cL_areEdges 40 = .ok (.aload_n 1, 1) := by decide +kernel
theorem dL_areEdges_41 : decode cL_areEdges 41 = .ok (.iload 6, 2) := by decide +kernel
theorem dL_areEdges_43 : decode cL_areEdges 43 = .ok (.iaload, 1) := by decide +kernel
theorem dL_areEdges_44 : decode cL_areEdges 44 = .ok (.aload_n 1, 1) := by decide +kernel
theorem dL_areEdges_45 : decode cL_areEdges 45 = .ok (.iload 7, 2) := by decide +kernel
theorem dL_areEdges_47 : decode cL_areEdges 47 = .ok (.iaload, 1) := by decide +kernel
theorem dL_areEdges_48 : decode cL_areEdges 48 = .ok (.invokevirtual 153, 3) := by decide +kernel
theorem dL_areEdges_51 : decode cL_areEdges 51 = .ok (.iconst (-1), 1) := by decide +kernel
theorem dL_areEdges_52 : decode cL_areEdges 52 = .ok (.if_icmp .eq 66, 3) := by decide +kernel
theorem dL_areEdges_55 : decode cL_areEdges 55 = .ok (.iconst 0, 1) := by decide +kernel
theorem dL_areEdges_56 : decode cL_areEdges 56 = .ok (.ireturn, 1) := by decide +kernel
theorem dL_areEdges_57 : decode cL_areEdges 57 = .ok (.aload 5, 2) := by decide +kernel
theorem dL_areEdges_59 : decode cL_areEdges 59 = .ok (.iload 6, 2) := by decide +kernel
theorem dL_areEdges_61 : decode cL_areEdges 61 = .ok (.aaload, 1) := by decide +kernel
theorem dL_areEdges_62 : decode cL_areEdges 62 = .ok (.iload 7, 2) := by decide +kernel
theorem dL_areEdges_64 : decode cL_areEdges 64 = .ok (.sipush 1000, 3) := by decide +kernel
theorem dL_areEdges_67 : decode cL_areEdges 67 = .ok (.iastore, 1) := by decide +kernel
theorem dL_areEdges_68 : decode cL_areEdges 68 = .ok (.aload_n 0, 1) := by decide +kernel
theorem dL_areEdges_69 : decode cL_areEdges 69 = .ok (.aload_n 1, 1) := by decide +kernel
theorem dL_areEdges_70 : decode cL_areEdges 70 = .ok (.iload 6, 2) := by decide +kernel
theorem dL_areEdges_72 : decode cL_areEdges 72 = .ok (.iaload, 1) := by decide +kernel
theorem dL_areEdges_73 : decode cL_areEdges 73 = .ok (.aload_n 1, 1) := by decide +kernel
theorem dL_areEdges_74 : decode cL_areEdges 74 = .ok (.iload 7, 2) := by decide +kernel
theorem dL_areEdges_76 : decode cL_areEdges 76 = .ok (.iaload, 1) := by decide +kernel
theorem dL_areEdges_77 : decode cL_areEdges 77 = .ok (.invokevirtual 153, 3) := by decide +kernel
theorem dL_areEdges_80 : decode cL_areEdges 80 = .ok (.ifCond .ne 6, 3) := by decide +kernel
theorem dL_areEdges_83 : decode cL_areEdges 83 = .ok (.goto 35, 3) := by decide +kernel
theorem dL_areEdges_86 : decode cL_areEdges 86 = .ok (.iinc 4 1, 3) := by decide +kernel
theorem dL_areEdges_89 : decode cL_areEdges 89 = .ok (.aload 5, 2) := by decide +kernel
theorem dL_areEdges_91 : decode cL_areEdges 91 = .ok (.iload 6, 2) := by decide +kernel
theorem dL_areEdges_93 : decode cL_areEdges 93 = .ok (.aaload, 1) := by decide +kernel
theorem dL_areEdges_94 : decode cL_areEdges 94 = .ok (.iload 7, 2) := by decide +kernel
theorem dL_areEdges_96 : decode cL_areEdges 96 = .ok (.iconst 1, 1) := by decide +kernel
theorem dL_areEdges_97 : decode cL_areEdges 97 = .ok (.iastore, 1) := by decide +kernel
theorem dL_areEdges_98 : decode cL_areEdges 98 = .ok (.aload_n 2, 1) := by decide +kernel
theorem dL_areEdges_99 : decode cL_areEdges 99 = .ok (.aload_n 1, 1) := by decide +kernel
theorem dL_areEdges_100 : decode cL_areEdges 100 = .ok (.iload 6, 2) := by decide +kernel
theorem dL_areEdges_102 : decode cL_areEdges 102 = .ok (.iaload, 1) := by decide +kernel
theorem dL_areEdges_103 : decode cL_areEdges 103 = .ok (.iaload, 1) := by decide +kernel
theorem dL_areEdges_104 : decode cL_areEdges 104 = .ok (.aload_n 2, 1) := by decide +kernel
theorem dL_areEdges_105 : decode cL_areEdges 105 = .ok (.aload_n 1, 1) := by decide +kernel
theorem dL_areEdges_106 : decode cL_areEdges 106 = .ok (.iload 7, 2) := by decide +kernel
theorem dL_areEdges_108 : decode cL_areEdges 108 = .ok (.iaload, 1) := by decide +kernel
theorem dL_areEdges_109 : decode cL_areEdges 109 = .ok (.iaload, 1) := by decide +kernel
theorem dL_areEdges_110 : decode cL_areEdges 110 = .ok (.iconst (-1), 1) := by decide +kernel
theorem dL_areEdges_111 : decode cL_areEdges 111 = .ok (.ixor, 1) := by decide +kernel
theorem dL_areEdges_112 : decode cL_areEdges 112 = .ok (.iand, 1) := by decide +kernel
theorem dL_areEdges_113 : decode cL_areEdges 113 = .ok (.ifCond .eq 5, 3) := by decide +kernel
theorem dL_areEdges_116 : decode cL_areEdges 116 = .ok (.iconst 0, 1) := by decide +kernel
theorem dL_areEdges_117 : decode cL_areEdges 117 = .ok (.ireturn, 1) := by decide +kernel
theorem dL_areEdges_118 : decode cL_areEdges 118 = .ok (.iinc 7 1, 3) := by decide +kernel
theorem dL_areEdges_121 : decode cL_areEdges 121 = .ok (.goto (-95), 3) := by decide +kernel
theorem dL_areEdges_124 : decode cL_areEdges 124 = .ok (.iinc 6 1, 3) := by decide +kernel
theorem dL_areEdges_127 : decode cL_areEdges 127 = .ok (.goto (-110), 3) := by decide +kernel
theorem dL_areEdges_130 : decode cL_areEdges 130 = .ok (.aload_n 0, 1) := by decide +kernel
theorem dL_areEdges_131 : decode cL_areEdges 131 = .ok (.invokevirtual 156, 3) := by decide +kernel
theorem dL_areEdges_134 : decode cL_areEdges 134 = .ok (.iload 4, 2) := by decide +kernel
theorem dL_areEdges_136 : decode cL_areEdges 136 = .ok (.if_icmp .eq 5, 3) := by decide +kernel
theorem dL_areEdges_139 : decode cL_areEdges 139 = .ok (.iconst 0, 1) := by decide +kernel
theorem dL_areEdges_140 : decode cL_areEdges 140 = .ok (.ireturn, 1) := by decide +kernel
theorem dL_areEdges_141 : decode cL_areEdges 141 = .ok (.iconst 0, 1) := by decide +kernel
theorem dL_areEdges_142 : decode cL_areEdges 142 = .ok (.istore 6, 2) := by decide +kernel
theorem dL_areEdges_144 : decode cL_areEdges 144 = .ok (.iload 6, 2) := by decide +kernel
theorem dL_areEdges_146 : decode cL_areEdges 146 = .ok (.iload_n 3, 1) := by decide +kernel
theorem dL_areEdges_147 : decode cL_areEdges 147 = .ok (.if_icmp .ge 75, 3) := by decide +kernel
theorem dL_areEdges_150 : decode cL_areEdges 150 = .ok (.iconst 0, 1) := by decide +kernel
theorem dL_areEdges_151 : decode cL_areEdges 151 = .ok (.istore 7, 2) := by decide +kernel
theorem dL_areEdges_153 : decode cL_areEdges 153 = .ok (.iload 7, 2) := by decide +kernel
theorem dL_areEdges_155 : decode cL_areEdges 155 = .ok (.iload_n 3, 1) := by decide +kernel
theorem dL_areEdges_156 : decode cL_areEdges 156 = .ok (.if_icmp .ge 60, 3) := by decide +kernel
theorem dL_areEdges_159 : decode cL_areEdges 159 = .ok (.iconst 0, 1) := by decide +kernel
theorem dL_areEdges_160 : decode cL_areEdges 160 = .ok (.istore 8, 2) := by decide +kernel
theorem dL_areEdges_162 : decode cL_areEdges 162 = .ok (.iload 8, 2) := by decide +kernel
theorem dL_areEdges_164 : decode cL_areEdges 164 = .ok (.iload_n 3, 1) := by decide +kernel
theorem dL_areEdges_165 : decode cL_areEdges 165 = .ok (.if_icmp .ge 45, 3) := by decide +kernel
theorem dL_areEdges_168 : decode cL_areEdges 168 = .ok (.aload 5, 2) := by decide +kernel
theorem dL_areEdges_170 : decode cL_areEdges 170 = .ok (.iload 7, 2) := by decide +kernel
theorem dL_areEdges_172 : decode cL_areEdges 172 = .ok (.aaload, 1) := by decide +kernel
theorem dL_areEdges_173 : decode cL_areEdges 173 = .ok (.iload 8, 2) := by decide +kernel
theorem dL_areEdges_175 : decode cL_areEdges 175 = .ok (.aload 5, 2) := by decide +kernel
theorem dL_areEdges_177 : decode cL_areEdges 177 = .ok (.iload 7, 2) := by decide +kernel
theorem dL_areEdges_179 : decode cL_areEdges 179 = .ok (.aaload, 1) := by decide +kernel
theorem dL_areEdges_180 : decode cL_areEdges 180 = .ok (.iload 8, 2) := by decide +kernel
theorem dL_areEdges_182 : decode cL_areEdges 182 = .ok (.iaload, 1) := by decide +kernel
theorem dL_areEdges_183 : decode cL_areEdges 183 = .ok (.aload 5, 2) := by decide +kernel
theorem dL_areEdges_185 : decode cL_areEdges 185 = .ok (.iload 7, 2) := by decide +kernel
theorem dL_areEdges_187 : decode cL_areEdges 187 = .ok (.aaload, 1) := by decide +kernel
theorem dL_areEdges_188 : decode cL_areEdges 188 = .ok (.iload 6, 2) := by decide +kernel
theorem dL_areEdges_190 : decode cL_areEdges 190 = .ok (.iaload, 1) := by decide +kernel
theorem dL_areEdges_191 : decode cL_areEdges 191 = .ok (.aload 5, 2) := by decide +kernel
theorem dL_areEdges_193 : decode cL_areEdges 193 = .ok (.iload 6, 2) := by decide +kernel
theorem dL_areEdges_195 : decode cL_areEdges 195 = .ok (.aaload, 1) := by decide +kernel
theorem dL_areEdges_196 : decode cL_areEdges 196 = .ok (.iload 8, 2) := by decide +kernel
theorem dL_areEdges_198 : decode cL_areEdges 198 = .ok (.iaload, 1) := by decide +kernel
theorem dL_areEdges_199 : decode cL_areEdges 199 = .ok (.iadd, 1) := by decide +kernel
theorem dL_areEdges_200 : decode cL_areEdges 200 = .ok (.invokestatic 159, 3) := by decide +kernel
theorem dL_areEdges_203 : decode cL_areEdges 203 = .ok (.iastore, 1) := by decide +kernel
theorem dL_areEdges_204 : decode cL_areEdges 204 = .ok (.iinc 8 1, 3) := by decide +kernel
theorem dL_areEdges_207 : decode cL_areEdges 207 = .ok (.goto (-45), 3) := by decide +kernel
theorem dL_areEdges_210 : decode cL_areEdges 210 = .ok (.iinc 7 1, 3) := by decide +kernel
theorem dL_areEdges_213 : decode cL_areEdges 213 = .ok (.goto (-60), 3) := by decide +kernel
theorem dL_areEdges_216 : decode cL_areEdges 216 = .ok (.iinc 6 1, 3) := by decide +kernel
theorem dL_areEdges_219 : decode cL_areEdges 219 = .ok (.goto (-75), 3) := by decide +kernel
theorem dL_areEdges_222 : decode cL_areEdges 222 = .ok (.iconst 0, 1) := by decide +kernel
theorem dL_areEdges_223 : decode cL_areEdges 223 = .ok (.istore 6, 2) := by decide +kernel
theorem dL_areEdges_225 : decode cL_areEdges 225 = .ok (.iconst 0, 1) := by decide +kernel
theorem dL_areEdges_226 : decode cL_areEdges 226 = .ok (.istore 7, 2) := by decide +kernel
theorem dL_areEdges_228 : decode cL_areEdges 228 = .ok (.iconst 0, 1) := by decide +kernel
theorem dL_areEdges_229 : decode cL_areEdges 229 = .ok (.istore 8, 2) := by decide +kernel
theorem dL_areEdges_231 : decode cL_areEdges 231 = .ok (.iconst 0, 1) := by decide +kernel
theorem dL_areEdges_232 : decode cL_areEdges 232 = .ok (.istore 9, 2) := by decide +kernel
theorem dL_areEdges_234 : decode cL_areEdges 234 = .ok (.iload 9, 2) := by decide +kernel
theorem dL_areEdges_236 : decode cL_areEdges 236 = .ok (.iload_n 3, 1) := by decide +kernel
theorem dL_areEdges_237 : decode cL_areEdges 237 = .ok (.if_icmp .ge 189, 3) := by decide +kernel
theorem dL_areEdges_240 : decode cL_areEdges 240 = .ok (.iconst 0, 1) := by decide +kernel
theorem dL_areEdges_241 : decode cL_areEdges 241 = .ok (.istore 10, 2) := by decide +kernel
theorem dL_areEdges_243 : decode cL_areEdges 243 = .ok (.iload 9, 2) := by decide +kernel
theorem dL_areEdges_245 : decode cL_areEdges 245 = .ok (.istore 11, 2) := by decide +kernel
theorem dL_areEdges_247 : decode cL_areEdges 247 = .ok (.iload_n 3, 1) := by decide +kernel
theorem dL_areEdges_248 : decode cL_areEdges 248 = .ok (.iconst 1, 1) := by decide +kernel
theorem dL_areEdges_249 : decode cL_areEdges 249 = .ok (.isub, 1) := by decide +kernel
theorem dL_areEdges_250 : decode cL_areEdges 250 = .ok (.istore 12, 2) := by decide +kernel
theorem dL_areEdges_252 : decode cL_areEdges 252 = .ok (.iload 12, 2) := by decide +kernel
theorem dL_areEdges_254 : decode cL_areEdges 254 = .ok (.ifCond .lt 96, 3) := by decide +kernel
theorem dL_areEdges_257 : decode cL_areEdges 257 = .ok (.aload_n 0, 1) := by decide +kernel
theorem dL_areEdges_258 : decode cL_areEdges 258 = .ok (.aload_n 1, 1) := by decide +kernel
theorem dL_areEdges_259 : decode cL_areEdges 259 = .ok (.iload 9, 2) := by decide +kernel
theorem dL_areEdges_261 : decode cL_areEdges 261 = .ok (.iaload, 1) := by decide +kernel
theorem dL_areEdges_262 : decode cL_areEdges 262 = .ok (.aload_n 1, 1) := by decide +kernel
theorem dL_areEdges_263 : decode cL_areEdges 263 = .ok (.iload 12, 2) := by decide +kernel
theorem dL_areEdges_265 : decode cL_areEdges 265 = .ok (.iaload, 1) := by decide +kernel
theorem dL_areEdges_266 : decode cL_areEdges 266 = .ok (.invokevirtual 164, 3) := by decide +kernel
theorem dL_areEdges_269 : decode cL_areEdges 269 = .ok (.aload 5, 2) := by decide +kernel
theorem dL_areEdges_271 : decode cL_areEdges 271 = .ok (.iload 9, 2) := by decide +kernel
theorem dL_areEdges_273 : decode cL_areEdges 273 = .ok (.aaload, 1) := by decide +kernel
theorem dL_areEdges_274 : decode cL_areEdges 274 = .ok (.iload 12, 2) := by decide +kernel
theorem dL_areEdges_276 : decode cL_areEdges 276 = .ok (.iaload, 1) := by decide +kernel
theorem dL_areEdges_277 : decode cL_areEdges 277 = .ok (.sipush 1000, 3) := by decide +kernel
theorem dL_areEdges_280 : decode cL_areEdges 280 = .ok (.if_icmp .lt 8, 3) := by decide +kernel
theorem dL_areEdges_283 : decode cL_areEdges 283 = .ok (.bipush (-2), 2) := by decide +kernel
theorem dL_areEdges_285 : decode cL_areEdges 285 = .ok (.goto 11, 3) := by decide +kernel
theorem dL_areEdges_288 : decode cL_areEdges 288 = .ok (.aload 5, 2) := by decide +kernel
theorem dL_areEdges_290 : decode cL_areEdges 290 = .ok (.iload 9, 2) := by decide +kernel
theorem dL_areEdges_292 : decode cL_areEdges 292 = .ok (.aaload, 1) := by decide +kernel
theorem dL_areEdges_293 : decode cL_areEdges 293 = .ok (.iload 12, 2) := by decide +kernel
theorem dL_areEdges_295 : decode cL_areEdges 295 = .ok (.iaload, 1) := by decide +kernel
theorem dL_areEdges_296 : decode cL_areEdges 296 = .ok (.if_icmp .eq 5, 3) := by decide +kernel
theorem dL_areEdges_299 : decode cL_areEdges 299 = .ok (.iconst 0, 1) := by decide +kernel
theorem dL_areEdges_300 : decode cL_areEdges 300 = .ok (.ireturn, 1) := by decide +kernel
theorem dL_areEdges_301 : decode cL_areEdges 301 = .ok (.aload 5, 2) := by decide +kernel
theorem dL_areEdges_303 : decode cL_areEdges 303 = .ok (.iload 9, 2) := by decide +kernel
theorem dL_areEdges_305 : decode cL_areEdges 305 = .ok (.aaload, 1) := by decide +kernel
theorem dL_areEdges_306 : decode cL_areEdges 306 = .ok (.iload 12, 2) := by decide +kernel
theorem dL_areEdges_308 : decode cL_areEdges 308 = .ok (.iaload, 1) := by decide +kernel
theorem dL_areEdges_309 : decode cL_areEdges 309 = .ok (.sipush 1000, 3) := by decide +kernel
theorem dL_areEdges_312 : decode cL_areEdges 312 = .ok (.if_icmp .ge 32, 3) := by decide +kernel
theorem dL_areEdges_315 : decode cL_areEdges 315 = .ok (.aload 5, 2) := by decide +kernel
theorem dL_areEdges_317 : decode cL_areEdges 317 = .ok (.iload 12, 2) := by decide +kernel
theorem dL_areEdges_319 : decode cL_areEdges 319 = .ok (.aaload, 1) := by decide +kernel
theorem dL_areEdges_320 : decode cL_areEdges 320 = .ok (.iload 9, 2) := by decide +kernel
theorem dL_areEdges_322 : decode cL_areEdges 322 = .ok (.iaload, 1) := by decide +kernel
theorem dL_areEdges_323 : decode cL_areEdges 323 = .ok (.sipush 1000, 3) := by decide +kernel
theorem dL_areEdges_326 : decode cL_areEdges 326 = .ok (.if_icmp .lt 6, 3) := by decide +kernel
theorem dL_areEdges_329 : decode cL_areEdges 329 = .ok (.goto 15, 3) := by decide +kernel
theorem dL_areEdges_332 : decode cL_areEdges 332 = .ok (.iinc 10 1, 3) := by decide +kernel
theorem dL_areEdges_335 : decode cL_areEdges 335 = .ok (.iload 11, 2) := by decide +kernel
theorem dL_areEdges_337 : decode cL_areEdges 337 = .ok (.iload 12, 2) := by decide +kernel
theorem dL_areEdges_339 : decode cL_areEdges 339 = .ok (.invokestatic 159, 3) := by decide +kernel
theorem dL_areEdges_342 : decode cL_areEdges 342 = .ok (.istore 11, 2) := by decide +kernel
theorem dL_areEdges_344 : decode cL_areEdges 344 = .ok (.iinc 12 (-1), 3) := by decide +kernel
theorem dL_areEdges_347 : decode cL_areEdges 347 = .ok (.goto (-95), 3) := by decide +kernel
theorem dL_areEdges_350 : decode cL_areEdges 350 = .ok (.aload_n 0, 1) := by decide +kernel
theorem dL_areEdges_351 : decode cL_areEdges 351 = .ok (.aload_n 1, 1) := by decide +kernel
theorem dL_areEdges_352 : decode cL_areEdges 352 = .ok (.iload 9, 2) := by decide +kernel
theorem dL_areEdges_354 : decode cL_areEdges 354 = .ok (.iaload, 1) := by decide +kernel
theorem dL_areEdges_355 : decode cL_areEdges 355 = .ok (.invokevirtual 167, 3) := by decide +kernel
theorem dL_areEdges_358 : decode cL_areEdges 358 = .ok (.iload 10, 2) := by decide +kernel
theorem dL_areEdges_360 : decode cL_areEdges 360 = .ok (.if_icmp .ne 18, 3) := by decide +kernel
theorem dL_areEdges_363 : decode cL_areEdges 363 = .ok (.aload_n 0, 1) := by decide +kernel
theorem dL_areEdges_364 : decode cL_areEdges 364 = .ok (.aload_n 1, 1) := by decide +kernel
theorem dL_areEdges_365 : decode cL_areEdges 365 = .ok (.iload 9, 2) := by decide +kernel
theorem dL_areEdges_367 : decode cL_areEdges 367 = .ok (.iaload, 1) := by decide +kernel
theorem dL_areEdges_368 : decode cL_areEdges 368 = .ok (.invokevirtual 170, 3) := by decide +kernel
theorem dL_areEdges_371 : decode cL_areEdges 371 = .ok (.aload_n 1, 1) := by decide +kernel
theorem dL_areEdges_372 : decode cL_areEdges 372 = .ok (.iload 11, 2) := by decide +kernel
theorem dL_areEdges_374 : decode cL_areEdges 374 = .ok (.iaload, 1) := by decide +kernel
theorem dL_areEdges_375 : decode cL_areEdges 375 = .ok (.if_icmp .eq 5, 3) := by decide +kernel
theorem dL_areEdges_378 : decode cL_areEdges 378 = .ok (.iconst 0, 1) := by decide +kernel
theorem dL_areEdges_379 : decode cL_areEdges 379 = .ok (.ireturn, 1) := by decide +kernel
theorem dL_areEdges_380 : decode cL_areEdges 380 = .ok (.iload 6, 2) := by decide +kernel
theorem dL_areEdges_382 : decode cL_areEdges 382 = .ok (.iload 11, 2) := by decide +kernel
theorem dL_areEdges_384 : decode cL_areEdges 384 = .ok (.iload 9, 2) := by decide +kernel
theorem dL_areEdges_386 : decode cL_areEdges 386 = .ok (.if_icmp .ne 7, 3) := by decide +kernel
theorem dL_areEdges_389 : decode cL_areEdges 389 = .ok (.iconst 1, 1) := by decide +kernel
theorem dL_areEdges_390 : decode cL_areEdges 390 = .ok (.goto 4, 3) := by decide +kernel
theorem dL_areEdges_393 : decode cL_areEdges 393 = .ok (.iconst 0, 1) := by decide +kernel
theorem dL_areEdges_394 : decode cL_areEdges 394 = .ok (.iadd, 1) := by decide +kernel
theorem dL_areEdges_395 : decode cL_areEdges 395 = .ok (.istore 6, 2) := by decide +kernel
theorem dL_areEdges_397 : decode cL_areEdges 397 = .ok (.iload 7, 2) := by decide +kernel
theorem dL_areEdges_399 : decode cL_areEdges 399 = .ok (.iload 11, 2) := by decide +kernel
theorem dL_areEdges_401 : decode cL_areEdges 401 = .ok (.iload 9, 2) := by decide +kernel
theorem dL_areEdges_403 : decode cL_areEdges 403 = .ok (.if_icmp .ne 13, 3) := by decide +kernel
theorem dL_areEdges_406 : decode cL_areEdges 406 = .ok (.iload 10, 2) := by decide +kernel
theorem dL_areEdges_408 : decode cL_areEdges 408 = .ok (.iconst 1, 1) := by decide +kernel
theorem dL_areEdges_409 : decode cL_areEdges 409 = .ok (.if_icmp .le 7, 3) := by decide +kernel
theorem dL_areEdges_412 : decode cL_areEdges 412 = .ok (.iconst 1, 1) := by decide +kernel
theorem dL_areEdges_413 : decode cL_areEdges 413 = .ok (.goto 4, 3) := by decide +kernel
theorem dL_areEdges_416 : decode cL_areEdges 416 = .ok (.iconst 0, 1) := by decide +kernel
theorem dL_areEdges_417 : decode cL_areEdges 417 = .ok (.iadd, 1) := by decide +kernel
theorem dL_areEdges_418 : decode cL_areEdges 418 = .ok (.istore 7, 2) := by decide +kernel
theorem dL_areEdges_420 : decode cL_areEdges 420 = .ok (.iinc 9 1, 3) := by decide +kernel
theorem dL_areEdges_423 : decode cL_areEdges 423 = .ok (.goto (-189), 3) := by decide +kernel
theorem dL_areEdges_426 : decode cL_areEdges 426 = .ok (.iconst 0, 1) := by decide +kernel
theorem dL_areEdges_427 : decode cL_areEdges 427 = .ok (.istore 9, 2) := by decide +kernel
theorem dL_areEdges_429 : decode cL_areEdges 429 = .ok (.iload 9, 2) := by decide +kernel
theorem dL_areEdges_431 : decode cL_areEdges 431 = .ok (.iload_n 3, 1) := by decide +kernel
theorem dL_areEdges_432 : decode cL_areEdges 432 = .ok (.if_icmp .ge 182, 3) := by decide +kernel
theorem dL_areEdges_435 : decode cL_areEdges 435 = .ok (.iconst 0, 1) := by decide +kernel
theorem dL_areEdges_436 : decode cL_areEdges 436 = .ok (.istore 10, 2) := by decide +kernel
theorem dL_areEdges_438 : decode cL_areEdges 438 = .ok (.iload 10, 2) := by decide +kernel
theorem dL_areEdges_440 : decode cL_areEdges 440 = .ok (.iload_n 3, 1) := by decide +kernel
theorem dL_areEdges_441 : decode cL_areEdges 441 = .ok (.if_icmp .ge 167, 3) := by decide +kernel
theorem dL_areEdges_444 : decode cL_areEdges 444 = .ok (.aload_n 0, 1) := by decide +kernel
theorem dL_areEdges_445 : decode cL_areEdges 445 = .ok (.aload_n 1, 1) := by decide +kernel
theorem dL_areEdges_446 : decode cL_areEdges 446 = .ok (.iload 9, 2) := by decide +kernel
theorem dL_areEdges_448 : decode cL_areEdges 448 = .ok (.iaload, 1) := by decide +kernel
theorem dL_areEdges_449 : decode cL_areEdges 449 = .ok (.invokevirtual 170, 3) := by decide +kernel
theorem dL_areEdges_452 : decode cL_areEdges 452 = .ok (.aload_n 1, 1) := by decide +kernel
theorem dL_areEdges_453 : decode cL_areEdges 453 = .ok (.iload 9, 2) := by decide +kernel
theorem dL_areEdges_455 : decode cL_areEdges 455 = .ok (.iaload, 1) := by decide +kernel
theorem dL_areEdges_456 : decode cL_areEdges 456 = .ok (.if_icmp .ne 146, 3) := by decide +kernel
theorem dL_areEdges_459 : decode cL_areEdges 459 = .ok (.aload_n 0, 1) := by decide +kernel
theorem dL_areEdges_460 : decode cL_areEdges 460 = .ok (.aload_n 1, 1) := by decide +kernel
theorem dL_areEdges_461 : decode cL_areEdges 461 = .ok (.iload 10, 2) := by decide +kernel
theorem dL_areEdges_463 : decode cL_areEdges 463 = .ok (.iaload, 1) := by decide +kernel
theorem dL_areEdges_464 : decode cL_areEdges 464 = .ok (.invokevirtual 170, 3) := by decide +kernel
theorem dL_areEdges_467 : decode cL_areEdges 467 = .ok (.aload_n 1, 1) := by decide +kernel
theorem dL_areEdges_468 : decode cL_areEdges 468 = .ok (.iload 10, 2) := by decide +kernel
theorem dL_areEdges_470 : decode cL_areEdges 470 = .ok (.iaload, 1) := by decide +kernel
theorem dL_areEdges_471 : decode cL_areEdges 471 = .ok (.if_icmp .ne 131, 3) := by decide +kernel
theorem dL_areEdges_474 : decode cL_areEdges 474 = .ok (.iload 9, 2) := by decide +kernel
theorem dL_areEdges_476 : decode cL_areEdges 476 = .ok (.iload 10, 2) := by decide +kernel
theorem dL_areEdges_478 : decode cL_areEdges 478 = .ok (.if_icmp .ne 6, 3) := by decide +kernel
theorem dL_areEdges_481 : decode cL_areEdges 481 = .ok (.goto 121, 3) := by decide +kernel
theorem dL_areEdges_484 : decode cL_areEdges 484 = .ok (.iconst 0, 1) := by decide +kernel
theorem dL_areEdges_485 : decode cL_areEdges 485 = .ok (.istore 11, 2) := by decide +kernel
theorem dL_areEdges_487 : decode cL_areEdges 487 = .ok (.iconst 0, 1) := by decide +kernel
theorem dL_areEdges_488 : decode cL_areEdges 488 = .ok (.istore 12, 2) := by decide +kernel
theorem dL_areEdges_490 : decode cL_areEdges 490 = .ok (.iload 12, 2) := by decide +kernel
theorem dL_areEdges_492 : decode cL_areEdges 492 = .ok (.iload_n 3, 1) := by decide +kernel
theorem dL_areEdges_493 : decode cL_areEdges 493 = .ok (.if_icmp .ge 94, 3) := by decide +kernel
theorem dL_areEdges_496 : decode cL_areEdges 496 = .ok (.iload 11, 2) := by decide +kernel
theorem dL_areEdges_498 : decode cL_areEdges 498 = .ok (.ifCond .ne 89, 3) := by decide +kernel
theorem dL_areEdges_501 : decode cL_areEdges 501 = .ok (.iconst 0, 1) := by decide +kernel
theorem dL_areEdges_502 : decode cL_areEdges 502 = .ok (.istore 13, 2) := by decide +kernel
theorem dL_areEdges_504 : decode cL_areEdges 504 = .ok (.iload 13, 2) := by decide +kernel
theorem dL_areEdges_506 : decode cL_areEdges 506 = .ok (.iload_n 3, 1) := by decide +kernel
theorem dL_areEdges_507 : decode cL_areEdges 507 = .ok (.if_icmp .ge 74, 3) := by decide +kernel
theorem dL_areEdges_510 : decode cL_areEdges 510 = .ok (.iload 11, 2) := by decide +kernel
theorem dL_areEdges_512 : decode cL_areEdges 512 = .ok (.ifCond .ne 69, 3) := by decide +kernel
theorem dL_areEdges_515 : decode cL_areEdges 515 = .ok (.iload 12, 2) := by decide +kernel
theorem dL_areEdges_517 : decode cL_areEdges 517 = .ok (.iload 13, 2) := by decide +kernel
theorem dL_areEdges_519 : decode cL_areEdges 519 = .ok (.if_icmp .eq 53, 3) := by decide +kernel
theorem dL_areEdges_522 : decode cL_areEdges 522 = .ok (.aload_n 0, 1) := by decide +kernel
theorem dL_areEdges_523 : decode cL_areEdges 523 = .ok (.aload_n 1, 1) := by decide +kernel
theorem dL_areEdges_524 : decode cL_areEdges 524 = .ok (.iload 12, 2) := by decide +kernel
theorem dL_areEdges_526 : decode cL_areEdges 526 = .ok (.iaload, 1) := by decide +kernel
theorem dL_areEdges_527 : decode cL_areEdges 527 = .ok (.invokevirtual 170, 3) := by decide +kernel
theorem dL_areEdges_530 : decode cL_areEdges 530 = .ok (.aload_n 1, 1) := by decide +kernel
theorem dL_areEdges_531 : decode cL_areEdges 531 = .ok (.iload 9, 2) := by decide +kernel
theorem dL_areEdges_533 : decode cL_areEdges 533 = .ok (.iaload, 1) := by decide +kernel
theorem dL_areEdges_534 : decode cL_areEdges 534 = .ok (.if_icmp .ne 38, 3) := by decide +kernel
theorem dL_areEdges_537 : decode cL_areEdges 537 = .ok (.aload_n 0, 1) := by decide +kernel
theorem dL_areEdges_538 : decode cL_areEdges 538 = .ok (.aload_n 1, 1) := by decide +kernel
theorem dL_areEdges_539 : decode cL_areEdges 539 = .ok (.iload 13, 2) := by decide +kernel
theorem dL_areEdges_541 : decode cL_areEdges 541 = .ok (.iaload, 1) := by decide +kernel
theorem dL_areEdges_542 : decode cL_areEdges 542 = .ok (.invokevirtual 170, 3) := by decide +kernel
theorem dL_areEdges_545 : decode cL_areEdges 545 = .ok (.aload_n 1, 1) := by decide +kernel
theorem dL_areEdges_546 : decode cL_areEdges 546 = .ok (.iload 10, 2) := by decide +kernel
theorem dL_areEdges_548 : decode cL_areEdges 548 = .ok (.iaload, 1) := by decide +kernel
theorem dL_areEdges_549 : decode cL_areEdges 549 = .ok (.if_icmp .ne 23, 3) := by decide +kernel
theorem dL_areEdges_552 : decode cL_areEdges 552 = .ok (.aload_n 0, 1) := by decide +kernel
theorem dL_areEdges_553 : decode cL_areEdges 553 = .ok (.aload_n 1, 1) := by decide +kernel
theorem dL_areEdges_554 : decode cL_areEdges 554 = .ok (.iload 12, 2) := by decide +kernel
theorem dL_areEdges_556 : decode cL_areEdges 556 = .ok (.iaload, 1) := by decide +kernel
theorem dL_areEdges_557 : decode cL_areEdges 557 = .ok (.aload_n 1, 1) := by decide +kernel
theorem dL_areEdges_558 : decode cL_areEdges 558 = .ok (.iload 13, 2) := by decide +kernel
theorem dL_areEdges_560 : decode cL_areEdges 560 = .ok (.iaload, 1) := by decide +kernel
theorem dL_areEdges_561 : decode cL_areEdges 561 = .ok (.invokevirtual 153, 3) := by decide +kernel
theorem dL_areEdges_564 : decode cL_areEdges 564 = .ok (.iconst 1, 1) := by decide +kernel
theorem dL_areEdges_565 : decode cL_areEdges 565 = .ok (.if_icmp .ne 7, 3) := by decide +kernel
theorem dL_areEdges_568 : decode cL_areEdges 568 = .ok (.iconst 1, 1) := by decide +kernel
theorem dL_areEdges_569 : decode cL_areEdges 569 = .ok (.goto 4, 3) := by decide +kernel
theorem dL_areEdges_572 : decode cL_areEdges 572 = .ok (.iconst 0, 1) := by decide +kernel
theorem dL_areEdges_573 : decode cL_areEdges 573 = .ok (.istore 11, 2) := by decide +kernel
theorem dL_areEdges_575 : decode cL_areEdges 575 = .ok (.iinc 13 1, 3) := by decide +kernel
theorem dL_areEdges_578 : decode cL_areEdges 578 = .ok (.goto (-74), 3) := by decide +kernel
theorem dL_areEdges_581 : decode cL_areEdges 581 = .ok (.iinc 12 1, 3) := by decide +kernel
theorem dL_areEdges_584 : decode cL_areEdges 584 = .ok (.goto (-94), 3) := by decide +kernel
theorem dL_areEdges_587 : decode cL_areEdges 587 = .ok (.iload 8, 2) := by decide +kernel
theorem dL_areEdges_589 : decode cL_areEdges 589 = .ok (.iload 11, 2) := by decide +kernel
theorem dL_areEdges_591 : decode cL_areEdges 591 = .ok (.ifCond .eq 7, 3) := by decide +kernel
theorem dL_areEdges_594 : decode cL_areEdges 594 = .ok (.iconst 1, 1) := by decide +kernel
theorem dL_areEdges_595 : decode cL_areEdges 595 = .ok (.goto 4, 3) := by decide +kernel
theorem dL_areEdges_598 : decode cL_areEdges 598 = .ok (.iconst 0, 1) := by decide +kernel
theorem dL_areEdges_599 : decode cL_areEdges 599 = .ok (.iadd, 1) := by decide +kernel
theorem dL_areEdges_600 : decode cL_areEdges 600 = .ok (.istore 8, 2) := by decide +kernel
theorem dL_areEdges_602 : decode cL_areEdges 602 = .ok (.iinc 10 1, 3) := by decide +kernel
theorem dL_areEdges_605 : decode cL_areEdges 605 = .ok (.goto (-167), 3) := by decide +kernel
theorem dL_areEdges_608 : decode cL_areEdges 608 = .ok (.iinc 9 1, 3) := by decide +kernel
theorem dL_areEdges_611 : decode cL_areEdges 611 = .ok (.goto (-182), 3) := by decide +kernel
theorem dL_areEdges_614 : decode cL_areEdges 614 = .ok (.aload_n 0, 1) := by decide +kernel
theorem dL_areEdges_615 : decode cL_areEdges 615 = .ok (.invokevirtual 93, 3) := by decide +kernel
theorem dL_areEdges_618 : decode cL_areEdges 618 = .ok (.iload 6, 2) := by decide +kernel
theorem dL_areEdges_620 : decode cL_areEdges 620 = .ok (.if_icmp .ne 25, 3) := by decide +kernel
theorem dL_areEdges_623 : decode cL_areEdges 623 = .ok (.aload_n 0, 1) := by decide +kernel
theorem dL_areEdges_624 : decode cL_areEdges 624 = .ok (.invokevirtual 173, 3) := by decide +kernel
theorem dL_areEdges_627 : decode cL_areEdges 627 = .ok (.iload 7, 2) := by decide +kernel
theorem dL_areEdges_629 : decode cL_areEdges 629 = .ok (.if_icmp .ne 16, 3) := by decide +kernel
theorem dL_areEdges_632 : decode cL_areEdges 632 = .ok (.aload_n 0, 1) := by decide +kernel
theorem dL_areEdges_633 : decode cL_areEdges 633 = .ok (.invokevirtual 176, 3) := by decide +kernel
theorem dL_areEdges_636 : decode cL_areEdges 636 = .ok (.iload 8, 2) := by decide +kernel
theorem dL_areEdges_638 : decode cL_areEdges 638 = .ok (.if_icmp .ne 7, 3) := by decide +kernel
theorem dL_areEdges_641 : decode cL_areEdges 641 = .ok (.iconst 1, 1) := by decide +kernel
theorem dL_areEdges_642 : decode cL_areEdges 642 = .ok (.goto 4, 3) := by decide +kernel
theorem dL_areEdges_645 : decode cL_areEdges 645 = .ok (.iconst 0, 1) := by decide +kernel
theorem dL_areEdges_646 : decode cL_areEdges 646 = .ok (.ireturn, 1) := by decide +kernel
theorem ms_L_areEdges : MSt yL_areEdges cL_areEdges 14 (some .boolean) 3 := ⟨tw_5_21, tw_1_0, by decide, by decide, by decide +kernel⟩
set_option maxHeartbeats 8000000 in
set_option maxRecDepth 100000 in
theorem c_L_areEdges {l : Launch} {g : Gh} {Lx : Nat × (Nat → Int32)} {aC : Nat → Nat} {w : Wd} {a1 a2 n : Nat} {fa fs : Nat → Int32} {rz : Int32 × Wd} (hF : f_L_areEdges w n fa fs = some rz) (hn : n ≤ 100) (hnn : n * n ≤ 10000) (hA : ∀ k, 1000 ≤ k → aC k = g.2.2 k) : LMt l Lx g yL_areEdges cL_areEdges 14 (some .boolean) 7 200 20000 ([(a1, ia g n fa), (a2, ia g 140 fs)] ++ zcells zC (gW g aC) w) [.ref (aC 0), .ref a1, .ref a2] (fun v nb => v = some (.int rz.1) ∧ nb = [(a1, ia g n fa), (a2, ia g 140 fs)] ++ zcells zC (gW g aC) rz.2) := by
  refine lm_start (by decide) (Nat.le_of_ble_eq_true rfl) ?_
  intro p e s m args below meth c ls X hZ hnm hr hl hL
  have hx := X.1
  have hb := X.2.1
  have hown := X.2.2.2.1
  have ht := X.2.2.2.2.1
  have hl : lv_has ls 14 [(0, .ref (aC 0)), (1, .ref a1), (2, .ref a2)] := hl
  have hL : LW g (va_A ([(a1, ia g n fa), (a2, ia g 140 fs)] ++ zcells zC (gW g aC) w) s.heap.size) ([(a1, ia g n fa), (a2, ia g 140 fs)] ++ zcells zC (gW g aC) w) s.heap s.heap [] := hL
  unfold f_L_areEdges at hF
  have key : ∀ (H : Heap) (locs : List Loc), LW g (va_A ([(a1, ia g n fa), (a2, ia g 140 fs)] ++ zcells zC (gW g aC) w) s.heap.size) ([(a1, ia g n fa), (a2, ia g 140 fs)] ++ zcells zC (gW g aC) w) s.heap H locs → W p l e { frames := 7, cells := 200, slots := 20000, locals := 40 * 7 } s m args below meth c H locs 0 0 (MQ below (LQc g ([(a1, ia g n fa), (a2, ia g 140 fs)] ++ zcells zC (gW g aC) w) s.heap.size (fun v nb => v = some (.int rz.1) ∧ nb = [(a1, ia g n fa), (a2, ia g 140 fs)] ++ zcells zC (gW g aC) rz.2)) args s 200 20000 (va_A ([(a1, ia g n fa), (a2, ia g 140 fs)] ++ zcells zC (gW g aC) w) s.heap.size)) (F0 m 0 ls []) := by
    intro H locs hL
    refine lv_aload_n hx hb dL_areEdges_0 rfl (lv_at hl 1 rfl) ?_
    refine x_alenI (k := 0) X hL rfl dL_areEdges_1 ?_
    refine lv_istore_n (lv' := [(3, .int (nI n)), (0, .ref (aC 0)), (1, .ref a1), (2, .ref a2)]) hx hb dL_areEdges_2 rfl hl (by decide) rfl (fun ls hl => ?_)
    refine lv_iconst (v := (0 : Int32)) hx hb dL_areEdges_3 (by decide) ?_
    refine lv_istore (lv' := [(4, .int (0 : Int32)), (3, .int (nI n)), (0, .ref (aC 0)), (1, .ref a1), (2, .ref a2)]) hx hb dL_areEdges_4 hl (by decide) rfl (fun ls hl => ?_)
    refine lv_iload_n hx hb dL_areEdges_6 rfl (lv_at hl 1 rfl) ?_
    refine lv_iload_n hx hb dL_areEdges_7 rfl (lv_at hl 1 rfl) ?_
    refine x_multi X hZ hL (N := n) (j_neg (by omega)) (j_cl (by omega)) (by omega) tw_5_22 (by show 0 + (1 + n) ≤ 200; omega) (by show 0 + (n + n * n) ≤ 20000; omega) dL_areEdges_8 (fun qa rq H locs hL => ?_)
    refine W.widen (k := 200) (n := 20000) (by omega) (by omega) ?_
    have hL : LW g (va_A ([(a1, ia g n fa), (a2, ia g 140 fs)] ++ zcells zC (gW g aC) w) s.heap.size) ([(qa, ra g n rq), (a1, ia g n fa), (a2, ia g 140 fs)] ++ (rowsL g n rq (fun _ _ => 0) ++ zcells zC (gW g aC) w)) s.heap H locs := hL.perm (List.Perm.cons _ (by show (([(a1, ia g n fa), (a2, ia g 140 fs)] ++ (rowsL g n rq (fun _ _ => 0) ++ zcells zC (gW g aC) w)).Perm (([(a1, ia g n fa), (a2, ia g 140 fs)] ++ zcells zC (gW g aC) w) ++ rowsL g n rq (fun _ _ => 0))); rw [List.append_assoc]; exact List.Perm.append_left _ List.perm_append_comm))
    refine lv_astore (lv' := [(5, .ref qa), (4, .int (0 : Int32)), (3, .int (nI n)), (0, .ref (aC 0)), (1, .ref a1), (2, .ref a2)]) hx hb dL_areEdges_12 hl (by decide) rfl (fun ls hl => ?_)
    refine lv_iconst (v := (0 : Int32)) hx hb dL_areEdges_14 (by decide) ?_
    refine lv_istore (lv' := [(6, .int (0 : Int32)), (5, .ref qa), (4, .int (0 : Int32)), (3, .int (nI n)), (0, .ref (aC 0)), (1, .ref a1), (2, .ref a2)]) hx hb dL_areEdges_15 hl (by decide) rfl (fun ls hl => ?_)
    obtain ⟨rq1, hrq1, hF⟩ := ob hF
    have Jq1 : ∀ xq1, rq1 = .inl xq1 → ∀ (H : Heap) (locs : List Loc) (ls : Array Slot), LW g (va_A ([(a1, ia g n fa), (a2, ia g 140 fs)] ++ zcells zC (gW g aC) w) s.heap.size) ([(qa, ra g n rq), (a1, ia g n fa), (a2, ia g 140 fs)] ++ (rowsL g n rq xq1.2.1 ++ zcells zC (gW g aC) xq1.2.2)) s.heap H locs → lv_has ls 14 [(0, .ref (aC 0)), (1, .ref a1), (3, .int (nI n)), (4, .int xq1.1), (5, .ref qa)] → W p l e { frames := 7, cells := 200, slots := 20000, locals := 40 * 7 } s m args below meth c H locs 200 20000 (MQ below (LQc g ([(a1, ia g n fa), (a2, ia g 140 fs)] ++ zcells zC (gW g aC) w) s.heap.size (fun v nb => v = some (.int rz.1) ∧ nb = [(a1, ia g n fa), (a2, ia g 140 fs)] ++ zcells zC (gW g aC) rz.2)) args s 200 20000 (va_A ([(a1, ia g n fa), (a2, ia g 140 fs)] ++ zcells zC (gW g aC) w) s.heap.size)) (F0 m 130 ls []) := by
      intro xq1 hx2 H locs ls hL hl
      subst hx2
      replace hF : (Option.bind (f_X9_edgeCount xq1.2.2 0) (fun x23 => if x23.1 = xq1.1 then Option.bind (lp (b_L_areEdges_144 n) NF ((0 : Int32), xq1.2.1)) (fun rq25 => Option.bind (lp (b_L_areEdges_234 n fa rq25) NF ((0 : Int32), (0 : Int32), (0 : Int32), x23.2)) (fun rq39 => match rq39 with | .inl xq39 => Option.bind (lp (b_L_areEdges_429 n fa) NF ((0 : Int32), (0 : Int32), xq39.2.2)) (fun rq71 => Option.bind (f_X9_condensedNodeCount rq71.2 0) (fun x104 => if ¬ x104.1 = xq39.1 then some ((0 : Int32), x104.2) else Option.bind (f_X9_cyclicComponentCount x104.2 0) (fun x106 => if ¬ x106.1 = xq39.2.1 then some ((0 : Int32), x106.2) else Option.bind (f_X9_condensedEdgeCount x106.2 0) (fun x108 => if ¬ x108.1 = rq71.1 then some ((0 : Int32), x108.2) else some ((1 : Int32), x108.2))))) | .inr v => some v)) else some ((0 : Int32), x23.2))) = some rz := hF
      refine lv_aload_n hx hb dL_areEdges_130 rfl (lv_at hl 0 rfl) ?_
      rw [← List.append_assoc] at hL
      obtain ⟨x23, hx23, hF⟩ := ob hF
      refine y_C (As := []) (rest := []) X hZ hA ([(qa, ra g n rq), (a1, ia g n fa), (a2, ia g 140 fs)] ++ rowsL g n rq xq1.2.1) hL (c_X9_edgeCount (l := l) (g := gW g aC) (w := xq1.2.2) (k0 := 0) hx23 rfl) tw_5_29 ms_X9_edgeCount im_X9_edgeCount cn_9 ⟨Nat.le_of_ble_eq_true rfl, Nat.le_of_ble_eq_true rfl⟩ rfl rfl hl.1 (Nat.le_of_ble_eq_true rfl) dL_areEdges_131 ⟨Nat.le_of_ble_eq_true rfl, Nat.le_of_ble_eq_true rfl⟩ rfl (fun H locs hL => ?_)
      have hL : LW g (va_A ([(a1, ia g n fa), (a2, ia g 140 fs)] ++ zcells zC (gW g aC) w) s.heap.size) ([(qa, ra g n rq), (a1, ia g n fa), (a2, ia g 140 fs)] ++ (rowsL g n rq xq1.2.1 ++ zcells zC (gW g aC) x23.2)) s.heap H locs := by rw [List.append_assoc] at hL; exact hL
      refine lv_iload hx hb dL_areEdges_134 (lv_at hl 3 rfl) ?_
      refine lv_icmp_eq (tgt := 141) hx hb dL_areEdges_136 (by decide) (fun c24 => ?_) (fun c24 => ?_)
      · replace hF := ifp (c24) hF
        refine lv_iconst (v := (0 : Int32)) hx hb dL_areEdges_141 (by decide) ?_
        refine lv_istore (lv' := [(6, .int (0 : Int32)), (0, .ref (aC 0)), (1, .ref a1), (3, .int (nI n)), (4, .int xq1.1), (5, .ref qa)]) hx hb dL_areEdges_142 hl (by decide) rfl (fun ls hl => ?_)
        obtain ⟨rq25, hrq25, hF⟩ := ob hF
        have Jq25 : ∀ (H : Heap) (locs : List Loc) (ls : Array Slot), LW g (va_A ([(a1, ia g n fa), (a2, ia g 140 fs)] ++ zcells zC (gW g aC) w) s.heap.size) ([(qa, ra g n rq), (a1, ia g n fa), (a2, ia g 140 fs)] ++ (rowsL g n rq rq25 ++ zcells zC (gW g aC) x23.2)) s.heap H locs → lv_has ls 14 [(0, .ref (aC 0)), (1, .ref a1), (3, .int (nI n)), (5, .ref qa)] → W p l e { frames := 7, cells := 200, slots := 20000, locals := 40 * 7 } s m args below meth c H locs 200 20000 (MQ below (LQc g ([(a1, ia g n fa), (a2, ia g 140 fs)] ++ zcells zC (gW g aC) w) s.heap.size (fun v nb => v = some (.int rz.1) ∧ nb = [(a1, ia g n fa), (a2, ia g 140 fs)] ++ zcells zC (gW g aC) rz.2)) args s 200 20000 (va_A ([(a1, ia g n fa), (a2, ia g 140 fs)] ++ zcells zC (gW g aC) w) s.heap.size)) (F0 m 222 ls []) := by
          intro H locs ls hL hl
          refine lv_iconst (v := (0 : Int32)) hx hb dL_areEdges_222 (by decide) ?_
          refine lv_istore (lv' := [(6, .int (0 : Int32)), (0, .ref (aC 0)), (1, .ref a1), (3, .int (nI n)), (5, .ref qa)]) hx hb dL_areEdges_223 hl (by decide) rfl (fun ls hl => ?_)
          refine lv_iconst (v := (0 : Int32)) hx hb dL_areEdges_225 (by decide) ?_
          refine lv_istore (lv' := [(7, .int (0 : Int32)), (6, .int (0 : Int32)), (0, .ref (aC 0)), (1, .ref a1), (3, .int (nI n)), (5, .ref qa)]) hx hb dL_areEdges_226 hl (by decide) rfl (fun ls hl => ?_)
          refine lv_iconst (v := (0 : Int32)) hx hb dL_areEdges_228 (by decide) ?_
          refine lv_istore (lv' := [(8, .int (0 : Int32)), (7, .int (0 : Int32)), (6, .int (0 : Int32)), (0, .ref (aC 0)), (1, .ref a1), (3, .int (nI n)), (5, .ref qa)]) hx hb dL_areEdges_229 hl (by decide) rfl (fun ls hl => ?_)
          refine lv_iconst (v := (0 : Int32)) hx hb dL_areEdges_231 (by decide) ?_
          refine lv_istore (lv' := [(9, .int (0 : Int32)), (8, .int (0 : Int32)), (7, .int (0 : Int32)), (6, .int (0 : Int32)), (0, .ref (aC 0)), (1, .ref a1), (3, .int (nI n)), (5, .ref qa)]) hx hb dL_areEdges_232 hl (by decide) rfl (fun ls hl => ?_)
          obtain ⟨rq39, hrq39, hF⟩ := ob hF
          have Jq39 : ∀ xq39, rq39 = .inl xq39 → ∀ (H : Heap) (locs : List Loc) (ls : Array Slot), LW g (va_A ([(a1, ia g n fa), (a2, ia g 140 fs)] ++ zcells zC (gW g aC) w) s.heap.size) ([(a1, ia g n fa), (a2, ia g 140 fs)] ++ (rowsL g n rq rq25 ++ zcells zC (gW g aC) xq39.2.2)) s.heap H locs → lv_has ls 14 [(0, .ref (aC 0)), (1, .ref a1), (3, .int (nI n)), (6, .int xq39.1), (7, .int xq39.2.1), (8, .int (0 : Int32))] → W p l e { frames := 7, cells := 200, slots := 20000, locals := 40 * 7 } s m args below meth c H locs 200 20000 (MQ below (LQc g ([(a1, ia g n fa), (a2, ia g 140 fs)] ++ zcells zC (gW g aC) w) s.heap.size (fun v nb => v = some (.int rz.1) ∧ nb = [(a1, ia g n fa), (a2, ia g 140 fs)] ++ zcells zC (gW g aC) rz.2)) args s 200 20000 (va_A ([(a1, ia g n fa), (a2, ia g 140 fs)] ++ zcells zC (gW g aC) w) s.heap.size)) (F0 m 426 ls []) := by
            intro xq39 hx2 H locs ls hL hl
            subst hx2
            replace hF : (Option.bind (lp (b_L_areEdges_429 n fa) NF ((0 : Int32), (0 : Int32), xq39.2.2)) (fun rq71 => Option.bind (f_X9_condensedNodeCount rq71.2 0) (fun x104 => if ¬ x104.1 = xq39.1 then some ((0 : Int32), x104.2) else Option.bind (f_X9_cyclicComponentCount x104.2 0) (fun x106 => if ¬ x106.1 = xq39.2.1 then some ((0 : Int32), x106.2) else Option.bind (f_X9_condensedEdgeCount x106.2 0) (fun x108 => if ¬ x108.1 = rq71.1 then some ((0 : Int32), x108.2) else some ((1 : Int32), x108.2)))))) = some rz := hF
            refine lv_iconst (v := (0 : Int32)) hx hb dL_areEdges_426 (by decide) ?_
            refine lv_istore (lv' := [(9, .int (0 : Int32)), (0, .ref (aC 0)), (1, .ref a1), (3, .int (nI n)), (6, .int xq39.1), (7, .int xq39.2.1), (8, .int (0 : Int32))]) hx hb dL_areEdges_427 hl (by decide) rfl (fun ls hl => ?_)
            obtain ⟨rq71, hrq71, hF⟩ := ob hF
            have Jq71 : ∀ (H : Heap) (locs : List Loc) (ls : Array Slot), LW g (va_A ([(a1, ia g n fa), (a2, ia g 140 fs)] ++ zcells zC (gW g aC) w) s.heap.size) ([(a1, ia g n fa), (a2, ia g 140 fs)] ++ (rowsL g n rq rq25 ++ zcells zC (gW g aC) rq71.2)) s.heap H locs → lv_has ls 14 [(0, .ref (aC 0)), (6, .int xq39.1), (7, .int xq39.2.1), (8, .int rq71.1)] → W p l e { frames := 7, cells := 200, slots := 20000, locals := 40 * 7 } s m args below meth c H locs 200 20000 (MQ below (LQc g ([(a1, ia g n fa), (a2, ia g 140 fs)] ++ zcells zC (gW g aC) w) s.heap.size (fun v nb => v = some (.int rz.1) ∧ nb = [(a1, ia g n fa), (a2, ia g 140 fs)] ++ zcells zC (gW g aC) rz.2)) args s 200 20000 (va_A ([(a1, ia g n fa), (a2, ia g 140 fs)] ++ zcells zC (gW g aC) w) s.heap.size)) (F0 m 614 ls []) := by
              intro H locs ls hL hl
              refine lv_aload_n hx hb dL_areEdges_614 rfl (lv_at hl 0 rfl) ?_
              rw [← List.append_assoc] at hL
              obtain ⟨x104, hx104, hF⟩ := ob hF
              refine y_C (As := []) (rest := []) X hZ hA ([(a1, ia g n fa), (a2, ia g 140 fs)] ++ rowsL g n rq rq25) hL (c_X9_condensedNodeCount (l := l) (g := gW g aC) (w := rq71.2) (k0 := 0) hx104 rfl) tw_3_39 ms_X9_condensedNodeCount im_X9_condensedNodeCount cn_9 ⟨Nat.le_of_ble_eq_true rfl, Nat.le_of_ble_eq_true rfl⟩ rfl rfl hl.1 (Nat.le_of_ble_eq_true rfl) dL_areEdges_615 ⟨Nat.le_of_ble_eq_true rfl, Nat.le_of_ble_eq_true rfl⟩ rfl (fun H locs hL => ?_)
              have hL : LW g (va_A ([(a1, ia g n fa), (a2, ia g 140 fs)] ++ zcells zC (gW g aC) w) s.heap.size) ([(a1, ia g n fa), (a2, ia g 140 fs)] ++ (rowsL g n rq rq25 ++ zcells zC (gW g aC) x104.2)) s.heap H locs := by rw [List.append_assoc] at hL; exact hL
              refine lv_iload hx hb dL_areEdges_618 (lv_at hl 1 rfl) ?_
              refine lv_icmp_ne (tgt := 645) hx hb dL_areEdges_620 (by decide) (fun c105 => ?_) (fun c105 => ?_)
              · replace hF := ifp (c105) hF
                refine lv_iconst (v := (0 : Int32)) hx hb dL_areEdges_645 (by decide) ?_
                obtain rfl := se1 hF
                exact x_tret (nb := [(a1, ia g n fa), (a2, ia g 140 fs)] ++ zcells zC (gW g aC) x104.2) X (hL.subl (((List.sublist_append_right _ _).cons_cons _).cons_cons _)) hr rfl ⟨rfl, rfl⟩ (by first | exact Nat.le_refl _ | omega) (by first | exact Nat.le_refl _ | omega) dL_areEdges_646
              · replace hF := ifn (fun q => q c105) hF
                refine lv_aload_n hx hb dL_areEdges_623 rfl (lv_at hl 0 rfl) ?_
                rw [← List.append_assoc] at hL
                obtain ⟨x106, hx106, hF⟩ := ob hF
                refine y_C (As := []) (rest := []) X hZ hA ([(a1, ia g n fa), (a2, ia g 140 fs)] ++ rowsL g n rq rq25) hL (c_X9_cyclicComponentCount (l := l) (g := gW g aC) (w := x104.2) (k0 := 0) hx106 rfl) tw_5_61 ms_X9_cyclicComponentCount im_X9_cyclicComponentCount cn_9 ⟨Nat.le_of_ble_eq_true rfl, Nat.le_of_ble_eq_true rfl⟩ rfl rfl hl.1 (Nat.le_of_ble_eq_true rfl) dL_areEdges_624 ⟨Nat.le_of_ble_eq_true rfl, Nat.le_of_ble_eq_true rfl⟩ rfl (fun H locs hL => ?_)
                have hL : LW g (va_A ([(a1, ia g n fa), (a2, ia g 140 fs)] ++ zcells zC (gW g aC) w) s.heap.size) ([(a1, ia g n fa), (a2, ia g 140 fs)] ++ (rowsL g n rq rq25 ++ zcells zC (gW g aC) x106.2)) s.heap H locs := by rw [List.append_assoc] at hL; exact hL
                refine lv_iload hx hb dL_areEdges_627 (lv_at hl 2 rfl) ?_
                refine lv_icmp_ne (tgt := 645) hx hb dL_areEdges_629 (by decide) (fun c107 => ?_) (fun c107 => ?_)
                · replace hF := ifp (c107) hF
                  refine lv_iconst (v := (0 : Int32)) hx hb dL_areEdges_645 (by decide) ?_
                  obtain rfl := se1 hF
                  exact x_tret (nb := [(a1, ia g n fa), (a2, ia g 140 fs)] ++ zcells zC (gW g aC) x106.2) X (hL.subl (((List.sublist_append_right _ _).cons_cons _).cons_cons _)) hr rfl ⟨rfl, rfl⟩ (by first | exact Nat.le_refl _ | omega) (by first | exact Nat.le_refl _ | omega) dL_areEdges_646
                · replace hF := ifn (fun q => q c107) hF
                  refine lv_aload_n hx hb dL_areEdges_632 rfl (lv_at hl 0 rfl) ?_
                  rw [← List.append_assoc] at hL
                  obtain ⟨x108, hx108, hF⟩ := ob hF
                  refine y_C (As := []) (rest := []) X hZ hA ([(a1, ia g n fa), (a2, ia g 140 fs)] ++ rowsL g n rq rq25) hL (c_X9_condensedEdgeCount (l := l) (g := gW g aC) (w := x106.2) (k0 := 0) hx108 rfl) tw_5_65 ms_X9_condensedEdgeCount im_X9_condensedEdgeCount cn_9 ⟨Nat.le_of_ble_eq_true rfl, Nat.le_of_ble_eq_true rfl⟩ rfl rfl hl.1 (Nat.le_of_ble_eq_true rfl) dL_areEdges_633 ⟨Nat.le_of_ble_eq_true rfl, Nat.le_of_ble_eq_true rfl⟩ rfl (fun H locs hL => ?_)
                  have hL : LW g (va_A ([(a1, ia g n fa), (a2, ia g 140 fs)] ++ zcells zC (gW g aC) w) s.heap.size) ([(a1, ia g n fa), (a2, ia g 140 fs)] ++ (rowsL g n rq rq25 ++ zcells zC (gW g aC) x108.2)) s.heap H locs := by rw [List.append_assoc] at hL; exact hL
                  refine lv_iload hx hb dL_areEdges_636 (lv_at hl 3 rfl) ?_
                  refine lv_icmp_ne (tgt := 645) hx hb dL_areEdges_638 (by decide) (fun c109 => ?_) (fun c109 => ?_)
                  · replace hF := ifp (c109) hF
                    refine lv_iconst (v := (0 : Int32)) hx hb dL_areEdges_645 (by decide) ?_
                    obtain rfl := se1 hF
                    exact x_tret (nb := [(a1, ia g n fa), (a2, ia g 140 fs)] ++ zcells zC (gW g aC) x108.2) X (hL.subl (((List.sublist_append_right _ _).cons_cons _).cons_cons _)) hr rfl ⟨rfl, rfl⟩ (by first | exact Nat.le_refl _ | omega) (by first | exact Nat.le_refl _ | omega) dL_areEdges_646
                  · replace hF := ifn (fun q => q c109) hF
                    refine lv_iconst (v := (1 : Int32)) hx hb dL_areEdges_641 (by decide) ?_
                    refine lv_goto (tgt := 646) hx hb dL_areEdges_642 (by decide) ?_
                    obtain rfl := se1 hF
                    exact x_tret (nb := [(a1, ia g n fa), (a2, ia g 140 fs)] ++ zcells zC (gW g aC) x108.2) X (hL.subl (((List.sublist_append_right _ _).cons_cons _).cons_cons _)) hr rfl ⟨rfl, rfl⟩ (by first | exact Nat.le_refl _ | omega) (by first | exact Nat.le_refl _ | omega) dL_areEdges_646
            have Lq71 : ∀ (kf : Nat) (sq71 : Int32 × Int32 × Wd), lp (b_L_areEdges_429 n fa) kf sq71 = some rq71 → ∀ (H : Heap) (locs : List Loc) (ls : Array Slot), LW g (va_A ([(a1, ia g n fa), (a2, ia g 140 fs)] ++ zcells zC (gW g aC) w) s.heap.size) ([(a1, ia g n fa), (a2, ia g 140 fs)] ++ (rowsL g n rq rq25 ++ zcells zC (gW g aC) sq71.2.2)) s.heap H locs → lv_has ls 14 [(0, .ref (aC 0)), (1, .ref a1), (3, .int (nI n)), (6, .int xq39.1), (7, .int xq39.2.1), (8, .int sq71.1), (9, .int sq71.2.1)] → W p l e { frames := 7, cells := 200, slots := 20000, locals := 40 * 7 } s m args below meth c H locs 200 20000 (MQ below (LQc g ([(a1, ia g n fa), (a2, ia g 140 fs)] ++ zcells zC (gW g aC) w) s.heap.size (fun v nb => v = some (.int rz.1) ∧ nb = [(a1, ia g n fa), (a2, ia g 140 fs)] ++ zcells zC (gW g aC) rz.2)) args s 200 20000 (va_A ([(a1, ia g n fa), (a2, ia g 140 fs)] ++ zcells zC (gW g aC) w) s.heap.size)) (F0 m 429 ls []) := by
              intro kf
              induction kf with
              | zero => intro sq71 hQ; exact lp_0 hQ
              | succ kf ih =>
                intro sq71 hQ H locs ls hL hl
                obtain ⟨bb, hF, hQ⟩ := lp_s hQ
                unfold b_L_areEdges_429 at hF
                refine lv_iload hx hb dL_areEdges_429 (lv_at hl 6 rfl) ?_
                refine lv_iload_n hx hb dL_areEdges_431 rfl (lv_at hl 2 rfl) ?_
                refine lv_icmp_ge (tgt := 614) hx hb dL_areEdges_432 (by decide) (fun c72 => ?_) (fun c72 => ?_)
                · replace hF := ifp (c72) hF
                  obtain rfl := se1 hF
                  subst hQ
                  exact Jq71 _ _ _ hL (lv_sub hl [0, 3, 4, 5] rfl)
                · replace hF := ifn (c72) hF
                  refine lv_iconst (v := (0 : Int32)) hx hb dL_areEdges_435 (by decide) ?_
                  refine lv_istore (lv' := [(10, .int (0 : Int32)), (0, .ref (aC 0)), (1, .ref a1), (3, .int (nI n)), (6, .int xq39.1), (7, .int xq39.2.1), (8, .int sq71.1), (9, .int sq71.2.1)]) hx hb dL_areEdges_436 hl (by decide) rfl (fun ls hl => ?_)
                  obtain ⟨rq73, hrq73, hF⟩ := ob hF
                  have Jq73 : ∀ (H : Heap) (locs : List Loc) (ls : Array Slot), LW g (va_A ([(a1, ia g n fa), (a2, ia g 140 fs)] ++ zcells zC (gW g aC) w) s.heap.size) ([(a1, ia g n fa), (a2, ia g 140 fs)] ++ (rowsL g n rq rq25 ++ zcells zC (gW g aC) rq73.2)) s.heap H locs → lv_has ls 14 [(0, .ref (aC 0)), (1, .ref a1), (3, .int (nI n)), (6, .int xq39.1), (7, .int xq39.2.1), (8, .int rq73.1), (9, .int sq71.2.1)] → W p l e { frames := 7, cells := 200, slots := 20000, locals := 40 * 7 } s m args below meth c H locs 200 20000 (MQ below (LQc g ([(a1, ia g n fa), (a2, ia g 140 fs)] ++ zcells zC (gW g aC) w) s.heap.size (fun v nb => v = some (.int rz.1) ∧ nb = [(a1, ia g n fa), (a2, ia g 140 fs)] ++ zcells zC (gW g aC) rz.2)) args s 200 20000 (va_A ([(a1, ia g n fa), (a2, ia g 140 fs)] ++ zcells zC (gW g aC) w) s.heap.size)) (F0 m 608 ls []) := by
                    intro H locs ls hL hl
                    refine lv_iinc (v := (sq71.2.1 + (1 : Int32))) (lv' := [(9, .int (sq71.2.1 + (1 : Int32))), (0, .ref (aC 0)), (1, .ref a1), (3, .int (nI n)), (6, .int xq39.1), (7, .int xq39.2.1), (8, .int rq73.1)]) hx hb dL_areEdges_608 hl (k := 6) rfl rfl (by decide) rfl (fun ls hl => ?_)
                    refine lv_goto (tgt := 429) hx hb dL_areEdges_611 (by decide) ?_
                    obtain rfl := se1 hF
                    exact ih _ hQ _ _ _ hL (lv_sub hl [1, 2, 3, 4, 5, 6, 0] rfl)
                  have Lq73 : ∀ (kf : Nat) (sq73 : Int32 × Int32 × Wd), lp (b_L_areEdges_438 n fa sq71) kf sq73 = some rq73 → ∀ (H : Heap) (locs : List Loc) (ls : Array Slot), LW g (va_A ([(a1, ia g n fa), (a2, ia g 140 fs)] ++ zcells zC (gW g aC) w) s.heap.size) ([(a1, ia g n fa), (a2, ia g 140 fs)] ++ (rowsL g n rq rq25 ++ zcells zC (gW g aC) sq73.2.2)) s.heap H locs → lv_has ls 14 [(0, .ref (aC 0)), (1, .ref a1), (3, .int (nI n)), (6, .int xq39.1), (7, .int xq39.2.1), (8, .int sq73.1), (9, .int sq71.2.1), (10, .int sq73.2.1)] → W p l e { frames := 7, cells := 200, slots := 20000, locals := 40 * 7 } s m args below meth c H locs 200 20000 (MQ below (LQc g ([(a1, ia g n fa), (a2, ia g 140 fs)] ++ zcells zC (gW g aC) w) s.heap.size (fun v nb => v = some (.int rz.1) ∧ nb = [(a1, ia g n fa), (a2, ia g 140 fs)] ++ zcells zC (gW g aC) rz.2)) args s 200 20000 (va_A ([(a1, ia g n fa), (a2, ia g 140 fs)] ++ zcells zC (gW g aC) w) s.heap.size)) (F0 m 438 ls []) := by
                    intro kf
                    induction kf with
                    | zero => intro sq73 hQ; exact lp_0 hQ
                    | succ kf ih =>
                      intro sq73 hQ H locs ls hL hl
                      obtain ⟨bb, hF, hQ⟩ := lp_s hQ
                      unfold b_L_areEdges_438 at hF
                      have J602 : ∀ (v8_602 : Int32) (w_602 : Wd) (H : Heap) (locs : List Loc) (ls : Array Slot), k_L_areEdges_602 sq73 v8_602 w_602 = some bb → LW g (va_A ([(a1, ia g n fa), (a2, ia g 140 fs)] ++ zcells zC (gW g aC) w) s.heap.size) ([(a1, ia g n fa), (a2, ia g 140 fs)] ++ (rowsL g n rq rq25 ++ zcells zC (gW g aC) w_602)) s.heap H locs → lv_has ls 14 [(0, .ref (aC 0)), (1, .ref a1), (3, .int (nI n)), (6, .int xq39.1), (7, .int xq39.2.1), (8, .int v8_602), (9, .int sq71.2.1), (10, .int sq73.2.1)] → W p l e { frames := 7, cells := 200, slots := 20000, locals := 40 * 7 } s m args below meth c H locs 200 20000 (MQ below (LQc g ([(a1, ia g n fa), (a2, ia g 140 fs)] ++ zcells zC (gW g aC) w) s.heap.size (fun v nb => v = some (.int rz.1) ∧ nb = [(a1, ia g n fa), (a2, ia g 140 fs)] ++ zcells zC (gW g aC) rz.2)) args s 200 20000 (va_A ([(a1, ia g n fa), (a2, ia g 140 fs)] ++ zcells zC (gW g aC) w) s.heap.size)) (F0 m 602 ls []) := by
                        intro v8_602 w_602 H locs ls hF hL hl
                        unfold k_L_areEdges_602 at hF
                        refine lv_iinc (v := (sq73.2.1 + (1 : Int32))) (lv' := [(10, .int (sq73.2.1 + (1 : Int32))), (0, .ref (aC 0)), (1, .ref a1), (3, .int (nI n)), (6, .int xq39.1), (7, .int xq39.2.1), (8, .int v8_602), (9, .int sq71.2.1)]) hx hb dL_areEdges_602 hl (k := 7) rfl rfl (by decide) rfl (fun ls hl => ?_)
                        refine lv_goto (tgt := 438) hx hb dL_areEdges_605 (by decide) ?_
                        obtain rfl := se1 hF
                        exact ih _ hQ _ _ _ hL (lv_sub hl [1, 2, 3, 4, 5, 6, 7, 0] rfl)
                      refine lv_iload hx hb dL_areEdges_438 (lv_at hl 7 rfl) ?_
                      refine lv_iload_n hx hb dL_areEdges_440 rfl (lv_at hl 2 rfl) ?_
                      refine lv_icmp_ge (tgt := 608) hx hb dL_areEdges_441 (by decide) (fun c74 => ?_) (fun c74 => ?_)
                      · replace hF := ifp (c74) hF
                        obtain rfl := se1 hF
                        subst hQ
                        exact Jq73 _ _ _ hL (lv_sub hl [0, 1, 2, 3, 4, 5, 6] rfl)
                      · replace hF := ifn (c74) hF
                        refine lv_aload_n hx hb dL_areEdges_444 rfl (lv_at hl 0 rfl) ?_
                        refine lv_aload_n hx hb dL_areEdges_445 rfl (lv_at hl 1 rfl) ?_
                        refine lv_iload hx hb dL_areEdges_446 (lv_at hl 6 rfl) ?_
                        obtain ⟨x75, hx75, hF⟩ := ob hF
                        refine x_iald (k := 0) X hL rfl hx75 dL_areEdges_448 ?_
                        rw [← List.append_assoc] at hL
                        obtain ⟨x76, hx76, hF⟩ := ob hF
                        refine y_C (As := [.int x75]) (rest := []) X hZ hA ([(a1, ia g n fa), (a2, ia g 140 fs)] ++ rowsL g n rq rq25) hL (c_X9_representative (l := l) (g := gW g aC) (w := sq73.2.2) (k0 := 0) (v_location := x75) hx76 rfl) tw_5_55 ms_X9_representative im_X9_representative cn_9 ⟨Nat.le_of_ble_eq_true rfl, Nat.le_of_ble_eq_true rfl⟩ rfl rfl hl.1 (Nat.le_of_ble_eq_true rfl) dL_areEdges_449 ⟨Nat.le_of_ble_eq_true rfl, Nat.le_of_ble_eq_true rfl⟩ rfl (fun H locs hL => ?_)
                        have hL : LW g (va_A ([(a1, ia g n fa), (a2, ia g 140 fs)] ++ zcells zC (gW g aC) w) s.heap.size) ([(a1, ia g n fa), (a2, ia g 140 fs)] ++ (rowsL g n rq rq25 ++ zcells zC (gW g aC) x76.2)) s.heap H locs := by rw [List.append_assoc] at hL; exact hL
                        refine lv_aload_n hx hb dL_areEdges_452 rfl (lv_at hl 1 rfl) ?_
                        refine lv_iload hx hb dL_areEdges_453 (lv_at hl 6 rfl) ?_
                        obtain ⟨x77, hx77, hF⟩ := ob hF
                        refine x_iald (k := 0) X hL rfl hx77 dL_areEdges_455 ?_
                        refine lv_icmp_ne (tgt := 602) hx hb dL_areEdges_456 (by decide) (fun c78 => ?_) (fun c78 => ?_)
                        · replace hF := ifp (c78) hF
                          exact J602 sq73.1 x76.2 _ _ _ hF hL (lv_sub hl [0, 1, 2, 3, 4, 5, 6, 7] rfl)
                        · replace hF := ifn (fun q => q c78) hF
                          refine lv_aload_n hx hb dL_areEdges_459 rfl (lv_at hl 0 rfl) ?_
                          refine lv_aload_n hx hb dL_areEdges_460 rfl (lv_at hl 1 rfl) ?_
                          refine lv_iload hx hb dL_areEdges_461 (lv_at hl 7 rfl) ?_
                          obtain ⟨x79, hx79, hF⟩ := ob hF
                          refine x_iald (k := 0) X hL rfl hx79 dL_areEdges_463 ?_
                          rw [← List.append_assoc] at hL
                          obtain ⟨x80, hx80, hF⟩ := ob hF
                          refine y_C (As := [.int x79]) (rest := []) X hZ hA ([(a1, ia g n fa), (a2, ia g 140 fs)] ++ rowsL g n rq rq25) hL (c_X9_representative (l := l) (g := gW g aC) (w := x76.2) (k0 := 0) (v_location := x79) hx80 rfl) tw_5_55 ms_X9_representative im_X9_representative cn_9 ⟨Nat.le_of_ble_eq_true rfl, Nat.le_of_ble_eq_true rfl⟩ rfl rfl hl.1 (Nat.le_of_ble_eq_true rfl) dL_areEdges_464 ⟨Nat.le_of_ble_eq_true rfl, Nat.le_of_ble_eq_true rfl⟩ rfl (fun H locs hL => ?_)
                          have hL : LW g (va_A ([(a1, ia g n fa), (a2, ia g 140 fs)] ++ zcells zC (gW g aC) w) s.heap.size) ([(a1, ia g n fa), (a2, ia g 140 fs)] ++ (rowsL g n rq rq25 ++ zcells zC (gW g aC) x80.2)) s.heap H locs := by rw [List.append_assoc] at hL; exact hL
                          refine lv_aload_n hx hb dL_areEdges_467 rfl (lv_at hl 1 rfl) ?_
                          refine lv_iload hx hb dL_areEdges_468 (lv_at hl 7 rfl) ?_
                          obtain ⟨x81, hx81, hF⟩ := ob hF
                          refine x_iald (k := 0) X hL rfl hx81 dL_areEdges_470 ?_
                          refine lv_icmp_ne (tgt := 602) hx hb dL_areEdges_471 (by decide) (fun c82 => ?_) (fun c82 => ?_)
                          · replace hF := ifp (c82) hF
                            exact J602 sq73.1 x80.2 _ _ _ hF hL (lv_sub hl [0, 1, 2, 3, 4, 5, 6, 7] rfl)
                          · replace hF := ifn (fun q => q c82) hF
                            refine lv_iload hx hb dL_areEdges_474 (lv_at hl 6 rfl) ?_
                            refine lv_iload hx hb dL_areEdges_476 (lv_at hl 7 rfl) ?_
                            refine lv_icmp_ne (tgt := 484) hx hb dL_areEdges_478 (by decide) (fun c83 => ?_) (fun c83 => ?_)
                            · replace hF := ifp (c83) hF
                              refine lv_iconst (v := (0 : Int32)) hx hb dL_areEdges_484 (by decide) ?_
                              refine lv_istore (lv' := [(11, .int (0 : Int32)), (0, .ref (aC 0)), (1, .ref a1), (3, .int (nI n)), (6, .int xq39.1), (7, .int xq39.2.1), (8, .int sq73.1), (9, .int sq71.2.1), (10, .int sq73.2.1)]) hx hb dL_areEdges_485 hl (by decide) rfl (fun ls hl => ?_)
                              refine lv_iconst (v := (0 : Int32)) hx hb dL_areEdges_487 (by decide) ?_
                              refine lv_istore (lv' := [(12, .int (0 : Int32)), (11, .int (0 : Int32)), (0, .ref (aC 0)), (1, .ref a1), (3, .int (nI n)), (6, .int xq39.1), (7, .int xq39.2.1), (8, .int sq73.1), (9, .int sq71.2.1), (10, .int sq73.2.1)]) hx hb dL_areEdges_488 hl (by decide) rfl (fun ls hl => ?_)
                              obtain ⟨rq84, hrq84, hF⟩ := ob hF
                              have Jq84 : ∀ (H : Heap) (locs : List Loc) (ls : Array Slot), LW g (va_A ([(a1, ia g n fa), (a2, ia g 140 fs)] ++ zcells zC (gW g aC) w) s.heap.size) ([(a1, ia g n fa), (a2, ia g 140 fs)] ++ (rowsL g n rq rq25 ++ zcells zC (gW g aC) rq84.2)) s.heap H locs → lv_has ls 14 [(0, .ref (aC 0)), (1, .ref a1), (3, .int (nI n)), (6, .int xq39.1), (7, .int xq39.2.1), (8, .int sq73.1), (9, .int sq71.2.1), (10, .int sq73.2.1), (11, .int rq84.1)] → W p l e { frames := 7, cells := 200, slots := 20000, locals := 40 * 7 } s m args below meth c H locs 200 20000 (MQ below (LQc g ([(a1, ia g n fa), (a2, ia g 140 fs)] ++ zcells zC (gW g aC) w) s.heap.size (fun v nb => v = some (.int rz.1) ∧ nb = [(a1, ia g n fa), (a2, ia g 140 fs)] ++ zcells zC (gW g aC) rz.2)) args s 200 20000 (va_A ([(a1, ia g n fa), (a2, ia g 140 fs)] ++ zcells zC (gW g aC) w) s.heap.size)) (F0 m 587 ls []) := by
                                intro H locs ls hL hl
                                refine lv_iload hx hb dL_areEdges_587 (lv_at hl 5 rfl) ?_
                                refine lv_iload hx hb dL_areEdges_589 (lv_at hl 8 rfl) ?_
                                refine lv_if_eq (tgt := 598) hx hb dL_areEdges_591 (by decide) (fun c103 => ?_) (fun c103 => ?_)
                                · replace hF := ifp (c103) hF
                                  refine lv_iconst (v := (0 : Int32)) hx hb dL_areEdges_598 (by decide) ?_
                                  refine lv_iadd hx hb dL_areEdges_599 ?_
                                  refine lv_istore (lv' := [(8, .int (sq73.1 + (0 : Int32))), (0, .ref (aC 0)), (1, .ref a1), (3, .int (nI n)), (6, .int xq39.1), (7, .int xq39.2.1), (9, .int sq71.2.1), (10, .int sq73.2.1), (11, .int rq84.1)]) hx hb dL_areEdges_600 hl (by decide) rfl (fun ls hl => ?_)
                                  exact J602 (sq73.1 + (0 : Int32)) rq84.2 _ _ _ hF hL (lv_sub hl [1, 2, 3, 4, 5, 0, 6, 7] rfl)
                                · replace hF := ifn (c103) hF
                                  refine lv_iconst (v := (1 : Int32)) hx hb dL_areEdges_594 (by decide) ?_
                                  refine lv_goto (tgt := 599) hx hb dL_areEdges_595 (by decide) ?_
                                  refine lv_iadd hx hb dL_areEdges_599 ?_
                                  refine lv_istore (lv' := [(8, .int (sq73.1 + (1 : Int32))), (0, .ref (aC 0)), (1, .ref a1), (3, .int (nI n)), (6, .int xq39.1), (7, .int xq39.2.1), (9, .int sq71.2.1), (10, .int sq73.2.1), (11, .int rq84.1)]) hx hb dL_areEdges_600 hl (by decide) rfl (fun ls hl => ?_)
                                  exact J602 (sq73.1 + (1 : Int32)) rq84.2 _ _ _ hF hL (lv_sub hl [1, 2, 3, 4, 5, 0, 6, 7] rfl)
                              have Lq84 : ∀ (kf : Nat) (sq84 : Int32 × Int32 × Wd), lp (b_L_areEdges_490 n fa sq71 sq73) kf sq84 = some rq84 → ∀ (H : Heap) (locs : List Loc) (ls : Array Slot), LW g (va_A ([(a1, ia g n fa), (a2, ia g 140 fs)] ++ zcells zC (gW g aC) w) s.heap.size) ([(a1, ia g n fa), (a2, ia g 140 fs)] ++ (rowsL g n rq rq25 ++ zcells zC (gW g aC) sq84.2.2)) s.heap H locs → lv_has ls 14 [(0, .ref (aC 0)), (1, .ref a1), (3, .int (nI n)), (6, .int xq39.1), (7, .int xq39.2.1), (8, .int sq73.1), (9, .int sq71.2.1), (10, .int sq73.2.1), (11, .int sq84.1), (12, .int sq84.2.1)] → W p l e { frames := 7, cells := 200, slots := 20000, locals := 40 * 7 } s m args below meth c H locs 200 20000 (MQ below (LQc g ([(a1, ia g n fa), (a2, ia g 140 fs)] ++ zcells zC (gW g aC) w) s.heap.size (fun v nb => v = some (.int rz.1) ∧ nb = [(a1, ia g n fa), (a2, ia g 140 fs)] ++ zcells zC (gW g aC) rz.2)) args s 200 20000 (va_A ([(a1, ia g n fa), (a2, ia g 140 fs)] ++ zcells zC (gW g aC) w) s.heap.size)) (F0 m 490 ls []) := by
                                intro kf
                                induction kf with
                                | zero => intro sq84 hQ; exact lp_0 hQ
                                | succ kf ih =>
                                  intro sq84 hQ H locs ls hL hl
                                  obtain ⟨bb, hF, hQ⟩ := lp_s hQ
                                  unfold b_L_areEdges_490 at hF
                                  refine lv_iload hx hb dL_areEdges_490 (lv_at hl 9 rfl) ?_
                                  refine lv_iload_n hx hb dL_areEdges_492 rfl (lv_at hl 2 rfl) ?_
                                  refine lv_icmp_ge (tgt := 587) hx hb dL_areEdges_493 (by decide) (fun c85 => ?_) (fun c85 => ?_)
                                  · replace hF := ifp (c85) hF
                                    obtain rfl := se1 hF
                                    subst hQ
                                    exact Jq84 _ _ _ hL (lv_sub hl [0, 1, 2, 3, 4, 5, 6, 7, 8] rfl)
                                  · replace hF := ifn (c85) hF
                                    refine lv_iload hx hb dL_areEdges_496 (lv_at hl 8 rfl) ?_
                                    refine lv_if_ne (tgt := 587) hx hb dL_areEdges_498 (by decide) (fun c86 => ?_) (fun c86 => ?_)
                                    · replace hF := ifp (c86) hF
                                      obtain rfl := se1 hF
                                      subst hQ
                                      exact Jq84 _ _ _ hL (lv_sub hl [0, 1, 2, 3, 4, 5, 6, 7, 8] rfl)
                                    · replace hF := ifn (fun q => q c86) hF
                                      refine lv_iconst (v := (0 : Int32)) hx hb dL_areEdges_501 (by decide) ?_
                                      refine lv_istore (lv' := [(13, .int (0 : Int32)), (0, .ref (aC 0)), (1, .ref a1), (3, .int (nI n)), (6, .int xq39.1), (7, .int xq39.2.1), (8, .int sq73.1), (9, .int sq71.2.1), (10, .int sq73.2.1), (11, .int sq84.1), (12, .int sq84.2.1)]) hx hb dL_areEdges_502 hl (by decide) rfl (fun ls hl => ?_)
                                      obtain ⟨rq87, hrq87, hF⟩ := ob hF
                                      have Jq87 : ∀ (H : Heap) (locs : List Loc) (ls : Array Slot), LW g (va_A ([(a1, ia g n fa), (a2, ia g 140 fs)] ++ zcells zC (gW g aC) w) s.heap.size) ([(a1, ia g n fa), (a2, ia g 140 fs)] ++ (rowsL g n rq rq25 ++ zcells zC (gW g aC) rq87.2)) s.heap H locs → lv_has ls 14 [(0, .ref (aC 0)), (1, .ref a1), (3, .int (nI n)), (6, .int xq39.1), (7, .int xq39.2.1), (8, .int sq73.1), (9, .int sq71.2.1), (10, .int sq73.2.1), (11, .int rq87.1), (12, .int sq84.2.1)] → W p l e { frames := 7, cells := 200, slots := 20000, locals := 40 * 7 } s m args below meth c H locs 200 20000 (MQ below (LQc g ([(a1, ia g n fa), (a2, ia g 140 fs)] ++ zcells zC (gW g aC) w) s.heap.size (fun v nb => v = some (.int rz.1) ∧ nb = [(a1, ia g n fa), (a2, ia g 140 fs)] ++ zcells zC (gW g aC) rz.2)) args s 200 20000 (va_A ([(a1, ia g n fa), (a2, ia g 140 fs)] ++ zcells zC (gW g aC) w) s.heap.size)) (F0 m 581 ls []) := by
                                        intro H locs ls hL hl
                                        refine lv_iinc (v := (sq84.2.1 + (1 : Int32))) (lv' := [(12, .int (sq84.2.1 + (1 : Int32))), (0, .ref (aC 0)), (1, .ref a1), (3, .int (nI n)), (6, .int xq39.1), (7, .int xq39.2.1), (8, .int sq73.1), (9, .int sq71.2.1), (10, .int sq73.2.1), (11, .int rq87.1)]) hx hb dL_areEdges_581 hl (k := 9) rfl rfl (by decide) rfl (fun ls hl => ?_)
                                        refine lv_goto (tgt := 490) hx hb dL_areEdges_584 (by decide) ?_
                                        obtain rfl := se1 hF
                                        exact ih _ hQ _ _ _ hL (lv_sub hl [1, 2, 3, 4, 5, 6, 7, 8, 9, 0] rfl)
                                      have Lq87 : ∀ (kf : Nat) (sq87 : Int32 × Int32 × Wd), lp (b_L_areEdges_504 n sq84 fa sq71 sq73) kf sq87 = some rq87 → ∀ (H : Heap) (locs : List Loc) (ls : Array Slot), LW g (va_A ([(a1, ia g n fa), (a2, ia g 140 fs)] ++ zcells zC (gW g aC) w) s.heap.size) ([(a1, ia g n fa), (a2, ia g 140 fs)] ++ (rowsL g n rq rq25 ++ zcells zC (gW g aC) sq87.2.2)) s.heap H locs → lv_has ls 14 [(0, .ref (aC 0)), (1, .ref a1), (3, .int (nI n)), (6, .int xq39.1), (7, .int xq39.2.1), (8, .int sq73.1), (9, .int sq71.2.1), (10, .int sq73.2.1), (11, .int sq87.1), (12, .int sq84.2.1), (13, .int sq87.2.1)] → W p l e { frames := 7, cells := 200, slots := 20000, locals := 40 * 7 } s m args below meth c H locs 200 20000 (MQ below (LQc g ([(a1, ia g n fa), (a2, ia g 140 fs)] ++ zcells zC (gW g aC) w) s.heap.size (fun v nb => v = some (.int rz.1) ∧ nb = [(a1, ia g n fa), (a2, ia g 140 fs)] ++ zcells zC (gW g aC) rz.2)) args s 200 20000 (va_A ([(a1, ia g n fa), (a2, ia g 140 fs)] ++ zcells zC (gW g aC) w) s.heap.size)) (F0 m 504 ls []) := by
                                        intro kf
                                        induction kf with
                                        | zero => intro sq87 hQ; exact lp_0 hQ
                                        | succ kf ih =>
                                          intro sq87 hQ H locs ls hL hl
                                          obtain ⟨bb, hF, hQ⟩ := lp_s hQ
                                          unfold b_L_areEdges_504 at hF
                                          refine lv_iload hx hb dL_areEdges_504 (lv_at hl 10 rfl) ?_
                                          refine lv_iload_n hx hb dL_areEdges_506 rfl (lv_at hl 2 rfl) ?_
                                          refine lv_icmp_ge (tgt := 581) hx hb dL_areEdges_507 (by decide) (fun c88 => ?_) (fun c88 => ?_)
                                          · replace hF := ifp (c88) hF
                                            obtain rfl := se1 hF
                                            subst hQ
                                            exact Jq87 _ _ _ hL (lv_sub hl [0, 1, 2, 3, 4, 5, 6, 7, 8, 9] rfl)
                                          · replace hF := ifn (c88) hF
                                            refine lv_iload hx hb dL_areEdges_510 (lv_at hl 8 rfl) ?_
                                            refine lv_if_ne (tgt := 581) hx hb dL_areEdges_512 (by decide) (fun c89 => ?_) (fun c89 => ?_)
                                            · replace hF := ifp (c89) hF
                                              obtain rfl := se1 hF
                                              subst hQ
                                              exact Jq87 _ _ _ hL (lv_sub hl [0, 1, 2, 3, 4, 5, 6, 7, 8, 9] rfl)
                                            · replace hF := ifn (fun q => q c89) hF
                                              refine lv_iload hx hb dL_areEdges_515 (lv_at hl 9 rfl) ?_
                                              refine lv_iload hx hb dL_areEdges_517 (lv_at hl 10 rfl) ?_
                                              refine lv_icmp_eq (tgt := 572) hx hb dL_areEdges_519 (by decide) (fun c90 => ?_) (fun c90 => ?_)
                                              · replace hF := ifp (c90) hF
                                                refine lv_iconst (v := (0 : Int32)) hx hb dL_areEdges_572 (by decide) ?_
                                                refine lv_istore (lv' := [(11, .int (0 : Int32)), (0, .ref (aC 0)), (1, .ref a1), (3, .int (nI n)), (6, .int xq39.1), (7, .int xq39.2.1), (8, .int sq73.1), (9, .int sq71.2.1), (10, .int sq73.2.1), (12, .int sq84.2.1), (13, .int sq87.2.1)]) hx hb dL_areEdges_573 hl (by decide) rfl (fun ls hl => ?_)
                                                refine lv_iinc (v := (sq87.2.1 + (1 : Int32))) (lv' := [(13, .int (sq87.2.1 + (1 : Int32))), (11, .int (0 : Int32)), (0, .ref (aC 0)), (1, .ref a1), (3, .int (nI n)), (6, .int xq39.1), (7, .int xq39.2.1), (8, .int sq73.1), (9, .int sq71.2.1), (10, .int sq73.2.1), (12, .int sq84.2.1)]) hx hb dL_areEdges_575 hl (k := 10) rfl rfl (by decide) rfl (fun ls hl => ?_)
                                                refine lv_goto (tgt := 504) hx hb dL_areEdges_578 (by decide) ?_
                                                obtain rfl := se1 hF
                                                exact ih _ hQ _ _ _ hL (lv_sub hl [2, 3, 4, 5, 6, 7, 8, 9, 1, 10, 0] rfl)
                                              · replace hF := ifn (c90) hF
                                                refine lv_aload_n hx hb dL_areEdges_522 rfl (lv_at hl 0 rfl) ?_
                                                refine lv_aload_n hx hb dL_areEdges_523 rfl (lv_at hl 1 rfl) ?_
                                                refine lv_iload hx hb dL_areEdges_524 (lv_at hl 9 rfl) ?_
                                                obtain ⟨x91, hx91, hF⟩ := ob hF
                                                refine x_iald (k := 0) X hL rfl hx91 dL_areEdges_526 ?_
                                                rw [← List.append_assoc] at hL
                                                obtain ⟨x92, hx92, hF⟩ := ob hF
                                                refine y_C (As := [.int x91]) (rest := []) X hZ hA ([(a1, ia g n fa), (a2, ia g 140 fs)] ++ rowsL g n rq rq25) hL (c_X9_representative (l := l) (g := gW g aC) (w := sq87.2.2) (k0 := 0) (v_location := x91) hx92 rfl) tw_5_55 ms_X9_representative im_X9_representative cn_9 ⟨Nat.le_of_ble_eq_true rfl, Nat.le_of_ble_eq_true rfl⟩ rfl rfl hl.1 (Nat.le_of_ble_eq_true rfl) dL_areEdges_527 ⟨Nat.le_of_ble_eq_true rfl, Nat.le_of_ble_eq_true rfl⟩ rfl (fun H locs hL => ?_)
                                                have hL : LW g (va_A ([(a1, ia g n fa), (a2, ia g 140 fs)] ++ zcells zC (gW g aC) w) s.heap.size) ([(a1, ia g n fa), (a2, ia g 140 fs)] ++ (rowsL g n rq rq25 ++ zcells zC (gW g aC) x92.2)) s.heap H locs := by rw [List.append_assoc] at hL; exact hL
                                                refine lv_aload_n hx hb dL_areEdges_530 rfl (lv_at hl 1 rfl) ?_
                                                refine lv_iload hx hb dL_areEdges_531 (lv_at hl 6 rfl) ?_
                                                obtain ⟨x93, hx93, hF⟩ := ob hF
                                                refine x_iald (k := 0) X hL rfl hx93 dL_areEdges_533 ?_
                                                refine lv_icmp_ne (tgt := 572) hx hb dL_areEdges_534 (by decide) (fun c94 => ?_) (fun c94 => ?_)
                                                · replace hF := ifp (c94) hF
                                                  refine lv_iconst (v := (0 : Int32)) hx hb dL_areEdges_572 (by decide) ?_
                                                  refine lv_istore (lv' := [(11, .int (0 : Int32)), (0, .ref (aC 0)), (1, .ref a1), (3, .int (nI n)), (6, .int xq39.1), (7, .int xq39.2.1), (8, .int sq73.1), (9, .int sq71.2.1), (10, .int sq73.2.1), (12, .int sq84.2.1), (13, .int sq87.2.1)]) hx hb dL_areEdges_573 hl (by decide) rfl (fun ls hl => ?_)
                                                  refine lv_iinc (v := (sq87.2.1 + (1 : Int32))) (lv' := [(13, .int (sq87.2.1 + (1 : Int32))), (11, .int (0 : Int32)), (0, .ref (aC 0)), (1, .ref a1), (3, .int (nI n)), (6, .int xq39.1), (7, .int xq39.2.1), (8, .int sq73.1), (9, .int sq71.2.1), (10, .int sq73.2.1), (12, .int sq84.2.1)]) hx hb dL_areEdges_575 hl (k := 10) rfl rfl (by decide) rfl (fun ls hl => ?_)
                                                  refine lv_goto (tgt := 504) hx hb dL_areEdges_578 (by decide) ?_
                                                  obtain rfl := se1 hF
                                                  exact ih _ hQ _ _ _ hL (lv_sub hl [2, 3, 4, 5, 6, 7, 8, 9, 1, 10, 0] rfl)
                                                · replace hF := ifn (fun q => q c94) hF
                                                  refine lv_aload_n hx hb dL_areEdges_537 rfl (lv_at hl 0 rfl) ?_
                                                  refine lv_aload_n hx hb dL_areEdges_538 rfl (lv_at hl 1 rfl) ?_
                                                  refine lv_iload hx hb dL_areEdges_539 (lv_at hl 10 rfl) ?_
                                                  obtain ⟨x95, hx95, hF⟩ := ob hF
                                                  refine x_iald (k := 0) X hL rfl hx95 dL_areEdges_541 ?_
                                                  rw [← List.append_assoc] at hL
                                                  obtain ⟨x96, hx96, hF⟩ := ob hF
                                                  refine y_C (As := [.int x95]) (rest := []) X hZ hA ([(a1, ia g n fa), (a2, ia g 140 fs)] ++ rowsL g n rq rq25) hL (c_X9_representative (l := l) (g := gW g aC) (w := x92.2) (k0 := 0) (v_location := x95) hx96 rfl) tw_5_55 ms_X9_representative im_X9_representative cn_9 ⟨Nat.le_of_ble_eq_true rfl, Nat.le_of_ble_eq_true rfl⟩ rfl rfl hl.1 (Nat.le_of_ble_eq_true rfl) dL_areEdges_542 ⟨Nat.le_of_ble_eq_true rfl, Nat.le_of_ble_eq_true rfl⟩ rfl (fun H locs hL => ?_)
                                                  have hL : LW g (va_A ([(a1, ia g n fa), (a2, ia g 140 fs)] ++ zcells zC (gW g aC) w) s.heap.size) ([(a1, ia g n fa), (a2, ia g 140 fs)] ++ (rowsL g n rq rq25 ++ zcells zC (gW g aC) x96.2)) s.heap H locs := by rw [List.append_assoc] at hL; exact hL
                                                  refine lv_aload_n hx hb dL_areEdges_545 rfl (lv_at hl 1 rfl) ?_
                                                  refine lv_iload hx hb dL_areEdges_546 (lv_at hl 7 rfl) ?_
                                                  obtain ⟨x97, hx97, hF⟩ := ob hF
                                                  refine x_iald (k := 0) X hL rfl hx97 dL_areEdges_548 ?_
                                                  refine lv_icmp_ne (tgt := 572) hx hb dL_areEdges_549 (by decide) (fun c98 => ?_) (fun c98 => ?_)
                                                  · replace hF := ifp (c98) hF
                                                    refine lv_iconst (v := (0 : Int32)) hx hb dL_areEdges_572 (by decide) ?_
                                                    refine lv_istore (lv' := [(11, .int (0 : Int32)), (0, .ref (aC 0)), (1, .ref a1), (3, .int (nI n)), (6, .int xq39.1), (7, .int xq39.2.1), (8, .int sq73.1), (9, .int sq71.2.1), (10, .int sq73.2.1), (12, .int sq84.2.1), (13, .int sq87.2.1)]) hx hb dL_areEdges_573 hl (by decide) rfl (fun ls hl => ?_)
                                                    refine lv_iinc (v := (sq87.2.1 + (1 : Int32))) (lv' := [(13, .int (sq87.2.1 + (1 : Int32))), (11, .int (0 : Int32)), (0, .ref (aC 0)), (1, .ref a1), (3, .int (nI n)), (6, .int xq39.1), (7, .int xq39.2.1), (8, .int sq73.1), (9, .int sq71.2.1), (10, .int sq73.2.1), (12, .int sq84.2.1)]) hx hb dL_areEdges_575 hl (k := 10) rfl rfl (by decide) rfl (fun ls hl => ?_)
                                                    refine lv_goto (tgt := 504) hx hb dL_areEdges_578 (by decide) ?_
                                                    obtain rfl := se1 hF
                                                    exact ih _ hQ _ _ _ hL (lv_sub hl [2, 3, 4, 5, 6, 7, 8, 9, 1, 10, 0] rfl)
                                                  · replace hF := ifn (fun q => q c98) hF
                                                    refine lv_aload_n hx hb dL_areEdges_552 rfl (lv_at hl 0 rfl) ?_
                                                    refine lv_aload_n hx hb dL_areEdges_553 rfl (lv_at hl 1 rfl) ?_
                                                    refine lv_iload hx hb dL_areEdges_554 (lv_at hl 9 rfl) ?_
                                                    obtain ⟨x99, hx99, hF⟩ := ob hF
                                                    refine x_iald (k := 0) X hL rfl hx99 dL_areEdges_556 ?_
                                                    refine lv_aload_n hx hb dL_areEdges_557 rfl (lv_at hl 1 rfl) ?_
                                                    refine lv_iload hx hb dL_areEdges_558 (lv_at hl 10 rfl) ?_
                                                    obtain ⟨x100, hx100, hF⟩ := ob hF
                                                    refine x_iald (k := 0) X hL rfl hx100 dL_areEdges_560 ?_
                                                    rw [← List.append_assoc] at hL
                                                    obtain ⟨x101, hx101, hF⟩ := ob hF
                                                    refine y_C (As := [.int x99, .int x100]) (rest := []) X hZ hA ([(a1, ia g n fa), (a2, ia g 140 fs)] ++ rowsL g n rq rq25) hL (c_X9_hasEdge (l := l) (g := gW g aC) (w := x96.2) (k0 := 0) (v_from := x99) (v_to := x100) hx101 rfl) tw_5_24 ms_X9_hasEdge im_X9_hasEdge cn_9 ⟨Nat.le_of_ble_eq_true rfl, Nat.le_of_ble_eq_true rfl⟩ rfl rfl hl.1 (Nat.le_of_ble_eq_true rfl) dL_areEdges_561 ⟨Nat.le_of_ble_eq_true rfl, Nat.le_of_ble_eq_true rfl⟩ rfl (fun H locs hL => ?_)
                                                    have hL : LW g (va_A ([(a1, ia g n fa), (a2, ia g 140 fs)] ++ zcells zC (gW g aC) w) s.heap.size) ([(a1, ia g n fa), (a2, ia g 140 fs)] ++ (rowsL g n rq rq25 ++ zcells zC (gW g aC) x101.2)) s.heap H locs := by rw [List.append_assoc] at hL; exact hL
                                                    refine lv_iconst (v := (1 : Int32)) hx hb dL_areEdges_564 (by decide) ?_
                                                    refine lv_icmp_ne (tgt := 572) hx hb dL_areEdges_565 (by decide) (fun c102 => ?_) (fun c102 => ?_)
                                                    · replace hF := ifp (c102) hF
                                                      refine lv_iconst (v := (0 : Int32)) hx hb dL_areEdges_572 (by decide) ?_
                                                      refine lv_istore (lv' := [(11, .int (0 : Int32)), (0, .ref (aC 0)), (1, .ref a1), (3, .int (nI n)), (6, .int xq39.1), (7, .int xq39.2.1), (8, .int sq73.1), (9, .int sq71.2.1), (10, .int sq73.2.1), (12, .int sq84.2.1), (13, .int sq87.2.1)]) hx hb dL_areEdges_573 hl (by decide) rfl (fun ls hl => ?_)
                                                      refine lv_iinc (v := (sq87.2.1 + (1 : Int32))) (lv' := [(13, .int (sq87.2.1 + (1 : Int32))), (11, .int (0 : Int32)), (0, .ref (aC 0)), (1, .ref a1), (3, .int (nI n)), (6, .int xq39.1), (7, .int xq39.2.1), (8, .int sq73.1), (9, .int sq71.2.1), (10, .int sq73.2.1), (12, .int sq84.2.1)]) hx hb dL_areEdges_575 hl (k := 10) rfl rfl (by decide) rfl (fun ls hl => ?_)
                                                      refine lv_goto (tgt := 504) hx hb dL_areEdges_578 (by decide) ?_
                                                      obtain rfl := se1 hF
                                                      exact ih _ hQ _ _ _ hL (lv_sub hl [2, 3, 4, 5, 6, 7, 8, 9, 1, 10, 0] rfl)
                                                    · replace hF := ifn (fun q => q c102) hF
                                                      refine lv_iconst (v := (1 : Int32)) hx hb dL_areEdges_568 (by decide) ?_
                                                      refine lv_goto (tgt := 573) hx hb dL_areEdges_569 (by decide) ?_
                                                      refine lv_istore (lv' := [(11, .int (1 : Int32)), (0, .ref (aC 0)), (1, .ref a1), (3, .int (nI n)), (6, .int xq39.1), (7, .int xq39.2.1), (8, .int sq73.1), (9, .int sq71.2.1), (10, .int sq73.2.1), (12, .int sq84.2.1), (13, .int sq87.2.1)]) hx hb dL_areEdges_573 hl (by decide) rfl (fun ls hl => ?_)
                                                      refine lv_iinc (v := (sq87.2.1 + (1 : Int32))) (lv' := [(13, .int (sq87.2.1 + (1 : Int32))), (11, .int (1 : Int32)), (0, .ref (aC 0)), (1, .ref a1), (3, .int (nI n)), (6, .int xq39.1), (7, .int xq39.2.1), (8, .int sq73.1), (9, .int sq71.2.1), (10, .int sq73.2.1), (12, .int sq84.2.1)]) hx hb dL_areEdges_575 hl (k := 10) rfl rfl (by decide) rfl (fun ls hl => ?_)
                                                      refine lv_goto (tgt := 504) hx hb dL_areEdges_578 (by decide) ?_
                                                      obtain rfl := se1 hF
                                                      exact ih _ hQ _ _ _ hL (lv_sub hl [2, 3, 4, 5, 6, 7, 8, 9, 1, 10, 0] rfl)
                                      exact Lq87 _ (sq84.1, (0 : Int32), sq84.2.2) hrq87 _ _ _ hL (lv_sub hl [1, 2, 3, 4, 5, 6, 7, 8, 9, 10, 0] rfl)
                              exact Lq84 _ ((0 : Int32), (0 : Int32), x80.2) hrq84 _ _ _ hL (lv_sub hl [2, 3, 4, 5, 6, 7, 8, 9, 1, 0] rfl)
                            · replace hF := ifn (fun q => q c83) hF
                              refine lv_goto (tgt := 602) hx hb dL_areEdges_481 (by decide) ?_
                              exact J602 sq73.1 x80.2 _ _ _ hF hL (lv_sub hl [0, 1, 2, 3, 4, 5, 6, 7] rfl)
                  exact Lq73 _ (sq71.1, (0 : Int32), sq71.2.2) hrq73 _ _ _ hL (lv_sub hl [1, 2, 3, 4, 5, 6, 7, 0] rfl)
            exact Lq71 _ ((0 : Int32), (0 : Int32), xq39.2.2) hrq71 _ _ _ hL (lv_sub hl [1, 2, 3, 4, 5, 6, 0] rfl)
          have Rq39 : ∀ v, rq39 = .inr v → rz = v := by
            intro v hx2
            subst hx2
            exact se1 hF
          have Lq39 : ∀ (kf : Nat) (sq39 : Int32 × Int32 × Int32 × Wd), lp (b_L_areEdges_234 n fa rq25) kf sq39 = some rq39 → ∀ (H : Heap) (locs : List Loc) (ls : Array Slot), LW g (va_A ([(a1, ia g n fa), (a2, ia g 140 fs)] ++ zcells zC (gW g aC) w) s.heap.size) ([(qa, ra g n rq), (a1, ia g n fa), (a2, ia g 140 fs)] ++ (rowsL g n rq rq25 ++ zcells zC (gW g aC) sq39.2.2.2)) s.heap H locs → lv_has ls 14 [(0, .ref (aC 0)), (1, .ref a1), (3, .int (nI n)), (5, .ref qa), (6, .int sq39.1), (7, .int sq39.2.1), (8, .int (0 : Int32)), (9, .int sq39.2.2.1)] → W p l e { frames := 7, cells := 200, slots := 20000, locals := 40 * 7 } s m args below meth c H locs 200 20000 (MQ below (LQc g ([(a1, ia g n fa), (a2, ia g 140 fs)] ++ zcells zC (gW g aC) w) s.heap.size (fun v nb => v = some (.int rz.1) ∧ nb = [(a1, ia g n fa), (a2, ia g 140 fs)] ++ zcells zC (gW g aC) rz.2)) args s 200 20000 (va_A ([(a1, ia g n fa), (a2, ia g 140 fs)] ++ zcells zC (gW g aC) w) s.heap.size)) (F0 m 234 ls []) := by
            intro kf
            induction kf with
            | zero => intro sq39 hQ; exact lp_0 hQ
            | succ kf ih =>
              intro sq39 hQ H locs ls hL hl
              obtain ⟨bb, hF, hQ⟩ := lp_s hQ
              unfold b_L_areEdges_234 at hF
              refine lv_iload hx hb dL_areEdges_234 (lv_at hl 7 rfl) ?_
              refine lv_iload_n hx hb dL_areEdges_236 rfl (lv_at hl 2 rfl) ?_
              refine lv_icmp_ge (tgt := 426) hx hb dL_areEdges_237 (by decide) (fun c40 => ?_) (fun c40 => ?_)
              · replace hF := ifp (c40) hF
                have hL : LW g (va_A ([(a1, ia g n fa), (a2, ia g 140 fs)] ++ zcells zC (gW g aC) w) s.heap.size) ([(a1, ia g n fa), (a2, ia g 140 fs)] ++ (rowsL g n rq rq25 ++ zcells zC (gW g aC) sq39.2.2.2)) s.heap H locs := hL.subl ((((List.Sublist.refl _).cons_cons _).cons_cons _).cons _)
                obtain rfl := se1 hF
                subst hQ
                exact Jq39 _ rfl _ _ _ hL (lv_sub hl [0, 1, 2, 4, 5, 6] rfl)
              · replace hF := ifn (c40) hF
                refine lv_iconst (v := (0 : Int32)) hx hb dL_areEdges_240 (by decide) ?_
                refine lv_istore (lv' := [(10, .int (0 : Int32)), (0, .ref (aC 0)), (1, .ref a1), (3, .int (nI n)), (5, .ref qa), (6, .int sq39.1), (7, .int sq39.2.1), (8, .int (0 : Int32)), (9, .int sq39.2.2.1)]) hx hb dL_areEdges_241 hl (by decide) rfl (fun ls hl => ?_)
                refine lv_iload hx hb dL_areEdges_243 (lv_at hl 8 rfl) ?_
                refine lv_istore (lv' := [(11, .int sq39.2.2.1), (10, .int (0 : Int32)), (0, .ref (aC 0)), (1, .ref a1), (3, .int (nI n)), (5, .ref qa), (6, .int sq39.1), (7, .int sq39.2.1), (8, .int (0 : Int32)), (9, .int sq39.2.2.1)]) hx hb dL_areEdges_245 hl (by decide) rfl (fun ls hl => ?_)
                refine lv_iload_n hx hb dL_areEdges_247 rfl (lv_at hl 4 rfl) ?_
                refine lv_iconst (v := (1 : Int32)) hx hb dL_areEdges_248 (by decide) ?_
                refine lv_isub hx hb dL_areEdges_249 ?_
                refine lv_istore (lv' := [(12, .int ((nI n) - (1 : Int32))), (11, .int sq39.2.2.1), (10, .int (0 : Int32)), (0, .ref (aC 0)), (1, .ref a1), (3, .int (nI n)), (5, .ref qa), (6, .int sq39.1), (7, .int sq39.2.1), (8, .int (0 : Int32)), (9, .int sq39.2.2.1)]) hx hb dL_areEdges_250 hl (by decide) rfl (fun ls hl => ?_)
                obtain ⟨rq41, hrq41, hF⟩ := ob hF
                have Jq41 : ∀ xq41, rq41 = .inl xq41 → ∀ (H : Heap) (locs : List Loc) (ls : Array Slot), LW g (va_A ([(a1, ia g n fa), (a2, ia g 140 fs)] ++ zcells zC (gW g aC) w) s.heap.size) ([(qa, ra g n rq), (a1, ia g n fa), (a2, ia g 140 fs)] ++ (rowsL g n rq rq25 ++ zcells zC (gW g aC) xq41.2.2)) s.heap H locs → lv_has ls 14 [(0, .ref (aC 0)), (1, .ref a1), (3, .int (nI n)), (5, .ref qa), (6, .int sq39.1), (7, .int sq39.2.1), (8, .int (0 : Int32)), (9, .int sq39.2.2.1), (10, .int xq41.1), (11, .int xq41.2.1)] → W p l e { frames := 7, cells := 200, slots := 20000, locals := 40 * 7 } s m args below meth c H locs 200 20000 (MQ below (LQc g ([(a1, ia g n fa), (a2, ia g 140 fs)] ++ zcells zC (gW g aC) w) s.heap.size (fun v nb => v = some (.int rz.1) ∧ nb = [(a1, ia g n fa), (a2, ia g 140 fs)] ++ zcells zC (gW g aC) rz.2)) args s 200 20000 (va_A ([(a1, ia g n fa), (a2, ia g 140 fs)] ++ zcells zC (gW g aC) w) s.heap.size)) (F0 m 350 ls []) := by
                  intro xq41 hx2 H locs ls hL hl
                  subst hx2
                  replace hF : (Option.bind (rdS fa n sq39.2.2.1) (fun x59 => Option.bind (f_X9_componentSize xq41.2.2 0 x59) (fun x60 => if ¬ x60.1 = xq41.1 then some (.inr (.inr ((0 : Int32), x60.2))) else Option.bind (rdS fa n sq39.2.2.1) (fun x62 => Option.bind (f_X9_representative x60.2 0 x62) (fun x63 => Option.bind (rdS fa n xq41.2.1) (fun x64 => if x63.1 = x64 then if ¬ xq41.2.1 = sq39.2.2.1 then if ¬ xq41.2.1 = sq39.2.2.1 then some (.inl ((sq39.1 + (0 : Int32)), (sq39.2.1 + (0 : Int32)), (sq39.2.2.1 + (1 : Int32)), x63.2)) else if xq41.1 ≤ (1 : Int32) then some (.inl ((sq39.1 + (0 : Int32)), (sq39.2.1 + (0 : Int32)), (sq39.2.2.1 + (1 : Int32)), x63.2)) else some (.inl ((sq39.1 + (0 : Int32)), (sq39.2.1 + (1 : Int32)), (sq39.2.2.1 + (1 : Int32)), x63.2)) else if ¬ xq41.2.1 = sq39.2.2.1 then some (.inl ((sq39.1 + (1 : Int32)), (sq39.2.1 + (0 : Int32)), (sq39.2.2.1 + (1 : Int32)), x63.2)) else if xq41.1 ≤ (1 : Int32) then some (.inl ((sq39.1 + (1 : Int32)), (sq39.2.1 + (0 : Int32)), (sq39.2.2.1 + (1 : Int32)), x63.2)) else some (.inl ((sq39.1 + (1 : Int32)), (sq39.2.1 + (1 : Int32)), (sq39.2.2.1 + (1 : Int32)), x63.2)) else some (.inr (.inr ((0 : Int32), x63.2))))))))) = some bb := hF
                  refine lv_aload_n hx hb dL_areEdges_350 rfl (lv_at hl 0 rfl) ?_
                  refine lv_aload_n hx hb dL_areEdges_351 rfl (lv_at hl 1 rfl) ?_
                  refine lv_iload hx hb dL_areEdges_352 (lv_at hl 7 rfl) ?_
                  obtain ⟨x59, hx59, hF⟩ := ob hF
                  refine x_iald (k := 1) X hL rfl hx59 dL_areEdges_354 ?_
                  rw [← List.append_assoc] at hL
                  obtain ⟨x60, hx60, hF⟩ := ob hF
                  refine y_C (As := [.int x59]) (rest := []) X hZ hA ([(qa, ra g n rq), (a1, ia g n fa), (a2, ia g 140 fs)] ++ rowsL g n rq rq25) hL (c_X9_componentSize (l := l) (g := gW g aC) (w := xq41.2.2) (k0 := 0) (v_location := x59) hx60 rfl) tw_5_50 ms_X9_componentSize im_X9_componentSize cn_9 ⟨Nat.le_of_ble_eq_true rfl, Nat.le_of_ble_eq_true rfl⟩ rfl rfl hl.1 (Nat.le_of_ble_eq_true rfl) dL_areEdges_355 ⟨Nat.le_of_ble_eq_true rfl, Nat.le_of_ble_eq_true rfl⟩ rfl (fun H locs hL => ?_)
                  have hL : LW g (va_A ([(a1, ia g n fa), (a2, ia g 140 fs)] ++ zcells zC (gW g aC) w) s.heap.size) ([(qa, ra g n rq), (a1, ia g n fa), (a2, ia g 140 fs)] ++ (rowsL g n rq rq25 ++ zcells zC (gW g aC) x60.2)) s.heap H locs := by rw [List.append_assoc] at hL; exact hL
                  refine lv_iload hx hb dL_areEdges_358 (lv_at hl 8 rfl) ?_
                  refine lv_icmp_ne (tgt := 378) hx hb dL_areEdges_360 (by decide) (fun c61 => ?_) (fun c61 => ?_)
                  · replace hF := ifp (c61) hF
                    refine lv_iconst (v := (0 : Int32)) hx hb dL_areEdges_378 (by decide) ?_
                    obtain rfl := se1 hF
                    subst hQ
                    obtain rfl := Rq39 _ rfl
                    exact x_tret (nb := [(a1, ia g n fa), (a2, ia g 140 fs)] ++ zcells zC (gW g aC) x60.2) X (hL.subl ((((List.sublist_append_right _ _).cons_cons _).cons_cons _).cons _)) hr rfl ⟨rfl, rfl⟩ (by first | exact Nat.le_refl _ | omega) (by first | exact Nat.le_refl _ | omega) dL_areEdges_379
                  · replace hF := ifn (fun q => q c61) hF
                    refine lv_aload_n hx hb dL_areEdges_363 rfl (lv_at hl 0 rfl) ?_
                    refine lv_aload_n hx hb dL_areEdges_364 rfl (lv_at hl 1 rfl) ?_
                    refine lv_iload hx hb dL_areEdges_365 (lv_at hl 7 rfl) ?_
                    obtain ⟨x62, hx62, hF⟩ := ob hF
                    refine x_iald (k := 1) X hL rfl hx62 dL_areEdges_367 ?_
                    rw [← List.append_assoc] at hL
                    obtain ⟨x63, hx63, hF⟩ := ob hF
                    refine y_C (As := [.int x62]) (rest := []) X hZ hA ([(qa, ra g n rq), (a1, ia g n fa), (a2, ia g 140 fs)] ++ rowsL g n rq rq25) hL (c_X9_representative (l := l) (g := gW g aC) (w := x60.2) (k0 := 0) (v_location := x62) hx63 rfl) tw_5_55 ms_X9_representative im_X9_representative cn_9 ⟨Nat.le_of_ble_eq_true rfl, Nat.le_of_ble_eq_true rfl⟩ rfl rfl hl.1 (Nat.le_of_ble_eq_true rfl) dL_areEdges_368 ⟨Nat.le_of_ble_eq_true rfl, Nat.le_of_ble_eq_true rfl⟩ rfl (fun H locs hL => ?_)
                    have hL : LW g (va_A ([(a1, ia g n fa), (a2, ia g 140 fs)] ++ zcells zC (gW g aC) w) s.heap.size) ([(qa, ra g n rq), (a1, ia g n fa), (a2, ia g 140 fs)] ++ (rowsL g n rq rq25 ++ zcells zC (gW g aC) x63.2)) s.heap H locs := by rw [List.append_assoc] at hL; exact hL
                    refine lv_aload_n hx hb dL_areEdges_371 rfl (lv_at hl 1 rfl) ?_
                    refine lv_iload hx hb dL_areEdges_372 (lv_at hl 9 rfl) ?_
                    obtain ⟨x64, hx64, hF⟩ := ob hF
                    refine x_iald (k := 1) X hL rfl hx64 dL_areEdges_374 ?_
                    refine lv_icmp_eq (tgt := 380) hx hb dL_areEdges_375 (by decide) (fun c65 => ?_) (fun c65 => ?_)
                    · replace hF := ifp (c65) hF
                      refine lv_iload hx hb dL_areEdges_380 (lv_at hl 4 rfl) ?_
                      refine lv_iload hx hb dL_areEdges_382 (lv_at hl 9 rfl) ?_
                      refine lv_iload hx hb dL_areEdges_384 (lv_at hl 7 rfl) ?_
                      refine lv_icmp_ne (tgt := 393) hx hb dL_areEdges_386 (by decide) (fun c66 => ?_) (fun c66 => ?_)
                      · replace hF := ifp (c66) hF
                        refine lv_iconst (v := (0 : Int32)) hx hb dL_areEdges_393 (by decide) ?_
                        refine lv_iadd hx hb dL_areEdges_394 ?_
                        refine lv_istore (lv' := [(6, .int (sq39.1 + (0 : Int32))), (0, .ref (aC 0)), (1, .ref a1), (3, .int (nI n)), (5, .ref qa), (7, .int sq39.2.1), (8, .int (0 : Int32)), (9, .int sq39.2.2.1), (10, .int xq41.1), (11, .int xq41.2.1)]) hx hb dL_areEdges_395 hl (by decide) rfl (fun ls hl => ?_)
                        refine lv_iload hx hb dL_areEdges_397 (lv_at hl 5 rfl) ?_
                        refine lv_iload hx hb dL_areEdges_399 (lv_at hl 9 rfl) ?_
                        refine lv_iload hx hb dL_areEdges_401 (lv_at hl 7 rfl) ?_
                        refine lv_icmp_ne (tgt := 416) hx hb dL_areEdges_403 (by decide) (fun c67 => ?_) (fun c67 => ?_)
                        · replace hF := ifp (c67) hF
                          refine lv_iconst (v := (0 : Int32)) hx hb dL_areEdges_416 (by decide) ?_
                          refine lv_iadd hx hb dL_areEdges_417 ?_
                          refine lv_istore (lv' := [(7, .int (sq39.2.1 + (0 : Int32))), (6, .int (sq39.1 + (0 : Int32))), (0, .ref (aC 0)), (1, .ref a1), (3, .int (nI n)), (5, .ref qa), (8, .int (0 : Int32)), (9, .int sq39.2.2.1), (10, .int xq41.1), (11, .int xq41.2.1)]) hx hb dL_areEdges_418 hl (by decide) rfl (fun ls hl => ?_)
                          refine lv_iinc (v := (sq39.2.2.1 + (1 : Int32))) (lv' := [(9, .int (sq39.2.2.1 + (1 : Int32))), (7, .int (sq39.2.1 + (0 : Int32))), (6, .int (sq39.1 + (0 : Int32))), (0, .ref (aC 0)), (1, .ref a1), (3, .int (nI n)), (5, .ref qa), (8, .int (0 : Int32)), (10, .int xq41.1), (11, .int xq41.2.1)]) hx hb dL_areEdges_420 hl (k := 7) rfl rfl (by decide) rfl (fun ls hl => ?_)
                          refine lv_goto (tgt := 234) hx hb dL_areEdges_423 (by decide) ?_
                          obtain rfl := se1 hF
                          exact ih _ hQ _ _ _ hL (lv_sub hl [3, 4, 5, 6, 2, 1, 7, 0] rfl)
                        · replace hF := ifn (fun q => q c67) hF
                          refine lv_iload hx hb dL_areEdges_406 (lv_at hl 8 rfl) ?_
                          refine lv_iconst (v := (1 : Int32)) hx hb dL_areEdges_408 (by decide) ?_
                          refine lv_icmp_le (tgt := 416) hx hb dL_areEdges_409 (by decide) (fun c68 => ?_) (fun c68 => ?_)
                          · replace hF := ifp (c68) hF
                            refine lv_iconst (v := (0 : Int32)) hx hb dL_areEdges_416 (by decide) ?_
                            refine lv_iadd hx hb dL_areEdges_417 ?_
                            refine lv_istore (lv' := [(7, .int (sq39.2.1 + (0 : Int32))), (6, .int (sq39.1 + (0 : Int32))), (0, .ref (aC 0)), (1, .ref a1), (3, .int (nI n)), (5, .ref qa), (8, .int (0 : Int32)), (9, .int sq39.2.2.1), (10, .int xq41.1), (11, .int xq41.2.1)]) hx hb dL_areEdges_418 hl (by decide) rfl (fun ls hl => ?_)
                            refine lv_iinc (v := (sq39.2.2.1 + (1 : Int32))) (lv' := [(9, .int (sq39.2.2.1 + (1 : Int32))), (7, .int (sq39.2.1 + (0 : Int32))), (6, .int (sq39.1 + (0 : Int32))), (0, .ref (aC 0)), (1, .ref a1), (3, .int (nI n)), (5, .ref qa), (8, .int (0 : Int32)), (10, .int xq41.1), (11, .int xq41.2.1)]) hx hb dL_areEdges_420 hl (k := 7) rfl rfl (by decide) rfl (fun ls hl => ?_)
                            refine lv_goto (tgt := 234) hx hb dL_areEdges_423 (by decide) ?_
                            obtain rfl := se1 hF
                            exact ih _ hQ _ _ _ hL (lv_sub hl [3, 4, 5, 6, 2, 1, 7, 0] rfl)
                          · replace hF := ifn (c68) hF
                            refine lv_iconst (v := (1 : Int32)) hx hb dL_areEdges_412 (by decide) ?_
                            refine lv_goto (tgt := 417) hx hb dL_areEdges_413 (by decide) ?_
                            refine lv_iadd hx hb dL_areEdges_417 ?_
                            refine lv_istore (lv' := [(7, .int (sq39.2.1 + (1 : Int32))), (6, .int (sq39.1 + (0 : Int32))), (0, .ref (aC 0)), (1, .ref a1), (3, .int (nI n)), (5, .ref qa), (8, .int (0 : Int32)), (9, .int sq39.2.2.1), (10, .int xq41.1), (11, .int xq41.2.1)]) hx hb dL_areEdges_418 hl (by decide) rfl (fun ls hl => ?_)
                            refine lv_iinc (v := (sq39.2.2.1 + (1 : Int32))) (lv' := [(9, .int (sq39.2.2.1 + (1 : Int32))), (7, .int (sq39.2.1 + (1 : Int32))), (6, .int (sq39.1 + (0 : Int32))), (0, .ref (aC 0)), (1, .ref a1), (3, .int (nI n)), (5, .ref qa), (8, .int (0 : Int32)), (10, .int xq41.1), (11, .int xq41.2.1)]) hx hb dL_areEdges_420 hl (k := 7) rfl rfl (by decide) rfl (fun ls hl => ?_)
                            refine lv_goto (tgt := 234) hx hb dL_areEdges_423 (by decide) ?_
                            obtain rfl := se1 hF
                            exact ih _ hQ _ _ _ hL (lv_sub hl [3, 4, 5, 6, 2, 1, 7, 0] rfl)
                      · replace hF := ifn (fun q => q c66) hF
                        refine lv_iconst (v := (1 : Int32)) hx hb dL_areEdges_389 (by decide) ?_
                        refine lv_goto (tgt := 394) hx hb dL_areEdges_390 (by decide) ?_
                        refine lv_iadd hx hb dL_areEdges_394 ?_
                        refine lv_istore (lv' := [(6, .int (sq39.1 + (1 : Int32))), (0, .ref (aC 0)), (1, .ref a1), (3, .int (nI n)), (5, .ref qa), (7, .int sq39.2.1), (8, .int (0 : Int32)), (9, .int sq39.2.2.1), (10, .int xq41.1), (11, .int xq41.2.1)]) hx hb dL_areEdges_395 hl (by decide) rfl (fun ls hl => ?_)
                        refine lv_iload hx hb dL_areEdges_397 (lv_at hl 5 rfl) ?_
                        refine lv_iload hx hb dL_areEdges_399 (lv_at hl 9 rfl) ?_
                        refine lv_iload hx hb dL_areEdges_401 (lv_at hl 7 rfl) ?_
                        refine lv_icmp_ne (tgt := 416) hx hb dL_areEdges_403 (by decide) (fun c69 => ?_) (fun c69 => ?_)
                        · replace hF := ifp (c69) hF
                          refine lv_iconst (v := (0 : Int32)) hx hb dL_areEdges_416 (by decide) ?_
                          refine lv_iadd hx hb dL_areEdges_417 ?_
                          refine lv_istore (lv' := [(7, .int (sq39.2.1 + (0 : Int32))), (6, .int (sq39.1 + (1 : Int32))), (0, .ref (aC 0)), (1, .ref a1), (3, .int (nI n)), (5, .ref qa), (8, .int (0 : Int32)), (9, .int sq39.2.2.1), (10, .int xq41.1), (11, .int xq41.2.1)]) hx hb dL_areEdges_418 hl (by decide) rfl (fun ls hl => ?_)
                          refine lv_iinc (v := (sq39.2.2.1 + (1 : Int32))) (lv' := [(9, .int (sq39.2.2.1 + (1 : Int32))), (7, .int (sq39.2.1 + (0 : Int32))), (6, .int (sq39.1 + (1 : Int32))), (0, .ref (aC 0)), (1, .ref a1), (3, .int (nI n)), (5, .ref qa), (8, .int (0 : Int32)), (10, .int xq41.1), (11, .int xq41.2.1)]) hx hb dL_areEdges_420 hl (k := 7) rfl rfl (by decide) rfl (fun ls hl => ?_)
                          refine lv_goto (tgt := 234) hx hb dL_areEdges_423 (by decide) ?_
                          obtain rfl := se1 hF
                          exact ih _ hQ _ _ _ hL (lv_sub hl [3, 4, 5, 6, 2, 1, 7, 0] rfl)
                        · replace hF := ifn (fun q => q c69) hF
                          refine lv_iload hx hb dL_areEdges_406 (lv_at hl 8 rfl) ?_
                          refine lv_iconst (v := (1 : Int32)) hx hb dL_areEdges_408 (by decide) ?_
                          refine lv_icmp_le (tgt := 416) hx hb dL_areEdges_409 (by decide) (fun c70 => ?_) (fun c70 => ?_)
                          · replace hF := ifp (c70) hF
                            refine lv_iconst (v := (0 : Int32)) hx hb dL_areEdges_416 (by decide) ?_
                            refine lv_iadd hx hb dL_areEdges_417 ?_
                            refine lv_istore (lv' := [(7, .int (sq39.2.1 + (0 : Int32))), (6, .int (sq39.1 + (1 : Int32))), (0, .ref (aC 0)), (1, .ref a1), (3, .int (nI n)), (5, .ref qa), (8, .int (0 : Int32)), (9, .int sq39.2.2.1), (10, .int xq41.1), (11, .int xq41.2.1)]) hx hb dL_areEdges_418 hl (by decide) rfl (fun ls hl => ?_)
                            refine lv_iinc (v := (sq39.2.2.1 + (1 : Int32))) (lv' := [(9, .int (sq39.2.2.1 + (1 : Int32))), (7, .int (sq39.2.1 + (0 : Int32))), (6, .int (sq39.1 + (1 : Int32))), (0, .ref (aC 0)), (1, .ref a1), (3, .int (nI n)), (5, .ref qa), (8, .int (0 : Int32)), (10, .int xq41.1), (11, .int xq41.2.1)]) hx hb dL_areEdges_420 hl (k := 7) rfl rfl (by decide) rfl (fun ls hl => ?_)
                            refine lv_goto (tgt := 234) hx hb dL_areEdges_423 (by decide) ?_
                            obtain rfl := se1 hF
                            exact ih _ hQ _ _ _ hL (lv_sub hl [3, 4, 5, 6, 2, 1, 7, 0] rfl)
                          · replace hF := ifn (c70) hF
                            refine lv_iconst (v := (1 : Int32)) hx hb dL_areEdges_412 (by decide) ?_
                            refine lv_goto (tgt := 417) hx hb dL_areEdges_413 (by decide) ?_
                            refine lv_iadd hx hb dL_areEdges_417 ?_
                            refine lv_istore (lv' := [(7, .int (sq39.2.1 + (1 : Int32))), (6, .int (sq39.1 + (1 : Int32))), (0, .ref (aC 0)), (1, .ref a1), (3, .int (nI n)), (5, .ref qa), (8, .int (0 : Int32)), (9, .int sq39.2.2.1), (10, .int xq41.1), (11, .int xq41.2.1)]) hx hb dL_areEdges_418 hl (by decide) rfl (fun ls hl => ?_)
                            refine lv_iinc (v := (sq39.2.2.1 + (1 : Int32))) (lv' := [(9, .int (sq39.2.2.1 + (1 : Int32))), (7, .int (sq39.2.1 + (1 : Int32))), (6, .int (sq39.1 + (1 : Int32))), (0, .ref (aC 0)), (1, .ref a1), (3, .int (nI n)), (5, .ref qa), (8, .int (0 : Int32)), (10, .int xq41.1), (11, .int xq41.2.1)]) hx hb dL_areEdges_420 hl (k := 7) rfl rfl (by decide) rfl (fun ls hl => ?_)
                            refine lv_goto (tgt := 234) hx hb dL_areEdges_423 (by decide) ?_
                            obtain rfl := se1 hF
                            exact ih _ hQ _ _ _ hL (lv_sub hl [3, 4, 5, 6, 2, 1, 7, 0] rfl)
                    · replace hF := ifn (c65) hF
                      refine lv_iconst (v := (0 : Int32)) hx hb dL_areEdges_378 (by decide) ?_
                      obtain rfl := se1 hF
                      subst hQ
                      obtain rfl := Rq39 _ rfl
                      exact x_tret (nb := [(a1, ia g n fa), (a2, ia g 140 fs)] ++ zcells zC (gW g aC) x63.2) X (hL.subl ((((List.sublist_append_right _ _).cons_cons _).cons_cons _).cons _)) hr rfl ⟨rfl, rfl⟩ (by first | exact Nat.le_refl _ | omega) (by first | exact Nat.le_refl _ | omega) dL_areEdges_379
                have Rq41 : ∀ v, rq41 = .inr v → rz = v := by
                  intro v hx2
                  subst hx2
                  replace hF : some (Sum.inr (Sum.inr v)) = some bb := hF
                  obtain rfl := se1 hF
                  subst hQ
                  exact Rq39 _ rfl
                have Lq41 : ∀ (kf : Nat) (sq41 : Int32 × Int32 × Int32 × Wd), lp (b_L_areEdges_252 fa n sq39 rq25) kf sq41 = some rq41 → ∀ (H : Heap) (locs : List Loc) (ls : Array Slot), LW g (va_A ([(a1, ia g n fa), (a2, ia g 140 fs)] ++ zcells zC (gW g aC) w) s.heap.size) ([(qa, ra g n rq), (a1, ia g n fa), (a2, ia g 140 fs)] ++ (rowsL g n rq rq25 ++ zcells zC (gW g aC) sq41.2.2.2)) s.heap H locs → lv_has ls 14 [(0, .ref (aC 0)), (1, .ref a1), (3, .int (nI n)), (5, .ref qa), (6, .int sq39.1), (7, .int sq39.2.1), (8, .int (0 : Int32)), (9, .int sq39.2.2.1), (10, .int sq41.1), (11, .int sq41.2.1), (12, .int sq41.2.2.1)] → W p l e { frames := 7, cells := 200, slots := 20000, locals := 40 * 7 } s m args below meth c H locs 200 20000 (MQ below (LQc g ([(a1, ia g n fa), (a2, ia g 140 fs)] ++ zcells zC (gW g aC) w) s.heap.size (fun v nb => v = some (.int rz.1) ∧ nb = [(a1, ia g n fa), (a2, ia g 140 fs)] ++ zcells zC (gW g aC) rz.2)) args s 200 20000 (va_A ([(a1, ia g n fa), (a2, ia g 140 fs)] ++ zcells zC (gW g aC) w) s.heap.size)) (F0 m 252 ls []) := by
                  intro kf
                  induction kf with
                  | zero => intro sq41 hQ; exact lp_0 hQ
                  | succ kf ih =>
                    intro sq41 hQ H locs ls hL hl
                    obtain ⟨bb, hF, hQ⟩ := lp_s hQ
                    unfold b_L_areEdges_252 at hF
                    have J344 : ∀ (v10_344 : Int32) (v11_344 : Int32) (w_344 : Wd) (H : Heap) (locs : List Loc) (ls : Array Slot), k_L_areEdges_344 sq41 v10_344 v11_344 w_344 = some bb → LW g (va_A ([(a1, ia g n fa), (a2, ia g 140 fs)] ++ zcells zC (gW g aC) w) s.heap.size) ([(qa, ra g n rq), (a1, ia g n fa), (a2, ia g 140 fs)] ++ (rowsL g n rq rq25 ++ zcells zC (gW g aC) w_344)) s.heap H locs → lv_has ls 14 [(0, .ref (aC 0)), (1, .ref a1), (3, .int (nI n)), (5, .ref qa), (6, .int sq39.1), (7, .int sq39.2.1), (8, .int (0 : Int32)), (9, .int sq39.2.2.1), (10, .int v10_344), (11, .int v11_344), (12, .int sq41.2.2.1)] → W p l e { frames := 7, cells := 200, slots := 20000, locals := 40 * 7 } s m args below meth c H locs 200 20000 (MQ below (LQc g ([(a1, ia g n fa), (a2, ia g 140 fs)] ++ zcells zC (gW g aC) w) s.heap.size (fun v nb => v = some (.int rz.1) ∧ nb = [(a1, ia g n fa), (a2, ia g 140 fs)] ++ zcells zC (gW g aC) rz.2)) args s 200 20000 (va_A ([(a1, ia g n fa), (a2, ia g 140 fs)] ++ zcells zC (gW g aC) w) s.heap.size)) (F0 m 344 ls []) := by
                      intro v10_344 v11_344 w_344 H locs ls hF hL hl
                      unfold k_L_areEdges_344 at hF
                      refine lv_iinc (v := (sq41.2.2.1 + (-1 : Int32))) (lv' := [(12, .int (sq41.2.2.1 + (-1 : Int32))), (0, .ref (aC 0)), (1, .ref a1), (3, .int (nI n)), (5, .ref qa), (6, .int sq39.1), (7, .int sq39.2.1), (8, .int (0 : Int32)), (9, .int sq39.2.2.1), (10, .int v10_344), (11, .int v11_344)]) hx hb dL_areEdges_344 hl (k := 10) rfl rfl (by decide) rfl (fun ls hl => ?_)
                      refine lv_goto (tgt := 252) hx hb dL_areEdges_347 (by decide) ?_
                      obtain rfl := se1 hF
                      exact ih _ hQ _ _ _ hL (lv_sub hl [1, 2, 3, 4, 5, 6, 7, 8, 9, 10, 0] rfl)
                    have J301 : ∀ (w_301 : Wd) (H : Heap) (locs : List Loc) (ls : Array Slot), k_L_areEdges_301 n sq39 rq25 sq41 w_301 = some bb → LW g (va_A ([(a1, ia g n fa), (a2, ia g 140 fs)] ++ zcells zC (gW g aC) w) s.heap.size) ([(qa, ra g n rq), (a1, ia g n fa), (a2, ia g 140 fs)] ++ (rowsL g n rq rq25 ++ zcells zC (gW g aC) w_301)) s.heap H locs → lv_has ls 14 [(0, .ref (aC 0)), (1, .ref a1), (3, .int (nI n)), (5, .ref qa), (6, .int sq39.1), (7, .int sq39.2.1), (8, .int (0 : Int32)), (9, .int sq39.2.2.1), (10, .int sq41.1), (11, .int sq41.2.1), (12, .int sq41.2.2.1)] → W p l e { frames := 7, cells := 200, slots := 20000, locals := 40 * 7 } s m args below meth c H locs 200 20000 (MQ below (LQc g ([(a1, ia g n fa), (a2, ia g 140 fs)] ++ zcells zC (gW g aC) w) s.heap.size (fun v nb => v = some (.int rz.1) ∧ nb = [(a1, ia g n fa), (a2, ia g 140 fs)] ++ zcells zC (gW g aC) rz.2)) args s 200 20000 (va_A ([(a1, ia g n fa), (a2, ia g 140 fs)] ++ zcells zC (gW g aC) w) s.heap.size)) (F0 m 301 ls []) := by
                      intro w_301 H locs ls hF hL hl
                      unfold k_L_areEdges_301 at hF
                      refine lv_aload hx hb dL_areEdges_301 (lv_at hl 3 rfl) ?_
                      refine lv_iload hx hb dL_areEdges_303 (lv_at hl 7 rfl) ?_
                      obtain ⟨j42, hj42, hF⟩ := ob hF
                      refine x_aald (k := 0) X hL rfl hj42 dL_areEdges_305 ?_
                      refine lv_iload hx hb dL_areEdges_306 (lv_at hl 10 rfl) ?_
                      obtain ⟨x43, hx43, hF⟩ := ob hF
                      refine x_rald (W1 := [(qa, ra g n rq), (a1, ia g n fa), (a2, ia g 140 fs)]) (W2 := zcells zC (gW g aC) w_301) X hL (rdQ_lt hj42) hx43 dL_areEdges_308 ?_
                      refine lv_sipush (v := (1000 : Int32)) hx hb dL_areEdges_309 (by decide) ?_
                      refine lv_icmp_ge (tgt := 344) hx hb dL_areEdges_312 (by decide) (fun c44 => ?_) (fun c44 => ?_)
                      · replace hF := ifp (c44) hF
                        exact J344 sq41.1 sq41.2.1 w_301 _ _ _ hF hL (lv_sub hl [0, 1, 2, 3, 4, 5, 6, 7, 8, 9, 10] rfl)
                      · replace hF := ifn (c44) hF
                        refine lv_aload hx hb dL_areEdges_315 (lv_at hl 3 rfl) ?_
                        refine lv_iload hx hb dL_areEdges_317 (lv_at hl 10 rfl) ?_
                        obtain ⟨j45, hj45, hF⟩ := ob hF
                        refine x_aald (k := 0) X hL rfl hj45 dL_areEdges_319 ?_
                        refine lv_iload hx hb dL_areEdges_320 (lv_at hl 7 rfl) ?_
                        obtain ⟨x46, hx46, hF⟩ := ob hF
                        refine x_rald (W1 := [(qa, ra g n rq), (a1, ia g n fa), (a2, ia g 140 fs)]) (W2 := zcells zC (gW g aC) w_301) X hL (rdQ_lt hj45) hx46 dL_areEdges_322 ?_
                        refine lv_sipush (v := (1000 : Int32)) hx hb dL_areEdges_323 (by decide) ?_
                        refine lv_icmp_lt (tgt := 332) hx hb dL_areEdges_326 (by decide) (fun c47 => ?_) (fun c47 => ?_)
                        · replace hF := ifp (c47) hF
                          refine lv_iinc (v := (sq41.1 + (1 : Int32))) (lv' := [(10, .int (sq41.1 + (1 : Int32))), (0, .ref (aC 0)), (1, .ref a1), (3, .int (nI n)), (5, .ref qa), (6, .int sq39.1), (7, .int sq39.2.1), (8, .int (0 : Int32)), (9, .int sq39.2.2.1), (11, .int sq41.2.1), (12, .int sq41.2.2.1)]) hx hb dL_areEdges_332 hl (k := 8) rfl rfl (by decide) rfl (fun ls hl => ?_)
                          refine lv_iload hx hb dL_areEdges_335 (lv_at hl 9 rfl) ?_
                          refine lv_iload hx hb dL_areEdges_337 (lv_at hl 10 rfl) ?_
                          refine va_mmin hx hb (X.2.2.1.trans hl.1.symm) hown (ht _ tw_5_37) (ht _ tw_1_86) (ht _ tw_1_5) (ht _ tw_1_87) (Nat.le_of_ble_eq_true rfl) (Nat.le_of_ble_eq_true rfl) (Nat.le_of_ble_eq_true rfl) (Nat.le_of_ble_eq_true rfl) dL_areEdges_339 ?_
                          refine lv_istore (lv' := [(11, .int (if sq41.2.2.1 < sq41.2.1 then sq41.2.2.1 else sq41.2.1)), (10, .int (sq41.1 + (1 : Int32))), (0, .ref (aC 0)), (1, .ref a1), (3, .int (nI n)), (5, .ref qa), (6, .int sq39.1), (7, .int sq39.2.1), (8, .int (0 : Int32)), (9, .int sq39.2.2.1), (12, .int sq41.2.2.1)]) hx hb dL_areEdges_342 hl (by decide) rfl (fun ls hl => ?_)
                          exact J344 (sq41.1 + (1 : Int32)) (if sq41.2.2.1 < sq41.2.1 then sq41.2.2.1 else sq41.2.1) w_301 _ _ _ hF hL (lv_sub hl [2, 3, 4, 5, 6, 7, 8, 9, 1, 0, 10] rfl)
                        · replace hF := ifn (c47) hF
                          refine lv_goto (tgt := 344) hx hb dL_areEdges_329 (by decide) ?_
                          exact J344 sq41.1 sq41.2.1 w_301 _ _ _ hF hL (lv_sub hl [0, 1, 2, 3, 4, 5, 6, 7, 8, 9, 10] rfl)
                    refine lv_iload hx hb dL_areEdges_252 (lv_at hl 10 rfl) ?_
                    refine lv_if_lt (tgt := 350) hx hb dL_areEdges_254 (by decide) (fun c48 => ?_) (fun c48 => ?_)
                    · replace hF := ifp (c48) hF
                      obtain rfl := se1 hF
                      subst hQ
                      exact Jq41 _ rfl _ _ _ hL (lv_sub hl [0, 1, 2, 3, 4, 5, 6, 7, 8, 9] rfl)
                    · replace hF := ifn (c48) hF
                      refine lv_aload_n hx hb dL_areEdges_257 rfl (lv_at hl 0 rfl) ?_
                      refine lv_aload_n hx hb dL_areEdges_258 rfl (lv_at hl 1 rfl) ?_
                      refine lv_iload hx hb dL_areEdges_259 (lv_at hl 7 rfl) ?_
                      obtain ⟨x49, hx49, hF⟩ := ob hF
                      refine x_iald (k := 1) X hL rfl hx49 dL_areEdges_261 ?_
                      refine lv_aload_n hx hb dL_areEdges_262 rfl (lv_at hl 1 rfl) ?_
                      refine lv_iload hx hb dL_areEdges_263 (lv_at hl 10 rfl) ?_
                      obtain ⟨x50, hx50, hF⟩ := ob hF
                      refine x_iald (k := 1) X hL rfl hx50 dL_areEdges_265 ?_
                      rw [← List.append_assoc] at hL
                      obtain ⟨x51, hx51, hF⟩ := ob hF
                      refine y_C (As := [.int x49, .int x50]) (rest := []) X hZ hA ([(qa, ra g n rq), (a1, ia g n fa), (a2, ia g 140 fs)] ++ rowsL g n rq rq25) hL (c_X9_distance (l := l) (g := gW g aC) (w := sq41.2.2.2) (k0 := 0) (v_from := x49) (v_to := x50) hx51 rfl) tw_5_38 ms_X9_distance im_X9_distance cn_9 ⟨Nat.le_of_ble_eq_true rfl, Nat.le_of_ble_eq_true rfl⟩ rfl rfl hl.1 (Nat.le_of_ble_eq_true rfl) dL_areEdges_266 ⟨Nat.le_of_ble_eq_true rfl, Nat.le_of_ble_eq_true rfl⟩ rfl (fun H locs hL => ?_)
                      have hL : LW g (va_A ([(a1, ia g n fa), (a2, ia g 140 fs)] ++ zcells zC (gW g aC) w) s.heap.size) ([(qa, ra g n rq), (a1, ia g n fa), (a2, ia g 140 fs)] ++ (rowsL g n rq rq25 ++ zcells zC (gW g aC) x51.2)) s.heap H locs := by rw [List.append_assoc] at hL; exact hL
                      refine lv_aload hx hb dL_areEdges_269 (lv_at hl 3 rfl) ?_
                      refine lv_iload hx hb dL_areEdges_271 (lv_at hl 7 rfl) ?_
                      obtain ⟨j52, hj52, hF⟩ := ob hF
                      refine x_aald (k := 0) X hL rfl hj52 dL_areEdges_273 ?_
                      refine lv_iload hx hb dL_areEdges_274 (lv_at hl 10 rfl) ?_
                      obtain ⟨x53, hx53, hF⟩ := ob hF
                      refine x_rald (W1 := [(qa, ra g n rq), (a1, ia g n fa), (a2, ia g 140 fs)]) (W2 := zcells zC (gW g aC) x51.2) X hL (rdQ_lt hj52) hx53 dL_areEdges_276 ?_
                      refine lv_sipush (v := (1000 : Int32)) hx hb dL_areEdges_277 (by decide) ?_
                      refine lv_icmp_lt (tgt := 288) hx hb dL_areEdges_280 (by decide) (fun c54 => ?_) (fun c54 => ?_)
                      · replace hF := ifp (c54) hF
                        refine lv_aload hx hb dL_areEdges_288 (lv_at hl 3 rfl) ?_
                        refine lv_iload hx hb dL_areEdges_290 (lv_at hl 7 rfl) ?_
                        obtain ⟨j55, hj55, hF⟩ := ob hF
                        refine x_aald (k := 0) X hL rfl hj55 dL_areEdges_292 ?_
                        refine lv_iload hx hb dL_areEdges_293 (lv_at hl 10 rfl) ?_
                        obtain ⟨x56, hx56, hF⟩ := ob hF
                        refine x_rald (W1 := [(qa, ra g n rq), (a1, ia g n fa), (a2, ia g 140 fs)]) (W2 := zcells zC (gW g aC) x51.2) X hL (rdQ_lt hj55) hx56 dL_areEdges_295 ?_
                        refine lv_icmp_eq (tgt := 301) hx hb dL_areEdges_296 (by decide) (fun c57 => ?_) (fun c57 => ?_)
                        · replace hF := ifp (c57) hF
                          exact J301 x51.2 _ _ _ hF hL (lv_sub hl [0, 1, 2, 3, 4, 5, 6, 7, 8, 9, 10] rfl)
                        · replace hF := ifn (c57) hF
                          refine lv_iconst (v := (0 : Int32)) hx hb dL_areEdges_299 (by decide) ?_
                          obtain rfl := se1 hF
                          subst hQ
                          obtain rfl := Rq41 _ rfl
                          exact x_tret (nb := [(a1, ia g n fa), (a2, ia g 140 fs)] ++ zcells zC (gW g aC) x51.2) X (hL.subl ((((List.sublist_append_right _ _).cons_cons _).cons_cons _).cons _)) hr rfl ⟨rfl, rfl⟩ (by first | exact Nat.le_refl _ | omega) (by first | exact Nat.le_refl _ | omega) dL_areEdges_300
                      · replace hF := ifn (c54) hF
                        refine lv_bipush (v := (-2 : Int32)) hx hb dL_areEdges_283 (by decide) ?_
                        refine lv_goto (tgt := 296) hx hb dL_areEdges_285 (by decide) ?_
                        refine lv_icmp_eq (tgt := 301) hx hb dL_areEdges_296 (by decide) (fun c58 => ?_) (fun c58 => ?_)
                        · replace hF := ifp (c58) hF
                          exact J301 x51.2 _ _ _ hF hL (lv_sub hl [0, 1, 2, 3, 4, 5, 6, 7, 8, 9, 10] rfl)
                        · replace hF := ifn (c58) hF
                          refine lv_iconst (v := (0 : Int32)) hx hb dL_areEdges_299 (by decide) ?_
                          obtain rfl := se1 hF
                          subst hQ
                          obtain rfl := Rq41 _ rfl
                          exact x_tret (nb := [(a1, ia g n fa), (a2, ia g 140 fs)] ++ zcells zC (gW g aC) x51.2) X (hL.subl ((((List.sublist_append_right _ _).cons_cons _).cons_cons _).cons _)) hr rfl ⟨rfl, rfl⟩ (by first | exact Nat.le_refl _ | omega) (by first | exact Nat.le_refl _ | omega) dL_areEdges_300
                exact Lq41 _ ((0 : Int32), sq39.2.2.1, ((nI n) - (1 : Int32)), sq39.2.2.2) hrq41 _ _ _ hL (lv_sub hl [3, 4, 5, 6, 7, 8, 9, 10, 2, 1, 0] rfl)
          exact Lq39 _ ((0 : Int32), (0 : Int32), (0 : Int32), x23.2) hrq39 _ _ _ hL (lv_sub hl [4, 5, 6, 7, 3, 2, 1, 0] rfl)
        have Lq25 : ∀ (kf : Nat) (sq25 : Int32 × (Nat → Nat → Int32)), lp (b_L_areEdges_144 n) kf sq25 = some rq25 → ∀ (H : Heap) (locs : List Loc) (ls : Array Slot), LW g (va_A ([(a1, ia g n fa), (a2, ia g 140 fs)] ++ zcells zC (gW g aC) w) s.heap.size) ([(qa, ra g n rq), (a1, ia g n fa), (a2, ia g 140 fs)] ++ (rowsL g n rq sq25.2 ++ zcells zC (gW g aC) x23.2)) s.heap H locs → lv_has ls 14 [(0, .ref (aC 0)), (1, .ref a1), (3, .int (nI n)), (5, .ref qa), (6, .int sq25.1)] → W p l e { frames := 7, cells := 200, slots := 20000, locals := 40 * 7 } s m args below meth c H locs 200 20000 (MQ below (LQc g ([(a1, ia g n fa), (a2, ia g 140 fs)] ++ zcells zC (gW g aC) w) s.heap.size (fun v nb => v = some (.int rz.1) ∧ nb = [(a1, ia g n fa), (a2, ia g 140 fs)] ++ zcells zC (gW g aC) rz.2)) args s 200 20000 (va_A ([(a1, ia g n fa), (a2, ia g 140 fs)] ++ zcells zC (gW g aC) w) s.heap.size)) (F0 m 144 ls []) := by
          intro kf
          induction kf with
          | zero => intro sq25 hQ; exact lp_0 hQ
          | succ kf ih =>
            intro sq25 hQ H locs ls hL hl
            obtain ⟨bb, hF, hQ⟩ := lp_s hQ
            unfold b_L_areEdges_144 at hF
            refine lv_iload hx hb dL_areEdges_144 (lv_at hl 4 rfl) ?_
            refine lv_iload_n hx hb dL_areEdges_146 rfl (lv_at hl 2 rfl) ?_
            refine lv_icmp_ge (tgt := 222) hx hb dL_areEdges_147 (by decide) (fun c26 => ?_) (fun c26 => ?_)
            · replace hF := ifp (c26) hF
              obtain rfl := se1 hF
              subst hQ
              exact Jq25 _ _ _ hL (lv_sub hl [0, 1, 2, 3] rfl)
            · replace hF := ifn (c26) hF
              refine lv_iconst (v := (0 : Int32)) hx hb dL_areEdges_150 (by decide) ?_
              refine lv_istore (lv' := [(7, .int (0 : Int32)), (0, .ref (aC 0)), (1, .ref a1), (3, .int (nI n)), (5, .ref qa), (6, .int sq25.1)]) hx hb dL_areEdges_151 hl (by decide) rfl (fun ls hl => ?_)
              obtain ⟨rq27, hrq27, hF⟩ := ob hF
              have Jq27 : ∀ (H : Heap) (locs : List Loc) (ls : Array Slot), LW g (va_A ([(a1, ia g n fa), (a2, ia g 140 fs)] ++ zcells zC (gW g aC) w) s.heap.size) ([(qa, ra g n rq), (a1, ia g n fa), (a2, ia g 140 fs)] ++ (rowsL g n rq rq27 ++ zcells zC (gW g aC) x23.2)) s.heap H locs → lv_has ls 14 [(0, .ref (aC 0)), (1, .ref a1), (3, .int (nI n)), (5, .ref qa), (6, .int sq25.1)] → W p l e { frames := 7, cells := 200, slots := 20000, locals := 40 * 7 } s m args below meth c H locs 200 20000 (MQ below (LQc g ([(a1, ia g n fa), (a2, ia g 140 fs)] ++ zcells zC (gW g aC) w) s.heap.size (fun v nb => v = some (.int rz.1) ∧ nb = [(a1, ia g n fa), (a2, ia g 140 fs)] ++ zcells zC (gW g aC) rz.2)) args s 200 20000 (va_A ([(a1, ia g n fa), (a2, ia g 140 fs)] ++ zcells zC (gW g aC) w) s.heap.size)) (F0 m 216 ls []) := by
                intro H locs ls hL hl
                refine lv_iinc (v := (sq25.1 + (1 : Int32))) (lv' := [(6, .int (sq25.1 + (1 : Int32))), (0, .ref (aC 0)), (1, .ref a1), (3, .int (nI n)), (5, .ref qa)]) hx hb dL_areEdges_216 hl (k := 4) rfl rfl (by decide) rfl (fun ls hl => ?_)
                refine lv_goto (tgt := 144) hx hb dL_areEdges_219 (by decide) ?_
                obtain rfl := se1 hF
                exact ih _ hQ _ _ _ hL (lv_sub hl [1, 2, 3, 4, 0] rfl)
              have Lq27 : ∀ (kf : Nat) (sq27 : Int32 × (Nat → Nat → Int32)), lp (b_L_areEdges_153 n sq25) kf sq27 = some rq27 → ∀ (H : Heap) (locs : List Loc) (ls : Array Slot), LW g (va_A ([(a1, ia g n fa), (a2, ia g 140 fs)] ++ zcells zC (gW g aC) w) s.heap.size) ([(qa, ra g n rq), (a1, ia g n fa), (a2, ia g 140 fs)] ++ (rowsL g n rq sq27.2 ++ zcells zC (gW g aC) x23.2)) s.heap H locs → lv_has ls 14 [(0, .ref (aC 0)), (1, .ref a1), (3, .int (nI n)), (5, .ref qa), (6, .int sq25.1), (7, .int sq27.1)] → W p l e { frames := 7, cells := 200, slots := 20000, locals := 40 * 7 } s m args below meth c H locs 200 20000 (MQ below (LQc g ([(a1, ia g n fa), (a2, ia g 140 fs)] ++ zcells zC (gW g aC) w) s.heap.size (fun v nb => v = some (.int rz.1) ∧ nb = [(a1, ia g n fa), (a2, ia g 140 fs)] ++ zcells zC (gW g aC) rz.2)) args s 200 20000 (va_A ([(a1, ia g n fa), (a2, ia g 140 fs)] ++ zcells zC (gW g aC) w) s.heap.size)) (F0 m 153 ls []) := by
                intro kf
                induction kf with
                | zero => intro sq27 hQ; exact lp_0 hQ
                | succ kf ih =>
                  intro sq27 hQ H locs ls hL hl
                  obtain ⟨bb, hF, hQ⟩ := lp_s hQ
                  unfold b_L_areEdges_153 at hF
                  refine lv_iload hx hb dL_areEdges_153 (lv_at hl 5 rfl) ?_
                  refine lv_iload_n hx hb dL_areEdges_155 rfl (lv_at hl 2 rfl) ?_
                  refine lv_icmp_ge (tgt := 216) hx hb dL_areEdges_156 (by decide) (fun c28 => ?_) (fun c28 => ?_)
                  · replace hF := ifp (c28) hF
                    obtain rfl := se1 hF
                    subst hQ
                    exact Jq27 _ _ _ hL (lv_sub hl [0, 1, 2, 3, 4] rfl)
                  · replace hF := ifn (c28) hF
                    refine lv_iconst (v := (0 : Int32)) hx hb dL_areEdges_159 (by decide) ?_
                    refine lv_istore (lv' := [(8, .int (0 : Int32)), (0, .ref (aC 0)), (1, .ref a1), (3, .int (nI n)), (5, .ref qa), (6, .int sq25.1), (7, .int sq27.1)]) hx hb dL_areEdges_160 hl (by decide) rfl (fun ls hl => ?_)
                    obtain ⟨rq29, hrq29, hF⟩ := ob hF
                    have Jq29 : ∀ (H : Heap) (locs : List Loc) (ls : Array Slot), LW g (va_A ([(a1, ia g n fa), (a2, ia g 140 fs)] ++ zcells zC (gW g aC) w) s.heap.size) ([(qa, ra g n rq), (a1, ia g n fa), (a2, ia g 140 fs)] ++ (rowsL g n rq rq29 ++ zcells zC (gW g aC) x23.2)) s.heap H locs → lv_has ls 14 [(0, .ref (aC 0)), (1, .ref a1), (3, .int (nI n)), (5, .ref qa), (6, .int sq25.1), (7, .int sq27.1)] → W p l e { frames := 7, cells := 200, slots := 20000, locals := 40 * 7 } s m args below meth c H locs 200 20000 (MQ below (LQc g ([(a1, ia g n fa), (a2, ia g 140 fs)] ++ zcells zC (gW g aC) w) s.heap.size (fun v nb => v = some (.int rz.1) ∧ nb = [(a1, ia g n fa), (a2, ia g 140 fs)] ++ zcells zC (gW g aC) rz.2)) args s 200 20000 (va_A ([(a1, ia g n fa), (a2, ia g 140 fs)] ++ zcells zC (gW g aC) w) s.heap.size)) (F0 m 210 ls []) := by
                      intro H locs ls hL hl
                      refine lv_iinc (v := (sq27.1 + (1 : Int32))) (lv' := [(7, .int (sq27.1 + (1 : Int32))), (0, .ref (aC 0)), (1, .ref a1), (3, .int (nI n)), (5, .ref qa), (6, .int sq25.1)]) hx hb dL_areEdges_210 hl (k := 5) rfl rfl (by decide) rfl (fun ls hl => ?_)
                      refine lv_goto (tgt := 153) hx hb dL_areEdges_213 (by decide) ?_
                      obtain rfl := se1 hF
                      exact ih _ hQ _ _ _ hL (lv_sub hl [1, 2, 3, 4, 5, 0] rfl)
                    have Lq29 : ∀ (kf : Nat) (sq29 : Int32 × (Nat → Nat → Int32)), lp (b_L_areEdges_162 n sq27 sq25) kf sq29 = some rq29 → ∀ (H : Heap) (locs : List Loc) (ls : Array Slot), LW g (va_A ([(a1, ia g n fa), (a2, ia g 140 fs)] ++ zcells zC (gW g aC) w) s.heap.size) ([(qa, ra g n rq), (a1, ia g n fa), (a2, ia g 140 fs)] ++ (rowsL g n rq sq29.2 ++ zcells zC (gW g aC) x23.2)) s.heap H locs → lv_has ls 14 [(0, .ref (aC 0)), (1, .ref a1), (3, .int (nI n)), (5, .ref qa), (6, .int sq25.1), (7, .int sq27.1), (8, .int sq29.1)] → W p l e { frames := 7, cells := 200, slots := 20000, locals := 40 * 7 } s m args below meth c H locs 200 20000 (MQ below (LQc g ([(a1, ia g n fa), (a2, ia g 140 fs)] ++ zcells zC (gW g aC) w) s.heap.size (fun v nb => v = some (.int rz.1) ∧ nb = [(a1, ia g n fa), (a2, ia g 140 fs)] ++ zcells zC (gW g aC) rz.2)) args s 200 20000 (va_A ([(a1, ia g n fa), (a2, ia g 140 fs)] ++ zcells zC (gW g aC) w) s.heap.size)) (F0 m 162 ls []) := by
                      intro kf
                      induction kf with
                      | zero => intro sq29 hQ; exact lp_0 hQ
                      | succ kf ih =>
                        intro sq29 hQ H locs ls hL hl
                        obtain ⟨bb, hF, hQ⟩ := lp_s hQ
                        unfold b_L_areEdges_162 at hF
                        refine lv_iload hx hb dL_areEdges_162 (lv_at hl 6 rfl) ?_
                        refine lv_iload_n hx hb dL_areEdges_164 rfl (lv_at hl 2 rfl) ?_
                        refine lv_icmp_ge (tgt := 210) hx hb dL_areEdges_165 (by decide) (fun c30 => ?_) (fun c30 => ?_)
                        · replace hF := ifp (c30) hF
                          obtain rfl := se1 hF
                          subst hQ
                          exact Jq29 _ _ _ hL (lv_sub hl [0, 1, 2, 3, 4, 5] rfl)
                        · replace hF := ifn (c30) hF
                          refine lv_aload hx hb dL_areEdges_168 (lv_at hl 3 rfl) ?_
                          refine lv_iload hx hb dL_areEdges_170 (lv_at hl 5 rfl) ?_
                          obtain ⟨j31, hj31, hF⟩ := ob hF
                          refine x_aald (k := 0) X hL rfl hj31 dL_areEdges_172 ?_
                          refine lv_iload hx hb dL_areEdges_173 (lv_at hl 6 rfl) ?_
                          refine lv_aload hx hb dL_areEdges_175 (lv_at hl 3 rfl) ?_
                          refine lv_iload hx hb dL_areEdges_177 (lv_at hl 5 rfl) ?_
                          obtain ⟨j32, hj32, hF⟩ := ob hF
                          refine x_aald (k := 0) X hL rfl hj32 dL_areEdges_179 ?_
                          refine lv_iload hx hb dL_areEdges_180 (lv_at hl 6 rfl) ?_
                          obtain ⟨x33, hx33, hF⟩ := ob hF
                          refine x_rald (W1 := [(qa, ra g n rq), (a1, ia g n fa), (a2, ia g 140 fs)]) (W2 := zcells zC (gW g aC) x23.2) X hL (rdQ_lt hj32) hx33 dL_areEdges_182 ?_
                          refine lv_aload hx hb dL_areEdges_183 (lv_at hl 3 rfl) ?_
                          refine lv_iload hx hb dL_areEdges_185 (lv_at hl 5 rfl) ?_
                          obtain ⟨j34, hj34, hF⟩ := ob hF
                          refine x_aald (k := 0) X hL rfl hj34 dL_areEdges_187 ?_
                          refine lv_iload hx hb dL_areEdges_188 (lv_at hl 4 rfl) ?_
                          obtain ⟨x35, hx35, hF⟩ := ob hF
                          refine x_rald (W1 := [(qa, ra g n rq), (a1, ia g n fa), (a2, ia g 140 fs)]) (W2 := zcells zC (gW g aC) x23.2) X hL (rdQ_lt hj34) hx35 dL_areEdges_190 ?_
                          refine lv_aload hx hb dL_areEdges_191 (lv_at hl 3 rfl) ?_
                          refine lv_iload hx hb dL_areEdges_193 (lv_at hl 4 rfl) ?_
                          obtain ⟨j36, hj36, hF⟩ := ob hF
                          refine x_aald (k := 0) X hL rfl hj36 dL_areEdges_195 ?_
                          refine lv_iload hx hb dL_areEdges_196 (lv_at hl 6 rfl) ?_
                          obtain ⟨x37, hx37, hF⟩ := ob hF
                          refine x_rald (W1 := [(qa, ra g n rq), (a1, ia g n fa), (a2, ia g 140 fs)]) (W2 := zcells zC (gW g aC) x23.2) X hL (rdQ_lt hj36) hx37 dL_areEdges_198 ?_
                          refine lv_iadd hx hb dL_areEdges_199 ?_
                          refine va_mmin hx hb (X.2.2.1.trans hl.1.symm) hown (ht _ tw_5_37) (ht _ tw_1_86) (ht _ tw_1_5) (ht _ tw_1_87) (Nat.le_of_ble_eq_true rfl) (Nat.le_of_ble_eq_true rfl) (Nat.le_of_ble_eq_true rfl) (Nat.le_of_ble_eq_true rfl) dL_areEdges_200 ?_
                          obtain ⟨f38, hf38, hF⟩ := ob hF
                          refine x_rast (W1 := [(qa, ra g n rq), (a1, ia g n fa), (a2, ia g 140 fs)]) (W2 := zcells zC (gW g aC) x23.2) X hL (rdQ_lt hj31) hf38 dL_areEdges_203 (fun H locs hL => ?_)
                          have hL : LW g (va_A ([(a1, ia g n fa), (a2, ia g 140 fs)] ++ zcells zC (gW g aC) w) s.heap.size) ([(qa, ra g n rq), (a1, ia g n fa), (a2, ia g 140 fs)] ++ (rowsL g n rq (updR sq29.2 j31 f38) ++ zcells zC (gW g aC) x23.2)) s.heap H locs := hL
                          refine lv_iinc (v := (sq29.1 + (1 : Int32))) (lv' := [(8, .int (sq29.1 + (1 : Int32))), (0, .ref (aC 0)), (1, .ref a1), (3, .int (nI n)), (5, .ref qa), (6, .int sq25.1), (7, .int sq27.1)]) hx hb dL_areEdges_204 hl (k := 6) rfl rfl (by decide) rfl (fun ls hl => ?_)
                          refine lv_goto (tgt := 162) hx hb dL_areEdges_207 (by decide) ?_
                          obtain rfl := se1 hF
                          exact ih _ hQ _ _ _ hL (lv_sub hl [1, 2, 3, 4, 5, 6, 0] rfl)
                    exact Lq29 _ ((0 : Int32), sq27.2) hrq29 _ _ _ hL (lv_sub hl [1, 2, 3, 4, 5, 6, 0] rfl)
              exact Lq27 _ ((0 : Int32), sq25.2) hrq27 _ _ _ hL (lv_sub hl [1, 2, 3, 4, 5, 0] rfl)
        exact Lq25 _ ((0 : Int32), xq1.2.1) hrq25 _ _ _ hL (lv_sub hl [1, 2, 3, 5, 0] rfl)
      · replace hF := ifn (c24) hF
        refine lv_iconst (v := (0 : Int32)) hx hb dL_areEdges_139 (by decide) ?_
        obtain rfl := se1 hF
        exact x_tret (nb := [(a1, ia g n fa), (a2, ia g 140 fs)] ++ zcells zC (gW g aC) x23.2) X (hL.subl ((((List.sublist_append_right _ _).cons_cons _).cons_cons _).cons _)) hr rfl ⟨rfl, rfl⟩ (by first | exact Nat.le_refl _ | omega) (by first | exact Nat.le_refl _ | omega) dL_areEdges_140
    have Rq1 : ∀ v, rq1 = .inr v → rz = v := by
      intro v hx2
      subst hx2
      exact se1 hF
    have Lq1 : ∀ (kf : Nat) (sq1 : Int32 × Int32 × (Nat → Nat → Int32) × Wd), lp (b_L_areEdges_17 n fa fs) kf sq1 = some rq1 → ∀ (H : Heap) (locs : List Loc) (ls : Array Slot), LW g (va_A ([(a1, ia g n fa), (a2, ia g 140 fs)] ++ zcells zC (gW g aC) w) s.heap.size) ([(qa, ra g n rq), (a1, ia g n fa), (a2, ia g 140 fs)] ++ (rowsL g n rq sq1.2.2.1 ++ zcells zC (gW g aC) sq1.2.2.2)) s.heap H locs → lv_has ls 14 [(0, .ref (aC 0)), (1, .ref a1), (2, .ref a2), (3, .int (nI n)), (4, .int sq1.1), (5, .ref qa), (6, .int sq1.2.1)] → W p l e { frames := 7, cells := 200, slots := 20000, locals := 40 * 7 } s m args below meth c H locs 200 20000 (MQ below (LQc g ([(a1, ia g n fa), (a2, ia g 140 fs)] ++ zcells zC (gW g aC) w) s.heap.size (fun v nb => v = some (.int rz.1) ∧ nb = [(a1, ia g n fa), (a2, ia g 140 fs)] ++ zcells zC (gW g aC) rz.2)) args s 200 20000 (va_A ([(a1, ia g n fa), (a2, ia g 140 fs)] ++ zcells zC (gW g aC) w) s.heap.size)) (F0 m 17 ls []) := by
      intro kf
      induction kf with
      | zero => intro sq1 hQ; exact lp_0 hQ
      | succ kf ih =>
        intro sq1 hQ H locs ls hL hl
        obtain ⟨bb, hF, hQ⟩ := lp_s hQ
        unfold b_L_areEdges_17 at hF
        refine lv_iload hx hb dL_areEdges_17 (lv_at hl 6 rfl) ?_
        refine lv_iload_n hx hb dL_areEdges_19 rfl (lv_at hl 3 rfl) ?_
        refine lv_icmp_ge (tgt := 130) hx hb dL_areEdges_20 (by decide) (fun c2 => ?_) (fun c2 => ?_)
        · replace hF := ifp (c2) hF
          obtain rfl := se1 hF
          subst hQ
          exact Jq1 _ rfl _ _ _ hL (lv_sub hl [0, 1, 3, 4, 5] rfl)
        · replace hF := ifn (c2) hF
          refine lv_iconst (v := (0 : Int32)) hx hb dL_areEdges_23 (by decide) ?_
          refine lv_istore (lv' := [(7, .int (0 : Int32)), (0, .ref (aC 0)), (1, .ref a1), (2, .ref a2), (3, .int (nI n)), (4, .int sq1.1), (5, .ref qa), (6, .int sq1.2.1)]) hx hb dL_areEdges_24 hl (by decide) rfl (fun ls hl => ?_)
          obtain ⟨rq3, hrq3, hF⟩ := ob hF
          have Jq3 : ∀ xq3, rq3 = .inl xq3 → ∀ (H : Heap) (locs : List Loc) (ls : Array Slot), LW g (va_A ([(a1, ia g n fa), (a2, ia g 140 fs)] ++ zcells zC (gW g aC) w) s.heap.size) ([(qa, ra g n rq), (a1, ia g n fa), (a2, ia g 140 fs)] ++ (rowsL g n rq xq3.2.1 ++ zcells zC (gW g aC) xq3.2.2)) s.heap H locs → lv_has ls 14 [(0, .ref (aC 0)), (1, .ref a1), (2, .ref a2), (3, .int (nI n)), (4, .int xq3.1), (5, .ref qa), (6, .int sq1.2.1)] → W p l e { frames := 7, cells := 200, slots := 20000, locals := 40 * 7 } s m args below meth c H locs 200 20000 (MQ below (LQc g ([(a1, ia g n fa), (a2, ia g 140 fs)] ++ zcells zC (gW g aC) w) s.heap.size (fun v nb => v = some (.int rz.1) ∧ nb = [(a1, ia g n fa), (a2, ia g 140 fs)] ++ zcells zC (gW g aC) rz.2)) args s 200 20000 (va_A ([(a1, ia g n fa), (a2, ia g 140 fs)] ++ zcells zC (gW g aC) w) s.heap.size)) (F0 m 124 ls []) := by
            intro xq3 hx2 H locs ls hL hl
            subst hx2
            replace hF : (some (.inl (xq3.1, (sq1.2.1 + (1 : Int32)), xq3.2.1, xq3.2.2))) = some bb := hF
            refine lv_iinc (v := (sq1.2.1 + (1 : Int32))) (lv' := [(6, .int (sq1.2.1 + (1 : Int32))), (0, .ref (aC 0)), (1, .ref a1), (2, .ref a2), (3, .int (nI n)), (4, .int xq3.1), (5, .ref qa)]) hx hb dL_areEdges_124 hl (k := 6) rfl rfl (by decide) rfl (fun ls hl => ?_)
            refine lv_goto (tgt := 17) hx hb dL_areEdges_127 (by decide) ?_
            obtain rfl := se1 hF
            exact ih _ hQ _ _ _ hL (lv_sub hl [1, 2, 3, 4, 5, 6, 0] rfl)
          have Rq3 : ∀ v, rq3 = .inr v → rz = v := by
            intro v hx2
            subst hx2
            replace hF : some (Sum.inr (Sum.inr v)) = some bb := hF
            obtain rfl := se1 hF
            subst hQ
            exact Rq1 _ rfl
          have Lq3 : ∀ (kf : Nat) (sq3 : Int32 × Int32 × (Nat → Nat → Int32) × Wd), lp (b_L_areEdges_26 n sq1 fa fs) kf sq3 = some rq3 → ∀ (H : Heap) (locs : List Loc) (ls : Array Slot), LW g (va_A ([(a1, ia g n fa), (a2, ia g 140 fs)] ++ zcells zC (gW g aC) w) s.heap.size) ([(qa, ra g n rq), (a1, ia g n fa), (a2, ia g 140 fs)] ++ (rowsL g n rq sq3.2.2.1 ++ zcells zC (gW g aC) sq3.2.2.2)) s.heap H locs → lv_has ls 14 [(0, .ref (aC 0)), (1, .ref a1), (2, .ref a2), (3, .int (nI n)), (4, .int sq3.1), (5, .ref qa), (6, .int sq1.2.1), (7, .int sq3.2.1)] → W p l e { frames := 7, cells := 200, slots := 20000, locals := 40 * 7 } s m args below meth c H locs 200 20000 (MQ below (LQc g ([(a1, ia g n fa), (a2, ia g 140 fs)] ++ zcells zC (gW g aC) w) s.heap.size (fun v nb => v = some (.int rz.1) ∧ nb = [(a1, ia g n fa), (a2, ia g 140 fs)] ++ zcells zC (gW g aC) rz.2)) args s 200 20000 (va_A ([(a1, ia g n fa), (a2, ia g 140 fs)] ++ zcells zC (gW g aC) w) s.heap.size)) (F0 m 26 ls []) := by
            intro kf
            induction kf with
            | zero => intro sq3 hQ; exact lp_0 hQ
            | succ kf ih =>
              intro sq3 hQ H locs ls hL hl
              obtain ⟨bb, hF, hQ⟩ := lp_s hQ
              unfold b_L_areEdges_26 at hF
              have J118 : ∀ (v4_118 : Int32) (ff_118 : Nat → Nat → Int32) (w_118 : Wd) (H : Heap) (locs : List Loc) (ls : Array Slot), k_L_areEdges_118 sq3 v4_118 ff_118 w_118 = some bb → LW g (va_A ([(a1, ia g n fa), (a2, ia g 140 fs)] ++ zcells zC (gW g aC) w) s.heap.size) ([(qa, ra g n rq), (a1, ia g n fa), (a2, ia g 140 fs)] ++ (rowsL g n rq ff_118 ++ zcells zC (gW g aC) w_118)) s.heap H locs → lv_has ls 14 [(0, .ref (aC 0)), (1, .ref a1), (2, .ref a2), (3, .int (nI n)), (4, .int v4_118), (5, .ref qa), (6, .int sq1.2.1), (7, .int sq3.2.1)] → W p l e { frames := 7, cells := 200, slots := 20000, locals := 40 * 7 } s m args below meth c H locs 200 20000 (MQ below (LQc g ([(a1, ia g n fa), (a2, ia g 140 fs)] ++ zcells zC (gW g aC) w) s.heap.size (fun v nb => v = some (.int rz.1) ∧ nb = [(a1, ia g n fa), (a2, ia g 140 fs)] ++ zcells zC (gW g aC) rz.2)) args s 200 20000 (va_A ([(a1, ia g n fa), (a2, ia g 140 fs)] ++ zcells zC (gW g aC) w) s.heap.size)) (F0 m 118 ls []) := by
                intro v4_118 ff_118 w_118 H locs ls hF hL hl
                unfold k_L_areEdges_118 at hF
                refine lv_iinc (v := (sq3.2.1 + (1 : Int32))) (lv' := [(7, .int (sq3.2.1 + (1 : Int32))), (0, .ref (aC 0)), (1, .ref a1), (2, .ref a2), (3, .int (nI n)), (4, .int v4_118), (5, .ref qa), (6, .int sq1.2.1)]) hx hb dL_areEdges_118 hl (k := 7) rfl rfl (by decide) rfl (fun ls hl => ?_)
                refine lv_goto (tgt := 26) hx hb dL_areEdges_121 (by decide) ?_
                obtain rfl := se1 hF
                exact ih _ hQ _ _ _ hL (lv_sub hl [1, 2, 3, 4, 5, 6, 7, 0] rfl)
              refine lv_iload hx hb dL_areEdges_26 (lv_at hl 7 rfl) ?_
              refine lv_iload_n hx hb dL_areEdges_28 rfl (lv_at hl 3 rfl) ?_
              refine lv_icmp_ge (tgt := 124) hx hb dL_areEdges_29 (by decide) (fun c4 => ?_) (fun c4 => ?_)
              · replace hF := ifp (c4) hF
                obtain rfl := se1 hF
                subst hQ
                exact Jq3 _ rfl _ _ _ hL (lv_sub hl [0, 1, 2, 3, 4, 5, 6] rfl)
              · replace hF := ifn (c4) hF
                refine lv_iload hx hb dL_areEdges_32 (lv_at hl 6 rfl) ?_
                refine lv_iload hx hb dL_areEdges_34 (lv_at hl 7 rfl) ?_
                refine lv_icmp_ne (tgt := 57) hx hb dL_areEdges_36 (by decide) (fun c5 => ?_) (fun c5 => ?_)
                · replace hF := ifp (c5) hF
                  refine lv_aload hx hb dL_areEdges_57 (lv_at hl 5 rfl) ?_
                  refine lv_iload hx hb dL_areEdges_59 (lv_at hl 6 rfl) ?_
                  obtain ⟨j6, hj6, hF⟩ := ob hF
                  refine x_aald (k := 0) X hL rfl hj6 dL_areEdges_61 ?_
                  refine lv_iload hx hb dL_areEdges_62 (lv_at hl 7 rfl) ?_
                  refine lv_sipush (v := (1000 : Int32)) hx hb dL_areEdges_64 (by decide) ?_
                  obtain ⟨f7, hf7, hF⟩ := ob hF
                  refine x_rast (W1 := [(qa, ra g n rq), (a1, ia g n fa), (a2, ia g 140 fs)]) (W2 := zcells zC (gW g aC) sq3.2.2.2) X hL (rdQ_lt hj6) hf7 dL_areEdges_67 (fun H locs hL => ?_)
                  have hL : LW g (va_A ([(a1, ia g n fa), (a2, ia g 140 fs)] ++ zcells zC (gW g aC) w) s.heap.size) ([(qa, ra g n rq), (a1, ia g n fa), (a2, ia g 140 fs)] ++ (rowsL g n rq (updR sq3.2.2.1 j6 f7) ++ zcells zC (gW g aC) sq3.2.2.2)) s.heap H locs := hL
                  refine lv_aload_n hx hb dL_areEdges_68 rfl (lv_at hl 0 rfl) ?_
                  refine lv_aload_n hx hb dL_areEdges_69 rfl (lv_at hl 1 rfl) ?_
                  refine lv_iload hx hb dL_areEdges_70 (lv_at hl 6 rfl) ?_
                  obtain ⟨x8, hx8, hF⟩ := ob hF
                  refine x_iald (k := 1) X hL rfl hx8 dL_areEdges_72 ?_
                  refine lv_aload_n hx hb dL_areEdges_73 rfl (lv_at hl 1 rfl) ?_
                  refine lv_iload hx hb dL_areEdges_74 (lv_at hl 7 rfl) ?_
                  obtain ⟨x9, hx9, hF⟩ := ob hF
                  refine x_iald (k := 1) X hL rfl hx9 dL_areEdges_76 ?_
                  rw [← List.append_assoc] at hL
                  obtain ⟨x10, hx10, hF⟩ := ob hF
                  refine y_C (As := [.int x8, .int x9]) (rest := []) X hZ hA ([(qa, ra g n rq), (a1, ia g n fa), (a2, ia g 140 fs)] ++ rowsL g n rq (updR sq3.2.2.1 j6 f7)) hL (c_X9_hasEdge (l := l) (g := gW g aC) (w := sq3.2.2.2) (k0 := 0) (v_from := x8) (v_to := x9) hx10 rfl) tw_5_24 ms_X9_hasEdge im_X9_hasEdge cn_9 ⟨Nat.le_of_ble_eq_true rfl, Nat.le_of_ble_eq_true rfl⟩ rfl rfl hl.1 (Nat.le_of_ble_eq_true rfl) dL_areEdges_77 ⟨Nat.le_of_ble_eq_true rfl, Nat.le_of_ble_eq_true rfl⟩ rfl (fun H locs hL => ?_)
                  have hL : LW g (va_A ([(a1, ia g n fa), (a2, ia g 140 fs)] ++ zcells zC (gW g aC) w) s.heap.size) ([(qa, ra g n rq), (a1, ia g n fa), (a2, ia g 140 fs)] ++ (rowsL g n rq (updR sq3.2.2.1 j6 f7) ++ zcells zC (gW g aC) x10.2)) s.heap H locs := by rw [List.append_assoc] at hL; exact hL
                  refine lv_if_ne (tgt := 86) hx hb dL_areEdges_80 (by decide) (fun c11 => ?_) (fun c11 => ?_)
                  · replace hF := ifp (c11) hF
                    refine lv_iinc (v := (sq3.1 + (1 : Int32))) (lv' := [(4, .int (sq3.1 + (1 : Int32))), (0, .ref (aC 0)), (1, .ref a1), (2, .ref a2), (3, .int (nI n)), (5, .ref qa), (6, .int sq1.2.1), (7, .int sq3.2.1)]) hx hb dL_areEdges_86 hl (k := 4) rfl rfl (by decide) rfl (fun ls hl => ?_)
                    refine lv_aload hx hb dL_areEdges_89 (lv_at hl 5 rfl) ?_
                    refine lv_iload hx hb dL_areEdges_91 (lv_at hl 6 rfl) ?_
                    obtain ⟨j12, hj12, hF⟩ := ob hF
                    refine x_aald (k := 0) X hL rfl hj12 dL_areEdges_93 ?_
                    refine lv_iload hx hb dL_areEdges_94 (lv_at hl 7 rfl) ?_
                    refine lv_iconst (v := (1 : Int32)) hx hb dL_areEdges_96 (by decide) ?_
                    obtain ⟨f13, hf13, hF⟩ := ob hF
                    refine x_rast (W1 := [(qa, ra g n rq), (a1, ia g n fa), (a2, ia g 140 fs)]) (W2 := zcells zC (gW g aC) x10.2) X hL (rdQ_lt hj12) hf13 dL_areEdges_97 (fun H locs hL => ?_)
                    have hL : LW g (va_A ([(a1, ia g n fa), (a2, ia g 140 fs)] ++ zcells zC (gW g aC) w) s.heap.size) ([(qa, ra g n rq), (a1, ia g n fa), (a2, ia g 140 fs)] ++ (rowsL g n rq (updR (updR sq3.2.2.1 j6 f7) j12 f13) ++ zcells zC (gW g aC) x10.2)) s.heap H locs := hL
                    refine lv_aload_n hx hb dL_areEdges_98 rfl (lv_at hl 3 rfl) ?_
                    refine lv_aload_n hx hb dL_areEdges_99 rfl (lv_at hl 2 rfl) ?_
                    refine lv_iload hx hb dL_areEdges_100 (lv_at hl 6 rfl) ?_
                    obtain ⟨x14, hx14, hF⟩ := ob hF
                    refine x_iald (k := 1) X hL rfl hx14 dL_areEdges_102 ?_
                    obtain ⟨x15, hx15, hF⟩ := ob hF
                    refine x_iald (k := 2) X hL rfl hx15 dL_areEdges_103 ?_
                    refine lv_aload_n hx hb dL_areEdges_104 rfl (lv_at hl 3 rfl) ?_
                    refine lv_aload_n hx hb dL_areEdges_105 rfl (lv_at hl 2 rfl) ?_
                    refine lv_iload hx hb dL_areEdges_106 (lv_at hl 7 rfl) ?_
                    obtain ⟨x16, hx16, hF⟩ := ob hF
                    refine x_iald (k := 1) X hL rfl hx16 dL_areEdges_108 ?_
                    obtain ⟨x17, hx17, hF⟩ := ob hF
                    refine x_iald (k := 2) X hL rfl hx17 dL_areEdges_109 ?_
                    refine lv_iconst (v := (-1 : Int32)) hx hb dL_areEdges_110 (by decide) ?_
                    refine lv_ixor hx hb dL_areEdges_111 ?_
                    refine lv_iand hx hb dL_areEdges_112 ?_
                    refine lv_if_eq (tgt := 118) hx hb dL_areEdges_113 (by decide) (fun c18 => ?_) (fun c18 => ?_)
                    · replace hF := ifp (c18) hF
                      exact J118 (sq3.1 + (1 : Int32)) (updR (updR sq3.2.2.1 j6 f7) j12 f13) x10.2 _ _ _ hF hL (lv_sub hl [1, 2, 3, 4, 0, 5, 6, 7] rfl)
                    · replace hF := ifn (c18) hF
                      refine lv_iconst (v := (0 : Int32)) hx hb dL_areEdges_116 (by decide) ?_
                      obtain rfl := se1 hF
                      subst hQ
                      obtain rfl := Rq3 _ rfl
                      exact x_tret (nb := [(a1, ia g n fa), (a2, ia g 140 fs)] ++ zcells zC (gW g aC) x10.2) X (hL.subl ((((List.sublist_append_right _ _).cons_cons _).cons_cons _).cons _)) hr rfl ⟨rfl, rfl⟩ (by first | exact Nat.le_refl _ | omega) (by first | exact Nat.le_refl _ | omega) dL_areEdges_117
                  · replace hF := ifn (fun q => q c11) hF
                    refine lv_goto (tgt := 118) hx hb dL_areEdges_83 (by decide) ?_
                    exact J118 sq3.1 (updR sq3.2.2.1 j6 f7) x10.2 _ _ _ hF hL (lv_sub hl [0, 1, 2, 3, 4, 5, 6, 7] rfl)
                · replace hF := ifn (fun q => q c5) hF
                  refine lv_aload_n hx hb dL_areEdges_39 rfl (lv_at hl 0 rfl) ?_
                  refine lv_aload_n hx hb dL_areEdges_40 rfl (lv_at hl 1 rfl) ?_
                  refine lv_iload hx hb dL_areEdges_41 (lv_at hl 6 rfl) ?_
                  obtain ⟨x19, hx19, hF⟩ := ob hF
                  refine x_iald (k := 1) X hL rfl hx19 dL_areEdges_43 ?_
                  refine lv_aload_n hx hb dL_areEdges_44 rfl (lv_at hl 1 rfl) ?_
                  refine lv_iload hx hb dL_areEdges_45 (lv_at hl 7 rfl) ?_
                  obtain ⟨x20, hx20, hF⟩ := ob hF
                  refine x_iald (k := 1) X hL rfl hx20 dL_areEdges_47 ?_
                  rw [← List.append_assoc] at hL
                  obtain ⟨x21, hx21, hF⟩ := ob hF
                  refine y_C (As := [.int x19, .int x20]) (rest := []) X hZ hA ([(qa, ra g n rq), (a1, ia g n fa), (a2, ia g 140 fs)] ++ rowsL g n rq sq3.2.2.1) hL (c_X9_hasEdge (l := l) (g := gW g aC) (w := sq3.2.2.2) (k0 := 0) (v_from := x19) (v_to := x20) hx21 rfl) tw_5_24 ms_X9_hasEdge im_X9_hasEdge cn_9 ⟨Nat.le_of_ble_eq_true rfl, Nat.le_of_ble_eq_true rfl⟩ rfl rfl hl.1 (Nat.le_of_ble_eq_true rfl) dL_areEdges_48 ⟨Nat.le_of_ble_eq_true rfl, Nat.le_of_ble_eq_true rfl⟩ rfl (fun H locs hL => ?_)
                  have hL : LW g (va_A ([(a1, ia g n fa), (a2, ia g 140 fs)] ++ zcells zC (gW g aC) w) s.heap.size) ([(qa, ra g n rq), (a1, ia g n fa), (a2, ia g 140 fs)] ++ (rowsL g n rq sq3.2.2.1 ++ zcells zC (gW g aC) x21.2)) s.heap H locs := by rw [List.append_assoc] at hL; exact hL
                  refine lv_iconst (v := (-1 : Int32)) hx hb dL_areEdges_51 (by decide) ?_
                  refine lv_icmp_eq (tgt := 118) hx hb dL_areEdges_52 (by decide) (fun c22 => ?_) (fun c22 => ?_)
                  · replace hF := ifp (c22) hF
                    exact J118 sq3.1 sq3.2.2.1 x21.2 _ _ _ hF hL (lv_sub hl [0, 1, 2, 3, 4, 5, 6, 7] rfl)
                  · replace hF := ifn (c22) hF
                    refine lv_iconst (v := (0 : Int32)) hx hb dL_areEdges_55 (by decide) ?_
                    obtain rfl := se1 hF
                    subst hQ
                    obtain rfl := Rq3 _ rfl
                    exact x_tret (nb := [(a1, ia g n fa), (a2, ia g 140 fs)] ++ zcells zC (gW g aC) x21.2) X (hL.subl ((((List.sublist_append_right _ _).cons_cons _).cons_cons _).cons _)) hr rfl ⟨rfl, rfl⟩ (by first | exact Nat.le_refl _ | omega) (by first | exact Nat.le_refl _ | omega) dL_areEdges_56
          exact Lq3 _ (sq1.1, (0 : Int32), sq1.2.2.1, sq1.2.2.2) hrq3 _ _ _ hL (lv_sub hl [1, 2, 3, 4, 5, 6, 7, 0] rfl)
    exact Lq1 _ ((0 : Int32), (0 : Int32), (fun _ _ => 0), w) hrq1 _ _ _ hL (lv_sub hl [4, 5, 6, 3, 2, 1, 0] rfl)
  exact key _ _ hL
