/-! decode rows -/
theorem dX8_statement_34 : decode cX8_statement 34 = .ok (.if_icmp .eq 35, 3) := by decide +kernel
theorem dX8_statement_37 : decode cX8_statement 37 = .ok (.iload_n 2, 1) := by decide +kernel
theorem dX8_statement_38 : decode cX8_statement 38 = .ok (.bipush 101, 2) := by decide +kernel
theorem dX8_statement_40 : decode cX8_statement 40 = .ok (.if_icmp .eq 29, 3) := by decide +kernel
theorem dX8_statement_43 : decode cX8_statement 43 = .ok (.iload_n 2, 1) := by decide +kernel
theorem dX8_statement_44 : decode cX8_statement 44 = .ok (.bipush 100, 2) := by decide +kernel
theorem dX8_statement_46 : decode cX8_statement 46 = .ok (.if_icmp .eq 23, 3) := by decide +kernel
theorem dX8_statement_49 : decode cX8_statement 49 = .ok (.iload_n 2, 1) := by decide +kernel
theorem dX8_statement_50 : decode cX8_statement 50 = .ok (.bipush 109, 2) := by decide +kernel
theorem dX8_statement_52 : decode cX8_statement 52 = .ok (.if_icmp .eq 17, 3) := by decide +kernel
theorem dX8_statement_55 : decode cX8_statement 55 = .ok (.aload_n 0, 1) := by decide +kernel
theorem dX8_statement_56 : decode cX8_statement 56 = .ok (.sipush (-1000), 3) := by decide +kernel
theorem dX8_statement_59 : decode cX8_statement 59 = .ok (.aload_n 0, 1) := by decide +kernel
theorem dX8_statement_60 : decode cX8_statement 60 = .ok (.getfield 165, 3) := by decide +kernel
theorem dX8_statement_63 : decode cX8_statement 63 = .ok (.isub, 1) := by decide +kernel
theorem dX8_statement_64 : decode cX8_statement 64 = .ok (.putfield 168, 3) := by decide +kernel
theorem dX8_statement_67 : decode cX8_statement 67 = .ok (.iconst 0, 1) := by decide +kernel
theorem dX8_statement_68 : decode cX8_statement 68 = .ok (.ireturn, 1) := by decide +kernel
theorem dX8_statement_69 : decode cX8_statement 69 = .ok (.aload_n 0, 1) := by decide +kernel
theorem dX8_statement_70 : decode cX8_statement 70 = .ok (.dup, 1) := by decide +kernel
theorem dX8_statement_71 : decode cX8_statement 71 = .ok (.getfield 165, 3) := by decide +kernel
theorem dX8_statement_74 : decode cX8_statement 74 = .ok (.iconst 1, 1) := by decide +kernel
theorem dX8_statement_75 : decode cX8_statement 75 = .ok (.iadd, 1) := by decide +kernel
theorem dX8_statement_76 : decode cX8_statement 76 = .ok (.putfield 165, 3) := by decide +kernel
theorem dX8_statement_79 : decode cX8_statement 79 = .ok (.iload_n 2, 1) := by decide +kernel
theorem dX8_statement_80 : decode cX8_statement 80 = .ok (.bipush 108, 2) := by decide +kernel
theorem dX8_statement_82 : decode cX8_statement 82 = .ok (.if_icmp .ne 77, 3) := by decide +kernel
theorem dX8_statement_85 : decode cX8_statement 85 = .ok (.aload_n 0, 1) := by decide +kernel
theorem dX8_statement_86 : decode cX8_statement 86 = .ok (.invokevirtual 176, 3) := by decide +kernel
theorem dX8_statement_89 : decode cX8_statement 89 = .ok (.istore 4, 2) := by decide +kernel
theorem dX8_statement_91 : decode cX8_statement 91 = .ok (.aload_n 0, 1) := by decide +kernel
theorem dX8_statement_92 : decode cX8_statement 92 = .ok (.invokevirtual 176, 3) := by decide +kernel
theorem dX8_statement_95 : decode cX8_statement 95 = .ok (.istore 5, 2) := by decide +kernel
theorem dX8_statement_97 : decode cX8_statement 97 = .ok (.aload_n 0, 1) := by decide +kernel
theorem dX8_statement_98 : decode cX8_statement 98 = .ok (.invokevirtual 176, 3) := by decide +kernel
theorem dX8_statement_101 : decode cX8_statement 101 = .ok (.istore 6, 2) := by decide +kernel
theorem dX8_statement_103 : decode cX8_statement 103 = .ok (.iload 4, 2) := by decide +kernel
theorem dX8_statement_105 : decode cX8_statement 105 = .ok (.bipush 6, 2) := by decide +kernel
theorem dX8_statement_107 : decode cX8_statement 107 = .ok (.if_icmp .ge 13, 3) := by decide +kernel
theorem dX8_statement_110 : decode cX8_statement 110 = .ok (.iload 5, 2) := by decide +kernel
theorem dX8_statement_112 : decode cX8_statement 112 = .ok (.iconst 5, 1) := by decide +kernel
theorem dX8_statement_113 : decode cX8_statement 113 = .ok (.if_icmp .gt 7, 3) := by decide +kernel
theorem dX8_statement_116 : decode cX8_statement 116 = .ok (.iconst 1, 1) := by decide +kernel
theorem dX8_statement_117 : decode cX8_statement 117 = .ok (.goto 4, 3) := by decide +kernel
theorem dX8_statement_120 : decode cX8_statement 120 = .ok (.iconst 0, 1) := by decide +kernel
theorem dX8_statement_121 : decode cX8_statement 121 = .ok (.istore_n 3, 1) := by decide +kernel
theorem dX8_statement_122 : decode cX8_statement 122 = .ok (.iload_n 1, 1) := by decide +kernel
theorem dX8_statement_123 : decode cX8_statement 123 = .ok (.ifCond .eq 33, 3) := by decide +kernel
theorem dX8_statement_126 : decode cX8_statement 126 = .ok (.iload_n 3, 1) := by decide +kernel
theorem dX8_statement_127 : decode cX8_statement 127 = .ok (.ifCond .eq 29, 3) := by decide +kernel
theorem dX8_statement_130 : decode cX8_statement 130 = .ok (.aload_n 0, 1) := by decide +kernel
theorem dX8_statement_131 : decode cX8_statement 131 = .ok (.getfield 9, 3) := by decide +kernel
theorem dX8_statement_134 : decode cX8_statement 134 = .ok (.iconst 3, 1) := by decide +kernel
theorem dX8_statement_135 : decode cX8_statement 135 = .ok (.iload 4, 2) := by decide +kernel
theorem dX8_statement_137 : decode cX8_statement 137 = .ok (.imul, 1) := by decide +kernel
theorem dX8_statement_138 : decode cX8_statement 138 = .ok (.iconst 1, 1) := by decide +kernel
theorem dX8_statement_139 : decode cX8_statement 139 = .ok (.iadd, 1) := by decide +kernel
theorem dX8_statement_140 : decode cX8_statement 140 = .ok (.iload 5, 2) := by decide +kernel
theorem dX8_statement_142 : decode cX8_statement 142 = .ok (.iastore, 1) := by decide +kernel
theorem dX8_statement_143 : decode cX8_statement 143 = .ok (.aload_n 0, 1) := by decide +kernel
theorem dX8_statement_144 : decode cX8_statement 144 = .ok (.getfield 9, 3) := by decide +kernel
theorem dX8_statement_147 : decode cX8_statement 147 = .ok (.iconst 3, 1) := by decide +kernel
theorem dX8_statement_148 : decode cX8_statement 148 = .ok (.iload 4, 2) := by decide +kernel
theorem dX8_statement_150 : decode cX8_statement 150 = .ok (.imul, 1) := by decide +kernel
theorem dX8_statement_151 : decode cX8_statement 151 = .ok (.iconst 2, 1) := by decide +kernel
theorem dX8_statement_152 : decode cX8_statement 152 = .ok (.iadd, 1) := by decide +kernel
theorem dX8_statement_153 : decode cX8_statement 153 = .ok (.iload 6, 2) := by decide +kernel
theorem dX8_statement_155 : decode cX8_statement 155 = .ok (.iastore, 1) := by decide +kernel
theorem dX8_statement_156 : decode cX8_statement 156 = .ok (.goto 203, 3) := by decide +kernel
theorem dX8_statement_159 : decode cX8_statement 159 = .ok (.iload_n 2, 1) := by decide +kernel
theorem dX8_statement_160 : decode cX8_statement 160 = .ok (.bipush 111, 2) := by decide +kernel
theorem dX8_statement_162 : decode cX8_statement 162 = .ok (.if_icmp .ne 57, 3) := by decide +kernel
theorem dX8_statement_165 : decode cX8_statement 165 = .ok (.aload_n 0, 1) := by decide +kernel
theorem dX8_statement_166 : decode cX8_statement 166 = .ok (.invokevirtual 176, 3) := by decide +kernel
theorem dX8_statement_169 : decode cX8_statement 169 = .ok (.istore 4, 2) := by decide +kernel
theorem dX8_statement_171 : decode cX8_statement 171 = .ok (.iload 4, 2) := by decide +kernel
theorem dX8_statement_173 : decode cX8_statement 173 = .ok (.bipush 6, 2) := by decide +kernel
theorem dX8_statement_175 : decode cX8_statement 175 = .ok (.if_icmp .ge 7, 3) := by decide +kernel
theorem dX8_statement_178 : decode cX8_statement 178 = .ok (.iconst 1, 1) := by decide +kernel
theorem dX8_statement_179 : decode cX8_statement 179 = .ok (.goto 4, 3) := by decide +kernel
theorem dX8_statement_182 : decode cX8_statement 182 = .ok (.iconst 0, 1) := by decide +kernel
theorem dX8_statement_183 : decode cX8_statement 183 = .ok (.istore_n 3, 1) := by decide +kernel
theorem dX8_statement_184 : decode cX8_statement 184 = .ok (.iload_n 1, 1) := by decide +kernel
theorem dX8_statement_185 : decode cX8_statement 185 = .ok (.ifCond .eq 31, 3) := by decide +kernel
theorem dX8_statement_188 : decode cX8_statement 188 = .ok (.iload_n 3, 1) := by decide +kernel
theorem dX8_statement_189 : decode cX8_statement 189 = .ok (.ifCond .eq 27, 3) := by decide +kernel
theorem dX8_statement_192 : decode cX8_statement 192 = .ok (.aload_n 0, 1) := by decide +kernel
theorem dX8_statement_193 : decode cX8_statement 193 = .ok (.getfield 9, 3) := by decide +kernel
theorem dX8_statement_196 : decode cX8_statement 196 = .ok (.iconst 3, 1) := by decide +kernel
theorem dX8_statement_197 : decode cX8_statement 197 = .ok (.iload 4, 2) := by decide +kernel
theorem dX8_statement_199 : decode cX8_statement 199 = .ok (.imul, 1) := by decide +kernel
theorem dX8_statement_200 : decode cX8_statement 200 = .ok (.iconst 0, 1) := by decide +kernel
theorem dX8_statement_201 : decode cX8_statement 201 = .ok (.iadd, 1) := by decide +kernel
theorem dX8_statement_202 : decode cX8_statement 202 = .ok (.iconst 1, 1) := by decide +kernel
theorem dX8_statement_203 : decode cX8_statement 203 = .ok (.aload_n 0, 1) := by decide +kernel
theorem dX8_statement_204 : decode cX8_statement 204 = .ok (.getfield 9, 3) := by decide +kernel
theorem dX8_statement_207 : decode cX8_statement 207 = .ok (.iconst 3, 1) := by decide +kernel
theorem dX8_statement_208 : decode cX8_statement 208 = .ok (.iload 4, 2) := by decide +kernel
theorem dX8_statement_210 : decode cX8_statement 210 = .ok (.imul, 1) := by decide +kernel
theorem dX8_statement_211 : decode cX8_statement 211 = .ok (.iconst 0, 1) := by decide +kernel
theorem dX8_statement_212 : decode cX8_statement 212 = .ok (.iadd, 1) := by decide +kernel
theorem dX8_statement_213 : decode cX8_statement 213 = .ok (.iaload, 1) := by decide +kernel
theorem dX8_statement_214 : decode cX8_statement 214 = .ok (.isub, 1) := by decide +kernel
theorem dX8_statement_215 : decode cX8_statement 215 = .ok (.iastore, 1) := by decide +kernel
theorem dX8_statement_216 : decode cX8_statement 216 = .ok (.goto 143, 3) := by decide +kernel
theorem dX8_statement_219 : decode cX8_statement 219 = .ok (.iload_n 2, 1) := by decide +kernel
theorem dX8_statement_220 : decode cX8_statement 220 = .ok (.bipush 109, 2) := by decide +kernel
theorem dX8_statement_222 : decode cX8_statement 222 = .ok (.if_icmp .ne 54, 3) := by decide +kernel
theorem dX8_statement_225 : decode cX8_statement 225 = .ok (.aload_n 0, 1) := by decide +kernel
theorem dX8_statement_226 : decode cX8_statement 226 = .ok (.bipush 97, 2) := by decide +kernel
theorem dX8_statement_228 : decode cX8_statement 228 = .ok (.bipush 104, 2) := by decide +kernel
theorem dX8_statement_230 : decode cX8_statement 230 = .ok (.invokevirtual 174, 3) := by decide +kernel
theorem dX8_statement_233 : decode cX8_statement 233 = .ok (.istore 4, 2) := by decide +kernel
theorem dX8_statement_235 : decode cX8_statement 235 = .ok (.aload_n 0, 1) := by decide +kernel
theorem dX8_statement_236 : decode cX8_statement 236 = .ok (.invokevirtual 176, 3) := by decide +kernel
theorem dX8_statement_239 : decode cX8_statement 239 = .ok (.istore 5, 2) := by decide +kernel
theorem dX8_statement_241 : decode cX8_statement 241 = .ok (.iload 5, 2) := by decide +kernel
theorem dX8_statement_243 : decode cX8_statement 243 = .ok (.iconst 4, 1) := by decide +kernel
theorem dX8_statement_244 : decode cX8_statement 244 = .ok (.if_icmp .gt 7, 3) := by decide +kernel
theorem dX8_statement_247 : decode cX8_statement 247 = .ok (.iconst 1, 1) := by decide +kernel
theorem dX8_statement_248 : decode cX8_statement 248 = .ok (.goto 4, 3) := by decide +kernel
theorem dX8_statement_251 : decode cX8_statement 251 = .ok (.iconst 0, 1) := by decide +kernel
theorem dX8_statement_252 : decode cX8_statement 252 = .ok (.istore_n 3, 1) := by decide +kernel
theorem dX8_statement_253 : decode cX8_statement 253 = .ok (.iload_n 1, 1) := by decide +kernel
theorem dX8_statement_254 : decode cX8_statement 254 = .ok (.ifCond .eq 19, 3) := by decide +kernel
theorem dX8_statement_257 : decode cX8_statement 257 = .ok (.iload_n 3, 1) := by decide +kernel
theorem dX8_statement_258 : decode cX8_statement 258 = .ok (.ifCond .eq 15, 3) := by decide +kernel
theorem dX8_statement_261 : decode cX8_statement 261 = .ok (.aload_n 0, 1) := by decide +kernel
theorem dX8_statement_262 : decode cX8_statement 262 = .ok (.getfield 9, 3) := by decide +kernel
theorem dX8_statement_265 : decode cX8_statement 265 = .ok (.bipush 20, 2) := by decide +kernel
theorem dX8_statement_267 : decode cX8_statement 267 = .ok (.iload 4, 2) := by decide +kernel
theorem dX8_statement_269 : decode cX8_statement 269 = .ok (.iadd, 1) := by decide +kernel
theorem dX8_statement_270 : decode cX8_statement 270 = .ok (.iload 5, 2) := by decide +kernel
theorem dX8_statement_272 : decode cX8_statement 272 = .ok (.iastore, 1) := by decide +kernel
theorem dX8_statement_273 : decode cX8_statement 273 = .ok (.goto 86, 3) := by decide +kernel
theorem dX8_statement_276 : decode cX8_statement 276 = .ok (.aload_n 0, 1) := by decide +kernel
theorem dX8_statement_277 : decode cX8_statement 277 = .ok (.invokevirtual 176, 3) := by decide +kernel
theorem dX8_statement_280 : decode cX8_statement 280 = .ok (.istore 4, 2) := by decide +kernel
theorem dX8_statement_282 : decode cX8_statement 282 = .ok (.aload_n 0, 1) := by decide +kernel
theorem dX8_statement_283 : decode cX8_statement 283 = .ok (.bipush 97, 2) := by decide +kernel
theorem dX8_statement_285 : decode cX8_statement 285 = .ok (.bipush 104, 2) := by decide +kernel
theorem dX8_statement_287 : decode cX8_statement 287 = .ok (.invokevirtual 174, 3) := by decide +kernel
theorem dX8_statement_290 : decode cX8_statement 290 = .ok (.istore 5, 2) := by decide +kernel
theorem dX8_statement_292 : decode cX8_statement 292 = .ok (.iload_n 2, 1) := by decide +kernel
theorem dX8_statement_293 : decode cX8_statement 293 = .ok (.bipush 101, 2) := by decide +kernel
theorem dX8_statement_295 : decode cX8_statement 295 = .ok (.if_icmp .ne 16, 3) := by decide +kernel
theorem dX8_statement_298 : decode cX8_statement 298 = .ok (.aload_n 0, 1) := by decide +kernel
theorem dX8_statement_299 : decode cX8_statement 299 = .ok (.iload 4, 2) := by decide +kernel
theorem dX8_statement_301 : decode cX8_statement 301 = .ok (.iload 5, 2) := by decide +kernel
theorem dX8_statement_303 : decode cX8_statement 303 = .ok (.iload_n 1, 1) := by decide +kernel
theorem dX8_statement_304 : decode cX8_statement 304 = .ok (.invokevirtual 183, 3) := by decide +kernel
theorem dX8_statement_307 : decode cX8_statement 307 = .ok (.istore_n 3, 1) := by decide +kernel
theorem dX8_statement_308 : decode cX8_statement 308 = .ok (.goto 51, 3) := by decide +kernel
theorem dX8_statement_311 : decode cX8_statement 311 = .ok (.iload 4, 2) := by decide +kernel
theorem dX8_statement_313 : decode cX8_statement 313 = .ok (.bipush 6, 2) := by decide +kernel
theorem dX8_statement_315 : decode cX8_statement 315 = .ok (.if_icmp .ge 18, 3) := by decide +kernel
theorem dX8_statement_318 : decode cX8_statement 318 = .ok (.aload_n 0, 1) := by decide +kernel
theorem dX8_statement_319 : decode cX8_statement 319 = .ok (.iload 4, 2) := by decide +kernel
theorem dX8_statement_321 : decode cX8_statement 321 = .ok (.iload 5, 2) := by decide +kernel
theorem dX8_statement_323 : decode cX8_statement 323 = .ok (.invokevirtual 85, 3) := by decide +kernel
theorem dX8_statement_326 : decode cX8_statement 326 = .ok (.ifCond .eq 7, 3) := by decide +kernel
theorem dX8_statement_329 : decode cX8_statement 329 = .ok (.iconst 1, 1) := by decide +kernel
theorem dX8_statement_330 : decode cX8_statement 330 = .ok (.goto 4, 3) := by decide +kernel
theorem dX8_statement_333 : decode cX8_statement 333 = .ok (.iconst 0, 1) := by decide +kernel
theorem dX8_statement_334 : decode cX8_statement 334 = .ok (.istore_n 3, 1) := by decide +kernel
theorem dX8_statement_335 : decode cX8_statement 335 = .ok (.iload_n 1, 1) := by decide +kernel
theorem dX8_statement_336 : decode cX8_statement 336 = .ok (.ifCond .eq 23, 3) := by decide +kernel
theorem dX8_statement_339 : decode cX8_statement 339 = .ok (.iload_n 3, 1) := by decide +kernel
theorem dX8_statement_340 : decode cX8_statement 340 = .ok (.ifCond .eq 19, 3) := by decide +kernel
theorem dX8_statement_343 : decode cX8_statement 343 = .ok (.aload_n 0, 1) := by decide +kernel
theorem dX8_statement_344 : decode cX8_statement 344 = .ok (.getfield 9, 3) := by decide +kernel
theorem dX8_statement_347 : decode cX8_statement 347 = .ok (.iload 4, 2) := by decide +kernel
theorem dX8_statement_349 : decode cX8_statement 349 = .ok (.iload 5, 2) := by decide +kernel
theorem dX8_statement_351 : decode cX8_statement 351 = .ok (.invokestatic 78, 3) := by decide +kernel
theorem dX8_statement_354 : decode cX8_statement 354 = .ok (.iconst 0, 1) := by decide +kernel
theorem dX8_statement_355 : decode cX8_statement 355 = .ok (.iadd, 1) := by decide +kernel
theorem dX8_statement_356 : decode cX8_statement 356 = .ok (.bipush (-9), 2) := by decide +kernel
theorem dX8_statement_358 : decode cX8_statement 358 = .ok (.iastore, 1) := by decide +kernel
theorem dX8_statement_359 : decode cX8_statement 359 = .ok (.aload_n 0, 1) := by decide +kernel
theorem dX8_statement_360 : decode cX8_statement 360 = .ok (.bipush 59, 2) := by decide +kernel
theorem dX8_statement_362 : decode cX8_statement 362 = .ok (.bipush 59, 2) := by decide +kernel
theorem dX8_statement_364 : decode cX8_statement 364 = .ok (.invokevirtual 174, 3) := by decide +kernel
theorem dX8_statement_367 : decode cX8_statement 367 = .ok (.pop, 1) := by decide +kernel
theorem dX8_statement_368 : decode cX8_statement 368 = .ok (.iload_n 3, 1) := by decide +kernel
theorem dX8_statement_369 : decode cX8_statement 369 = .ok (.ireturn, 1) := by decide +kernel
theorem dX8_settings_0 : decode cX8_settings 0 = .ok (.aload_n 0, 1) := by decide +kernel
theorem dX8_settings_1 : decode cX8_settings 1 = .ok (.iconst 0, 1) := by decide +kernel
theorem dX8_settings_2 : decode cX8_settings 2 = .ok (.putfield 165, 3) := by decide +kernel
theorem dX8_settings_5 : decode cX8_settings 5 = .ok (.aload_n 0, 1) := by decide +kernel
theorem dX8_settings_6 : decode cX8_settings 6 = .ok (.iconst 0, 1) := by decide +kernel
theorem dX8_settings_7 : decode cX8_settings 7 = .ok (.putfield 168, 3) := by decide +kernel
theorem dX8_settings_10 : decode cX8_settings 10 = .ok (.aload_n 0, 1) := by decide +kernel
theorem dX8_settings_11 : decode cX8_settings 11 = .ok (.iconst 0, 1) := by decide +kernel
theorem dX8_settings_12 : decode cX8_settings 12 = .ok (.invokevirtual 187, 3) := by decide +kernel
theorem dX8_settings_15 : decode cX8_settings 15 = .ok (.pop, 1) := by decide +kernel
theorem dX8_settings_16 : decode cX8_settings 16 = .ok (.aload_n 0, 1) := by decide +kernel
theorem dX8_settings_17 : decode cX8_settings 17 = .ok (.getfield 168, 3) := by decide +kernel
theorem dX8_settings_20 : decode cX8_settings 20 = .ok (.ifCond .ne 14, 3) := by decide +kernel
theorem dX8_settings_23 : decode cX8_settings 23 = .ok (.aload_n 0, 1) := by decide +kernel
theorem dX8_settings_24 : decode cX8_settings 24 = .ok (.getfield 165, 3) := by decide +kernel
theorem dX8_settings_27 : decode cX8_settings 27 = .ok (.aload_n 0, 1) := by decide +kernel
theorem dX8_settings_28 : decode cX8_settings 28 = .ok (.getfield 162, 3) := by decide +kernel
theorem dX8_settings_31 : decode cX8_settings 31 = .ok (.if_icmp .lt (-21), 3) := by decide +kernel
theorem dX8_settings_34 : decode cX8_settings 34 = .ok (.iconst 0, 1) := by decide +kernel
theorem dX8_settings_35 : decode cX8_settings 35 = .ok (.istore_n 1, 1) := by decide +kernel
theorem dX8_settings_36 : decode cX8_settings 36 = .ok (.aload_n 0, 1) := by decide +kernel
theorem dX8_settings_37 : decode cX8_settings 37 = .ok (.getfield 168, 3) := by decide +kernel
theorem dX8_settings_40 : decode cX8_settings 40 = .ok (.ifCond .ne 83, 3) := by decide +kernel
theorem dX8_settings_43 : decode cX8_settings 43 = .ok (.aload_n 0, 1) := by decide +kernel
theorem dX8_settings_44 : decode cX8_settings 44 = .ok (.getfield 9, 3) := by decide +kernel
theorem dX8_settings_47 : decode cX8_settings 47 = .ok (.aload_n 0, 1) := by decide +kernel
theorem dX8_settings_48 : decode cX8_settings 48 = .ok (.getfield 19, 3) := by decide +kernel
theorem dX8_settings_51 : decode cX8_settings 51 = .ok (.invokestatic 191, 3) := by decide +kernel
theorem dX8_settings_54 : decode cX8_settings 54 = .ok (.aload_n 0, 1) := by decide +kernel
theorem dX8_settings_55 : decode cX8_settings 55 = .ok (.iconst 0, 1) := by decide +kernel
theorem dX8_settings_56 : decode cX8_settings 56 = .ok (.putfield 165, 3) := by decide +kernel
theorem dX8_settings_59 : decode cX8_settings 59 = .ok (.aload_n 0, 1) := by decide +kernel
theorem dX8_settings_60 : decode cX8_settings 60 = .ok (.getfield 165, 3) := by decide +kernel
theorem dX8_settings_63 : decode cX8_settings 63 = .ok (.aload_n 0, 1) := by decide +kernel
theorem dX8_settings_64 : decode cX8_settings 64 = .ok (.getfield 162, 3) := by decide +kernel
theorem dX8_settings_67 : decode cX8_settings 67 = .ok (.if_icmp .ge 38, 3) := by decide +kernel
theorem dX8_settings_70 : decode cX8_settings 70 = .ok (.aload_n 0, 1) := by decide +kernel
theorem dX8_settings_71 : decode cX8_settings 71 = .ok (.getfield 168, 3) := by decide +kernel
theorem dX8_settings_74 : decode cX8_settings 74 = .ok (.ifCond .ne 31, 3) := by decide +kernel
theorem dX8_settings_77 : decode cX8_settings 77 = .ok (.aload_n 0, 1) := by decide +kernel
theorem dX8_settings_78 : decode cX8_settings 78 = .ok (.getfield 165, 3) := by decide +kernel
theorem dX8_settings_81 : decode cX8_settings 81 = .ok (.istore_n 2, 1) := by decide +kernel
theorem dX8_settings_82 : decode cX8_settings 82 = .ok (.aload_n 0, 1) := by decide +kernel
theorem dX8_settings_83 : decode cX8_settings 83 = .ok (.iconst 1, 1) := by decide +kernel
theorem dX8_settings_84 : decode cX8_settings 84 = .ok (.invokevirtual 187, 3) := by decide +kernel
theorem dX8_settings_87 : decode cX8_settings 87 = .ok (.ifCond .ne 12, 3) := by decide +kernel
theorem dX8_settings_90 : decode cX8_settings 90 = .ok (.aload_n 0, 1) := by decide +kernel
theorem dX8_settings_91 : decode cX8_settings 91 = .ok (.sipush (-2000), 3) := by decide +kernel
theorem dX8_settings_94 : decode cX8_settings 94 = .ok (.iload_n 2, 1) := by decide +kernel
theorem dX8_settings_95 : decode cX8_settings 95 = .ok (.isub, 1) := by decide +kernel
theorem dX8_settings_96 : decode cX8_settings 96 = .ok (.putfield 168, 3) := by decide +kernel
theorem dX8_settings_99 : decode cX8_settings 99 = .ok (.iinc 1 1, 3) := by decide +kernel
theorem dX8_settings_102 : decode cX8_settings 102 = .ok (.goto (-43), 3) := by decide +kernel
theorem dX8_settings_105 : decode cX8_settings 105 = .ok (.aload_n 0, 1) := by decide +kernel
theorem dX8_settings_106 : decode cX8_settings 106 = .ok (.getfield 168, 3) := by decide +kernel
theorem dX8_settings_109 : decode cX8_settings 109 = .ok (.ifCond .eq 14, 3) := by decide +kernel
theorem dX8_settings_112 : decode cX8_settings 112 = .ok (.aload_n 0, 1) := by decide +kernel
theorem dX8_settings_113 : decode cX8_settings 113 = .ok (.getfield 19, 3) := by decide +kernel
theorem dX8_settings_116 : decode cX8_settings 116 = .ok (.aload_n 0, 1) := by decide +kernel
theorem dX8_settings_117 : decode cX8_settings 117 = .ok (.getfield 9, 3) := by decide +kernel
theorem dX8_settings_120 : decode cX8_settings 120 = .ok (.invokestatic 191, 3) := by decide +kernel
theorem dX8_settings_123 : decode cX8_settings 123 = .ok (.aload_n 0, 1) := by decide +kernel
theorem dX8_settings_124 : decode cX8_settings 124 = .ok (.iconst 0, 1) := by decide +kernel
theorem dX8_settings_125 : decode cX8_settings 125 = .ok (.putfield 162, 3) := by decide +kernel
theorem dX8_settings_128 : decode cX8_settings 128 = .ok (.aload_n 0, 1) := by decide +kernel
theorem dX8_settings_129 : decode cX8_settings 129 = .ok (.getfield 168, 3) := by decide +kernel
theorem dX8_settings_132 : decode cX8_settings 132 = .ok (.ifCond .eq 10, 3) := by decide +kernel
theorem dX8_settings_135 : decode cX8_settings 135 = .ok (.aload_n 0, 1) := by decide +kernel
theorem dX8_settings_136 : decode cX8_settings 136 = .ok (.getfield 168, 3) := by decide +kernel
theorem dX8_settings_139 : decode cX8_settings 139 = .ok (.goto 4, 3) := by decide +kernel
theorem dX8_settings_142 : decode cX8_settings 142 = .ok (.iload_n 1, 1) := by decide +kernel
theorem dX8_settings_143 : decode cX8_settings 143 = .ok (.ireturn, 1) := by decide +kernel
theorem dX8_layer_0 : decode cX8_layer 0 = .ok (.iload_n 1, 1) := by decide +kernel
theorem dX8_layer_1 : decode cX8_layer 1 = .ok (.invokestatic 138, 3) := by decide +kernel
theorem dX8_layer_4 : decode cX8_layer 4 = .ok (.ifCond .ne 9, 3) := by decide +kernel
theorem dX8_layer_7 : decode cX8_layer 7 = .ok (.aload_n 0, 1) := by decide +kernel
theorem dX8_layer_8 : decode cX8_layer 8 = .ok (.iconst (-1), 1) := by decide +kernel
theorem dX8_layer_9 : decode cX8_layer 9 = .ok (.invokevirtual 70, 3) := by decide +kernel
theorem dX8_layer_12 : decode cX8_layer 12 = .ok (.ireturn, 1) := by decide +kernel
theorem dX8_layer_13 : decode cX8_layer 13 = .ok (.iload_n 2, 1) := by decide +kernel
theorem dX8_layer_14 : decode cX8_layer 14 = .ok (.iconst 0, 1) := by decide +kernel
theorem dX8_layer_15 : decode cX8_layer 15 = .ok (.iconst 5, 1) := by decide +kernel
theorem dX8_layer_16 : decode cX8_layer 16 = .ok (.invokestatic 74, 3) := by decide +kernel
theorem dX8_layer_19 : decode cX8_layer 19 = .ok (.ifCond .ne 10, 3) := by decide +kernel
theorem dX8_layer_22 : decode cX8_layer 22 = .ok (.aload_n 0, 1) := by decide +kernel
theorem dX8_layer_23 : decode cX8_layer 23 = .ok (.bipush (-2), 2) := by decide +kernel
theorem dX8_layer_25 : decode cX8_layer 25 = .ok (.invokevirtual 70, 3) := by decide +kernel
theorem dX8_layer_28 : decode cX8_layer 28 = .ok (.ireturn, 1) := by decide +kernel
theorem dX8_layer_29 : decode cX8_layer 29 = .ok (.iload_n 2, 1) := by decide +kernel
theorem dX8_layer_30 : decode cX8_layer 30 = .ok (.iconst 3, 1) := by decide +kernel
theorem dX8_layer_31 : decode cX8_layer 31 = .ok (.if_icmp .ge 14, 3) := by decide +kernel
theorem dX8_layer_34 : decode cX8_layer 34 = .ok (.aload_n 0, 1) := by decide +kernel
theorem dX8_layer_35 : decode cX8_layer 35 = .ok (.getfield 9, 3) := by decide +kernel
theorem dX8_layer_38 : decode cX8_layer 38 = .ok (.iconst 3, 1) := by decide +kernel
theorem dX8_layer_39 : decode cX8_layer 39 = .ok (.iload_n 1, 1) := by decide +kernel
theorem dX8_layer_40 : decode cX8_layer 40 = .ok (.imul, 1) := by decide +kernel
theorem dX8_layer_41 : decode cX8_layer 41 = .ok (.iload_n 2, 1) := by decide +kernel
theorem dX8_layer_42 : decode cX8_layer 42 = .ok (.iadd, 1) := by decide +kernel
theorem dX8_layer_43 : decode cX8_layer 43 = .ok (.iaload, 1) := by decide +kernel
theorem dX8_layer_44 : decode cX8_layer 44 = .ok (.ireturn, 1) := by decide +kernel
theorem dX8_layer_45 : decode cX8_layer 45 = .ok (.iload_n 2, 1) := by decide +kernel
theorem dX8_layer_46 : decode cX8_layer 46 = .ok (.iconst 3, 1) := by decide +kernel
theorem dX8_layer_47 : decode cX8_layer 47 = .ok (.if_icmp .ne 12, 3) := by decide +kernel
theorem dX8_layer_50 : decode cX8_layer 50 = .ok (.aload_n 0, 1) := by decide +kernel
theorem dX8_layer_51 : decode cX8_layer 51 = .ok (.iload_n 1, 1) := by decide +kernel
theorem dX8_layer_52 : decode cX8_layer 52 = .ok (.invokevirtual 82, 3) := by decide +kernel
theorem dX8_layer_55 : decode cX8_layer 55 = .ok (.bipush 100, 2) := by decide +kernel
theorem dX8_layer_57 : decode cX8_layer 57 = .ok (.iadd, 1) := by decide +kernel
theorem dX8_layer_58 : decode cX8_layer 58 = .ok (.ireturn, 1) := by decide +kernel
theorem dX8_layer_59 : decode cX8_layer 59 = .ok (.iload_n 2, 1) := by decide +kernel
theorem dX8_layer_60 : decode cX8_layer 60 = .ok (.iconst 4, 1) := by decide +kernel
theorem dX8_layer_61 : decode cX8_layer 61 = .ok (.if_icmp .ne 9, 3) := by decide +kernel
theorem dX8_layer_64 : decode cX8_layer 64 = .ok (.aload_n 0, 1) := by decide +kernel
theorem dX8_layer_65 : decode cX8_layer 65 = .ok (.iload_n 1, 1) := by decide +kernel
theorem dX8_layer_66 : decode cX8_layer 66 = .ok (.invokevirtual 156, 3) := by decide +kernel
theorem dX8_layer_69 : decode cX8_layer 69 = .ok (.ireturn, 1) := by decide +kernel
theorem dX8_layer_70 : decode cX8_layer 70 = .ok (.iconst 0, 1) := by decide +kernel
theorem dX8_layer_71 : decode cX8_layer 71 = .ok (.istore_n 3, 1) := by decide +kernel
theorem dX8_layer_72 : decode cX8_layer 72 = .ok (.iconst 0, 1) := by decide +kernel
theorem dX8_layer_73 : decode cX8_layer 73 = .ok (.istore 4, 2) := by decide +kernel
theorem dX8_layer_75 : decode cX8_layer 75 = .ok (.iload 4, 2) := by decide +kernel
theorem dX8_layer_77 : decode cX8_layer 77 = .ok (.bipush 6, 2) := by decide +kernel
theorem dX8_layer_79 : decode cX8_layer 79 = .ok (.if_icmp .ge 27, 3) := by decide +kernel
theorem dX8_layer_82 : decode cX8_layer 82 = .ok (.iload_n 3, 1) := by decide +kernel
theorem dX8_layer_83 : decode cX8_layer 83 = .ok (.aload_n 0, 1) := by decide +kernel
theorem dX8_layer_84 : decode cX8_layer 84 = .ok (.iload 4, 2) := by decide +kernel
theorem dX8_layer_86 : decode cX8_layer 86 = .ok (.iload_n 1, 1) := by decide +kernel
theorem dX8_layer_87 : decode cX8_layer 87 = .ok (.invokevirtual 92, 3) := by decide +kernel
theorem dX8_layer_90 : decode cX8_layer 90 = .ok (.ifCond .eq 7, 3) := by decide +kernel
theorem dX8_layer_93 : decode cX8_layer 93 = .ok (.iconst 1, 1) := by decide +kernel
theorem dX8_layer_94 : decode cX8_layer 94 = .ok (.goto 4, 3) := by decide +kernel
theorem dX8_layer_97 : decode cX8_layer 97 = .ok (.iconst 0, 1) := by decide +kernel
theorem dX8_layer_98 : decode cX8_layer 98 = .ok (.iadd, 1) := by decide +kernel
theorem dX8_layer_99 : decode cX8_layer 99 = .ok (.istore_n 3, 1) := by decide +kernel
theorem dX8_layer_100 : decode cX8_layer 100 = .ok (.iinc 4 1, 3) := by decide +kernel
theorem dX8_layer_103 : decode cX8_layer 103 = .ok (.goto (-28), 3) := by decide +kernel
theorem dX8_layer_106 : decode cX8_layer 106 = .ok (.iload_n 3, 1) := by decide +kernel
theorem dX8_layer_107 : decode cX8_layer 107 = .ok (.ireturn, 1) := by decide +kernel
theorem dX8_entry__0 : decode cX8_entry_ 0 = .ok (.iload_n 1, 1) := by decide +kernel
theorem dX8_entry__1 : decode cX8_entry_ 1 = .ok (.invokestatic 138, 3) := by decide +kernel
theorem dX8_entry__4 : decode cX8_entry_ 4 = .ok (.ifCond .eq 19, 3) := by decide +kernel
theorem dX8_entry__7 : decode cX8_entry_ 7 = .ok (.iload_n 2, 1) := by decide +kernel
theorem dX8_entry__8 : decode cX8_entry_ 8 = .ok (.invokestatic 141, 3) := by decide +kernel
theorem dX8_entry__11 : decode cX8_entry_ 11 = .ok (.ifCond .eq 12, 3) := by decide +kernel
theorem dX8_entry__14 : decode cX8_entry_ 14 = .ok (.aload_n 0, 1) := by decide +kernel
theorem dX8_entry__15 : decode cX8_entry_ 15 = .ok (.iload_n 1, 1) := by decide +kernel
theorem dX8_entry__16 : decode cX8_entry_ 16 = .ok (.iload_n 2, 1) := by decide +kernel
theorem dX8_entry__17 : decode cX8_entry_ 17 = .ok (.invokevirtual 85, 3) := by decide +kernel
theorem dX8_entry__20 : decode cX8_entry_ 20 = .ok (.ifCond .ne 9, 3) := by decide +kernel
theorem dX8_entry__23 : decode cX8_entry_ 23 = .ok (.aload_n 0, 1) := by decide +kernel
theorem dX8_entry__24 : decode cX8_entry_ 24 = .ok (.iconst (-1), 1) := by decide +kernel
theorem dX8_entry__25 : decode cX8_entry_ 25 = .ok (.invokevirtual 70, 3) := by decide +kernel
theorem dX8_entry__28 : decode cX8_entry_ 28 = .ok (.ireturn, 1) := by decide +kernel
theorem dX8_entry__29 : decode cX8_entry_ 29 = .ok (.iload_n 3, 1) := by decide +kernel
theorem dX8_entry__30 : decode cX8_entry_ 30 = .ok (.iconst 0, 1) := by decide +kernel
theorem dX8_entry__31 : decode cX8_entry_ 31 = .ok (.iconst 2, 1) := by decide +kernel
theorem dX8_entry__32 : decode cX8_entry_ 32 = .ok (.invokestatic 74, 3) := by decide +kernel
theorem dX8_entry__35 : decode cX8_entry_ 35 = .ok (.ifCond .ne 10, 3) := by decide +kernel
theorem dX8_entry__38 : decode cX8_entry_ 38 = .ok (.aload_n 0, 1) := by decide +kernel
theorem dX8_entry__39 : decode cX8_entry_ 39 = .ok (.bipush (-2), 2) := by decide +kernel
theorem dX8_entry__41 : decode cX8_entry_ 41 = .ok (.invokevirtual 70, 3) := by decide +kernel
theorem dX8_entry__44 : decode cX8_entry_ 44 = .ok (.ireturn, 1) := by decide +kernel
theorem dX8_entry__45 : decode cX8_entry_ 45 = .ok (.iload_n 1, 1) := by decide +kernel
theorem dX8_entry__46 : decode cX8_entry_ 46 = .ok (.iload_n 2, 1) := by decide +kernel
theorem dX8_entry__47 : decode cX8_entry_ 47 = .ok (.invokestatic 78, 3) := by decide +kernel
theorem dX8_entry__50 : decode cX8_entry_ 50 = .ok (.istore 4, 2) := by decide +kernel
theorem dX8_entry__52 : decode cX8_entry_ 52 = .ok (.aload_n 0, 1) := by decide +kernel
theorem dX8_entry__53 : decode cX8_entry_ 53 = .ok (.getfield 9, 3) := by decide +kernel
theorem dX8_entry__56 : decode cX8_entry_ 56 = .ok (.iload 4, 2) := by decide +kernel
theorem dX8_entry__58 : decode cX8_entry_ 58 = .ok (.iconst 0, 1) := by decide +kernel
theorem dX8_entry__59 : decode cX8_entry_ 59 = .ok (.iadd, 1) := by decide +kernel
theorem dX8_entry__60 : decode cX8_entry_ 60 = .ok (.iaload, 1) := by decide +kernel
theorem dX8_entry__61 : decode cX8_entry_ 61 = .ok (.istore 5, 2) := by decide +kernel
theorem dX8_entry__63 : decode cX8_entry_ 63 = .ok (.iload 5, 2) := by decide +kernel
theorem dX8_entry__65 : decode cX8_entry_ 65 = .ok (.iconst 2, 1) := by decide +kernel
theorem dX8_entry__66 : decode cX8_entry_ 66 = .ok (.if_icmp .eq 9, 3) := by decide +kernel
theorem dX8_entry__69 : decode cX8_entry_ 69 = .ok (.iload 5, 2) := by decide +kernel
theorem dX8_entry__71 : decode cX8_entry_ 71 = .ok (.iconst 3, 1) := by decide +kernel
theorem dX8_entry__72 : decode cX8_entry_ 72 = .ok (.if_icmp .ne 7, 3) := by decide +kernel
theorem dX8_entry__75 : decode cX8_entry_ 75 = .ok (.iconst 1, 1) := by decide +kernel
theorem dX8_entry__76 : decode cX8_entry_ 76 = .ok (.goto 4, 3) := by decide +kernel
theorem dX8_entry__79 : decode cX8_entry_ 79 = .ok (.iconst 0, 1) := by decide +kernel
theorem dX8_entry__80 : decode cX8_entry_ 80 = .ok (.istore 6, 2) := by decide +kernel
theorem dX8_entry__82 : decode cX8_entry_ 82 = .ok (.iload_n 3, 1) := by decide +kernel
theorem dX8_entry__83 : decode cX8_entry_ 83 = .ok (.ifCond .ne 8, 3) := by decide +kernel
theorem dX8_entry__86 : decode cX8_entry_ 86 = .ok (.iload 5, 2) := by decide +kernel
theorem dX8_entry__88 : decode cX8_entry_ 88 = .ok (.goto 57, 3) := by decide +kernel
theorem dX8_entry__91 : decode cX8_entry_ 91 = .ok (.iload_n 3, 1) := by decide +kernel
theorem dX8_entry__92 : decode cX8_entry_ 92 = .ok (.iconst 1, 1) := by decide +kernel
theorem dX8_entry__93 : decode cX8_entry_ 93 = .ok (.if_icmp .ne 33, 3) := by decide +kernel
theorem dX8_entry__96 : decode cX8_entry_ 96 = .ok (.iload 5, 2) := by decide +kernel
theorem dX8_entry__98 : decode cX8_entry_ 98 = .ok (.iconst 1, 1) := by decide +kernel
theorem dX8_entry__99 : decode cX8_entry_ 99 = .ok (.if_icmp .ne 15, 3) := by decide +kernel
theorem dX8_entry__102 : decode cX8_entry_ 102 = .ok (.aload_n 0, 1) := by decide +kernel
theorem dX8_entry__103 : decode cX8_entry_ 103 = .ok (.getfield 9, 3) := by decide +kernel
theorem dX8_entry__106 : decode cX8_entry_ 106 = .ok (.iload 4, 2) := by decide +kernel
theorem dX8_entry__108 : decode cX8_entry_ 108 = .ok (.iconst 3, 1) := by decide +kernel
theorem dX8_entry__109 : decode cX8_entry_ 109 = .ok (.iadd, 1) := by decide +kernel
theorem dX8_entry__110 : decode cX8_entry_ 110 = .ok (.iaload, 1) := by decide +kernel
theorem dX8_entry__111 : decode cX8_entry_ 111 = .ok (.goto 34, 3) := by decide +kernel
theorem dX8_entry__114 : decode cX8_entry_ 114 = .ok (.aload_n 0, 1) := by decide +kernel
theorem dX8_entry__115 : decode cX8_entry_ 115 = .ok (.getfield 9, 3) := by decide +kernel
theorem dX8_entry__118 : decode cX8_entry_ 118 = .ok (.iload 4, 2) := by decide +kernel
theorem dX8_entry__120 : decode cX8_entry_ 120 = .ok (.iconst 1, 1) := by decide +kernel
theorem dX8_entry__121 : decode cX8_entry_ 121 = .ok (.iadd, 1) := by decide +kernel
theorem dX8_entry__122 : decode cX8_entry_ 122 = .ok (.iaload, 1) := by decide +kernel
theorem dX8_entry__123 : decode cX8_entry_ 123 = .ok (.goto 22, 3) := by decide +kernel
theorem dX8_entry__126 : decode cX8_entry_ 126 = .ok (.iload 6, 2) := by decide +kernel
theorem dX8_entry__128 : decode cX8_entry_ 128 = .ok (.ifCond .eq 15, 3) := by decide +kernel
theorem dX8_entry__131 : decode cX8_entry_ 131 = .ok (.aload_n 0, 1) := by decide +kernel
theorem dX8_entry__132 : decode cX8_entry_ 132 = .ok (.getfield 9, 3) := by decide +kernel
theorem dX8_entry__135 : decode cX8_entry_ 135 = .ok (.iload 4, 2) := by decide +kernel
theorem dX8_entry__137 : decode cX8_entry_ 137 = .ok (.iconst 2, 1) := by decide +kernel
theorem dX8_entry__138 : decode cX8_entry_ 138 = .ok (.iadd, 1) := by decide +kernel
theorem dX8_entry__139 : decode cX8_entry_ 139 = .ok (.iaload, 1) := by decide +kernel
theorem dX8_entry__140 : decode cX8_entry_ 140 = .ok (.goto 5, 3) := by decide +kernel
theorem dX8_entry__143 : decode cX8_entry_ 143 = .ok (.bipush (-9), 2) := by decide +kernel
theorem dX8_entry__145 : decode cX8_entry_ 145 = .ok (.ireturn, 1) := by decide +kernel
theorem dX8_value_0 : decode cX8_value 0 = .ok (.iload_n 1, 1) := by decide +kernel
theorem dX8_value_1 : decode cX8_value 1 = .ok (.invokestatic 141, 3) := by decide +kernel
theorem dX8_value_4 : decode cX8_value 4 = .ok (.ifCond .ne 9, 3) := by decide +kernel
theorem dX8_value_7 : decode cX8_value 7 = .ok (.aload_n 0, 1) := by decide +kernel
theorem dX8_value_8 : decode cX8_value 8 = .ok (.iconst (-1), 1) := by decide +kernel
theorem dX8_value_9 : decode cX8_value 9 = .ok (.invokevirtual 70, 3) := by decide +kernel
theorem dX8_value_12 : decode cX8_value 12 = .ok (.ireturn, 1) := by decide +kernel
theorem dX8_value_13 : decode cX8_value 13 = .ok (.iload_n 2, 1) := by decide +kernel
theorem dX8_value_14 : decode cX8_value 14 = .ok (.iconst 0, 1) := by decide +kernel
theorem dX8_value_15 : decode cX8_value 15 = .ok (.iconst 3, 1) := by decide +kernel
theorem dX8_value_16 : decode cX8_value 16 = .ok (.invokestatic 74, 3) := by decide +kernel
theorem dX8_value_19 : decode cX8_value 19 = .ok (.ifCond .ne 10, 3) := by decide +kernel
theorem dX8_value_22 : decode cX8_value 22 = .ok (.aload_n 0, 1) := by decide +kernel
theorem dX8_value_23 : decode cX8_value 23 = .ok (.bipush (-2), 2) := by decide +kernel
theorem dX8_value_25 : decode cX8_value 25 = .ok (.invokevirtual 70, 3) := by decide +kernel
theorem dX8_value_28 : decode cX8_value 28 = .ok (.ireturn, 1) := by decide +kernel
theorem dX8_value_29 : decode cX8_value 29 = .ok (.iload_n 2, 1) := by decide +kernel
theorem dX8_value_30 : decode cX8_value 30 = .ok (.iconst 2, 1) := by decide +kernel
theorem dX8_value_31 : decode cX8_value 31 = .ok (.if_icmp .ne 12, 3) := by decide +kernel
theorem dX8_value_34 : decode cX8_value 34 = .ok (.aload_n 0, 1) := by decide +kernel
theorem dX8_value_35 : decode cX8_value 35 = .ok (.iload_n 1, 1) := by decide +kernel
theorem dX8_value_36 : decode cX8_value 36 = .ok (.invokevirtual 114, 3) := by decide +kernel
theorem dX8_value_39 : decode cX8_value 39 = .ok (.invokestatic 159, 3) := by decide +kernel
theorem dX8_value_42 : decode cX8_value 42 = .ok (.ireturn, 1) := by decide +kernel
theorem dX8_value_43 : decode cX8_value 43 = .ok (.iload_n 2, 1) := by decide +kernel
theorem dX8_value_44 : decode cX8_value 44 = .ok (.iconst 3, 1) := by decide +kernel
theorem dX8_value_45 : decode cX8_value 45 = .ok (.if_icmp .ne 9, 3) := by decide +kernel
theorem dX8_value_48 : decode cX8_value 48 = .ok (.aload_n 0, 1) := by decide +kernel
theorem dX8_value_49 : decode cX8_value 49 = .ok (.iload_n 1, 1) := by decide +kernel
theorem dX8_value_50 : decode cX8_value 50 = .ok (.invokevirtual 114, 3) := by decide +kernel
theorem dX8_value_53 : decode cX8_value 53 = .ok (.ireturn, 1) := by decide +kernel
theorem dX8_value_54 : decode cX8_value 54 = .ok (.aload_n 0, 1) := by decide +kernel
theorem dX8_value_55 : decode cX8_value 55 = .ok (.iload_n 1, 1) := by decide +kernel
theorem dX8_value_56 : decode cX8_value 56 = .ok (.invokevirtual 135, 3) := by decide +kernel
theorem dX8_value_59 : decode cX8_value 59 = .ok (.ifCond .ne 18, 3) := by decide +kernel
theorem dX8_value_62 : decode cX8_value 62 = .ok (.iload_n 2, 1) := by decide +kernel
theorem dX8_value_63 : decode cX8_value 63 = .ok (.ifCond .ne 7, 3) := by decide +kernel
theorem dX8_value_66 : decode cX8_value 66 = .ok (.iconst 2, 1) := by decide +kernel
theorem dX8_value_67 : decode cX8_value 67 = .ok (.goto 9, 3) := by decide +kernel
theorem dX8_value_70 : decode cX8_value 70 = .ok (.aload_n 0, 1) := by decide +kernel
theorem dX8_value_71 : decode cX8_value 71 = .ok (.getfield 59, 3) := by decide +kernel
theorem dX8_value_74 : decode cX8_value 74 = .ok (.iconst 0, 1) := by decide +kernel
theorem dX8_value_75 : decode cX8_value 75 = .ok (.iaload, 1) := by decide +kernel
theorem dX8_value_76 : decode cX8_value 76 = .ok (.ireturn, 1) := by decide +kernel
theorem dX8_value_77 : decode cX8_value 77 = .ok (.iload_n 2, 1) := by decide +kernel
theorem dX8_value_78 : decode cX8_value 78 = .ok (.ifCond .ne 12, 3) := by decide +kernel
theorem dX8_value_81 : decode cX8_value 81 = .ok (.aload_n 0, 1) := by decide +kernel
theorem dX8_value_82 : decode cX8_value 82 = .ok (.getfield 31, 3) := by decide +kernel
theorem dX8_value_85 : decode cX8_value 85 = .ok (.iconst 0, 1) := by decide +kernel
theorem dX8_value_86 : decode cX8_value 86 = .ok (.iaload, 1) := by decide +kernel
theorem dX8_value_87 : decode cX8_value 87 = .ok (.goto 28, 3) := by decide +kernel
theorem dX8_value_90 : decode cX8_value 90 = .ok (.aload_n 0, 1) := by decide +kernel
theorem dX8_value_91 : decode cX8_value 91 = .ok (.getfield 31, 3) := by decide +kernel
theorem dX8_value_94 : decode cX8_value 94 = .ok (.iconst 0, 1) := by decide +kernel
theorem dX8_value_95 : decode cX8_value 95 = .ok (.iaload, 1) := by decide +kernel
theorem dX8_value_96 : decode cX8_value 96 = .ok (.iconst 1, 1) := by decide +kernel
theorem dX8_value_97 : decode cX8_value 97 = .ok (.if_icmp .ne 12, 3) := by decide +kernel
theorem dX8_value_100 : decode cX8_value 100 = .ok (.aload_n 0, 1) := by decide +kernel
theorem dX8_value_101 : decode cX8_value 101 = .ok (.getfield 37, 3) := by decide +kernel
theorem dX8_value_104 : decode cX8_value 104 = .ok (.iconst 0, 1) := by decide +kernel
theorem dX8_value_105 : decode cX8_value 105 = .ok (.iaload, 1) := by decide +kernel
theorem dX8_value_106 : decode cX8_value 106 = .ok (.goto 9, 3) := by decide +kernel
theorem dX8_value_109 : decode cX8_value 109 = .ok (.aload_n 0, 1) := by decide +kernel
theorem dX8_value_110 : decode cX8_value 110 = .ok (.getfield 34, 3) := by decide +kernel
theorem dX8_value_113 : decode cX8_value 113 = .ok (.iconst 0, 1) := by decide +kernel
theorem dX8_value_114 : decode cX8_value 114 = .ok (.iaload, 1) := by decide +kernel
theorem dX8_value_115 : decode cX8_value 115 = .ok (.ireturn, 1) := by decide +kernel
theorem dX8_item_0 : decode cX8_item 0 = .ok (.iload_n 1, 1) := by decide +kernel
theorem dX8_item_1 : decode cX8_item 1 = .ok (.invokestatic 141, 3) := by decide +kernel
theorem dX8_item_4 : decode cX8_item 4 = .ok (.ifCond .eq 37, 3) := by decide +kernel
theorem dX8_item_7 : decode cX8_item 7 = .ok (.aload_n 0, 1) := by decide +kernel
theorem dX8_item_8 : decode cX8_item 8 = .ok (.iload_n 1, 1) := by decide +kernel
theorem dX8_item_9 : decode cX8_item 9 = .ok (.invokevirtual 135, 3) := by decide +kernel
theorem dX8_item_12 : decode cX8_item 12 = .ok (.ifCond .eq 29, 3) := by decide +kernel
theorem dX8_item_15 : decode cX8_item 15 = .ok (.aload_n 0, 1) := by decide +kernel
theorem dX8_item_16 : decode cX8_item 16 = .ok (.getfield 31, 3) := by decide +kernel
theorem dX8_item_19 : decode cX8_item 19 = .ok (.iconst 0, 1) := by decide +kernel
theorem dX8_item_20 : decode cX8_item 20 = .ok (.iaload, 1) := by decide +kernel
theorem dX8_item_21 : decode cX8_item 21 = .ok (.iconst 1, 1) := by decide +kernel
theorem dX8_item_22 : decode cX8_item 22 = .ok (.if_icmp .ne 19, 3) := by decide +kernel
theorem dX8_item_25 : decode cX8_item 25 = .ok (.iload_n 2, 1) := by decide +kernel
theorem dX8_item_26 : decode cX8_item 26 = .ok (.iconst 0, 1) := by decide +kernel
theorem dX8_item_27 : decode cX8_item 27 = .ok (.aload_n 0, 1) := by decide +kernel
theorem dX8_item_28 : decode cX8_item 28 = .ok (.getfield 37, 3) := by decide +kernel
theorem dX8_item_31 : decode cX8_item 31 = .ok (.iconst 0, 1) := by decide +kernel
theorem dX8_item_32 : decode cX8_item 32 = .ok (.iaload, 1) := by decide +kernel
theorem dX8_item_33 : decode cX8_item 33 = .ok (.iconst 1, 1) := by decide +kernel
theorem dX8_item_34 : decode cX8_item 34 = .ok (.isub, 1) := by decide +kernel
theorem dX8_item_35 : decode cX8_item 35 = .ok (.invokestatic 74, 3) := by decide +kernel
theorem dX8_item_38 : decode cX8_item 38 = .ok (.ifCond .ne 9, 3) := by decide +kernel
theorem dX8_item_41 : decode cX8_item 41 = .ok (.aload_n 0, 1) := by decide +kernel
theorem dX8_item_42 : decode cX8_item 42 = .ok (.iconst (-1), 1) := by decide +kernel
theorem dX8_item_43 : decode cX8_item 43 = .ok (.invokevirtual 70, 3) := by decide +kernel
theorem dX8_item_46 : decode cX8_item 46 = .ok (.ireturn, 1) := by decide +kernel
theorem dX8_item_47 : decode cX8_item 47 = .ok (.iload_n 3, 1) := by decide +kernel
theorem dX8_item_48 : decode cX8_item 48 = .ok (.ifCond .ne 12, 3) := by decide +kernel
theorem dX8_item_51 : decode cX8_item 51 = .ok (.aload_n 0, 1) := by decide +kernel
theorem dX8_item_52 : decode cX8_item 52 = .ok (.getfield 46, 3) := by decide +kernel
theorem dX8_item_55 : decode cX8_item 55 = .ok (.iload_n 2, 1) := by decide +kernel
theorem dX8_item_56 : decode cX8_item 56 = .ok (.iaload, 1) := by decide +kernel
theorem dX8_item_57 : decode cX8_item 57 = .ok (.goto 37, 3) := by decide +kernel
theorem dX8_item_60 : decode cX8_item 60 = .ok (.iload_n 3, 1) := by decide +kernel
theorem dX8_item_61 : decode cX8_item 61 = .ok (.iconst 1, 1) := by decide +kernel
theorem dX8_item_62 : decode cX8_item 62 = .ok (.if_icmp .ne 12, 3) := by decide +kernel
theorem dX8_item_65 : decode cX8_item 65 = .ok (.aload_n 0, 1) := by decide +kernel
theorem dX8_item_66 : decode cX8_item 66 = .ok (.getfield 49, 3) := by decide +kernel
theorem dX8_item_69 : decode cX8_item 69 = .ok (.iload_n 2, 1) := by decide +kernel
theorem dX8_item_70 : decode cX8_item 70 = .ok (.iaload, 1) := by decide +kernel
theorem dX8_item_71 : decode cX8_item 71 = .ok (.goto 23, 3) := by decide +kernel
theorem dX8_item_74 : decode cX8_item 74 = .ok (.iload_n 3, 1) := by decide +kernel
theorem dX8_item_75 : decode cX8_item 75 = .ok (.iconst 2, 1) := by decide +kernel
theorem dX8_item_76 : decode cX8_item 76 = .ok (.if_icmp .ne 12, 3) := by decide +kernel
theorem dX8_item_79 : decode cX8_item 79 = .ok (.aload_n 0, 1) := by decide +kernel
theorem dX8_item_80 : decode cX8_item 80 = .ok (.getfield 52, 3) := by decide +kernel
theorem dX8_item_83 : decode cX8_item 83 = .ok (.iload_n 2, 1) := by decide +kernel
theorem dX8_item_84 : decode cX8_item 84 = .ok (.iaload, 1) := by decide +kernel
theorem dX8_item_85 : decode cX8_item 85 = .ok (.goto 9, 3) := by decide +kernel
theorem dX8_item_88 : decode cX8_item 88 = .ok (.aload_n 0, 1) := by decide +kernel
theorem dX8_item_89 : decode cX8_item 89 = .ok (.bipush (-2), 2) := by decide +kernel
theorem dX8_item_91 : decode cX8_item 91 = .ok (.invokevirtual 70, 3) := by decide +kernel
theorem dX8_item_94 : decode cX8_item 94 = .ok (.ireturn, 1) := by decide +kernel
theorem dX8_fault_0 : decode cX8_fault 0 = .ok (.iload_n 1, 1) := by decide +kernel
theorem dX8_fault_1 : decode cX8_fault 1 = .ok (.invokestatic 141, 3) := by decide +kernel
theorem dX8_fault_4 : decode cX8_fault 4 = .ok (.ifCond .eq 25, 3) := by decide +kernel
theorem dX8_fault_7 : decode cX8_fault 7 = .ok (.aload_n 0, 1) := by decide +kernel
theorem dX8_fault_8 : decode cX8_fault 8 = .ok (.iload_n 1, 1) := by decide +kernel
theorem dX8_fault_9 : decode cX8_fault 9 = .ok (.invokevirtual 135, 3) := by decide +kernel
theorem dX8_fault_12 : decode cX8_fault 12 = .ok (.ifCond .ne 17, 3) := by decide +kernel
theorem dX8_fault_15 : decode cX8_fault 15 = .ok (.iload_n 2, 1) := by decide +kernel
theorem dX8_fault_16 : decode cX8_fault 16 = .ok (.iconst 0, 1) := by decide +kernel
theorem dX8_fault_17 : decode cX8_fault 17 = .ok (.aload_n 0, 1) := by decide +kernel
theorem dX8_fault_18 : decode cX8_fault 18 = .ok (.getfield 98, 3) := by decide +kernel
theorem dX8_fault_21 : decode cX8_fault 21 = .ok (.iconst 1, 1) := by decide +kernel
theorem dX8_fault_22 : decode cX8_fault 22 = .ok (.isub, 1) := by decide +kernel
theorem dX8_fault_23 : decode cX8_fault 23 = .ok (.invokestatic 74, 3) := by decide +kernel
theorem dX8_fault_26 : decode cX8_fault 26 = .ok (.ifCond .ne 9, 3) := by decide +kernel
theorem dX8_fault_29 : decode cX8_fault 29 = .ok (.aload_n 0, 1) := by decide +kernel
theorem dX8_fault_30 : decode cX8_fault 30 = .ok (.iconst (-1), 1) := by decide +kernel
theorem dX8_fault_31 : decode cX8_fault 31 = .ok (.invokevirtual 70, 3) := by decide +kernel
theorem dX8_fault_34 : decode cX8_fault 34 = .ok (.ireturn, 1) := by decide +kernel
theorem dX8_fault_35 : decode cX8_fault 35 = .ok (.iload_n 3, 1) := by decide +kernel
theorem dX8_fault_36 : decode cX8_fault 36 = .ok (.ifCond .ne 12, 3) := by decide +kernel
theorem dX8_fault_39 : decode cX8_fault 39 = .ok (.aload_n 0, 1) := by decide +kernel
theorem dX8_fault_40 : decode cX8_fault 40 = .ok (.getfield 59, 3) := by decide +kernel
theorem dX8_fault_43 : decode cX8_fault 43 = .ok (.iload_n 2, 1) := by decide +kernel
theorem dX8_fault_44 : decode cX8_fault 44 = .ok (.iaload, 1) := by decide +kernel
theorem dX8_fault_45 : decode cX8_fault 45 = .ok (.goto 23, 3) := by decide +kernel
theorem dX8_fault_48 : decode cX8_fault 48 = .ok (.iload_n 3, 1) := by decide +kernel
theorem dX8_fault_49 : decode cX8_fault 49 = .ok (.iconst 1, 1) := by decide +kernel
theorem dX8_fault_50 : decode cX8_fault 50 = .ok (.if_icmp .ne 12, 3) := by decide +kernel
theorem dX8_fault_53 : decode cX8_fault 53 = .ok (.aload_n 0, 1) := by decide +kernel
theorem dX8_fault_54 : decode cX8_fault 54 = .ok (.getfield 62, 3) := by decide +kernel
theorem dX8_fault_57 : decode cX8_fault 57 = .ok (.iload_n 2, 1) := by decide +kernel
theorem dX8_fault_58 : decode cX8_fault 58 = .ok (.iaload, 1) := by decide +kernel
theorem dX8_fault_59 : decode cX8_fault 59 = .ok (.goto 9, 3) := by decide +kernel
theorem dX8_fault_62 : decode cX8_fault 62 = .ok (.aload_n 0, 1) := by decide +kernel
theorem dX8_fault_63 : decode cX8_fault 63 = .ok (.bipush (-2), 2) := by decide +kernel
theorem dX8_fault_65 : decode cX8_fault 65 = .ok (.invokevirtual 70, 3) := by decide +kernel
theorem dX8_fault_68 : decode cX8_fault 68 = .ok (.ireturn, 1) := by decide +kernel
theorem dX8_sources_0 : decode cX8_sources 0 = .ok (.iload_n 1, 1) := by decide +kernel
theorem dX8_sources_1 : decode cX8_sources 1 = .ok (.invokestatic 141, 3) := by decide +kernel
theorem dX8_sources_4 : decode cX8_sources 4 = .ok (.ifCond .ne 9, 3) := by decide +kernel
theorem dX8_sources_7 : decode cX8_sources 7 = .ok (.aload_n 0, 1) := by decide +kernel
theorem dX8_sources_8 : decode cX8_sources 8 = .ok (.iconst (-1), 1) := by decide +kernel
theorem dX8_sources_9 : decode cX8_sources 9 = .ok (.invokevirtual 70, 3) := by decide +kernel
theorem dX8_sources_12 : decode cX8_sources 12 = .ok (.ireturn, 1) := by decide +kernel
theorem dX8_sources_13 : decode cX8_sources 13 = .ok (.aload_n 0, 1) := by decide +kernel
theorem dX8_sources_14 : decode cX8_sources 14 = .ok (.iload_n 1, 1) := by decide +kernel
theorem dX8_sources_15 : decode cX8_sources 15 = .ok (.invokevirtual 135, 3) := by decide +kernel
theorem dX8_sources_18 : decode cX8_sources 18 = .ok (.ifCond .ne 10, 3) := by decide +kernel
theorem dX8_sources_21 : decode cX8_sources 21 = .ok (.aload_n 0, 1) := by decide +kernel
theorem dX8_sources_22 : decode cX8_sources 22 = .ok (.bipush (-3), 2) := by decide +kernel
theorem dX8_sources_24 : decode cX8_sources 24 = .ok (.invokevirtual 70, 3) := by decide +kernel
theorem dX8_sources_27 : decode cX8_sources 27 = .ok (.ireturn, 1) := by decide +kernel
theorem dX8_sources_28 : decode cX8_sources 28 = .ok (.iload_n 2, 1) := by decide +kernel
theorem dX8_sources_29 : decode cX8_sources 29 = .ok (.ifCond .ne 12, 3) := by decide +kernel
theorem dX8_sources_32 : decode cX8_sources 32 = .ok (.aload_n 0, 1) := by decide +kernel
theorem dX8_sources_33 : decode cX8_sources 33 = .ok (.getfield 40, 3) := by decide +kernel
theorem dX8_sources_36 : decode cX8_sources 36 = .ok (.iconst 0, 1) := by decide +kernel
theorem dX8_sources_37 : decode cX8_sources 37 = .ok (.iaload, 1) := by decide +kernel
theorem dX8_sources_38 : decode cX8_sources 38 = .ok (.goto 23, 3) := by decide +kernel
theorem dX8_sources_41 : decode cX8_sources 41 = .ok (.iload_n 2, 1) := by decide +kernel
theorem dX8_sources_42 : decode cX8_sources 42 = .ok (.iconst 1, 1) := by decide +kernel
theorem dX8_sources_43 : decode cX8_sources 43 = .ok (.if_icmp .ne 12, 3) := by decide +kernel
theorem dX8_sources_46 : decode cX8_sources 46 = .ok (.aload_n 0, 1) := by decide +kernel
theorem dX8_sources_47 : decode cX8_sources 47 = .ok (.getfield 43, 3) := by decide +kernel
theorem dX8_sources_50 : decode cX8_sources 50 = .ok (.iconst 0, 1) := by decide +kernel
theorem dX8_sources_51 : decode cX8_sources 51 = .ok (.iaload, 1) := by decide +kernel
theorem dX8_sources_52 : decode cX8_sources 52 = .ok (.goto 9, 3) := by decide +kernel
theorem dX8_sources_55 : decode cX8_sources 55 = .ok (.aload_n 0, 1) := by decide +kernel
theorem dX8_sources_56 : decode cX8_sources 56 = .ok (.bipush (-2), 2) := by decide +kernel
theorem dX8_sources_58 : decode cX8_sources 58 = .ok (.invokevirtual 70, 3) := by decide +kernel
theorem dX8_sources_61 : decode cX8_sources 61 = .ok (.ireturn, 1) := by decide +kernel
theorem dX8_usesOf_0 : decode cX8_usesOf 0 = .ok (.aload_n 0, 1) := by decide +kernel
theorem dX8_usesOf_1 : decode cX8_usesOf 1 = .ok (.iload_n 1, 1) := by decide +kernel
theorem dX8_usesOf_2 : decode cX8_usesOf 2 = .ok (.invokevirtual 135, 3) := by decide +kernel
theorem dX8_usesOf_5 : decode cX8_usesOf 5 = .ok (.pop, 1) := by decide +kernel
theorem dX8_usesOf_6 : decode cX8_usesOf 6 = .ok (.aload_n 0, 1) := by decide +kernel
theorem dX8_usesOf_7 : decode cX8_usesOf 7 = .ok (.getfield 105, 3) := by decide +kernel
theorem dX8_usesOf_10 : decode cX8_usesOf 10 = .ok (.iconst 1, 1) := by decide +kernel
theorem dX8_usesOf_11 : decode cX8_usesOf 11 = .ok (.iload_n 1, 1) := by decide +kernel
theorem dX8_usesOf_12 : decode cX8_usesOf 12 = .ok (.ishl, 1) := by decide +kernel
theorem dX8_usesOf_13 : decode cX8_usesOf 13 = .ok (.iconst (-1), 1) := by decide +kernel
theorem dX8_usesOf_14 : decode cX8_usesOf 14 = .ok (.ixor, 1) := by decide +kernel
theorem dX8_usesOf_15 : decode cX8_usesOf 15 = .ok (.iand, 1) := by decide +kernel
theorem dX8_usesOf_16 : decode cX8_usesOf 16 = .ok (.ireturn, 1) := by decide +kernel
theorem dX8_uses_0 : decode cX8_uses 0 = .ok (.iload_n 1, 1) := by decide +kernel
theorem dX8_uses_1 : decode cX8_uses 1 = .ok (.invokestatic 141, 3) := by decide +kernel
theorem dX8_uses_4 : decode cX8_uses 4 = .ok (.ifCond .ne 9, 3) := by decide +kernel
theorem dX8_uses_7 : decode cX8_uses 7 = .ok (.aload_n 0, 1) := by decide +kernel
theorem dX8_uses_8 : decode cX8_uses 8 = .ok (.iconst (-1), 1) := by decide +kernel
theorem dX8_uses_9 : decode cX8_uses 9 = .ok (.invokevirtual 70, 3) := by decide +kernel
theorem dX8_uses_12 : decode cX8_uses 12 = .ok (.ireturn, 1) := by decide +kernel
theorem dX8_uses_13 : decode cX8_uses 13 = .ok (.iload_n 2, 1) := by decide +kernel
theorem dX8_uses_14 : decode cX8_uses 14 = .ok (.iconst 0, 1) := by decide +kernel
theorem dX8_uses_15 : decode cX8_uses 15 = .ok (.iconst 1, 1) := by decide +kernel
theorem dX8_uses_16 : decode cX8_uses 16 = .ok (.invokestatic 74, 3) := by decide +kernel
theorem dX8_uses_19 : decode cX8_uses 19 = .ok (.ifCond .ne 10, 3) := by decide +kernel
theorem dX8_uses_22 : decode cX8_uses 22 = .ok (.aload_n 0, 1) := by decide +kernel
theorem dX8_uses_23 : decode cX8_uses 23 = .ok (.bipush (-2), 2) := by decide +kernel
theorem dX8_uses_25 : decode cX8_uses 25 = .ok (.invokevirtual 70, 3) := by decide +kernel
theorem dX8_uses_28 : decode cX8_uses 28 = .ok (.ireturn, 1) := by decide +kernel
theorem dX8_uses_29 : decode cX8_uses 29 = .ok (.iload_n 2, 1) := by decide +kernel
theorem dX8_uses_30 : decode cX8_uses 30 = .ok (.ifCond .ne 9, 3) := by decide +kernel
theorem dX8_uses_33 : decode cX8_uses 33 = .ok (.aload_n 0, 1) := by decide +kernel
theorem dX8_uses_34 : decode cX8_uses 34 = .ok (.iload_n 1, 1) := by decide +kernel
theorem dX8_uses_35 : decode cX8_uses 35 = .ok (.invokevirtual 195, 3) := by decide +kernel
theorem dX8_uses_38 : decode cX8_uses 38 = .ok (.ireturn, 1) := by decide +kernel
theorem dX8_uses_39 : decode cX8_uses 39 = .ok (.iconst 0, 1) := by decide +kernel
theorem dX8_uses_40 : decode cX8_uses 40 = .ok (.istore_n 3, 1) := by decide +kernel
theorem dX8_uses_41 : decode cX8_uses 41 = .ok (.iconst 0, 1) := by decide +kernel
theorem dX8_uses_42 : decode cX8_uses 42 = .ok (.istore 4, 2) := by decide +kernel
theorem dX8_uses_44 : decode cX8_uses 44 = .ok (.iload 4, 2) := by decide +kernel
theorem dX8_uses_46 : decode cX8_uses 46 = .ok (.bipush 8, 2) := by decide +kernel
theorem dX8_uses_48 : decode cX8_uses 48 = .ok (.if_icmp .ge 25, 3) := by decide +kernel
theorem dX8_uses_51 : decode cX8_uses 51 = .ok (.iload_n 3, 1) := by decide +kernel
theorem dX8_uses_52 : decode cX8_uses 52 = .ok (.aload_n 0, 1) := by decide +kernel
theorem dX8_uses_53 : decode cX8_uses 53 = .ok (.iload 4, 2) := by decide +kernel
theorem dX8_uses_55 : decode cX8_uses 55 = .ok (.invokevirtual 195, 3) := by decide +kernel
theorem dX8_uses_58 : decode cX8_uses 58 = .ok (.iload_n 1, 1) := by decide +kernel
theorem dX8_uses_59 : decode cX8_uses 59 = .ok (.ishr, 1) := by decide +kernel
theorem dX8_uses_60 : decode cX8_uses 60 = .ok (.iconst 1, 1) := by decide +kernel
theorem dX8_uses_61 : decode cX8_uses 61 = .ok (.iand, 1) := by decide +kernel
theorem dX8_uses_62 : decode cX8_uses 62 = .ok (.iload 4, 2) := by decide +kernel
theorem dX8_uses_64 : decode cX8_uses 64 = .ok (.ishl, 1) := by decide +kernel
theorem dX8_uses_65 : decode cX8_uses 65 = .ok (.ior, 1) := by decide +kernel
theorem dX8_uses_66 : decode cX8_uses 66 = .ok (.istore_n 3, 1) := by decide +kernel
theorem dX8_uses_67 : decode cX8_uses 67 = .ok (.iinc 4 1, 3) := by decide +kernel
theorem dX8_uses_70 : decode cX8_uses 70 = .ok (.goto (-26), 3) := by decide +kernel
theorem dX8_uses_73 : decode cX8_uses 73 = .ok (.iload_n 3, 1) := by decide +kernel
theorem dX8_uses_74 : decode cX8_uses 74 = .ok (.ireturn, 1) := by decide +kernel
theorem dX8_isSo_0 : decode cX8_isSo 0 = .ok (.aload_n 0, 1) := by decide +kernel
theorem dX8_isSo_1 : decode cX8_isSo 1 = .ok (.iload_n 1, 1) := by decide +kernel
theorem dX8_isSo_2 : decode cX8_isSo 2 = .ok (.invokevirtual 135, 3) := by decide +kernel
theorem dX8_isSo_5 : decode cX8_isSo 5 = .ok (.istore_n 3, 1) := by decide +kernel
theorem dX8_isSo_6 : decode cX8_isSo 6 = .ok (.iload_n 2, 1) := by decide +kernel
theorem dX8_isSo_7 : decode cX8_isSo 7 = .ok (.ifCond .ne 45, 3) := by decide +kernel
theorem dX8_isSo_10 : decode cX8_isSo 10 = .ok (.iload_n 3, 1) := by decide +kernel
theorem dX8_isSo_11 : decode cX8_isSo 11 = .ok (.ifCond .ne 37, 3) := by decide +kernel
theorem dX8_isSo_14 : decode cX8_isSo 14 = .ok (.aload_n 0, 1) := by decide +kernel
theorem dX8_isSo_15 : decode cX8_isSo 15 = .ok (.getfield 59, 3) := by decide +kernel
theorem dX8_isSo_18 : decode cX8_isSo 18 = .ok (.aload_n 0, 1) := by decide +kernel
theorem dX8_isSo_19 : decode cX8_isSo 19 = .ok (.getfield 98, 3) := by decide +kernel
theorem dX8_isSo_22 : decode cX8_isSo 22 = .ok (.iconst 1, 1) := by decide +kernel
theorem dX8_isSo_23 : decode cX8_isSo 23 = .ok (.isub, 1) := by decide +kernel
theorem dX8_isSo_24 : decode cX8_isSo 24 = .ok (.iaload, 1) := by decide +kernel
theorem dX8_isSo_25 : decode cX8_isSo 25 = .ok (.iconst 2, 1) := by decide +kernel
theorem dX8_isSo_26 : decode cX8_isSo 26 = .ok (.if_icmp .ne 22, 3) := by decide +kernel
theorem dX8_isSo_29 : decode cX8_isSo 29 = .ok (.aload_n 0, 1) := by decide +kernel
theorem dX8_isSo_30 : decode cX8_isSo 30 = .ok (.getfield 62, 3) := by decide +kernel
theorem dX8_isSo_33 : decode cX8_isSo 33 = .ok (.aload_n 0, 1) := by decide +kernel
theorem dX8_isSo_34 : decode cX8_isSo 34 = .ok (.getfield 98, 3) := by decide +kernel
theorem dX8_isSo_37 : decode cX8_isSo 37 = .ok (.iconst 1, 1) := by decide +kernel
theorem dX8_isSo_38 : decode cX8_isSo 38 = .ok (.isub, 1) := by decide +kernel
theorem dX8_isSo_39 : decode cX8_isSo 39 = .ok (.iaload, 1) := by decide +kernel
theorem dX8_isSo_40 : decode cX8_isSo 40 = .ok (.iload_n 1, 1) := by decide +kernel
theorem dX8_isSo_41 : decode cX8_isSo 41 = .ok (.if_icmp .ne 7, 3) := by decide +kernel
theorem dX8_isSo_44 : decode cX8_isSo 44 = .ok (.iconst 1, 1) := by decide +kernel
theorem dX8_isSo_45 : decode cX8_isSo 45 = .ok (.goto 30, 3) := by decide +kernel
theorem dX8_isSo_48 : decode cX8_isSo 48 = .ok (.iconst 0, 1) := by decide +kernel
theorem dX8_isSo_49 : decode cX8_isSo 49 = .ok (.goto 26, 3) := by decide +kernel
theorem dX8_isSo_52 : decode cX8_isSo 52 = .ok (.iload_n 3, 1) := by decide +kernel
theorem dX8_isSo_53 : decode cX8_isSo 53 = .ok (.ifCond .eq 21, 3) := by decide +kernel
theorem dX8_isSo_56 : decode cX8_isSo 56 = .ok (.iload_n 2, 1) := by decide +kernel
theorem dX8_isSo_57 : decode cX8_isSo 57 = .ok (.iconst 1, 1) := by decide +kernel
theorem dX8_isSo_58 : decode cX8_isSo 58 = .ok (.if_icmp .eq 12, 3) := by decide +kernel
theorem dX8_isSo_61 : decode cX8_isSo 61 = .ok (.aload_n 0, 1) := by decide +kernel
theorem dX8_isSo_62 : decode cX8_isSo 62 = .ok (.getfield 31, 3) := by decide +kernel
theorem dX8_isSo_65 : decode cX8_isSo 65 = .ok (.iconst 0, 1) := by decide +kernel
theorem dX8_isSo_66 : decode cX8_isSo 66 = .ok (.iaload, 1) := by decide +kernel
theorem dX8_isSo_67 : decode cX8_isSo 67 = .ok (.ifCond .ne 7, 3) := by decide +kernel
theorem dX8_isSo_70 : decode cX8_isSo 70 = .ok (.iconst 1, 1) := by decide +kernel
theorem dX8_isSo_71 : decode cX8_isSo 71 = .ok (.goto 4, 3) := by decide +kernel
theorem dX8_isSo_74 : decode cX8_isSo 74 = .ok (.iconst 0, 1) := by decide +kernel
theorem dX8_isSo_75 : decode cX8_isSo 75 = .ok (.ireturn, 1) := by decide +kernel
theorem dX8_allSo_0 : decode cX8_allSo 0 = .ok (.iconst 0, 1) := by decide +kernel
theorem dX8_allSo_1 : decode cX8_allSo 1 = .ok (.istore_n 2, 1) := by decide +kernel
theorem dX8_allSo_2 : decode cX8_allSo 2 = .ok (.iconst 0, 1) := by decide +kernel
theorem dX8_allSo_3 : decode cX8_allSo 3 = .ok (.istore_n 3, 1) := by decide +kernel
theorem dX8_allSo_4 : decode cX8_allSo 4 = .ok (.iload_n 3, 1) := by decide +kernel
theorem dX8_allSo_5 : decode cX8_allSo 5 = .ok (.bipush 8, 2) := by decide +kernel
theorem dX8_allSo_7 : decode cX8_allSo 7 = .ok (.if_icmp .ge 28, 3) := by decide +kernel
theorem dX8_allSo_10 : decode cX8_allSo 10 = .ok (.iload_n 2, 1) := by decide +kernel
theorem dX8_allSo_11 : decode cX8_allSo 11 = .ok (.aload_n 0, 1) := by decide +kernel
theorem dX8_allSo_12 : decode cX8_allSo 12 = .ok (.iload_n 3, 1) := by decide +kernel
theorem dX8_allSo_13 : decode cX8_allSo 13 = .ok (.iload_n 1, 1) := by decide +kernel
theorem dX8_allSo_14 : decode cX8_allSo 14 = .ok (.invokevirtual 198, 3) := by decide +kernel
theorem dX8_allSo_17 : decode cX8_allSo 17 = .ok (.ifCond .eq 9, 3) := by decide +kernel
theorem dX8_allSo_20 : decode cX8_allSo 20 = .ok (.iconst 1, 1) := by decide +kernel
theorem dX8_allSo_21 : decode cX8_allSo 21 = .ok (.iload_n 3, 1) := by decide +kernel
theorem dX8_allSo_22 : decode cX8_allSo 22 = .ok (.ishl, 1) := by decide +kernel
theorem dX8_allSo_23 : decode cX8_allSo 23 = .ok (.goto 4, 3) := by decide +kernel
theorem dX8_allSo_26 : decode cX8_allSo 26 = .ok (.iconst 0, 1) := by decide +kernel
theorem dX8_allSo_27 : decode cX8_allSo 27 = .ok (.ior, 1) := by decide +kernel
theorem dX8_allSo_28 : decode cX8_allSo 28 = .ok (.istore_n 2, 1) := by decide +kernel
theorem dX8_allSo_29 : decode cX8_allSo 29 = .ok (.iinc 3 1, 3) := by decide +kernel
theorem dX8_allSo_32 : decode cX8_allSo 32 = .ok (.goto (-28), 3) := by decide +kernel
theorem dX8_allSo_35 : decode cX8_allSo 35 = .ok (.iload_n 2, 1) := by decide +kernel
theorem dX8_allSo_36 : decode cX8_allSo 36 = .ok (.ireturn, 1) := by decide +kernel
theorem dX8_all_0 : decode cX8_all 0 = .ok (.iload_n 1, 1) := by decide +kernel
theorem dX8_all_1 : decode cX8_all 1 = .ok (.iconst 0, 1) := by decide +kernel
theorem dX8_all_2 : decode cX8_all 2 = .ok (.iconst 2, 1) := by decide +kernel
theorem dX8_all_3 : decode cX8_all 3 = .ok (.invokestatic 74, 3) := by decide +kernel
theorem dX8_all_6 : decode cX8_all 6 = .ok (.ifCond .eq 11, 3) := by decide +kernel
theorem dX8_all_9 : decode cX8_all 9 = .ok (.aload_n 0, 1) := by decide +kernel
theorem dX8_all_10 : decode cX8_all 10 = .ok (.iload_n 1, 1) := by decide +kernel
theorem dX8_all_11 : decode cX8_all 11 = .ok (.invokevirtual 201, 3) := by decide +kernel
theorem dX8_all_14 : decode cX8_all 14 = .ok (.goto 9, 3) := by decide +kernel
theorem dX8_all_17 : decode cX8_all 17 = .ok (.aload_n 0, 1) := by decide +kernel
theorem dX8_all_18 : decode cX8_all 18 = .ok (.bipush (-2), 2) := by decide +kernel
theorem dX8_all_20 : decode cX8_all 20 = .ok (.invokevirtual 70, 3) := by decide +kernel
theorem dX8_all_23 : decode cX8_all 23 = .ok (.ireturn, 1) := by decide +kernel
theorem dX8_told_0 : decode cX8_told 0 = .ok (.aload_n 0, 1) := by decide +kernel
theorem dX8_told_1 : decode cX8_told 1 = .ok (.getfield 65, 3) := by decide +kernel
theorem dX8_told_4 : decode cX8_told 4 = .ok (.bipush 110, 2) := by decide +kernel
theorem dX8_told_6 : decode cX8_told 6 = .ok (.iload_n 1, 1) := by decide +kernel
theorem dX8_told_7 : decode cX8_told 7 = .ok (.imul, 1) := by decide +kernel
theorem dX8_told_8 : decode cX8_told 8 = .ok (.iload_n 2, 1) := by decide +kernel
theorem dX8_told_9 : decode cX8_told 9 = .ok (.iadd, 1) := by decide +kernel
theorem dX8_told_10 : decode cX8_told 10 = .ok (.iaload, 1) := by decide +kernel
theorem dX8_told_11 : decode cX8_told 11 = .ok (.ireturn, 1) := by decide +kernel
theorem dX8_tells_0 : decode cX8_tells 0 = .ok (.bipush 110, 2) := by decide +kernel
theorem dX8_tells_2 : decode cX8_tells 2 = .ok (.iload_n 1, 1) := by decide +kernel
theorem dX8_tells_3 : decode cX8_tells 3 = .ok (.imul, 1) := by decide +kernel
theorem dX8_tells_4 : decode cX8_tells 4 = .ok (.istore_n 2, 1) := by decide +kernel
theorem dX8_tells_5 : decode cX8_tells 5 = .ok (.aload_n 0, 1) := by decide +kernel
theorem dX8_tells_6 : decode cX8_tells 6 = .ok (.iload_n 1, 1) := by decide +kernel
theorem dX8_tells_7 : decode cX8_tells 7 = .ok (.invokevirtual 135, 3) := by decide +kernel
theorem dX8_tells_10 : decode cX8_tells 10 = .ok (.istore_n 3, 1) := by decide +kernel
theorem dX8_tells_11 : decode cX8_tells 11 = .ok (.aload_n 0, 1) := by decide +kernel
theorem dX8_tells_12 : decode cX8_tells 12 = .ok (.getfield 65, 3) := by decide +kernel
theorem dX8_tells_15 : decode cX8_tells 15 = .ok (.iload_n 2, 1) := by decide +kernel
theorem dX8_tells_16 : decode cX8_tells 16 = .ok (.iload_n 3, 1) := by decide +kernel
theorem dX8_tells_17 : decode cX8_tells 17 = .ok (.ifCond .eq 12, 3) := by decide +kernel
theorem dX8_tells_20 : decode cX8_tells 20 = .ok (.aload_n 0, 1) := by decide +kernel
theorem dX8_tells_21 : decode cX8_tells 21 = .ok (.getfield 31, 3) := by decide +kernel
theorem dX8_tells_24 : decode cX8_tells 24 = .ok (.iconst 0, 1) := by decide +kernel
theorem dX8_tells_25 : decode cX8_tells 25 = .ok (.iaload, 1) := by decide +kernel
theorem dX8_tells_26 : decode cX8_tells 26 = .ok (.goto 4, 3) := by decide +kernel
theorem dX8_tells_29 : decode cX8_tells 29 = .ok (.iconst 2, 1) := by decide +kernel
theorem dX8_tells_30 : decode cX8_tells 30 = .ok (.iastore, 1) := by decide +kernel
theorem dX8_tells_31 : decode cX8_tells 31 = .ok (.aload_n 0, 1) := by decide +kernel
theorem dX8_tells_32 : decode cX8_tells 32 = .ok (.getfield 65, 3) := by decide +kernel
theorem dX8_tells_35 : decode cX8_tells 35 = .ok (.iload_n 2, 1) := by decide +kernel
theorem dX8_tells_36 : decode cX8_tells 36 = .ok (.iconst 1, 1) := by decide +kernel
theorem dX8_tells_37 : decode cX8_tells 37 = .ok (.iadd, 1) := by decide +kernel
theorem dX8_tells_38 : decode cX8_tells 38 = .ok (.iload_n 3, 1) := by decide +kernel
theorem dX8_tells_39 : decode cX8_tells 39 = .ok (.ifCond .eq 28, 3) := by decide +kernel
theorem dX8_tells_42 : decode cX8_tells 42 = .ok (.aload_n 0, 1) := by decide +kernel
theorem dX8_tells_43 : decode cX8_tells 43 = .ok (.getfield 31, 3) := by decide +kernel
theorem dX8_tells_46 : decode cX8_tells 46 = .ok (.iconst 0, 1) := by decide +kernel
theorem dX8_tells_47 : decode cX8_tells 47 = .ok (.iaload, 1) := by decide +kernel
theorem dX8_tells_48 : decode cX8_tells 48 = .ok (.iconst 1, 1) := by decide +kernel
theorem dX8_tells_49 : decode cX8_tells 49 = .ok (.if_icmp .ne 14, 3) := by decide +kernel
theorem dX8_tells_52 : decode cX8_tells 52 = .ok (.iconst 2, 1) := by decide +kernel
theorem dX8_tells_53 : decode cX8_tells 53 = .ok (.aload_n 0, 1) := by decide +kernel
theorem dX8_tells_54 : decode cX8_tells 54 = .ok (.getfield 37, 3) := by decide +kernel
theorem dX8_tells_57 : decode cX8_tells 57 = .ok (.iconst 0, 1) := by decide +kernel
theorem dX8_tells_58 : decode cX8_tells 58 = .ok (.iaload, 1) := by decide +kernel
theorem dX8_tells_59 : decode cX8_tells 59 = .ok (.imul, 1) := by decide +kernel
theorem dX8_tells_60 : decode cX8_tells 60 = .ok (.goto 11, 3) := by decide +kernel
theorem dX8_tells_63 : decode cX8_tells 63 = .ok (.iconst 1, 1) := by decide +kernel
theorem dX8_tells_64 : decode cX8_tells 64 = .ok (.goto 7, 3) := by decide +kernel
theorem dX8_tells_67 : decode cX8_tells 67 = .ok (.aload_n 0, 1) := by decide +kernel
theorem dX8_tells_68 : decode cX8_tells 68 = .ok (.getfield 98, 3) := by decide +kernel
theorem dX8_tells_71 : decode cX8_tells 71 = .ok (.iastore, 1) := by decide +kernel
theorem dX8_tells_72 : decode cX8_tells 72 = .ok (.iconst 0, 1) := by decide +kernel
theorem dX8_tells_73 : decode cX8_tells 73 = .ok (.istore 4, 2) := by decide +kernel
theorem dX8_tells_75 : decode cX8_tells 75 = .ok (.iload 4, 2) := by decide +kernel
theorem dX8_tells_77 : decode cX8_tells 77 = .ok (.aload_n 0, 1) := by decide +kernel
theorem dX8_tells_78 : decode cX8_tells 78 = .ok (.getfield 65, 3) := by decide +kernel
theorem dX8_tells_81 : decode cX8_tells 81 = .ok (.iload_n 2, 1) := by decide +kernel
theorem dX8_tells_82 : decode cX8_tells 82 = .ok (.iconst 1, 1) := by decide +kernel
theorem dX8_tells_83 : decode cX8_tells 83 = .ok (.iadd, 1) := by decide +kernel
theorem dX8_tells_84 : decode cX8_tells 84 = .ok (.iaload, 1) := by decide +kernel
theorem dX8_tells_85 : decode cX8_tells 85 = .ok (.if_icmp .ge 80, 3) := by decide +kernel
theorem dX8_tells_88 : decode cX8_tells 88 = .ok (.aload_n 0, 1) := by decide +kernel
theorem dX8_tells_89 : decode cX8_tells 89 = .ok (.getfield 65, 3) := by decide +kernel
theorem dX8_tells_92 : decode cX8_tells 92 = .ok (.iload_n 2, 1) := by decide +kernel
theorem dX8_tells_93 : decode cX8_tells 93 = .ok (.iconst 2, 1) := by decide +kernel
theorem dX8_tells_94 : decode cX8_tells 94 = .ok (.iadd, 1) := by decide +kernel
theorem dX8_tells_95 : decode cX8_tells 95 = .ok (.iload 4, 2) := by decide +kernel
theorem dX8_tells_97 : decode cX8_tells 97 = .ok (.iadd, 1) := by decide +kernel
theorem dX8_tells_98 : decode cX8_tells 98 = .ok (.iload_n 3, 1) := by decide +kernel
theorem dX8_tells_99 : decode cX8_tells 99 = .ok (.ifCond .ne 13, 3) := by decide +kernel
theorem dX8_tells_102 : decode cX8_tells 102 = .ok (.aload_n 0, 1) := by decide +kernel
theorem dX8_tells_103 : decode cX8_tells 103 = .ok (.getfield 59, 3) := by decide +kernel
theorem dX8_tells_106 : decode cX8_tells 106 = .ok (.iload 4, 2) := by decide +kernel
theorem dX8_tells_108 : decode cX8_tells 108 = .ok (.iaload, 1) := by decide +kernel
theorem dX8_tells_109 : decode cX8_tells 109 = .ok (.goto 49, 3) := by decide +kernel
theorem dX8_tells_112 : decode cX8_tells 112 = .ok (.aload_n 0, 1) := by decide +kernel
theorem dX8_tells_113 : decode cX8_tells 113 = .ok (.getfield 31, 3) := by decide +kernel
theorem dX8_tells_116 : decode cX8_tells 116 = .ok (.iconst 0, 1) := by decide +kernel
theorem dX8_tells_117 : decode cX8_tells 117 = .ok (.iaload, 1) := by decide +kernel
theorem dX8_tells_118 : decode cX8_tells 118 = .ok (.ifCond .ne 12, 3) := by decide +kernel
theorem dX8_tells_121 : decode cX8_tells 121 = .ok (.aload_n 0, 1) := by decide +kernel
theorem dX8_tells_122 : decode cX8_tells 122 = .ok (.getfield 34, 3) := by decide +kernel
theorem dX8_tells_125 : decode cX8_tells 125 = .ok (.iconst 0, 1) := by decide +kernel
theorem dX8_tells_126 : decode cX8_tells 126 = .ok (.iaload, 1) := by decide +kernel
theorem dX8_tells_127 : decode cX8_tells 127 = .ok (.goto 31, 3) := by decide +kernel
theorem dX8_tells_130 : decode cX8_tells 130 = .ok (.iload 4, 2) := by decide +kernel
theorem dX8_tells_132 : decode cX8_tells 132 = .ok (.iconst 2, 1) := by decide +kernel
theorem dX8_tells_133 : decode cX8_tells 133 = .ok (.irem, 1) := by decide +kernel
theorem dX8_tells_134 : decode cX8_tells 134 = .ok (.ifCond .ne 15, 3) := by decide +kernel
theorem dX8_tells_137 : decode cX8_tells 137 = .ok (.aload_n 0, 1) := by decide +kernel
theorem dX8_tells_138 : decode cX8_tells 138 = .ok (.getfield 46, 3) := by decide +kernel
theorem dX8_tells_141 : decode cX8_tells 141 = .ok (.iload 4, 2) := by decide +kernel
theorem dX8_tells_143 : decode cX8_tells 143 = .ok (.iconst 2, 1) := by decide +kernel
theorem dX8_tells_144 : decode cX8_tells 144 = .ok (.idiv, 1) := by decide +kernel
theorem dX8_tells_145 : decode cX8_tells 145 = .ok (.iaload, 1) := by decide +kernel
theorem dX8_tells_146 : decode cX8_tells 146 = .ok (.goto 12, 3) := by decide +kernel
theorem dX8_tells_149 : decode cX8_tells 149 = .ok (.aload_n 0, 1) := by decide +kernel
theorem dX8_tells_150 : decode cX8_tells 150 = .ok (.getfield 49, 3) := by decide +kernel
theorem dX8_tells_153 : decode cX8_tells 153 = .ok (.iload 4, 2) := by decide +kernel
theorem dX8_tells_155 : decode cX8_tells 155 = .ok (.iconst 2, 1) := by decide +kernel
theorem dX8_tells_156 : decode cX8_tells 156 = .ok (.idiv, 1) := by decide +kernel
theorem dX8_tells_157 : decode cX8_tells 157 = .ok (.iaload, 1) := by decide +kernel
theorem dX8_tells_158 : decode cX8_tells 158 = .ok (.iastore, 1) := by decide +kernel
theorem dX8_tells_159 : decode cX8_tells 159 = .ok (.iinc 4 1, 3) := by decide +kernel
theorem dX8_tells_162 : decode cX8_tells 162 = .ok (.goto (-87), 3) := by decide +kernel
theorem dX8_tells_165 : decode cX8_tells 165 = .ok (.return_, 1) := by decide +kernel
theorem dX8_isLike_0 : decode cX8_isLike 0 = .ok (.aload_n 0, 1) := by decide +kernel
theorem dX8_isLike_1 : decode cX8_isLike 1 = .ok (.iload_n 1, 1) := by decide +kernel
theorem dX8_isLike_2 : decode cX8_isLike 2 = .ok (.invokevirtual 135, 3) := by decide +kernel
theorem dX8_isLike_5 : decode cX8_isLike 5 = .ok (.istore_n 2, 1) := by decide +kernel
theorem dX8_isLike_6 : decode cX8_isLike 6 = .ok (.aload_n 0, 1) := by decide +kernel
theorem dX8_isLike_7 : decode cX8_isLike 7 = .ok (.iload_n 1, 1) := by decide +kernel
theorem dX8_isLike_8 : decode cX8_isLike 8 = .ok (.iconst 0, 1) := by decide +kernel
theorem dX8_isLike_9 : decode cX8_isLike 9 = .ok (.invokevirtual 204, 3) := by decide +kernel
theorem dX8_isLike_12 : decode cX8_isLike 12 = .ok (.iload_n 2, 1) := by decide +kernel
theorem dX8_isLike_13 : decode cX8_isLike 13 = .ok (.ifCond .eq 12, 3) := by decide +kernel
theorem dX8_isLike_16 : decode cX8_isLike 16 = .ok (.aload_n 0, 1) := by decide +kernel
theorem dX8_isLike_17 : decode cX8_isLike 17 = .ok (.getfield 31, 3) := by decide +kernel
theorem dX8_isLike_20 : decode cX8_isLike 20 = .ok (.iconst 0, 1) := by decide +kernel
theorem dX8_isLike_21 : decode cX8_isLike 21 = .ok (.iaload, 1) := by decide +kernel
theorem dX8_isLike_22 : decode cX8_isLike 22 = .ok (.goto 4, 3) := by decide +kernel
theorem dX8_isLike_25 : decode cX8_isLike 25 = .ok (.iconst 2, 1) := by decide +kernel
theorem dX8_isLike_26 : decode cX8_isLike 26 = .ok (.if_icmp .ne 45, 3) := by decide +kernel
theorem dX8_isLike_29 : decode cX8_isLike 29 = .ok (.aload_n 0, 1) := by decide +kernel
theorem dX8_isLike_30 : decode cX8_isLike 30 = .ok (.iload_n 1, 1) := by decide +kernel
theorem dX8_isLike_31 : decode cX8_isLike 31 = .ok (.iconst 1, 1) := by decide +kernel
theorem dX8_isLike_32 : decode cX8_isLike 32 = .ok (.invokevirtual 204, 3) := by decide +kernel
theorem dX8_isLike_35 : decode cX8_isLike 35 = .ok (.iload_n 2, 1) := by decide +kernel
theorem dX8_isLike_36 : decode cX8_isLike 36 = .ok (.ifCond .eq 28, 3) := by decide +kernel
theorem dX8_isLike_39 : decode cX8_isLike 39 = .ok (.aload_n 0, 1) := by decide +kernel
theorem dX8_isLike_40 : decode cX8_isLike 40 = .ok (.getfield 31, 3) := by decide +kernel
theorem dX8_isLike_43 : decode cX8_isLike 43 = .ok (.iconst 0, 1) := by decide +kernel
theorem dX8_isLike_44 : decode cX8_isLike 44 = .ok (.iaload, 1) := by decide +kernel
theorem dX8_isLike_45 : decode cX8_isLike 45 = .ok (.iconst 1, 1) := by decide +kernel
theorem dX8_isLike_46 : decode cX8_isLike 46 = .ok (.if_icmp .ne 14, 3) := by decide +kernel
theorem dX8_isLike_49 : decode cX8_isLike 49 = .ok (.iconst 2, 1) := by decide +kernel
theorem dX8_isLike_50 : decode cX8_isLike 50 = .ok (.aload_n 0, 1) := by decide +kernel
theorem dX8_isLike_51 : decode cX8_isLike 51 = .ok (.getfield 37, 3) := by decide +kernel
theorem dX8_isLike_54 : decode cX8_isLike 54 = .ok (.iconst 0, 1) := by decide +kernel
theorem dX8_isLike_55 : decode cX8_isLike 55 = .ok (.iaload, 1) := by decide +kernel
theorem dX8_isLike_56 : decode cX8_isLike 56 = .ok (.imul, 1) := by decide +kernel
theorem dX8_isLike_57 : decode cX8_isLike 57 = .ok (.goto 11, 3) := by decide +kernel
theorem dX8_isLike_60 : decode cX8_isLike 60 = .ok (.iconst 1, 1) := by decide +kernel
theorem dX8_isLike_61 : decode cX8_isLike 61 = .ok (.goto 7, 3) := by decide +kernel
theorem dX8_isLike_64 : decode cX8_isLike 64 = .ok (.aload_n 0, 1) := by decide +kernel
theorem dX8_isLike_65 : decode cX8_isLike 65 = .ok (.getfield 98, 3) := by decide +kernel
theorem dX8_isLike_68 : decode cX8_isLike 68 = .ok (.if_icmp .eq 5, 3) := by decide +kernel
theorem dX8_isLike_71 : decode cX8_isLike 71 = .ok (.iconst 0, 1) := by decide +kernel
theorem dX8_isLike_72 : decode cX8_isLike 72 = .ok (.ireturn, 1) := by decide +kernel
theorem dX8_isLike_73 : decode cX8_isLike 73 = .ok (.iconst 0, 1) := by decide +kernel
theorem dX8_isLike_74 : decode cX8_isLike 74 = .ok (.istore_n 3, 1) := by decide +kernel
theorem dX8_isLike_75 : decode cX8_isLike 75 = .ok (.iload_n 3, 1) := by decide +kernel
theorem dX8_isLike_76 : decode cX8_isLike 76 = .ok (.aload_n 0, 1) := by decide +kernel
theorem dX8_isLike_77 : decode cX8_isLike 77 = .ok (.iload_n 1, 1) := by decide +kernel
theorem dX8_isLike_78 : decode cX8_isLike 78 = .ok (.iconst 1, 1) := by decide +kernel
theorem dX8_isLike_79 : decode cX8_isLike 79 = .ok (.invokevirtual 204, 3) := by decide +kernel
theorem dX8_isLike_82 : decode cX8_isLike 82 = .ok (.if_icmp .ge 82, 3) := by decide +kernel
theorem dX8_isLike_85 : decode cX8_isLike 85 = .ok (.iload_n 2, 1) := by decide +kernel
theorem dX8_isLike_86 : decode cX8_isLike 86 = .ok (.ifCond .ne 12, 3) := by decide +kernel
theorem dX8_isLike_89 : decode cX8_isLike 89 = .ok (.aload_n 0, 1) := by decide +kernel
theorem dX8_isLike_90 : decode cX8_isLike 90 = .ok (.getfield 59, 3) := by decide +kernel
theorem dX8_isLike_93 : decode cX8_isLike 93 = .ok (.iload_n 3, 1) := by decide +kernel
theorem dX8_isLike_94 : decode cX8_isLike 94 = .ok (.iaload, 1) := by decide +kernel
theorem dX8_isLike_95 : decode cX8_isLike 95 = .ok (.goto 46, 3) := by decide +kernel
theorem dX8_isLike_98 : decode cX8_isLike 98 = .ok (.aload_n 0, 1) := by decide +kernel
theorem dX8_isLike_99 : decode cX8_isLike 99 = .ok (.getfield 31, 3) := by decide +kernel
theorem dX8_isLike_102 : decode cX8_isLike 102 = .ok (.iconst 0, 1) := by decide +kernel
theorem dX8_isLike_103 : decode cX8_isLike 103 = .ok (.iaload, 1) := by decide +kernel
theorem dX8_isLike_104 : decode cX8_isLike 104 = .ok (.ifCond .ne 12, 3) := by decide +kernel
theorem dX8_isLike_107 : decode cX8_isLike 107 = .ok (.aload_n 0, 1) := by decide +kernel
theorem dX8_isLike_108 : decode cX8_isLike 108 = .ok (.getfield 34, 3) := by decide +kernel
theorem dX8_isLike_111 : decode cX8_isLike 111 = .ok (.iconst 0, 1) := by decide +kernel
theorem dX8_isLike_112 : decode cX8_isLike 112 = .ok (.iaload, 1) := by decide +kernel
theorem dX8_isLike_113 : decode cX8_isLike 113 = .ok (.goto 28, 3) := by decide +kernel
theorem dX8_isLike_116 : decode cX8_isLike 116 = .ok (.iload_n 3, 1) := by decide +kernel
theorem dX8_isLike_117 : decode cX8_isLike 117 = .ok (.iconst 2, 1) := by decide +kernel
theorem dX8_isLike_118 : decode cX8_isLike 118 = .ok (.irem, 1) := by decide +kernel
theorem dX8_isLike_119 : decode cX8_isLike 119 = .ok (.ifCond .ne 14, 3) := by decide +kernel
theorem dX8_isLike_122 : decode cX8_isLike 122 = .ok (.aload_n 0, 1) := by decide +kernel
theorem dX8_isLike_123 : decode cX8_isLike 123 = .ok (.getfield 46, 3) := by decide +kernel
theorem dX8_isLike_126 : decode cX8_isLike 126 = .ok (.iload_n 3, 1) := by decide +kernel
theorem dX8_isLike_127 : decode cX8_isLike 127 = .ok (.iconst 2, 1) := by decide +kernel
theorem dX8_isLike_128 : decode cX8_isLike 128 = .ok (.idiv, 1) := by decide +kernel
theorem dX8_isLike_129 : decode cX8_isLike 129 = .ok (.iaload, 1) := by decide +kernel
theorem dX8_isLike_130 : decode cX8_isLike 130 = .ok (.goto 11, 3) := by decide +kernel
theorem dX8_isLike_133 : decode cX8_isLike 133 = .ok (.aload_n 0, 1) := by decide +kernel
theorem dX8_isLike_134 : decode cX8_isLike 134 = .ok (.getfield 49, 3) := by decide +kernel
theorem dX8_isLike_137 : decode cX8_isLike 137 = .ok (.iload_n 3, 1) := by decide +kernel
theorem dX8_isLike_138 : decode cX8_isLike 138 = .ok (.iconst 2, 1) := by decide +kernel
theorem dX8_isLike_139 : decode cX8_isLike 139 = .ok (.idiv, 1) := by decide +kernel
theorem dX8_isLike_140 : decode cX8_isLike 140 = .ok (.iaload, 1) := by decide +kernel
theorem dX8_isLike_141 : decode cX8_isLike 141 = .ok (.istore 4, 2) := by decide +kernel
theorem dX8_isLike_143 : decode cX8_isLike 143 = .ok (.aload_n 0, 1) := by decide +kernel
theorem dX8_isLike_144 : decode cX8_isLike 144 = .ok (.iload_n 1, 1) := by decide +kernel
theorem dX8_isLike_145 : decode cX8_isLike 145 = .ok (.iconst 2, 1) := by decide +kernel
theorem dX8_isLike_146 : decode cX8_isLike 146 = .ok (.iload_n 3, 1) := by decide +kernel
theorem dX8_isLike_147 : decode cX8_isLike 147 = .ok (.iadd, 1) := by decide +kernel
theorem dX8_isLike_148 : decode cX8_isLike 148 = .ok (.invokevirtual 204, 3) := by decide +kernel
theorem dX8_isLike_151 : decode cX8_isLike 151 = .ok (.iload 4, 2) := by decide +kernel
theorem dX8_isLike_153 : decode cX8_isLike 153 = .ok (.if_icmp .eq 5, 3) := by decide +kernel
theorem dX8_isLike_156 : decode cX8_isLike 156 = .ok (.iconst 0, 1) := by decide +kernel
theorem dX8_isLike_157 : decode cX8_isLike 157 = .ok (.ireturn, 1) := by decide +kernel
theorem dX8_isLike_158 : decode cX8_isLike 158 = .ok (.iinc 3 1, 3) := by decide +kernel
theorem dX8_isLike_161 : decode cX8_isLike 161 = .ok (.goto (-86), 3) := by decide +kernel
theorem dX8_isLike_164 : decode cX8_isLike 164 = .ok (.iconst 1, 1) := by decide +kernel
theorem dX8_isLike_165 : decode cX8_isLike 165 = .ok (.ireturn, 1) := by decide +kernel
theorem dX8_hidden_0 : decode cX8_hidden 0 = .ok (.iload_n 1, 1) := by decide +kernel
theorem dX8_hidden_1 : decode cX8_hidden 1 = .ok (.invokestatic 141, 3) := by decide +kernel
theorem dX8_hidden_4 : decode cX8_hidden 4 = .ok (.ifCond .ne 9, 3) := by decide +kernel
theorem dX8_hidden_7 : decode cX8_hidden 7 = .ok (.aload_n 0, 1) := by decide +kernel
theorem dX8_hidden_8 : decode cX8_hidden 8 = .ok (.iconst (-1), 1) := by decide +kernel
theorem dX8_hidden_9 : decode cX8_hidden 9 = .ok (.invokevirtual 70, 3) := by decide +kernel
theorem dX8_hidden_12 : decode cX8_hidden 12 = .ok (.ireturn, 1) := by decide +kernel
theorem dX8_hidden_13 : decode cX8_hidden 13 = .ok (.aload_n 0, 1) := by decide +kernel
theorem dX8_hidden_14 : decode cX8_hidden 14 = .ok (.iload_n 1, 1) := by decide +kernel
theorem dX8_hidden_15 : decode cX8_hidden 15 = .ok (.invokevirtual 207, 3) := by decide +kernel
theorem dX8_hidden_18 : decode cX8_hidden 18 = .ok (.iconst 0, 1) := by decide +kernel
theorem dX8_hidden_19 : decode cX8_hidden 19 = .ok (.istore_n 2, 1) := by decide +kernel
theorem dX8_hidden_20 : decode cX8_hidden 20 = .ok (.iconst 0, 1) := by decide +kernel
theorem dX8_hidden_21 : decode cX8_hidden 21 = .ok (.istore_n 3, 1) := by decide +kernel
theorem dX8_hidden_22 : decode cX8_hidden 22 = .ok (.iload_n 3, 1) := by decide +kernel
theorem dX8_hidden_23 : decode cX8_hidden 23 = .ok (.bipush 6, 2) := by decide +kernel
theorem dX8_hidden_25 : decode cX8_hidden 25 = .ok (.if_icmp .ge 79, 3) := by decide +kernel
theorem dX8_hidden_28 : decode cX8_hidden 28 = .ok (.aload_n 0, 1) := by decide +kernel
theorem dX8_hidden_29 : decode cX8_hidden 29 = .ok (.getfield 9, 3) := by decide +kernel
theorem dX8_hidden_32 : decode cX8_hidden 32 = .ok (.iload_n 3, 1) := by decide +kernel
theorem dX8_hidden_33 : decode cX8_hidden 33 = .ok (.iload_n 1, 1) := by decide +kernel
theorem dX8_hidden_34 : decode cX8_hidden 34 = .ok (.invokestatic 78, 3) := by decide +kernel
theorem dX8_hidden_37 : decode cX8_hidden 37 = .ok (.iconst 0, 1) := by decide +kernel
theorem dX8_hidden_38 : decode cX8_hidden 38 = .ok (.iadd, 1) := by decide +kernel
theorem dX8_hidden_39 : decode cX8_hidden 39 = .ok (.iaload, 1) := by decide +kernel
theorem dX8_hidden_40 : decode cX8_hidden 40 = .ok (.istore 4, 2) := by decide +kernel
theorem dX8_hidden_42 : decode cX8_hidden 42 = .ok (.iload 4, 2) := by decide +kernel
theorem dX8_hidden_44 : decode cX8_hidden 44 = .ok (.bipush (-9), 2) := by decide +kernel
theorem dX8_hidden_46 : decode cX8_hidden 46 = .ok (.if_icmp .ne 6, 3) := by decide +kernel
theorem dX8_hidden_49 : decode cX8_hidden 49 = .ok (.goto 49, 3) := by decide +kernel
theorem dX8_hidden_52 : decode cX8_hidden 52 = .ok (.aload_n 0, 1) := by decide +kernel
theorem dX8_hidden_53 : decode cX8_hidden 53 = .ok (.getfield 9, 3) := by decide +kernel
theorem dX8_hidden_56 : decode cX8_hidden 56 = .ok (.iload_n 3, 1) := by decide +kernel
theorem dX8_hidden_57 : decode cX8_hidden 57 = .ok (.iload_n 1, 1) := by decide +kernel
theorem dX8_hidden_58 : decode cX8_hidden 58 = .ok (.invokestatic 78, 3) := by decide +kernel
theorem dX8_hidden_61 : decode cX8_hidden 61 = .ok (.iconst 0, 1) := by decide +kernel
theorem dX8_hidden_62 : decode cX8_hidden 62 = .ok (.iadd, 1) := by decide +kernel
theorem dX8_hidden_63 : decode cX8_hidden 63 = .ok (.bipush (-9), 2) := by decide +kernel
theorem dX8_hidden_65 : decode cX8_hidden 65 = .ok (.iastore, 1) := by decide +kernel
theorem dX8_hidden_66 : decode cX8_hidden 66 = .ok (.iload_n 2, 1) := by decide +kernel
theorem dX8_hidden_67 : decode cX8_hidden 67 = .ok (.aload_n 0, 1) := by decide +kernel
theorem dX8_hidden_68 : decode cX8_hidden 68 = .ok (.iload_n 1, 1) := by decide +kernel
theorem dX8_hidden_69 : decode cX8_hidden 69 = .ok (.invokevirtual 211, 3) := by decide +kernel
theorem dX8_hidden_72 : decode cX8_hidden 72 = .ok (.ifCond .eq 9, 3) := by decide +kernel
theorem dX8_hidden_75 : decode cX8_hidden 75 = .ok (.iconst 1, 1) := by decide +kernel
theorem dX8_hidden_76 : decode cX8_hidden 76 = .ok (.iload_n 3, 1) := by decide +kernel
theorem dX8_hidden_77 : decode cX8_hidden 77 = .ok (.ishl, 1) := by decide +kernel
theorem dX8_hidden_78 : decode cX8_hidden 78 = .ok (.goto 4, 3) := by decide +kernel
theorem dX8_hidden_81 : decode cX8_hidden 81 = .ok (.iconst 0, 1) := by decide +kernel
theorem dX8_hidden_82 : decode cX8_hidden 82 = .ok (.ior, 1) := by decide +kernel
theorem dX8_hidden_83 : decode cX8_hidden 83 = .ok (.istore_n 2, 1) := by decide +kernel
theorem dX8_hidden_84 : decode cX8_hidden 84 = .ok (.aload_n 0, 1) := by decide +kernel
theorem dX8_hidden_85 : decode cX8_hidden 85 = .ok (.getfield 9, 3) := by decide +kernel
theorem dX8_hidden_88 : decode cX8_hidden 88 = .ok (.iload_n 3, 1) := by decide +kernel
theorem dX8_hidden_89 : decode cX8_hidden 89 = .ok (.iload_n 1, 1) := by decide +kernel
theorem dX8_hidden_90 : decode cX8_hidden 90 = .ok (.invokestatic 78, 3) := by decide +kernel
theorem dX8_hidden_93 : decode cX8_hidden 93 = .ok (.iconst 0, 1) := by decide +kernel
theorem dX8_hidden_94 : decode cX8_hidden 94 = .ok (.iadd, 1) := by decide +kernel
theorem dX8_hidden_95 : decode cX8_hidden 95 = .ok (.iload 4, 2) := by decide +kernel
theorem dX8_hidden_97 : decode cX8_hidden 97 = .ok (.iastore, 1) := by decide +kernel
theorem dX8_hidden_98 : decode cX8_hidden 98 = .ok (.iinc 3 1, 3) := by decide +kernel
theorem dX8_hidden_101 : decode cX8_hidden 101 = .ok (.goto (-79), 3) := by decide +kernel
theorem dX8_hidden_104 : decode cX8_hidden 104 = .ok (.iload_n 2, 1) := by decide +kernel
theorem dX8_hidden_105 : decode cX8_hidden 105 = .ok (.ireturn, 1) := by decide +kernel
theorem dX8_numberWith_0 : decode cX8_numberWith 0 = .ok (.aload_n 0, 1) := by decide +kernel
theorem dX8_numberWith_1 : decode cX8_numberWith 1 = .ok (.getfield 9, 3) := by decide +kernel
theorem dX8_numberWith_4 : decode cX8_numberWith 4 = .ok (.iconst 3, 1) := by decide +kernel
theorem dX8_numberWith_5 : decode cX8_numberWith 5 = .ok (.iload_n 1, 1) := by decide +kernel
theorem dX8_numberWith_6 : decode cX8_numberWith 6 = .ok (.imul, 1) := by decide +kernel
theorem dX8_numberWith_7 : decode cX8_numberWith 7 = .ok (.iconst 0, 1) := by decide +kernel
theorem dX8_numberWith_8 : decode cX8_numberWith 8 = .ok (.iadd, 1) := by decide +kernel
theorem dX8_numberWith_9 : decode cX8_numberWith 9 = .ok (.iaload, 1) := by decide +kernel
theorem dX8_numberWith_10 : decode cX8_numberWith 10 = .ok (.istore 4, 2) := by decide +kernel
theorem dX8_numberWith_12 : decode cX8_numberWith 12 = .ok (.aload_n 0, 1) := by decide +kernel
theorem dX8_numberWith_13 : decode cX8_numberWith 13 = .ok (.getfield 9, 3) := by decide +kernel
theorem dX8_numberWith_16 : decode cX8_numberWith 16 = .ok (.iconst 3, 1) := by decide +kernel
theorem dX8_numberWith_17 : decode cX8_numberWith 17 = .ok (.iload_n 1, 1) := by decide +kernel
theorem dX8_numberWith_18 : decode cX8_numberWith 18 = .ok (.imul, 1) := by decide +kernel
theorem dX8_numberWith_19 : decode cX8_numberWith 19 = .ok (.iconst 0, 1) := by decide +kernel
theorem dX8_numberWith_20 : decode cX8_numberWith 20 = .ok (.iadd, 1) := by decide +kernel
theorem dX8_numberWith_21 : decode cX8_numberWith 21 = .ok (.iload_n 2, 1) := by decide +kernel
theorem dX8_numberWith_22 : decode cX8_numberWith 22 = .ok (.iastore, 1) := by decide +kernel
theorem dX8_numberWith_23 : decode cX8_numberWith 23 = .ok (.aload_n 0, 1) := by decide +kernel
theorem dX8_numberWith_24 : decode cX8_numberWith 24 = .ok (.iload_n 3, 1) := by decide +kernel
theorem dX8_numberWith_25 : decode cX8_numberWith 25 = .ok (.invokevirtual 214, 3) := by decide +kernel
theorem dX8_numberWith_28 : decode cX8_numberWith 28 = .ok (.istore 5, 2) := by decide +kernel
theorem dX8_numberWith_30 : decode cX8_numberWith 30 = .ok (.aload_n 0, 1) := by decide +kernel
theorem dX8_numberWith_31 : decode cX8_numberWith 31 = .ok (.getfield 9, 3) := by decide +kernel
theorem dX8_numberWith_34 : decode cX8_numberWith 34 = .ok (.iconst 3, 1) := by decide +kernel
theorem dX8_numberWith_35 : decode cX8_numberWith 35 = .ok (.iload_n 1, 1) := by decide +kernel
theorem dX8_numberWith_36 : decode cX8_numberWith 36 = .ok (.imul, 1) := by decide +kernel
theorem dX8_numberWith_37 : decode cX8_numberWith 37 = .ok (.iconst 0, 1) := by decide +kernel
theorem dX8_numberWith_38 : decode cX8_numberWith 38 = .ok (.iadd, 1) := by decide +kernel
theorem dX8_numberWith_39 : decode cX8_numberWith 39 = .ok (.iload 4, 2) := by decide +kernel
theorem dX8_numberWith_41 : decode cX8_numberWith 41 = .ok (.iastore, 1) := by decide +kernel
theorem dX8_numberWith_42 : decode cX8_numberWith 42 = .ok (.iload 5, 2) := by decide +kernel
theorem dX8_numberWith_44 : decode cX8_numberWith 44 = .ok (.ireturn, 1) := by decide +kernel
theorem dX8_without_0 : decode cX8_without 0 = .ok (.iload_n 1, 1) := by decide +kernel
theorem dX8_without_1 : decode cX8_without 1 = .ok (.invokestatic 138, 3) := by decide +kernel
theorem dX8_without_4 : decode cX8_without 4 = .ok (.ifCond .eq 10, 3) := by decide +kernel
theorem dX8_without_7 : decode cX8_without 7 = .ok (.iload_n 2, 1) := by decide +kernel
theorem dX8_without_8 : decode cX8_without 8 = .ok (.invokestatic 141, 3) := by decide +kernel
theorem dX8_without_11 : decode cX8_without 11 = .ok (.ifCond .ne 11, 3) := by decide +kernel
theorem dX8_without_14 : decode cX8_without 14 = .ok (.aload_n 0, 1) := by decide +kernel
theorem dX8_without_15 : decode cX8_without 15 = .ok (.iconst (-1), 1) := by decide +kernel
theorem dX8_without_16 : decode cX8_without 16 = .ok (.invokevirtual 70, 3) := by decide +kernel
theorem dX8_without_19 : decode cX8_without 19 = .ok (.goto 10, 3) := by decide +kernel
theorem dX8_without_22 : decode cX8_without 22 = .ok (.aload_n 0, 1) := by decide +kernel
theorem dX8_without_23 : decode cX8_without 23 = .ok (.iload_n 1, 1) := by decide +kernel
theorem dX8_without_24 : decode cX8_without 24 = .ok (.iconst 0, 1) := by decide +kernel
theorem dX8_without_25 : decode cX8_without 25 = .ok (.iload_n 2, 1) := by decide +kernel
theorem dX8_without_26 : decode cX8_without 26 = .ok (.invokevirtual 217, 3) := by decide +kernel
theorem dX8_without_29 : decode cX8_without 29 = .ok (.ireturn, 1) := by decide +kernel
theorem dX8_turn_0 : decode cX8_turn 0 = .ok (.iload_n 1, 1) := by decide +kernel
theorem dX8_turn_1 : decode cX8_turn 1 = .ok (.invokestatic 141, 3) := by decide +kernel
theorem dX8_turn_4 : decode cX8_turn 4 = .ok (.ifCond .ne 9, 3) := by decide +kernel
theorem dX8_turn_7 : decode cX8_turn 7 = .ok (.aload_n 0, 1) := by decide +kernel
theorem dX8_turn_8 : decode cX8_turn 8 = .ok (.iconst (-1), 1) := by decide +kernel
theorem dX8_turn_9 : decode cX8_turn 9 = .ok (.invokevirtual 70, 3) := by decide +kernel
theorem dX8_turn_12 : decode cX8_turn 12 = .ok (.ireturn, 1) := by decide +kernel
theorem dX8_turn_13 : decode cX8_turn 13 = .ok (.iload_n 2, 1) := by decide +kernel
theorem dX8_turn_14 : decode cX8_turn 14 = .ok (.ifCond .ge 10, 3) := by decide +kernel
theorem dX8_turn_17 : decode cX8_turn 17 = .ok (.aload_n 0, 1) := by decide +kernel
theorem dX8_turn_18 : decode cX8_turn 18 = .ok (.bipush (-4), 2) := by decide +kernel
theorem dX8_turn_20 : decode cX8_turn 20 = .ok (.invokevirtual 70, 3) := by decide +kernel
theorem dX8_turn_23 : decode cX8_turn 23 = .ok (.ireturn, 1) := by decide +kernel
theorem dX8_turn_24 : decode cX8_turn 24 = .ok (.iload_n 2, 1) := by decide +kernel
theorem dX8_turn_25 : decode cX8_turn 25 = .ok (.sipush 999, 3) := by decide +kernel
theorem dX8_turn_28 : decode cX8_turn 28 = .ok (.if_icmp .le 10, 3) := by decide +kernel
theorem dX8_turn_31 : decode cX8_turn 31 = .ok (.aload_n 0, 1) := by decide +kernel
theorem dX8_turn_32 : decode cX8_turn 32 = .ok (.bipush (-6), 2) := by decide +kernel
theorem dX8_turn_34 : decode cX8_turn 34 = .ok (.invokevirtual 70, 3) := by decide +kernel
theorem dX8_turn_37 : decode cX8_turn 37 = .ok (.ireturn, 1) := by decide +kernel
theorem dX8_turn_38 : decode cX8_turn 38 = .ok (.aload_n 0, 1) := by decide +kernel
theorem dX8_turn_39 : decode cX8_turn 39 = .ok (.iload_n 1, 1) := by decide +kernel
theorem dX8_turn_40 : decode cX8_turn 40 = .ok (.invokevirtual 214, 3) := by decide +kernel
theorem dX8_turn_43 : decode cX8_turn 43 = .ok (.iload_n 2, 1) := by decide +kernel
theorem dX8_turn_44 : decode cX8_turn 44 = .ok (.if_icmp .ne 6, 3) := by decide +kernel
theorem dX8_turn_47 : decode cX8_turn 47 = .ok (.bipush (-9), 2) := by decide +kernel
theorem dX8_turn_49 : decode cX8_turn 49 = .ok (.ireturn, 1) := by decide +kernel
theorem dX8_turn_50 : decode cX8_turn 50 = .ok (.iconst 0, 1) := by decide +kernel
theorem dX8_turn_51 : decode cX8_turn 51 = .ok (.istore_n 3, 1) := by decide +kernel
theorem dX8_turn_52 : decode cX8_turn 52 = .ok (.iload_n 3, 1) := by decide +kernel
theorem dX8_turn_53 : decode cX8_turn 53 = .ok (.bipush 6, 2) := by decide +kernel
theorem dX8_turn_55 : decode cX8_turn 55 = .ok (.if_icmp .ge 33, 3) := by decide +kernel
theorem dX8_turn_58 : decode cX8_turn 58 = .ok (.aload_n 0, 1) := by decide +kernel
theorem dX8_turn_59 : decode cX8_turn 59 = .ok (.iload_n 3, 1) := by decide +kernel
theorem dX8_turn_60 : decode cX8_turn 60 = .ok (.iconst 1, 1) := by decide +kernel
theorem dX8_turn_61 : decode cX8_turn 61 = .ok (.aload_n 0, 1) := by decide +kernel
theorem dX8_turn_62 : decode cX8_turn 62 = .ok (.getfield 9, 3) := by decide +kernel
theorem dX8_turn_65 : decode cX8_turn 65 = .ok (.iconst 3, 1) := by decide +kernel
theorem dX8_turn_66 : decode cX8_turn 66 = .ok (.iload_n 3, 1) := by decide +kernel
theorem dX8_turn_67 : decode cX8_turn 67 = .ok (.imul, 1) := by decide +kernel
theorem dX8_turn_68 : decode cX8_turn 68 = .ok (.iconst 0, 1) := by decide +kernel
theorem dX8_turn_69 : decode cX8_turn 69 = .ok (.iadd, 1) := by decide +kernel
theorem dX8_turn_70 : decode cX8_turn 70 = .ok (.iaload, 1) := by decide +kernel
theorem dX8_turn_71 : decode cX8_turn 71 = .ok (.isub, 1) := by decide +kernel
theorem dX8_turn_72 : decode cX8_turn 72 = .ok (.iload_n 1, 1) := by decide +kernel
theorem dX8_turn_73 : decode cX8_turn 73 = .ok (.invokevirtual 217, 3) := by decide +kernel
theorem dX8_turn_76 : decode cX8_turn 76 = .ok (.iload_n 2, 1) := by decide +kernel
theorem dX8_turn_77 : decode cX8_turn 77 = .ok (.if_icmp .ne 5, 3) := by decide +kernel
theorem dX8_turn_80 : decode cX8_turn 80 = .ok (.iload_n 3, 1) := by decide +kernel
theorem dX8_turn_81 : decode cX8_turn 81 = .ok (.ireturn, 1) := by decide +kernel
theorem dX8_turn_82 : decode cX8_turn 82 = .ok (.iinc 3 1, 3) := by decide +kernel
theorem dX8_turn_85 : decode cX8_turn 85 = .ok (.goto (-33), 3) := by decide +kernel
theorem dX8_turn_88 : decode cX8_turn 88 = .ok (.bipush (-9), 2) := by decide +kernel
theorem dX8_turn_90 : decode cX8_turn 90 = .ok (.ireturn, 1) := by decide +kernel
theorem dX8_set_0 : decode cX8_set 0 = .ok (.iload_n 1, 1) := by decide +kernel
theorem dX8_set_1 : decode cX8_set 1 = .ok (.invokestatic 138, 3) := by decide +kernel
theorem dX8_set_4 : decode cX8_set 4 = .ok (.ifCond .eq 17, 3) := by decide +kernel
theorem dX8_set_7 : decode cX8_set 7 = .ok (.iload_n 2, 1) := by decide +kernel
theorem dX8_set_8 : decode cX8_set 8 = .ok (.invokestatic 141, 3) := by decide +kernel
theorem dX8_set_11 : decode cX8_set 11 = .ok (.ifCond .eq 10, 3) := by decide +kernel
theorem dX8_set_14 : decode cX8_set 14 = .ok (.iload_n 3, 1) := by decide +kernel
theorem dX8_set_15 : decode cX8_set 15 = .ok (.invokestatic 141, 3) := by decide +kernel
theorem dX8_set_18 : decode cX8_set 18 = .ok (.ifCond .ne 9, 3) := by decide +kernel
theorem dX8_set_21 : decode cX8_set 21 = .ok (.aload_n 0, 1) := by decide +kernel
theorem dX8_set_22 : decode cX8_set 22 = .ok (.iconst (-1), 1) := by decide +kernel
theorem dX8_set_23 : decode cX8_set 23 = .ok (.invokevirtual 70, 3) := by decide +kernel
theorem dX8_set_26 : decode cX8_set 26 = .ok (.ireturn, 1) := by decide +kernel
theorem dX8_set_27 : decode cX8_set 27 = .ok (.iload 4, 2) := by decide +kernel
theorem dX8_set_29 : decode cX8_set 29 = .ok (.ifCond .ge 10, 3) := by decide +kernel
theorem dX8_set_32 : decode cX8_set 32 = .ok (.aload_n 0, 1) := by decide +kernel
theorem dX8_set_33 : decode cX8_set 33 = .ok (.bipush (-4), 2) := by decide +kernel
theorem dX8_set_35 : decode cX8_set 35 = .ok (.invokevirtual 70, 3) := by decide +kernel
theorem dX8_set_38 : decode cX8_set 38 = .ok (.ireturn, 1) := by decide +kernel
theorem dX8_set_39 : decode cX8_set 39 = .ok (.iload 4, 2) := by decide +kernel
theorem dX8_set_41 : decode cX8_set 41 = .ok (.sipush 999, 3) := by decide +kernel
theorem dX8_set_44 : decode cX8_set 44 = .ok (.if_icmp .le 10, 3) := by decide +kernel
theorem dX8_set_47 : decode cX8_set 47 = .ok (.aload_n 0, 1) := by decide +kernel
theorem dX8_set_48 : decode cX8_set 48 = .ok (.bipush (-6), 2) := by decide +kernel
theorem dX8_set_50 : decode cX8_set 50 = .ok (.invokevirtual 70, 3) := by decide +kernel
theorem dX8_set_53 : decode cX8_set 53 = .ok (.ireturn, 1) := by decide +kernel
theorem dX8_set_54 : decode cX8_set 54 = .ok (.aload_n 0, 1) := by decide +kernel
theorem dX8_set_55 : decode cX8_set 55 = .ok (.getfield 9, 3) := by decide +kernel
theorem dX8_set_58 : decode cX8_set 58 = .ok (.aload_n 0, 1) := by decide +kernel
theorem dX8_set_59 : decode cX8_set 59 = .ok (.getfield 16, 3) := by decide +kernel
theorem dX8_set_62 : decode cX8_set 62 = .ok (.invokestatic 191, 3) := by decide +kernel
theorem dX8_set_65 : decode cX8_set 65 = .ok (.bipush (-9), 2) := by decide +kernel
theorem dX8_set_67 : decode cX8_set 67 = .ok (.istore 5, 2) := by decide +kernel
theorem dX8_set_69 : decode cX8_set 69 = .ok (.aload_n 0, 1) := by decide +kernel
theorem dX8_set_70 : decode cX8_set 70 = .ok (.getfield 9, 3) := by decide +kernel
theorem dX8_set_73 : decode cX8_set 73 = .ok (.iconst 3, 1) := by decide +kernel
theorem dX8_set_74 : decode cX8_set 74 = .ok (.iload_n 1, 1) := by decide +kernel
theorem dX8_set_75 : decode cX8_set 75 = .ok (.imul, 1) := by decide +kernel
theorem dX8_set_76 : decode cX8_set 76 = .ok (.iconst 0, 1) := by decide +kernel
theorem dX8_set_77 : decode cX8_set 77 = .ok (.iadd, 1) := by decide +kernel
theorem dX8_set_78 : decode cX8_set 78 = .ok (.iconst 1, 1) := by decide +kernel
theorem dX8_set_79 : decode cX8_set 79 = .ok (.iastore, 1) := by decide +kernel
theorem dX8_set_80 : decode cX8_set 80 = .ok (.iconst 0, 1) := by decide +kernel
theorem dX8_set_81 : decode cX8_set 81 = .ok (.istore 6, 2) := by decide +kernel
theorem dX8_set_83 : decode cX8_set 83 = .ok (.iload 6, 2) := by decide +kernel
theorem dX8_set_85 : decode cX8_set 85 = .ok (.bipush 100, 2) := by decide +kernel
theorem dX8_set_87 : decode cX8_set 87 = .ok (.if_icmp .ge 46, 3) := by decide +kernel
theorem dX8_set_90 : decode cX8_set 90 = .ok (.iload 5, 2) := by decide +kernel
theorem dX8_set_92 : decode cX8_set 92 = .ok (.bipush (-9), 2) := by decide +kernel
theorem dX8_set_94 : decode cX8_set 94 = .ok (.if_icmp .ne 39, 3) := by decide +kernel
theorem dX8_set_97 : decode cX8_set 97 = .ok (.aload_n 0, 1) := by decide +kernel
theorem dX8_set_98 : decode cX8_set 98 = .ok (.iload_n 1, 1) := by decide +kernel
theorem dX8_set_99 : decode cX8_set 99 = .ok (.iload_n 2, 1) := by decide +kernel
theorem dX8_set_100 : decode cX8_set 100 = .ok (.iconst 0, 1) := by decide +kernel
theorem dX8_set_101 : decode cX8_set 101 = .ok (.iload 6, 2) := by decide +kernel
theorem dX8_set_103 : decode cX8_set 103 = .ok (.iconst 0, 1) := by decide +kernel
theorem dX8_set_104 : decode cX8_set 104 = .ok (.invokevirtual 144, 3) := by decide +kernel
theorem dX8_set_107 : decode cX8_set 107 = .ok (.pop, 1) := by decide +kernel
theorem dX8_set_108 : decode cX8_set 108 = .ok (.aload_n 0, 1) := by decide +kernel
theorem dX8_set_109 : decode cX8_set 109 = .ok (.iload_n 3, 1) := by decide +kernel
theorem dX8_set_110 : decode cX8_set 110 = .ok (.invokevirtual 214, 3) := by decide +kernel
theorem dX8_set_113 : decode cX8_set 113 = .ok (.iload 4, 2) := by decide +kernel
theorem dX8_set_115 : decode cX8_set 115 = .ok (.if_icmp .ne 8, 3) := by decide +kernel
theorem dX8_set_118 : decode cX8_set 118 = .ok (.iload 6, 2) := by decide +kernel
theorem dX8_set_120 : decode cX8_set 120 = .ok (.goto 5, 3) := by decide +kernel
theorem dX8_set_123 : decode cX8_set 123 = .ok (.bipush (-9), 2) := by decide +kernel
theorem dX8_set_125 : decode cX8_set 125 = .ok (.istore 5, 2) := by decide +kernel
theorem dX8_set_127 : decode cX8_set 127 = .ok (.iinc 6 1, 3) := by decide +kernel
theorem dX8_set_130 : decode cX8_set 130 = .ok (.goto (-47), 3) := by decide +kernel
theorem dX8_set_133 : decode cX8_set 133 = .ok (.aload_n 0, 1) := by decide +kernel
theorem dX8_set_134 : decode cX8_set 134 = .ok (.getfield 16, 3) := by decide +kernel
theorem dX8_set_137 : decode cX8_set 137 = .ok (.aload_n 0, 1) := by decide +kernel
theorem dX8_set_138 : decode cX8_set 138 = .ok (.getfield 9, 3) := by decide +kernel
theorem dX8_set_141 : decode cX8_set 141 = .ok (.invokestatic 191, 3) := by decide +kernel
theorem dX8_set_144 : decode cX8_set 144 = .ok (.iload 5, 2) := by decide +kernel
theorem dX8_set_146 : decode cX8_set 146 = .ok (.ireturn, 1) := by decide +kernel
theorem dX8_byManner_0 : decode cX8_byManner 0 = .ok (.iload_n 1, 1) := by decide +kernel
theorem dX8_byManner_1 : decode cX8_byManner 1 = .ok (.invokestatic 141, 3) := by decide +kernel
theorem dX8_byManner_4 : decode cX8_byManner 4 = .ok (.ifCond .ne 9, 3) := by decide +kernel
theorem dX8_byManner_7 : decode cX8_byManner 7 = .ok (.aload_n 0, 1) := by decide +kernel
theorem dX8_byManner_8 : decode cX8_byManner 8 = .ok (.iconst (-1), 1) := by decide +kernel
theorem dX8_byManner_9 : decode cX8_byManner 9 = .ok (.invokevirtual 70, 3) := by decide +kernel
theorem dX8_byManner_12 : decode cX8_byManner 12 = .ok (.ireturn, 1) := by decide +kernel
theorem dX8_byManner_13 : decode cX8_byManner 13 = .ok (.iload_n 2, 1) := by decide +kernel
theorem dX8_byManner_14 : decode cX8_byManner 14 = .ok (.ifCond .ge 10, 3) := by decide +kernel
theorem dX8_byManner_17 : decode cX8_byManner 17 = .ok (.aload_n 0, 1) := by decide +kernel
theorem dX8_byManner_18 : decode cX8_byManner 18 = .ok (.bipush (-4), 2) := by decide +kernel
theorem dX8_byManner_20 : decode cX8_byManner 20 = .ok (.invokevirtual 70, 3) := by decide +kernel
theorem dX8_byManner_23 : decode cX8_byManner 23 = .ok (.ireturn, 1) := by decide +kernel
theorem dX8_byManner_24 : decode cX8_byManner 24 = .ok (.iload_n 2, 1) := by decide +kernel
theorem dX8_byManner_25 : decode cX8_byManner 25 = .ok (.sipush 999, 3) := by decide +kernel
theorem dX8_byManner_28 : decode cX8_byManner 28 = .ok (.if_icmp .le 10, 3) := by decide +kernel
theorem dX8_byManner_31 : decode cX8_byManner 31 = .ok (.aload_n 0, 1) := by decide +kernel
theorem dX8_byManner_32 : decode cX8_byManner 32 = .ok (.bipush (-6), 2) := by decide +kernel
theorem dX8_byManner_34 : decode cX8_byManner 34 = .ok (.invokevirtual 70, 3) := by decide +kernel
theorem dX8_byManner_37 : decode cX8_byManner 37 = .ok (.ireturn, 1) := by decide +kernel
theorem dX8_byManner_38 : decode cX8_byManner 38 = .ok (.aload_n 0, 1) := by decide +kernel
theorem dX8_byManner_39 : decode cX8_byManner 39 = .ok (.getfield 9, 3) := by decide +kernel
theorem dX8_byManner_42 : decode cX8_byManner 42 = .ok (.bipush 20, 2) := by decide +kernel
theorem dX8_byManner_44 : decode cX8_byManner 44 = .ok (.iload_n 1, 1) := by decide +kernel
theorem dX8_byManner_45 : decode cX8_byManner 45 = .ok (.iadd, 1) := by decide +kernel
theorem dX8_byManner_46 : decode cX8_byManner 46 = .ok (.iaload, 1) := by decide +kernel
theorem dX8_byManner_47 : decode cX8_byManner 47 = .ok (.istore_n 3, 1) := by decide +kernel
theorem dX8_byManner_48 : decode cX8_byManner 48 = .ok (.iconst 0, 1) := by decide +kernel
theorem dX8_byManner_49 : decode cX8_byManner 49 = .ok (.istore 4, 2) := by decide +kernel
theorem dX8_byManner_51 : decode cX8_byManner 51 = .ok (.iconst 0, 1) := by decide +kernel
theorem dX8_byManner_52 : decode cX8_byManner 52 = .ok (.istore 5, 2) := by decide +kernel
theorem dX8_byManner_54 : decode cX8_byManner 54 = .ok (.iload 5, 2) := by decide +kernel
theorem dX8_byManner_56 : decode cX8_byManner 56 = .ok (.iconst 5, 1) := by decide +kernel
theorem dX8_byManner_57 : decode cX8_byManner 57 = .ok (.if_icmp .ge 42, 3) := by decide +kernel
theorem dX8_byManner_60 : decode cX8_byManner 60 = .ok (.aload_n 0, 1) := by decide +kernel
theorem dX8_byManner_61 : decode cX8_byManner 61 = .ok (.getfield 9, 3) := by decide +kernel
theorem dX8_byManner_64 : decode cX8_byManner 64 = .ok (.bipush 20, 2) := by decide +kernel
theorem dX8_byManner_66 : decode cX8_byManner 66 = .ok (.iload_n 1, 1) := by decide +kernel
theorem dX8_byManner_67 : decode cX8_byManner 67 = .ok (.iadd, 1) := by decide +kernel
theorem dX8_byManner_68 : decode cX8_byManner 68 = .ok (.iload 5, 2) := by decide +kernel
theorem dX8_byManner_70 : decode cX8_byManner 70 = .ok (.iastore, 1) := by decide +kernel
theorem dX8_byManner_71 : decode cX8_byManner 71 = .ok (.iload 4, 2) := by decide +kernel
theorem dX8_byManner_73 : decode cX8_byManner 73 = .ok (.aload_n 0, 1) := by decide +kernel
theorem dX8_byManner_74 : decode cX8_byManner 74 = .ok (.iload_n 1, 1) := by decide +kernel
theorem dX8_byManner_75 : decode cX8_byManner 75 = .ok (.invokevirtual 214, 3) := by decide +kernel
theorem dX8_byManner_78 : decode cX8_byManner 78 = .ok (.iload_n 2, 1) := by decide +kernel
theorem dX8_byManner_79 : decode cX8_byManner 79 = .ok (.if_icmp .ne 10, 3) := by decide +kernel
theorem dX8_byManner_82 : decode cX8_byManner 82 = .ok (.iconst 1, 1) := by decide +kernel
theorem dX8_byManner_83 : decode cX8_byManner 83 = .ok (.iload 5, 2) := by decide +kernel
theorem dX8_byManner_85 : decode cX8_byManner 85 = .ok (.ishl, 1) := by decide +kernel
theorem dX8_byManner_86 : decode cX8_byManner 86 = .ok (.goto 4, 3) := by decide +kernel
theorem dX8_byManner_89 : decode cX8_byManner 89 = .ok (.iconst 0, 1) := by decide +kernel
theorem dX8_byManner_90 : decode cX8_byManner 90 = .ok (.ior, 1) := by decide +kernel
theorem dX8_byManner_91 : decode cX8_byManner 91 = .ok (.istore 4, 2) := by decide +kernel
theorem dX8_byManner_93 : decode cX8_byManner 93 = .ok (.iinc 5 1, 3) := by decide +kernel
theorem dX8_byManner_96 : decode cX8_byManner 96 = .ok (.goto (-42), 3) := by decide +kernel
theorem dX8_byManner_99 : decode cX8_byManner 99 = .ok (.aload_n 0, 1) := by decide +kernel
theorem dX8_byManner_100 : decode cX8_byManner 100 = .ok (.getfield 9, 3) := by decide +kernel
theorem dX8_byManner_103 : decode cX8_byManner 103 = .ok (.bipush 20, 2) := by decide +kernel
theorem dX8_byManner_105 : decode cX8_byManner 105 = .ok (.iload_n 1, 1) := by decide +kernel
theorem dX8_byManner_106 : decode cX8_byManner 106 = .ok (.iadd, 1) := by decide +kernel
theorem dX8_byManner_107 : decode cX8_byManner 107 = .ok (.iload_n 3, 1) := by decide +kernel
theorem dX8_byManner_108 : decode cX8_byManner 108 = .ok (.iastore, 1) := by decide +kernel
theorem dX8_byManner_109 : decode cX8_byManner 109 = .ok (.iload 4, 2) := by decide +kernel
theorem dX8_byManner_111 : decode cX8_byManner 111 = .ok (.ireturn, 1) := by decide +kernel
theorem dX8_turnsTo_0 : decode cX8_turnsTo 0 = .ok (.iconst 0, 1) := by decide +kernel
theorem dX8_turnsTo_1 : decode cX8_turnsTo 1 = .ok (.istore_n 2, 1) := by decide +kernel
theorem dX8_turnsTo_2 : decode cX8_turnsTo 2 = .ok (.iload_n 2, 1) := by decide +kernel
theorem dX8_turnsTo_3 : decode cX8_turnsTo 3 = .ok (.bipush 6, 2) := by decide +kernel
theorem dX8_turnsTo_5 : decode cX8_turnsTo 5 = .ok (.if_icmp .ge 24, 3) := by decide +kernel
theorem dX8_turnsTo_8 : decode cX8_turnsTo 8 = .ok (.aload_n 0, 1) := by decide +kernel
theorem dX8_turnsTo_9 : decode cX8_turnsTo 9 = .ok (.getfield 9, 3) := by decide +kernel
theorem dX8_turnsTo_12 : decode cX8_turnsTo 12 = .ok (.iconst 3, 1) := by decide +kernel
theorem dX8_turnsTo_13 : decode cX8_turnsTo 13 = .ok (.iload_n 2, 1) := by decide +kernel
theorem dX8_turnsTo_14 : decode cX8_turnsTo 14 = .ok (.imul, 1) := by decide +kernel
theorem dX8_turnsTo_15 : decode cX8_turnsTo 15 = .ok (.iconst 0, 1) := by decide +kernel
theorem dX8_turnsTo_16 : decode cX8_turnsTo 16 = .ok (.iadd, 1) := by decide +kernel
theorem dX8_turnsTo_17 : decode cX8_turnsTo 17 = .ok (.iload_n 1, 1) := by decide +kernel
theorem dX8_turnsTo_18 : decode cX8_turnsTo 18 = .ok (.iload_n 2, 1) := by decide +kernel
theorem dX8_turnsTo_19 : decode cX8_turnsTo 19 = .ok (.ishr, 1) := by decide +kernel
theorem dX8_turnsTo_20 : decode cX8_turnsTo 20 = .ok (.iconst 1, 1) := by decide +kernel
theorem dX8_turnsTo_21 : decode cX8_turnsTo 21 = .ok (.iand, 1) := by decide +kernel
theorem dX8_turnsTo_22 : decode cX8_turnsTo 22 = .ok (.iastore, 1) := by decide +kernel
theorem dX8_turnsTo_23 : decode cX8_turnsTo 23 = .ok (.iinc 2 1, 3) := by decide +kernel
theorem dX8_turnsTo_26 : decode cX8_turnsTo 26 = .ok (.goto (-24), 3) := by decide +kernel
theorem dX8_turnsTo_29 : decode cX8_turnsTo 29 = .ok (.return_, 1) := by decide +kernel
theorem dX8_onNow_0 : decode cX8_onNow 0 = .ok (.iconst 0, 1) := by decide +kernel
theorem dX8_onNow_1 : decode cX8_onNow 1 = .ok (.istore_n 1, 1) := by decide +kernel
theorem dX8_onNow_2 : decode cX8_onNow 2 = .ok (.iconst 0, 1) := by decide +kernel
theorem dX8_onNow_3 : decode cX8_onNow 3 = .ok (.istore_n 2, 1) := by decide +kernel
theorem dX8_onNow_4 : decode cX8_onNow 4 = .ok (.iload_n 2, 1) := by decide +kernel
theorem dX8_onNow_5 : decode cX8_onNow 5 = .ok (.bipush 6, 2) := by decide +kernel
theorem dX8_onNow_7 : decode cX8_onNow 7 = .ok (.if_icmp .ge 24, 3) := by decide +kernel
theorem dX8_onNow_10 : decode cX8_onNow 10 = .ok (.iload_n 1, 1) := by decide +kernel
theorem dX8_onNow_11 : decode cX8_onNow 11 = .ok (.aload_n 0, 1) := by decide +kernel
theorem dX8_onNow_12 : decode cX8_onNow 12 = .ok (.getfield 9, 3) := by decide +kernel
theorem dX8_onNow_15 : decode cX8_onNow 15 = .ok (.iconst 3, 1) := by decide +kernel
theorem dX8_onNow_16 : decode cX8_onNow 16 = .ok (.iload_n 2, 1) := by decide +kernel
theorem dX8_onNow_17 : decode cX8_onNow 17 = .ok (.imul, 1) := by decide +kernel
theorem dX8_onNow_18 : decode cX8_onNow 18 = .ok (.iconst 0, 1) := by decide +kernel
theorem dX8_onNow_19 : decode cX8_onNow 19 = .ok (.iadd, 1) := by decide +kernel
theorem dX8_onNow_20 : decode cX8_onNow 20 = .ok (.iaload, 1) := by decide +kernel
theorem dX8_onNow_21 : decode cX8_onNow 21 = .ok (.iload_n 2, 1) := by decide +kernel
theorem dX8_onNow_22 : decode cX8_onNow 22 = .ok (.ishl, 1) := by decide +kernel
theorem dX8_onNow_23 : decode cX8_onNow 23 = .ok (.ior, 1) := by decide +kernel
theorem dX8_onNow_24 : decode cX8_onNow 24 = .ok (.istore_n 1, 1) := by decide +kernel
theorem dX8_onNow_25 : decode cX8_onNow 25 = .ok (.iinc 2 1, 3) := by decide +kernel
theorem dX8_onNow_28 : decode cX8_onNow 28 = .ok (.goto (-24), 3) := by decide +kernel
theorem dX8_onNow_31 : decode cX8_onNow 31 = .ok (.iload_n 1, 1) := by decide +kernel
theorem dX8_onNow_32 : decode cX8_onNow 32 = .ok (.ireturn, 1) := by decide +kernel
theorem dX8_areLike_0 : decode cX8_areLike 0 = .ok (.iconst 1, 1) := by decide +kernel
theorem dX8_areLike_1 : decode cX8_areLike 1 = .ok (.istore_n 1, 1) := by decide +kernel
theorem dX8_areLike_2 : decode cX8_areLike 2 = .ok (.iconst 0, 1) := by decide +kernel
theorem dX8_areLike_3 : decode cX8_areLike 3 = .ok (.istore_n 2, 1) := by decide +kernel
theorem dX8_areLike_4 : decode cX8_areLike 4 = .ok (.iload_n 2, 1) := by decide +kernel
theorem dX8_areLike_5 : decode cX8_areLike 5 = .ok (.bipush 8, 2) := by decide +kernel
theorem dX8_areLike_7 : decode cX8_areLike 7 = .ok (.if_icmp .ge 19, 3) := by decide +kernel
theorem dX8_areLike_10 : decode cX8_areLike 10 = .ok (.iload_n 1, 1) := by decide +kernel
theorem dX8_areLike_11 : decode cX8_areLike 11 = .ok (.ifCond .eq 15, 3) := by decide +kernel
theorem dX8_areLike_14 : decode cX8_areLike 14 = .ok (.aload_n 0, 1) := by decide +kernel
theorem dX8_areLike_15 : decode cX8_areLike 15 = .ok (.iload_n 2, 1) := by decide +kernel
theorem dX8_areLike_16 : decode cX8_areLike 16 = .ok (.invokevirtual 211, 3) := by decide +kernel
theorem dX8_areLike_19 : decode cX8_areLike 19 = .ok (.istore_n 1, 1) := by decide +kernel
theorem dX8_areLike_20 : decode cX8_areLike 20 = .ok (.iinc 2 1, 3) := by decide +kernel
theorem dX8_areLike_23 : decode cX8_areLike 23 = .ok (.goto (-19), 3) := by decide +kernel
theorem dX8_areLike_26 : decode cX8_areLike 26 = .ok (.iload_n 1, 1) := by decide +kernel
theorem dX8_areLike_27 : decode cX8_areLike 27 = .ok (.ireturn, 1) := by decide +kernel
theorem dX8_fewest_0 : decode cX8_fewest 0 = .ok (.iconst 0, 1) := by decide +kernel
theorem dX8_fewest_1 : decode cX8_fewest 1 = .ok (.istore_n 1, 1) := by decide +kernel
theorem dX8_fewest_2 : decode cX8_fewest 2 = .ok (.iload_n 1, 1) := by decide +kernel
theorem dX8_fewest_3 : decode cX8_fewest 3 = .ok (.bipush 8, 2) := by decide +kernel
theorem dX8_fewest_5 : decode cX8_fewest 5 = .ok (.if_icmp .ge 14, 3) := by decide +kernel
theorem dX8_fewest_8 : decode cX8_fewest 8 = .ok (.aload_n 0, 1) := by decide +kernel
theorem dX8_fewest_9 : decode cX8_fewest 9 = .ok (.iload_n 1, 1) := by decide +kernel
theorem dX8_fewest_10 : decode cX8_fewest 10 = .ok (.invokevirtual 207, 3) := by decide +kernel
theorem dX8_fewest_13 : decode cX8_fewest 13 = .ok (.iinc 1 1, 3) := by decide +kernel
theorem dX8_fewest_16 : decode cX8_fewest 16 = .ok (.goto (-14), 3) := by decide +kernel
theorem dX8_fewest_19 : decode cX8_fewest 19 = .ok (.aload_n 0, 1) := by decide +kernel
theorem dX8_fewest_20 : decode cX8_fewest 20 = .ok (.invokevirtual 220, 3) := by decide +kernel
theorem dX8_fewest_23 : decode cX8_fewest 23 = .ok (.istore_n 1, 1) := by decide +kernel
theorem dX8_fewest_24 : decode cX8_fewest 24 = .ok (.iload_n 1, 1) := by decide +kernel
theorem dX8_fewest_25 : decode cX8_fewest 25 = .ok (.istore_n 2, 1) := by decide +kernel
theorem dX8_fewest_26 : decode cX8_fewest 26 = .ok (.bipush 63, 2) := by decide +kernel
theorem dX8_fewest_28 : decode cX8_fewest 28 = .ok (.istore_n 3, 1) := by decide +kernel
theorem dX8_fewest_29 : decode cX8_fewest 29 = .ok (.iload_n 3, 1) := by decide +kernel
theorem dX8_fewest_30 : decode cX8_fewest 30 = .ok (.ifCond .lt 41, 3) := by decide +kernel
theorem dX8_fewest_33 : decode cX8_fewest 33 = .ok (.iload_n 3, 1) := by decide +kernel
theorem dX8_fewest_34 : decode cX8_fewest 34 = .ok (.invokestatic 159, 3) := by decide +kernel
theorem dX8_fewest_37 : decode cX8_fewest 37 = .ok (.iload_n 2, 1) := by decide +kernel
theorem dX8_fewest_38 : decode cX8_fewest 38 = .ok (.invokestatic 159, 3) := by decide +kernel
theorem dX8_fewest_41 : decode cX8_fewest 41 = .ok (.if_icmp .le 6, 3) := by decide +kernel
theorem dX8_fewest_44 : decode cX8_fewest 44 = .ok (.goto 21, 3) := by decide +kernel
theorem dX8_fewest_47 : decode cX8_fewest 47 = .ok (.aload_n 0, 1) := by decide +kernel
theorem dX8_fewest_48 : decode cX8_fewest 48 = .ok (.iload_n 3, 1) := by decide +kernel
theorem dX8_fewest_49 : decode cX8_fewest 49 = .ok (.invokevirtual 223, 3) := by decide +kernel
theorem dX8_fewest_52 : decode cX8_fewest 52 = .ok (.aload_n 0, 1) := by decide +kernel
theorem dX8_fewest_53 : decode cX8_fewest 53 = .ok (.invokevirtual 226, 3) := by decide +kernel
theorem dX8_fewest_56 : decode cX8_fewest 56 = .ok (.ifCond .eq 7, 3) := by decide +kernel
theorem dX8_fewest_59 : decode cX8_fewest 59 = .ok (.iload_n 3, 1) := by decide +kernel
theorem dX8_fewest_60 : decode cX8_fewest 60 = .ok (.goto 4, 3) := by decide +kernel
theorem dX8_fewest_63 : decode cX8_fewest 63 = .ok (.iload_n 2, 1) := by decide +kernel
theorem dX8_fewest_64 : decode cX8_fewest 64 = .ok (.istore_n 2, 1) := by decide +kernel
theorem dX8_fewest_65 : decode cX8_fewest 65 = .ok (.iinc 3 (-1), 3) := by decide +kernel
theorem dX8_fewest_68 : decode cX8_fewest 68 = .ok (.goto (-39), 3) := by decide +kernel
theorem dX8_fewest_71 : decode cX8_fewest 71 = .ok (.aload_n 0, 1) := by decide +kernel
theorem dX8_fewest_72 : decode cX8_fewest 72 = .ok (.iload_n 1, 1) := by decide +kernel
theorem dX8_fewest_73 : decode cX8_fewest 73 = .ok (.invokevirtual 223, 3) := by decide +kernel
theorem dX8_fewest_76 : decode cX8_fewest 76 = .ok (.iload_n 2, 1) := by decide +kernel
theorem dX8_fewest_77 : decode cX8_fewest 77 = .ok (.ireturn, 1) := by decide +kernel
theorem dX8_since_0 : decode cX8_since 0 = .ok (.aload_n 0, 1) := by decide +kernel
theorem dX8_since_1 : decode cX8_since 1 = .ok (.getfield 230, 3) := by decide +kernel
theorem dX8_since_4 : decode cX8_since 4 = .ok (.ifCond .ne 10, 3) := by decide +kernel
theorem dX8_since_7 : decode cX8_since 7 = .ok (.aload_n 0, 1) := by decide +kernel
theorem dX8_since_8 : decode cX8_since 8 = .ok (.bipush (-3), 2) := by decide +kernel
theorem dX8_since_10 : decode cX8_since 10 = .ok (.invokevirtual 70, 3) := by decide +kernel
theorem dX8_since_13 : decode cX8_since 13 = .ok (.ireturn, 1) := by decide +kernel
theorem dX8_since_14 : decode cX8_since 14 = .ok (.aload_n 0, 1) := by decide +kernel
theorem dX8_since_15 : decode cX8_since 15 = .ok (.getfield 9, 3) := by decide +kernel
theorem dX8_since_18 : decode cX8_since 18 = .ok (.aload_n 0, 1) := by decide +kernel
theorem dX8_since_19 : decode cX8_since 19 = .ok (.getfield 16, 3) := by decide +kernel
theorem dX8_since_22 : decode cX8_since 22 = .ok (.invokestatic 191, 3) := by decide +kernel
theorem dX8_since_25 : decode cX8_since 25 = .ok (.aload_n 0, 1) := by decide +kernel
theorem dX8_since_26 : decode cX8_since 26 = .ok (.getfield 13, 3) := by decide +kernel
theorem dX8_since_29 : decode cX8_since 29 = .ok (.aload_n 0, 1) := by decide +kernel
theorem dX8_since_30 : decode cX8_since 30 = .ok (.getfield 9, 3) := by decide +kernel
theorem dX8_since_33 : decode cX8_since 33 = .ok (.invokestatic 191, 3) := by decide +kernel
theorem dX8_since_36 : decode cX8_since 36 = .ok (.iconst 0, 1) := by decide +kernel
theorem dX8_since_37 : decode cX8_since 37 = .ok (.istore_n 1, 1) := by decide +kernel
theorem dX8_since_38 : decode cX8_since 38 = .ok (.iload_n 1, 1) := by decide +kernel
theorem dX8_since_39 : decode cX8_since 39 = .ok (.bipush 8, 2) := by decide +kernel
theorem dX8_since_41 : decode cX8_since 41 = .ok (.if_icmp .ge 14, 3) := by decide +kernel
theorem dX8_since_44 : decode cX8_since 44 = .ok (.aload_n 0, 1) := by decide +kernel
theorem dX8_since_45 : decode cX8_since 45 = .ok (.iload_n 1, 1) := by decide +kernel
theorem dX8_since_46 : decode cX8_since 46 = .ok (.invokevirtual 207, 3) := by decide +kernel
theorem dX8_since_49 : decode cX8_since 49 = .ok (.iinc 1 1, 3) := by decide +kernel
theorem dX8_since_52 : decode cX8_since 52 = .ok (.goto (-14), 3) := by decide +kernel
theorem dX8_since_55 : decode cX8_since 55 = .ok (.aload_n 0, 1) := by decide +kernel
theorem dX8_since_56 : decode cX8_since 56 = .ok (.getfield 16, 3) := by decide +kernel
theorem dX8_since_59 : decode cX8_since 59 = .ok (.aload_n 0, 1) := by decide +kernel
theorem dX8_since_60 : decode cX8_since 60 = .ok (.getfield 9, 3) := by decide +kernel
theorem dX8_since_63 : decode cX8_since 63 = .ok (.invokestatic 191, 3) := by decide +kernel
theorem dX8_since_66 : decode cX8_since 66 = .ok (.iconst 0, 1) := by decide +kernel
theorem dX8_since_67 : decode cX8_since 67 = .ok (.istore_n 1, 1) := by decide +kernel
theorem dX8_since_68 : decode cX8_since 68 = .ok (.iconst 0, 1) := by decide +kernel
theorem dX8_since_69 : decode cX8_since 69 = .ok (.istore_n 2, 1) := by decide +kernel
theorem dX8_since_70 : decode cX8_since 70 = .ok (.iload_n 2, 1) := by decide +kernel
theorem dX8_since_71 : decode cX8_since 71 = .ok (.bipush 8, 2) := by decide +kernel
theorem dX8_since_73 : decode cX8_since 73 = .ok (.if_icmp .ge 27, 3) := by decide +kernel
theorem dX8_since_76 : decode cX8_since 76 = .ok (.iload_n 1, 1) := by decide +kernel
theorem dX8_since_77 : decode cX8_since 77 = .ok (.aload_n 0, 1) := by decide +kernel
theorem dX8_since_78 : decode cX8_since 78 = .ok (.iload_n 2, 1) := by decide +kernel
theorem dX8_since_79 : decode cX8_since 79 = .ok (.invokevirtual 211, 3) := by decide +kernel
theorem dX8_since_82 : decode cX8_since 82 = .ok (.ifCond .eq 7, 3) := by decide +kernel
theorem dX8_since_85 : decode cX8_since 85 = .ok (.iconst 0, 1) := by decide +kernel
theorem dX8_since_86 : decode cX8_since 86 = .ok (.goto 6, 3) := by decide +kernel
theorem dX8_since_89 : decode cX8_since 89 = .ok (.iconst 1, 1) := by decide +kernel
theorem dX8_since_90 : decode cX8_since 90 = .ok (.iload_n 2, 1) := by decide +kernel
theorem dX8_since_91 : decode cX8_since 91 = .ok (.ishl, 1) := by decide +kernel
theorem dX8_since_92 : decode cX8_since 92 = .ok (.ior, 1) := by decide +kernel
theorem dX8_since_93 : decode cX8_since 93 = .ok (.istore_n 1, 1) := by decide +kernel
theorem dX8_since_94 : decode cX8_since 94 = .ok (.iinc 2 1, 3) := by decide +kernel
theorem dX8_since_97 : decode cX8_since 97 = .ok (.goto (-27), 3) := by decide +kernel
theorem dX8_since_100 : decode cX8_since 100 = .ok (.iload_n 1, 1) := by decide +kernel
theorem dX8_since_101 : decode cX8_since 101 = .ok (.ireturn, 1) := by decide +kernel
theorem dX8_common_0 : decode cX8_common 0 = .ok (.lload_n 2, 1) := by decide +kernel
theorem dX8_common_1 : decode cX8_common 1 = .ok (.lconst 0, 1) := by decide +kernel
theorem dX8_common_2 : decode cX8_common 2 = .ok (.lcmp, 1) := by decide +kernel
theorem dX8_common_3 : decode cX8_common 3 = .ok (.ifCond .ne 7, 3) := by decide +kernel
theorem dX8_common_6 : decode cX8_common 6 = .ok (.lload_n 0, 1) := by decide +kernel
theorem dX8_common_7 : decode cX8_common 7 = .ok (.goto 10, 3) := by decide +kernel
theorem dX8_common_10 : decode cX8_common 10 = .ok (.lload_n 2, 1) := by decide +kernel
theorem dX8_common_11 : decode cX8_common 11 = .ok (.lload_n 0, 1) := by decide +kernel
theorem dX8_common_12 : decode cX8_common 12 = .ok (.lload_n 2, 1) := by decide +kernel
theorem dX8_common_13 : decode cX8_common 13 = .ok (.lrem, 1) := by decide +kernel
theorem dX8_common_14 : decode cX8_common 14 = .ok (.invokestatic 234, 3) := by decide +kernel
theorem dX8_common_17 : decode cX8_common 17 = .ok (.lreturn, 1) := by decide +kernel
theorem dX8_part_0 : decode cX8_part 0 = .ok (.iload 4, 2) := by decide +kernel
theorem dX8_part_2 : decode cX8_part 2 = .ok (.ifCond .ne 7, 3) := by decide +kernel
theorem dX8_part_5 : decode cX8_part 5 = .ok (.lload_n 0, 1) := by decide +kernel
theorem dX8_part_6 : decode cX8_part 6 = .ok (.goto 4, 3) := by decide +kernel
theorem dX8_part_9 : decode cX8_part 9 = .ok (.lload_n 2, 1) := by decide +kernel
theorem dX8_part_10 : decode cX8_part 10 = .ok (.lload_n 0, 1) := by decide +kernel
theorem dX8_part_11 : decode cX8_part 11 = .ok (.lload_n 2, 1) := by decide +kernel
theorem dX8_part_12 : decode cX8_part 12 = .ok (.invokestatic 234, 3) := by decide +kernel
theorem dX8_part_15 : decode cX8_part 15 = .ok (.ldiv, 1) := by decide +kernel
theorem dX8_part_16 : decode cX8_part 16 = .ok (.lreturn, 1) := by decide +kernel
theorem dX8_missing_0 : decode cX8_missing 0 = .ok (.iload_n 1, 1) := by decide +kernel
theorem dX8_missing_1 : decode cX8_missing 1 = .ok (.invokestatic 141, 3) := by decide +kernel
theorem dX8_missing_4 : decode cX8_missing 4 = .ok (.ifCond .ne 9, 3) := by decide +kernel
theorem dX8_missing_7 : decode cX8_missing 7 = .ok (.aload_n 0, 1) := by decide +kernel
theorem dX8_missing_8 : decode cX8_missing 8 = .ok (.iconst (-1), 1) := by decide +kernel
theorem dX8_missing_9 : decode cX8_missing 9 = .ok (.invokevirtual 238, 3) := by decide +kernel
theorem dX8_missing_12 : decode cX8_missing 12 = .ok (.lreturn, 1) := by decide +kernel
theorem dX8_missing_13 : decode cX8_missing 13 = .ok (.iload_n 2, 1) := by decide +kernel
theorem dX8_missing_14 : decode cX8_missing 14 = .ok (.ifCond .lt 8, 3) := by decide +kernel
theorem dX8_missing_17 : decode cX8_missing 17 = .ok (.iload_n 3, 1) := by decide +kernel
theorem dX8_missing_18 : decode cX8_missing 18 = .ok (.iconst 2, 1) := by decide +kernel
theorem dX8_missing_19 : decode cX8_missing 19 = .ok (.if_icmp .ge 10, 3) := by decide +kernel
theorem dX8_missing_22 : decode cX8_missing 22 = .ok (.aload_n 0, 1) := by decide +kernel
theorem dX8_missing_23 : decode cX8_missing 23 = .ok (.bipush (-4), 2) := by decide +kernel
theorem dX8_missing_25 : decode cX8_missing 25 = .ok (.invokevirtual 238, 3) := by decide +kernel
theorem dX8_missing_28 : decode cX8_missing 28 = .ok (.lreturn, 1) := by decide +kernel
theorem dX8_missing_29 : decode cX8_missing 29 = .ok (.iload_n 2, 1) := by decide +kernel
theorem dX8_missing_30 : decode cX8_missing 30 = .ok (.sipush 999, 3) := by decide +kernel
theorem dX8_missing_33 : decode cX8_missing 33 = .ok (.if_icmp .gt 9, 3) := by decide +kernel
theorem dX8_missing_36 : decode cX8_missing 36 = .ok (.iload_n 3, 1) := by decide +kernel
theorem dX8_missing_37 : decode cX8_missing 37 = .ok (.bipush 20, 2) := by decide +kernel
theorem dX8_missing_39 : decode cX8_missing 39 = .ok (.if_icmp .le 10, 3) := by decide +kernel
theorem dX8_missing_42 : decode cX8_missing 42 = .ok (.aload_n 0, 1) := by decide +kernel
theorem dX8_missing_43 : decode cX8_missing 43 = .ok (.bipush (-6), 2) := by decide +kernel
theorem dX8_missing_45 : decode cX8_missing 45 = .ok (.invokevirtual 238, 3) := by decide +kernel
theorem dX8_missing_48 : decode cX8_missing 48 = .ok (.lreturn, 1) := by decide +kernel
theorem dX8_missing_49 : decode cX8_missing 49 = .ok (.iload 4, 2) := by decide +kernel
theorem dX8_missing_51 : decode cX8_missing 51 = .ok (.iconst 0, 1) := by decide +kernel
theorem dX8_missing_52 : decode cX8_missing 52 = .ok (.iconst 1, 1) := by decide +kernel
theorem dX8_missing_53 : decode cX8_missing 53 = .ok (.invokestatic 74, 3) := by decide +kernel
theorem dX8_missing_56 : decode cX8_missing 56 = .ok (.ifCond .ne 10, 3) := by decide +kernel
theorem dX8_missing_59 : decode cX8_missing 59 = .ok (.aload_n 0, 1) := by decide +kernel
theorem dX8_missing_60 : decode cX8_missing 60 = .ok (.bipush (-2), 2) := by decide +kernel
theorem dX8_missing_62 : decode cX8_missing 62 = .ok (.invokevirtual 238, 3) := by decide +kernel
theorem dX8_missing_65 : decode cX8_missing 65 = .ok (.lreturn, 1) := by decide +kernel
theorem dX8_missing_66 : decode cX8_missing 66 = .ok (.aload_n 0, 1) := by decide +kernel
theorem dX8_missing_67 : decode cX8_missing 67 = .ok (.invokevirtual 220, 3) := by decide +kernel
theorem dX8_missing_70 : decode cX8_missing 70 = .ok (.istore 5, 2) := by decide +kernel
theorem dX8_missing_72 : decode cX8_missing 72 = .ok (.lconst 0, 1) := by decide +kernel
theorem dX8_missing_73 : decode cX8_missing 73 = .ok (.lstore 6, 2) := by decide +kernel
theorem dX8_missing_75 : decode cX8_missing 75 = .ok (.lconst 1, 1) := by decide +kernel
theorem dX8_missing_76 : decode cX8_missing 76 = .ok (.lstore 8, 2) := by decide +kernel
theorem dX8_missing_78 : decode cX8_missing 78 = .ok (.iconst 0, 1) := by decide +kernel
theorem dX8_missing_79 : decode cX8_missing 79 = .ok (.istore 10, 2) := by decide +kernel
theorem dX8_missing_81 : decode cX8_missing 81 = .ok (.iload 10, 2) := by decide +kernel
theorem dX8_missing_83 : decode cX8_missing 83 = .ok (.bipush 6, 2) := by decide +kernel
theorem dX8_missing_85 : decode cX8_missing 85 = .ok (.if_icmp .ge 31, 3) := by decide +kernel
theorem dX8_missing_88 : decode cX8_missing 88 = .ok (.lload 8, 2) := by decide +kernel
theorem dX8_missing_90 : decode cX8_missing 90 = .ok (.iload 5, 2) := by decide +kernel
theorem dX8_missing_92 : decode cX8_missing 92 = .ok (.iload 10, 2) := by decide +kernel
theorem dX8_missing_94 : decode cX8_missing 94 = .ok (.ishr, 1) := by decide +kernel
theorem dX8_missing_95 : decode cX8_missing 95 = .ok (.iconst 1, 1) := by decide +kernel
theorem dX8_missing_96 : decode cX8_missing 96 = .ok (.iand, 1) := by decide +kernel
theorem dX8_missing_97 : decode cX8_missing 97 = .ok (.iconst 1, 1) := by decide +kernel
theorem dX8_missing_98 : decode cX8_missing 98 = .ok (.if_icmp .ne 8, 3) := by decide +kernel
theorem dX8_missing_101 : decode cX8_missing 101 = .ok (.iload_n 3, 1) := by decide +kernel
theorem dX8_missing_102 : decode cX8_missing 102 = .ok (.i2l, 1) := by decide +kernel
theorem dX8_missing_103 : decode cX8_missing 103 = .ok (.goto 4, 3) := by decide +kernel
theorem dX8_missing_106 : decode cX8_missing 106 = .ok (.lconst 1, 1) := by decide +kernel
theorem dX8_missing_107 : decode cX8_missing 107 = .ok (.lmul, 1) := by decide +kernel
theorem dX8_missing_108 : decode cX8_missing 108 = .ok (.lstore 8, 2) := by decide +kernel
theorem dX8_missing_110 : decode cX8_missing 110 = .ok (.iinc 10 1, 3) := by decide +kernel
theorem dX8_missing_113 : decode cX8_missing 113 = .ok (.goto (-32), 3) := by decide +kernel
theorem dX8_missing_116 : decode cX8_missing 116 = .ok (.iconst 0, 1) := by decide +kernel
theorem dX8_missing_117 : decode cX8_missing 117 = .ok (.istore 10, 2) := by decide +kernel
theorem dX8_missing_119 : decode cX8_missing 119 = .ok (.iload 10, 2) := by decide +kernel
theorem dX8_missing_121 : decode cX8_missing 121 = .ok (.bipush 64, 2) := by decide +kernel
