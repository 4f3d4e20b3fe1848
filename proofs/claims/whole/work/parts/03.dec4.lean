/-! decode rows -/
theorem dX8_resolves__95 : decode cX8_resolves_ 95 = .ok (.iload 4, 2) := by decide +kernel
theorem dX8_resolves__97 : decode cX8_resolves_ 97 = .ok (.ireturn, 1) := by decide +kernel
theorem dX8_makes_0 : decode cX8_makes 0 = .ok (.iload_n 1, 1) := by decide +kernel
theorem dX8_makes_1 : decode cX8_makes 1 = .ok (.iload_n 2, 1) := by decide +kernel
theorem dX8_makes_2 : decode cX8_makes 2 = .ok (.invokestatic 78, 3) := by decide +kernel
theorem dX8_makes_5 : decode cX8_makes 5 = .ok (.istore 4, 2) := by decide +kernel
theorem dX8_makes_7 : decode cX8_makes 7 = .ok (.aload_n 0, 1) := by decide +kernel
theorem dX8_makes_8 : decode cX8_makes 8 = .ok (.getfield 9, 3) := by decide +kernel
theorem dX8_makes_11 : decode cX8_makes 11 = .ok (.iload 4, 2) := by decide +kernel
theorem dX8_makes_13 : decode cX8_makes 13 = .ok (.iconst 0, 1) := by decide +kernel
theorem dX8_makes_14 : decode cX8_makes 14 = .ok (.iadd, 1) := by decide +kernel
theorem dX8_makes_15 : decode cX8_makes 15 = .ok (.iaload, 1) := by decide +kernel
theorem dX8_makes_16 : decode cX8_makes 16 = .ok (.istore 5, 2) := by decide +kernel
theorem dX8_makes_18 : decode cX8_makes 18 = .ok (.iload_n 3, 1) := by decide +kernel
theorem dX8_makes_19 : decode cX8_makes 19 = .ok (.iconst 1, 1) := by decide +kernel
theorem dX8_makes_20 : decode cX8_makes 20 = .ok (.iadd, 1) := by decide +kernel
theorem dX8_makes_21 : decode cX8_makes 21 = .ok (.istore 6, 2) := by decide +kernel
theorem dX8_makes_23 : decode cX8_makes 23 = .ok (.iload 5, 2) := by decide +kernel
theorem dX8_makes_25 : decode cX8_makes 25 = .ok (.iconst 2, 1) := by decide +kernel
theorem dX8_makes_26 : decode cX8_makes 26 = .ok (.if_icmp .eq 9, 3) := by decide +kernel
theorem dX8_makes_29 : decode cX8_makes 29 = .ok (.iload 5, 2) := by decide +kernel
theorem dX8_makes_31 : decode cX8_makes 31 = .ok (.iconst 3, 1) := by decide +kernel
theorem dX8_makes_32 : decode cX8_makes 32 = .ok (.if_icmp .ne 106, 3) := by decide +kernel
theorem dX8_makes_35 : decode cX8_makes 35 = .ok (.aload_n 0, 1) := by decide +kernel
theorem dX8_makes_36 : decode cX8_makes 36 = .ok (.aload_n 0, 1) := by decide +kernel
theorem dX8_makes_37 : decode cX8_makes 37 = .ok (.getfield 9, 3) := by decide +kernel
theorem dX8_makes_40 : decode cX8_makes 40 = .ok (.iload 4, 2) := by decide +kernel
theorem dX8_makes_42 : decode cX8_makes 42 = .ok (.iconst 2, 1) := by decide +kernel
theorem dX8_makes_43 : decode cX8_makes 43 = .ok (.iadd, 1) := by decide +kernel
theorem dX8_makes_44 : decode cX8_makes 44 = .ok (.iaload, 1) := by decide +kernel
theorem dX8_makes_45 : decode cX8_makes 45 = .ok (.iload 6, 2) := by decide +kernel
theorem dX8_makes_47 : decode cX8_makes 47 = .ok (.invokevirtual 108, 3) := by decide +kernel
theorem dX8_makes_50 : decode cX8_makes 50 = .ok (.ifCond .ne 10, 3) := by decide +kernel
theorem dX8_makes_53 : decode cX8_makes 53 = .ok (.aload_n 0, 1) := by decide +kernel
theorem dX8_makes_54 : decode cX8_makes 54 = .ok (.iconst 5, 1) := by decide +kernel
theorem dX8_makes_55 : decode cX8_makes 55 = .ok (.iload_n 2, 1) := by decide +kernel
theorem dX8_makes_56 : decode cX8_makes 56 = .ok (.invokevirtual 111, 3) := by decide +kernel
theorem dX8_makes_59 : decode cX8_makes 59 = .ok (.ireturn, 1) := by decide +kernel
theorem dX8_makes_60 : decode cX8_makes 60 = .ok (.iload 5, 2) := by decide +kernel
theorem dX8_makes_62 : decode cX8_makes 62 = .ok (.iconst 3, 1) := by decide +kernel
theorem dX8_makes_63 : decode cX8_makes 63 = .ok (.if_icmp .ne 59, 3) := by decide +kernel
theorem dX8_makes_66 : decode cX8_makes 66 = .ok (.aload_n 0, 1) := by decide +kernel
theorem dX8_makes_67 : decode cX8_makes 67 = .ok (.getfield 31, 3) := by decide +kernel
theorem dX8_makes_70 : decode cX8_makes 70 = .ok (.iload 6, 2) := by decide +kernel
theorem dX8_makes_72 : decode cX8_makes 72 = .ok (.iaload, 1) := by decide +kernel
theorem dX8_makes_73 : decode cX8_makes 73 = .ok (.ifCond .eq 10, 3) := by decide +kernel
theorem dX8_makes_76 : decode cX8_makes 76 = .ok (.aload_n 0, 1) := by decide +kernel
theorem dX8_makes_77 : decode cX8_makes 77 = .ok (.iconst 3, 1) := by decide +kernel
theorem dX8_makes_78 : decode cX8_makes 78 = .ok (.iload_n 2, 1) := by decide +kernel
theorem dX8_makes_79 : decode cX8_makes 79 = .ok (.invokevirtual 111, 3) := by decide +kernel
theorem dX8_makes_82 : decode cX8_makes 82 = .ok (.ireturn, 1) := by decide +kernel
theorem dX8_makes_83 : decode cX8_makes 83 = .ok (.aload_n 0, 1) := by decide +kernel
theorem dX8_makes_84 : decode cX8_makes 84 = .ok (.getfield 34, 3) := by decide +kernel
theorem dX8_makes_87 : decode cX8_makes 87 = .ok (.iload 6, 2) := by decide +kernel
theorem dX8_makes_89 : decode cX8_makes 89 = .ok (.dup2, 1) := by decide +kernel
theorem dX8_makes_90 : decode cX8_makes 90 = .ok (.iaload, 1) := by decide +kernel
theorem dX8_makes_91 : decode cX8_makes 91 = .ok (.aload_n 0, 1) := by decide +kernel
theorem dX8_makes_92 : decode cX8_makes 92 = .ok (.getfield 9, 3) := by decide +kernel
theorem dX8_makes_95 : decode cX8_makes 95 = .ok (.iload 4, 2) := by decide +kernel
theorem dX8_makes_97 : decode cX8_makes 97 = .ok (.iconst 1, 1) := by decide +kernel
theorem dX8_makes_98 : decode cX8_makes 98 = .ok (.iadd, 1) := by decide +kernel
theorem dX8_makes_99 : decode cX8_makes 99 = .ok (.iaload, 1) := by decide +kernel
theorem dX8_makes_100 : decode cX8_makes 100 = .ok (.iadd, 1) := by decide +kernel
theorem dX8_makes_101 : decode cX8_makes 101 = .ok (.iastore, 1) := by decide +kernel
theorem dX8_makes_102 : decode cX8_makes 102 = .ok (.aload_n 0, 1) := by decide +kernel
theorem dX8_makes_103 : decode cX8_makes 103 = .ok (.getfield 34, 3) := by decide +kernel
theorem dX8_makes_106 : decode cX8_makes 106 = .ok (.iload 6, 2) := by decide +kernel
theorem dX8_makes_108 : decode cX8_makes 108 = .ok (.iaload, 1) := by decide +kernel
theorem dX8_makes_109 : decode cX8_makes 109 = .ok (.sipush 999, 3) := by decide +kernel
theorem dX8_makes_112 : decode cX8_makes 112 = .ok (.if_icmp .le 10, 3) := by decide +kernel
theorem dX8_makes_115 : decode cX8_makes 115 = .ok (.aload_n 0, 1) := by decide +kernel
theorem dX8_makes_116 : decode cX8_makes 116 = .ok (.iconst 4, 1) := by decide +kernel
theorem dX8_makes_117 : decode cX8_makes 117 = .ok (.iload_n 2, 1) := by decide +kernel
theorem dX8_makes_118 : decode cX8_makes 118 = .ok (.invokevirtual 111, 3) := by decide +kernel
theorem dX8_makes_121 : decode cX8_makes 121 = .ok (.ireturn, 1) := by decide +kernel
theorem dX8_makes_122 : decode cX8_makes 122 = .ok (.aload_n 0, 1) := by decide +kernel
theorem dX8_makes_123 : decode cX8_makes 123 = .ok (.getfield 43, 3) := by decide +kernel
theorem dX8_makes_126 : decode cX8_makes 126 = .ok (.iload 6, 2) := by decide +kernel
theorem dX8_makes_128 : decode cX8_makes 128 = .ok (.dup2, 1) := by decide +kernel
theorem dX8_makes_129 : decode cX8_makes 129 = .ok (.iaload, 1) := by decide +kernel
theorem dX8_makes_130 : decode cX8_makes 130 = .ok (.iconst 1, 1) := by decide +kernel
theorem dX8_makes_131 : decode cX8_makes 131 = .ok (.iload_n 1, 1) := by decide +kernel
theorem dX8_makes_132 : decode cX8_makes 132 = .ok (.ishl, 1) := by decide +kernel
theorem dX8_makes_133 : decode cX8_makes 133 = .ok (.ior, 1) := by decide +kernel
theorem dX8_makes_134 : decode cX8_makes 134 = .ok (.iastore, 1) := by decide +kernel
theorem dX8_makes_135 : decode cX8_makes 135 = .ok (.goto 141, 3) := by decide +kernel
theorem dX8_makes_138 : decode cX8_makes 138 = .ok (.aload_n 0, 1) := by decide +kernel
theorem dX8_makes_139 : decode cX8_makes 139 = .ok (.getfield 31, 3) := by decide +kernel
theorem dX8_makes_142 : decode cX8_makes 142 = .ok (.iload 6, 2) := by decide +kernel
theorem dX8_makes_144 : decode cX8_makes 144 = .ok (.iload 5, 2) := by decide +kernel
theorem dX8_makes_146 : decode cX8_makes 146 = .ok (.iastore, 1) := by decide +kernel
theorem dX8_makes_147 : decode cX8_makes 147 = .ok (.aload_n 0, 1) := by decide +kernel
theorem dX8_makes_148 : decode cX8_makes 148 = .ok (.getfield 34, 3) := by decide +kernel
theorem dX8_makes_151 : decode cX8_makes 151 = .ok (.iload 6, 2) := by decide +kernel
theorem dX8_makes_153 : decode cX8_makes 153 = .ok (.aload_n 0, 1) := by decide +kernel
theorem dX8_makes_154 : decode cX8_makes 154 = .ok (.getfield 9, 3) := by decide +kernel
theorem dX8_makes_157 : decode cX8_makes 157 = .ok (.iload 4, 2) := by decide +kernel
theorem dX8_makes_159 : decode cX8_makes 159 = .ok (.iconst 1, 1) := by decide +kernel
theorem dX8_makes_160 : decode cX8_makes 160 = .ok (.iadd, 1) := by decide +kernel
theorem dX8_makes_161 : decode cX8_makes 161 = .ok (.iaload, 1) := by decide +kernel
theorem dX8_makes_162 : decode cX8_makes 162 = .ok (.iastore, 1) := by decide +kernel
theorem dX8_makes_163 : decode cX8_makes 163 = .ok (.aload_n 0, 1) := by decide +kernel
theorem dX8_makes_164 : decode cX8_makes 164 = .ok (.getfield 37, 3) := by decide +kernel
theorem dX8_makes_167 : decode cX8_makes 167 = .ok (.iload 6, 2) := by decide +kernel
theorem dX8_makes_169 : decode cX8_makes 169 = .ok (.iload 5, 2) := by decide +kernel
theorem dX8_makes_171 : decode cX8_makes 171 = .ok (.iconst 1, 1) := by decide +kernel
theorem dX8_makes_172 : decode cX8_makes 172 = .ok (.if_icmp .ne 15, 3) := by decide +kernel
theorem dX8_makes_175 : decode cX8_makes 175 = .ok (.aload_n 0, 1) := by decide +kernel
theorem dX8_makes_176 : decode cX8_makes 176 = .ok (.getfield 9, 3) := by decide +kernel
theorem dX8_makes_179 : decode cX8_makes 179 = .ok (.iload 4, 2) := by decide +kernel
theorem dX8_makes_181 : decode cX8_makes 181 = .ok (.iconst 3, 1) := by decide +kernel
theorem dX8_makes_182 : decode cX8_makes 182 = .ok (.iadd, 1) := by decide +kernel
theorem dX8_makes_183 : decode cX8_makes 183 = .ok (.iaload, 1) := by decide +kernel
theorem dX8_makes_184 : decode cX8_makes 184 = .ok (.goto 4, 3) := by decide +kernel
theorem dX8_makes_187 : decode cX8_makes 187 = .ok (.iconst 0, 1) := by decide +kernel
theorem dX8_makes_188 : decode cX8_makes 188 = .ok (.iastore, 1) := by decide +kernel
theorem dX8_makes_189 : decode cX8_makes 189 = .ok (.iconst 0, 1) := by decide +kernel
theorem dX8_makes_190 : decode cX8_makes 190 = .ok (.istore 7, 2) := by decide +kernel
theorem dX8_makes_192 : decode cX8_makes 192 = .ok (.iload 7, 2) := by decide +kernel
theorem dX8_makes_194 : decode cX8_makes 194 = .ok (.aload_n 0, 1) := by decide +kernel
theorem dX8_makes_195 : decode cX8_makes 195 = .ok (.getfield 37, 3) := by decide +kernel
theorem dX8_makes_198 : decode cX8_makes 198 = .ok (.iload 6, 2) := by decide +kernel
theorem dX8_makes_200 : decode cX8_makes 200 = .ok (.iaload, 1) := by decide +kernel
theorem dX8_makes_201 : decode cX8_makes 201 = .ok (.if_icmp .ge 65, 3) := by decide +kernel
theorem dX8_makes_204 : decode cX8_makes 204 = .ok (.aload_n 0, 1) := by decide +kernel
theorem dX8_makes_205 : decode cX8_makes 205 = .ok (.getfield 46, 3) := by decide +kernel
theorem dX8_makes_208 : decode cX8_makes 208 = .ok (.bipush 10, 2) := by decide +kernel
theorem dX8_makes_210 : decode cX8_makes 210 = .ok (.iload 6, 2) := by decide +kernel
theorem dX8_makes_212 : decode cX8_makes 212 = .ok (.imul, 1) := by decide +kernel
theorem dX8_makes_213 : decode cX8_makes 213 = .ok (.iload 7, 2) := by decide +kernel
theorem dX8_makes_215 : decode cX8_makes 215 = .ok (.iadd, 1) := by decide +kernel
theorem dX8_makes_216 : decode cX8_makes 216 = .ok (.aload_n 0, 1) := by decide +kernel
theorem dX8_makes_217 : decode cX8_makes 217 = .ok (.getfield 9, 3) := by decide +kernel
theorem dX8_makes_220 : decode cX8_makes 220 = .ok (.iload 4, 2) := by decide +kernel
theorem dX8_makes_222 : decode cX8_makes 222 = .ok (.iconst 4, 1) := by decide +kernel
theorem dX8_makes_223 : decode cX8_makes 223 = .ok (.iadd, 1) := by decide +kernel
theorem dX8_makes_224 : decode cX8_makes 224 = .ok (.iconst 2, 1) := by decide +kernel
theorem dX8_makes_225 : decode cX8_makes 225 = .ok (.iload 7, 2) := by decide +kernel
theorem dX8_makes_227 : decode cX8_makes 227 = .ok (.imul, 1) := by decide +kernel
theorem dX8_makes_228 : decode cX8_makes 228 = .ok (.iadd, 1) := by decide +kernel
theorem dX8_makes_229 : decode cX8_makes 229 = .ok (.iaload, 1) := by decide +kernel
theorem dX8_makes_230 : decode cX8_makes 230 = .ok (.iastore, 1) := by decide +kernel
theorem dX8_makes_231 : decode cX8_makes 231 = .ok (.aload_n 0, 1) := by decide +kernel
theorem dX8_makes_232 : decode cX8_makes 232 = .ok (.getfield 49, 3) := by decide +kernel
theorem dX8_makes_235 : decode cX8_makes 235 = .ok (.bipush 10, 2) := by decide +kernel
theorem dX8_makes_237 : decode cX8_makes 237 = .ok (.iload 6, 2) := by decide +kernel
theorem dX8_makes_239 : decode cX8_makes 239 = .ok (.imul, 1) := by decide +kernel
theorem dX8_makes_240 : decode cX8_makes 240 = .ok (.iload 7, 2) := by decide +kernel
theorem dX8_makes_242 : decode cX8_makes 242 = .ok (.iadd, 1) := by decide +kernel
theorem dX8_makes_243 : decode cX8_makes 243 = .ok (.aload_n 0, 1) := by decide +kernel
theorem dX8_makes_244 : decode cX8_makes 244 = .ok (.getfield 9, 3) := by decide +kernel
theorem dX8_makes_247 : decode cX8_makes 247 = .ok (.iload 4, 2) := by decide +kernel
theorem dX8_makes_249 : decode cX8_makes 249 = .ok (.iconst 4, 1) := by decide +kernel
theorem dX8_makes_250 : decode cX8_makes 250 = .ok (.iadd, 1) := by decide +kernel
theorem dX8_makes_251 : decode cX8_makes 251 = .ok (.iconst 2, 1) := by decide +kernel
theorem dX8_makes_252 : decode cX8_makes 252 = .ok (.iload 7, 2) := by decide +kernel
theorem dX8_makes_254 : decode cX8_makes 254 = .ok (.imul, 1) := by decide +kernel
theorem dX8_makes_255 : decode cX8_makes 255 = .ok (.iadd, 1) := by decide +kernel
theorem dX8_makes_256 : decode cX8_makes 256 = .ok (.iconst 1, 1) := by decide +kernel
theorem dX8_makes_257 : decode cX8_makes 257 = .ok (.iadd, 1) := by decide +kernel
theorem dX8_makes_258 : decode cX8_makes 258 = .ok (.iaload, 1) := by decide +kernel
theorem dX8_makes_259 : decode cX8_makes 259 = .ok (.iastore, 1) := by decide +kernel
theorem dX8_makes_260 : decode cX8_makes 260 = .ok (.iinc 7 1, 3) := by decide +kernel
theorem dX8_makes_263 : decode cX8_makes 263 = .ok (.goto (-71), 3) := by decide +kernel
theorem dX8_makes_266 : decode cX8_makes 266 = .ok (.aload_n 0, 1) := by decide +kernel
theorem dX8_makes_267 : decode cX8_makes 267 = .ok (.getfield 43, 3) := by decide +kernel
theorem dX8_makes_270 : decode cX8_makes 270 = .ok (.iload 6, 2) := by decide +kernel
theorem dX8_makes_272 : decode cX8_makes 272 = .ok (.iconst 1, 1) := by decide +kernel
theorem dX8_makes_273 : decode cX8_makes 273 = .ok (.iload_n 1, 1) := by decide +kernel
theorem dX8_makes_274 : decode cX8_makes 274 = .ok (.ishl, 1) := by decide +kernel
theorem dX8_makes_275 : decode cX8_makes 275 = .ok (.iastore, 1) := by decide +kernel
theorem dX8_makes_276 : decode cX8_makes 276 = .ok (.iconst 0, 1) := by decide +kernel
theorem dX8_makes_277 : decode cX8_makes 277 = .ok (.istore 7, 2) := by decide +kernel
theorem dX8_makes_279 : decode cX8_makes 279 = .ok (.iload 7, 2) := by decide +kernel
theorem dX8_makes_281 : decode cX8_makes 281 = .ok (.aload_n 0, 1) := by decide +kernel
theorem dX8_makes_282 : decode cX8_makes 282 = .ok (.getfield 37, 3) := by decide +kernel
theorem dX8_makes_285 : decode cX8_makes 285 = .ok (.iload 6, 2) := by decide +kernel
theorem dX8_makes_287 : decode cX8_makes 287 = .ok (.iaload, 1) := by decide +kernel
theorem dX8_makes_288 : decode cX8_makes 288 = .ok (.if_icmp .ge 34, 3) := by decide +kernel
theorem dX8_makes_291 : decode cX8_makes 291 = .ok (.aload_n 0, 1) := by decide +kernel
theorem dX8_makes_292 : decode cX8_makes 292 = .ok (.getfield 31, 3) := by decide +kernel
theorem dX8_makes_295 : decode cX8_makes 295 = .ok (.iload 6, 2) := by decide +kernel
theorem dX8_makes_297 : decode cX8_makes 297 = .ok (.iaload, 1) := by decide +kernel
theorem dX8_makes_298 : decode cX8_makes 298 = .ok (.iconst 1, 1) := by decide +kernel
theorem dX8_makes_299 : decode cX8_makes 299 = .ok (.if_icmp .ne 23, 3) := by decide +kernel
theorem dX8_makes_302 : decode cX8_makes 302 = .ok (.aload_n 0, 1) := by decide +kernel
theorem dX8_makes_303 : decode cX8_makes 303 = .ok (.getfield 52, 3) := by decide +kernel
theorem dX8_makes_306 : decode cX8_makes 306 = .ok (.bipush 10, 2) := by decide +kernel
theorem dX8_makes_308 : decode cX8_makes 308 = .ok (.iload 6, 2) := by decide +kernel
theorem dX8_makes_310 : decode cX8_makes 310 = .ok (.imul, 1) := by decide +kernel
theorem dX8_makes_311 : decode cX8_makes 311 = .ok (.iload 7, 2) := by decide +kernel
theorem dX8_makes_313 : decode cX8_makes 313 = .ok (.iadd, 1) := by decide +kernel
theorem dX8_makes_314 : decode cX8_makes 314 = .ok (.iload_n 1, 1) := by decide +kernel
theorem dX8_makes_315 : decode cX8_makes 315 = .ok (.iastore, 1) := by decide +kernel
theorem dX8_makes_316 : decode cX8_makes 316 = .ok (.iinc 7 1, 3) := by decide +kernel
theorem dX8_makes_319 : decode cX8_makes 319 = .ok (.goto (-40), 3) := by decide +kernel
theorem dX8_makes_322 : decode cX8_makes 322 = .ok (.iconst 1, 1) := by decide +kernel
theorem dX8_makes_323 : decode cX8_makes 323 = .ok (.ireturn, 1) := by decide +kernel
theorem dX8_is_0 : decode cX8_is 0 = .ok (.aload_n 0, 1) := by decide +kernel
theorem dX8_is_1 : decode cX8_is 1 = .ok (.getfield 31, 3) := by decide +kernel
theorem dX8_is_4 : decode cX8_is 4 = .ok (.iload_n 1, 1) := by decide +kernel
theorem dX8_is_5 : decode cX8_is 5 = .ok (.aload_n 0, 1) := by decide +kernel
theorem dX8_is_6 : decode cX8_is 6 = .ok (.getfield 31, 3) := by decide +kernel
theorem dX8_is_9 : decode cX8_is 9 = .ok (.iload_n 1, 1) := by decide +kernel
theorem dX8_is_10 : decode cX8_is 10 = .ok (.iconst 1, 1) := by decide +kernel
theorem dX8_is_11 : decode cX8_is 11 = .ok (.iadd, 1) := by decide +kernel
theorem dX8_is_12 : decode cX8_is 12 = .ok (.iaload, 1) := by decide +kernel
theorem dX8_is_13 : decode cX8_is 13 = .ok (.iastore, 1) := by decide +kernel
theorem dX8_is_14 : decode cX8_is 14 = .ok (.aload_n 0, 1) := by decide +kernel
theorem dX8_is_15 : decode cX8_is 15 = .ok (.getfield 34, 3) := by decide +kernel
theorem dX8_is_18 : decode cX8_is 18 = .ok (.iload_n 1, 1) := by decide +kernel
theorem dX8_is_19 : decode cX8_is 19 = .ok (.aload_n 0, 1) := by decide +kernel
theorem dX8_is_20 : decode cX8_is 20 = .ok (.getfield 34, 3) := by decide +kernel
theorem dX8_is_23 : decode cX8_is 23 = .ok (.iload_n 1, 1) := by decide +kernel
theorem dX8_is_24 : decode cX8_is 24 = .ok (.iconst 1, 1) := by decide +kernel
theorem dX8_is_25 : decode cX8_is 25 = .ok (.iadd, 1) := by decide +kernel
theorem dX8_is_26 : decode cX8_is 26 = .ok (.iaload, 1) := by decide +kernel
theorem dX8_is_27 : decode cX8_is 27 = .ok (.iastore, 1) := by decide +kernel
theorem dX8_is_28 : decode cX8_is 28 = .ok (.aload_n 0, 1) := by decide +kernel
theorem dX8_is_29 : decode cX8_is 29 = .ok (.getfield 37, 3) := by decide +kernel
theorem dX8_is_32 : decode cX8_is 32 = .ok (.iload_n 1, 1) := by decide +kernel
theorem dX8_is_33 : decode cX8_is 33 = .ok (.aload_n 0, 1) := by decide +kernel
theorem dX8_is_34 : decode cX8_is 34 = .ok (.getfield 37, 3) := by decide +kernel
theorem dX8_is_37 : decode cX8_is 37 = .ok (.iload_n 1, 1) := by decide +kernel
theorem dX8_is_38 : decode cX8_is 38 = .ok (.iconst 1, 1) := by decide +kernel
theorem dX8_is_39 : decode cX8_is 39 = .ok (.iadd, 1) := by decide +kernel
theorem dX8_is_40 : decode cX8_is 40 = .ok (.iaload, 1) := by decide +kernel
theorem dX8_is_41 : decode cX8_is 41 = .ok (.iastore, 1) := by decide +kernel
theorem dX8_is_42 : decode cX8_is 42 = .ok (.iconst 0, 1) := by decide +kernel
theorem dX8_is_43 : decode cX8_is 43 = .ok (.istore_n 3, 1) := by decide +kernel
theorem dX8_is_44 : decode cX8_is 44 = .ok (.iload_n 3, 1) := by decide +kernel
theorem dX8_is_45 : decode cX8_is 45 = .ok (.bipush 10, 2) := by decide +kernel
theorem dX8_is_47 : decode cX8_is 47 = .ok (.if_icmp .ge 81, 3) := by decide +kernel
theorem dX8_is_50 : decode cX8_is 50 = .ok (.aload_n 0, 1) := by decide +kernel
theorem dX8_is_51 : decode cX8_is 51 = .ok (.getfield 46, 3) := by decide +kernel
theorem dX8_is_54 : decode cX8_is 54 = .ok (.bipush 10, 2) := by decide +kernel
theorem dX8_is_56 : decode cX8_is 56 = .ok (.iload_n 1, 1) := by decide +kernel
theorem dX8_is_57 : decode cX8_is 57 = .ok (.imul, 1) := by decide +kernel
theorem dX8_is_58 : decode cX8_is 58 = .ok (.iload_n 3, 1) := by decide +kernel
theorem dX8_is_59 : decode cX8_is 59 = .ok (.iadd, 1) := by decide +kernel
theorem dX8_is_60 : decode cX8_is 60 = .ok (.aload_n 0, 1) := by decide +kernel
theorem dX8_is_61 : decode cX8_is 61 = .ok (.getfield 46, 3) := by decide +kernel
theorem dX8_is_64 : decode cX8_is 64 = .ok (.bipush 10, 2) := by decide +kernel
theorem dX8_is_66 : decode cX8_is 66 = .ok (.iload_n 1, 1) := by decide +kernel
theorem dX8_is_67 : decode cX8_is 67 = .ok (.iconst 1, 1) := by decide +kernel
theorem dX8_is_68 : decode cX8_is 68 = .ok (.iadd, 1) := by decide +kernel
theorem dX8_is_69 : decode cX8_is 69 = .ok (.imul, 1) := by decide +kernel
theorem dX8_is_70 : decode cX8_is 70 = .ok (.iload_n 3, 1) := by decide +kernel
theorem dX8_is_71 : decode cX8_is 71 = .ok (.iadd, 1) := by decide +kernel
theorem dX8_is_72 : decode cX8_is 72 = .ok (.iaload, 1) := by decide +kernel
theorem dX8_is_73 : decode cX8_is 73 = .ok (.iastore, 1) := by decide +kernel
theorem dX8_is_74 : decode cX8_is 74 = .ok (.aload_n 0, 1) := by decide +kernel
theorem dX8_is_75 : decode cX8_is 75 = .ok (.getfield 49, 3) := by decide +kernel
theorem dX8_is_78 : decode cX8_is 78 = .ok (.bipush 10, 2) := by decide +kernel
theorem dX8_is_80 : decode cX8_is 80 = .ok (.iload_n 1, 1) := by decide +kernel
theorem dX8_is_81 : decode cX8_is 81 = .ok (.imul, 1) := by decide +kernel
theorem dX8_is_82 : decode cX8_is 82 = .ok (.iload_n 3, 1) := by decide +kernel
theorem dX8_is_83 : decode cX8_is 83 = .ok (.iadd, 1) := by decide +kernel
theorem dX8_is_84 : decode cX8_is 84 = .ok (.aload_n 0, 1) := by decide +kernel
theorem dX8_is_85 : decode cX8_is 85 = .ok (.getfield 49, 3) := by decide +kernel
theorem dX8_is_88 : decode cX8_is 88 = .ok (.bipush 10, 2) := by decide +kernel
theorem dX8_is_90 : decode cX8_is 90 = .ok (.iload_n 1, 1) := by decide +kernel
theorem dX8_is_91 : decode cX8_is 91 = .ok (.iconst 1, 1) := by decide +kernel
theorem dX8_is_92 : decode cX8_is 92 = .ok (.iadd, 1) := by decide +kernel
theorem dX8_is_93 : decode cX8_is 93 = .ok (.imul, 1) := by decide +kernel
theorem dX8_is_94 : decode cX8_is 94 = .ok (.iload_n 3, 1) := by decide +kernel
theorem dX8_is_95 : decode cX8_is 95 = .ok (.iadd, 1) := by decide +kernel
theorem dX8_is_96 : decode cX8_is 96 = .ok (.iaload, 1) := by decide +kernel
theorem dX8_is_97 : decode cX8_is 97 = .ok (.iastore, 1) := by decide +kernel
theorem dX8_is_98 : decode cX8_is 98 = .ok (.aload_n 0, 1) := by decide +kernel
theorem dX8_is_99 : decode cX8_is 99 = .ok (.getfield 52, 3) := by decide +kernel
theorem dX8_is_102 : decode cX8_is 102 = .ok (.bipush 10, 2) := by decide +kernel
theorem dX8_is_104 : decode cX8_is 104 = .ok (.iload_n 1, 1) := by decide +kernel
theorem dX8_is_105 : decode cX8_is 105 = .ok (.imul, 1) := by decide +kernel
theorem dX8_is_106 : decode cX8_is 106 = .ok (.iload_n 3, 1) := by decide +kernel
theorem dX8_is_107 : decode cX8_is 107 = .ok (.iadd, 1) := by decide +kernel
theorem dX8_is_108 : decode cX8_is 108 = .ok (.aload_n 0, 1) := by decide +kernel
theorem dX8_is_109 : decode cX8_is 109 = .ok (.getfield 52, 3) := by decide +kernel
theorem dX8_is_112 : decode cX8_is 112 = .ok (.bipush 10, 2) := by decide +kernel
theorem dX8_is_114 : decode cX8_is 114 = .ok (.iload_n 1, 1) := by decide +kernel
theorem dX8_is_115 : decode cX8_is 115 = .ok (.iconst 1, 1) := by decide +kernel
theorem dX8_is_116 : decode cX8_is 116 = .ok (.iadd, 1) := by decide +kernel
theorem dX8_is_117 : decode cX8_is 117 = .ok (.imul, 1) := by decide +kernel
theorem dX8_is_118 : decode cX8_is 118 = .ok (.iload_n 3, 1) := by decide +kernel
theorem dX8_is_119 : decode cX8_is 119 = .ok (.iadd, 1) := by decide +kernel
theorem dX8_is_120 : decode cX8_is 120 = .ok (.iaload, 1) := by decide +kernel
theorem dX8_is_121 : decode cX8_is 121 = .ok (.iastore, 1) := by decide +kernel
theorem dX8_is_122 : decode cX8_is 122 = .ok (.iinc 3 1, 3) := by decide +kernel
theorem dX8_is_125 : decode cX8_is 125 = .ok (.goto (-81), 3) := by decide +kernel
theorem dX8_is_128 : decode cX8_is 128 = .ok (.aload_n 0, 1) := by decide +kernel
theorem dX8_is_129 : decode cX8_is 129 = .ok (.getfield 40, 3) := by decide +kernel
theorem dX8_is_132 : decode cX8_is 132 = .ok (.iload_n 1, 1) := by decide +kernel
theorem dX8_is_133 : decode cX8_is 133 = .ok (.iconst 1, 1) := by decide +kernel
theorem dX8_is_134 : decode cX8_is 134 = .ok (.iload_n 2, 1) := by decide +kernel
theorem dX8_is_135 : decode cX8_is 135 = .ok (.ishl, 1) := by decide +kernel
theorem dX8_is_136 : decode cX8_is 136 = .ok (.iastore, 1) := by decide +kernel
theorem dX8_is_137 : decode cX8_is 137 = .ok (.aload_n 0, 1) := by decide +kernel
theorem dX8_is_138 : decode cX8_is 138 = .ok (.getfield 43, 3) := by decide +kernel
theorem dX8_is_141 : decode cX8_is 141 = .ok (.iload_n 1, 1) := by decide +kernel
theorem dX8_is_142 : decode cX8_is 142 = .ok (.aload_n 0, 1) := by decide +kernel
theorem dX8_is_143 : decode cX8_is 143 = .ok (.getfield 43, 3) := by decide +kernel
theorem dX8_is_146 : decode cX8_is 146 = .ok (.iload_n 1, 1) := by decide +kernel
theorem dX8_is_147 : decode cX8_is 147 = .ok (.iconst 1, 1) := by decide +kernel
theorem dX8_is_148 : decode cX8_is 148 = .ok (.iadd, 1) := by decide +kernel
theorem dX8_is_149 : decode cX8_is 149 = .ok (.iaload, 1) := by decide +kernel
theorem dX8_is_150 : decode cX8_is 150 = .ok (.iastore, 1) := by decide +kernel
theorem dX8_is_151 : decode cX8_is 151 = .ok (.return_, 1) := by decide +kernel
theorem dX8_merges_0 : decode cX8_merges 0 = .ok (.aload_n 0, 1) := by decide +kernel
theorem dX8_merges_1 : decode cX8_merges 1 = .ok (.getfield 31, 3) := by decide +kernel
theorem dX8_merges_4 : decode cX8_merges 4 = .ok (.iload_n 2, 1) := by decide +kernel
theorem dX8_merges_5 : decode cX8_merges 5 = .ok (.iconst 1, 1) := by decide +kernel
theorem dX8_merges_6 : decode cX8_merges 6 = .ok (.iadd, 1) := by decide +kernel
theorem dX8_merges_7 : decode cX8_merges 7 = .ok (.iaload, 1) := by decide +kernel
theorem dX8_merges_8 : decode cX8_merges 8 = .ok (.iconst 1, 1) := by decide +kernel
theorem dX8_merges_9 : decode cX8_merges 9 = .ok (.if_icmp .eq 10, 3) := by decide +kernel
theorem dX8_merges_12 : decode cX8_merges 12 = .ok (.aload_n 0, 1) := by decide +kernel
theorem dX8_merges_13 : decode cX8_merges 13 = .ok (.iconst 3, 1) := by decide +kernel
theorem dX8_merges_14 : decode cX8_merges 14 = .ok (.iload_n 1, 1) := by decide +kernel
theorem dX8_merges_15 : decode cX8_merges 15 = .ok (.invokevirtual 111, 3) := by decide +kernel
theorem dX8_merges_18 : decode cX8_merges 18 = .ok (.ireturn, 1) := by decide +kernel
theorem dX8_merges_19 : decode cX8_merges 19 = .ok (.iconst 0, 1) := by decide +kernel
theorem dX8_merges_20 : decode cX8_merges 20 = .ok (.istore 4, 2) := by decide +kernel
theorem dX8_merges_22 : decode cX8_merges 22 = .ok (.iload 4, 2) := by decide +kernel
theorem dX8_merges_24 : decode cX8_merges 24 = .ok (.aload_n 0, 1) := by decide +kernel
theorem dX8_merges_25 : decode cX8_merges 25 = .ok (.getfield 37, 3) := by decide +kernel
theorem dX8_merges_28 : decode cX8_merges 28 = .ok (.iload_n 2, 1) := by decide +kernel
theorem dX8_merges_29 : decode cX8_merges 29 = .ok (.iconst 1, 1) := by decide +kernel
theorem dX8_merges_30 : decode cX8_merges 30 = .ok (.iadd, 1) := by decide +kernel
theorem dX8_merges_31 : decode cX8_merges 31 = .ok (.iaload, 1) := by decide +kernel
theorem dX8_merges_32 : decode cX8_merges 32 = .ok (.if_icmp .ge 152, 3) := by decide +kernel
theorem dX8_merges_35 : decode cX8_merges 35 = .ok (.bipush 10, 2) := by decide +kernel
theorem dX8_merges_37 : decode cX8_merges 37 = .ok (.iload_n 2, 1) := by decide +kernel
theorem dX8_merges_38 : decode cX8_merges 38 = .ok (.iconst 1, 1) := by decide +kernel
theorem dX8_merges_39 : decode cX8_merges 39 = .ok (.iadd, 1) := by decide +kernel
theorem dX8_merges_40 : decode cX8_merges 40 = .ok (.imul, 1) := by decide +kernel
theorem dX8_merges_41 : decode cX8_merges 41 = .ok (.iload 4, 2) := by decide +kernel
theorem dX8_merges_43 : decode cX8_merges 43 = .ok (.iadd, 1) := by decide +kernel
theorem dX8_merges_44 : decode cX8_merges 44 = .ok (.istore 5, 2) := by decide +kernel
theorem dX8_merges_46 : decode cX8_merges 46 = .ok (.iconst 0, 1) := by decide +kernel
theorem dX8_merges_47 : decode cX8_merges 47 = .ok (.istore 6, 2) := by decide +kernel
theorem dX8_merges_49 : decode cX8_merges 49 = .ok (.iload 6, 2) := by decide +kernel
theorem dX8_merges_51 : decode cX8_merges 51 = .ok (.aload_n 0, 1) := by decide +kernel
theorem dX8_merges_52 : decode cX8_merges 52 = .ok (.getfield 37, 3) := by decide +kernel
theorem dX8_merges_55 : decode cX8_merges 55 = .ok (.iload_n 2, 1) := by decide +kernel
theorem dX8_merges_56 : decode cX8_merges 56 = .ok (.iaload, 1) := by decide +kernel
theorem dX8_merges_57 : decode cX8_merges 57 = .ok (.if_icmp .ge 31, 3) := by decide +kernel
theorem dX8_merges_60 : decode cX8_merges 60 = .ok (.aload_n 0, 1) := by decide +kernel
theorem dX8_merges_61 : decode cX8_merges 61 = .ok (.getfield 46, 3) := by decide +kernel
theorem dX8_merges_64 : decode cX8_merges 64 = .ok (.bipush 10, 2) := by decide +kernel
theorem dX8_merges_66 : decode cX8_merges 66 = .ok (.iload_n 2, 1) := by decide +kernel
theorem dX8_merges_67 : decode cX8_merges 67 = .ok (.imul, 1) := by decide +kernel
theorem dX8_merges_68 : decode cX8_merges 68 = .ok (.iload 6, 2) := by decide +kernel
theorem dX8_merges_70 : decode cX8_merges 70 = .ok (.iadd, 1) := by decide +kernel
theorem dX8_merges_71 : decode cX8_merges 71 = .ok (.iaload, 1) := by decide +kernel
theorem dX8_merges_72 : decode cX8_merges 72 = .ok (.aload_n 0, 1) := by decide +kernel
theorem dX8_merges_73 : decode cX8_merges 73 = .ok (.getfield 46, 3) := by decide +kernel
theorem dX8_merges_76 : decode cX8_merges 76 = .ok (.iload 5, 2) := by decide +kernel
theorem dX8_merges_78 : decode cX8_merges 78 = .ok (.iaload, 1) := by decide +kernel
theorem dX8_merges_79 : decode cX8_merges 79 = .ok (.if_icmp .eq 9, 3) := by decide +kernel
theorem dX8_merges_82 : decode cX8_merges 82 = .ok (.iinc 6 1, 3) := by decide +kernel
theorem dX8_merges_85 : decode cX8_merges 85 = .ok (.goto (-36), 3) := by decide +kernel
theorem dX8_merges_88 : decode cX8_merges 88 = .ok (.iload 6, 2) := by decide +kernel
theorem dX8_merges_90 : decode cX8_merges 90 = .ok (.bipush 10, 2) := by decide +kernel
theorem dX8_merges_92 : decode cX8_merges 92 = .ok (.if_icmp .ne 10, 3) := by decide +kernel
theorem dX8_merges_95 : decode cX8_merges 95 = .ok (.aload_n 0, 1) := by decide +kernel
theorem dX8_merges_96 : decode cX8_merges 96 = .ok (.iconst 4, 1) := by decide +kernel
theorem dX8_merges_97 : decode cX8_merges 97 = .ok (.iload_n 1, 1) := by decide +kernel
theorem dX8_merges_98 : decode cX8_merges 98 = .ok (.invokevirtual 111, 3) := by decide +kernel
theorem dX8_merges_101 : decode cX8_merges 101 = .ok (.ireturn, 1) := by decide +kernel
theorem dX8_merges_102 : decode cX8_merges 102 = .ok (.aload_n 0, 1) := by decide +kernel
theorem dX8_merges_103 : decode cX8_merges 103 = .ok (.getfield 46, 3) := by decide +kernel
theorem dX8_merges_106 : decode cX8_merges 106 = .ok (.bipush 10, 2) := by decide +kernel
theorem dX8_merges_108 : decode cX8_merges 108 = .ok (.iload_n 2, 1) := by decide +kernel
theorem dX8_merges_109 : decode cX8_merges 109 = .ok (.imul, 1) := by decide +kernel
theorem dX8_merges_110 : decode cX8_merges 110 = .ok (.iload 6, 2) := by decide +kernel
theorem dX8_merges_112 : decode cX8_merges 112 = .ok (.iadd, 1) := by decide +kernel
theorem dX8_merges_113 : decode cX8_merges 113 = .ok (.aload_n 0, 1) := by decide +kernel
theorem dX8_merges_114 : decode cX8_merges 114 = .ok (.getfield 46, 3) := by decide +kernel
theorem dX8_merges_117 : decode cX8_merges 117 = .ok (.iload 5, 2) := by decide +kernel
theorem dX8_merges_119 : decode cX8_merges 119 = .ok (.iaload, 1) := by decide +kernel
theorem dX8_merges_120 : decode cX8_merges 120 = .ok (.iastore, 1) := by decide +kernel
theorem dX8_merges_121 : decode cX8_merges 121 = .ok (.aload_n 0, 1) := by decide +kernel
theorem dX8_merges_122 : decode cX8_merges 122 = .ok (.getfield 49, 3) := by decide +kernel
theorem dX8_merges_125 : decode cX8_merges 125 = .ok (.bipush 10, 2) := by decide +kernel
theorem dX8_merges_127 : decode cX8_merges 127 = .ok (.iload_n 2, 1) := by decide +kernel
theorem dX8_merges_128 : decode cX8_merges 128 = .ok (.imul, 1) := by decide +kernel
theorem dX8_merges_129 : decode cX8_merges 129 = .ok (.iload 6, 2) := by decide +kernel
theorem dX8_merges_131 : decode cX8_merges 131 = .ok (.iadd, 1) := by decide +kernel
theorem dX8_merges_132 : decode cX8_merges 132 = .ok (.aload_n 0, 1) := by decide +kernel
theorem dX8_merges_133 : decode cX8_merges 133 = .ok (.getfield 49, 3) := by decide +kernel
theorem dX8_merges_136 : decode cX8_merges 136 = .ok (.iload 5, 2) := by decide +kernel
theorem dX8_merges_138 : decode cX8_merges 138 = .ok (.iaload, 1) := by decide +kernel
theorem dX8_merges_139 : decode cX8_merges 139 = .ok (.iastore, 1) := by decide +kernel
theorem dX8_merges_140 : decode cX8_merges 140 = .ok (.aload_n 0, 1) := by decide +kernel
theorem dX8_merges_141 : decode cX8_merges 141 = .ok (.getfield 52, 3) := by decide +kernel
theorem dX8_merges_144 : decode cX8_merges 144 = .ok (.bipush 10, 2) := by decide +kernel
theorem dX8_merges_146 : decode cX8_merges 146 = .ok (.iload_n 2, 1) := by decide +kernel
theorem dX8_merges_147 : decode cX8_merges 147 = .ok (.imul, 1) := by decide +kernel
theorem dX8_merges_148 : decode cX8_merges 148 = .ok (.iload 6, 2) := by decide +kernel
theorem dX8_merges_150 : decode cX8_merges 150 = .ok (.iadd, 1) := by decide +kernel
theorem dX8_merges_151 : decode cX8_merges 151 = .ok (.aload_n 0, 1) := by decide +kernel
theorem dX8_merges_152 : decode cX8_merges 152 = .ok (.getfield 52, 3) := by decide +kernel
theorem dX8_merges_155 : decode cX8_merges 155 = .ok (.iload 5, 2) := by decide +kernel
theorem dX8_merges_157 : decode cX8_merges 157 = .ok (.iaload, 1) := by decide +kernel
theorem dX8_merges_158 : decode cX8_merges 158 = .ok (.iastore, 1) := by decide +kernel
theorem dX8_merges_159 : decode cX8_merges 159 = .ok (.aload_n 0, 1) := by decide +kernel
theorem dX8_merges_160 : decode cX8_merges 160 = .ok (.getfield 37, 3) := by decide +kernel
theorem dX8_merges_163 : decode cX8_merges 163 = .ok (.iload_n 2, 1) := by decide +kernel
theorem dX8_merges_164 : decode cX8_merges 164 = .ok (.aload_n 0, 1) := by decide +kernel
theorem dX8_merges_165 : decode cX8_merges 165 = .ok (.getfield 37, 3) := by decide +kernel
theorem dX8_merges_168 : decode cX8_merges 168 = .ok (.iload_n 2, 1) := by decide +kernel
theorem dX8_merges_169 : decode cX8_merges 169 = .ok (.iaload, 1) := by decide +kernel
theorem dX8_merges_170 : decode cX8_merges 170 = .ok (.iload 6, 2) := by decide +kernel
theorem dX8_merges_172 : decode cX8_merges 172 = .ok (.iconst 1, 1) := by decide +kernel
theorem dX8_merges_173 : decode cX8_merges 173 = .ok (.iadd, 1) := by decide +kernel
theorem dX8_merges_174 : decode cX8_merges 174 = .ok (.invokestatic 120, 3) := by decide +kernel
theorem dX8_merges_177 : decode cX8_merges 177 = .ok (.iastore, 1) := by decide +kernel
theorem dX8_merges_178 : decode cX8_merges 178 = .ok (.iinc 4 1, 3) := by decide +kernel
theorem dX8_merges_181 : decode cX8_merges 181 = .ok (.goto (-159), 3) := by decide +kernel
theorem dX8_merges_184 : decode cX8_merges 184 = .ok (.aload_n 0, 1) := by decide +kernel
theorem dX8_merges_185 : decode cX8_merges 185 = .ok (.getfield 40, 3) := by decide +kernel
theorem dX8_merges_188 : decode cX8_merges 188 = .ok (.iload_n 2, 1) := by decide +kernel
theorem dX8_merges_189 : decode cX8_merges 189 = .ok (.dup2, 1) := by decide +kernel
theorem dX8_merges_190 : decode cX8_merges 190 = .ok (.iaload, 1) := by decide +kernel
theorem dX8_merges_191 : decode cX8_merges 191 = .ok (.iconst 1, 1) := by decide +kernel
theorem dX8_merges_192 : decode cX8_merges 192 = .ok (.iload_n 3, 1) := by decide +kernel
theorem dX8_merges_193 : decode cX8_merges 193 = .ok (.ishl, 1) := by decide +kernel
theorem dX8_merges_194 : decode cX8_merges 194 = .ok (.ior, 1) := by decide +kernel
theorem dX8_merges_195 : decode cX8_merges 195 = .ok (.iastore, 1) := by decide +kernel
theorem dX8_merges_196 : decode cX8_merges 196 = .ok (.aload_n 0, 1) := by decide +kernel
theorem dX8_merges_197 : decode cX8_merges 197 = .ok (.getfield 43, 3) := by decide +kernel
theorem dX8_merges_200 : decode cX8_merges 200 = .ok (.iload_n 2, 1) := by decide +kernel
theorem dX8_merges_201 : decode cX8_merges 201 = .ok (.dup2, 1) := by decide +kernel
theorem dX8_merges_202 : decode cX8_merges 202 = .ok (.iaload, 1) := by decide +kernel
theorem dX8_merges_203 : decode cX8_merges 203 = .ok (.aload_n 0, 1) := by decide +kernel
theorem dX8_merges_204 : decode cX8_merges 204 = .ok (.getfield 43, 3) := by decide +kernel
theorem dX8_merges_207 : decode cX8_merges 207 = .ok (.iload_n 2, 1) := by decide +kernel
theorem dX8_merges_208 : decode cX8_merges 208 = .ok (.iconst 1, 1) := by decide +kernel
theorem dX8_merges_209 : decode cX8_merges 209 = .ok (.iadd, 1) := by decide +kernel
theorem dX8_merges_210 : decode cX8_merges 210 = .ok (.iaload, 1) := by decide +kernel
theorem dX8_merges_211 : decode cX8_merges 211 = .ok (.ior, 1) := by decide +kernel
theorem dX8_merges_212 : decode cX8_merges 212 = .ok (.iastore, 1) := by decide +kernel
theorem dX8_merges_213 : decode cX8_merges 213 = .ok (.iconst 1, 1) := by decide +kernel
theorem dX8_merges_214 : decode cX8_merges 214 = .ok (.ireturn, 1) := by decide +kernel
theorem dX8_takes_0 : decode cX8_takes 0 = .ok (.aload_n 0, 1) := by decide +kernel
theorem dX8_takes_1 : decode cX8_takes 1 = .ok (.getfield 9, 3) := by decide +kernel
theorem dX8_takes_4 : decode cX8_takes 4 = .ok (.bipush 20, 2) := by decide +kernel
theorem dX8_takes_6 : decode cX8_takes 6 = .ok (.iload_n 1, 1) := by decide +kernel
theorem dX8_takes_7 : decode cX8_takes 7 = .ok (.iadd, 1) := by decide +kernel
theorem dX8_takes_8 : decode cX8_takes 8 = .ok (.iaload, 1) := by decide +kernel
theorem dX8_takes_9 : decode cX8_takes 9 = .ok (.istore 4, 2) := by decide +kernel
theorem dX8_takes_11 : decode cX8_takes 11 = .ok (.iconst 1, 1) := by decide +kernel
theorem dX8_takes_12 : decode cX8_takes 12 = .ok (.istore 5, 2) := by decide +kernel
theorem dX8_takes_14 : decode cX8_takes 14 = .ok (.bipush (-9), 2) := by decide +kernel
theorem dX8_takes_16 : decode cX8_takes 16 = .ok (.istore 6, 2) := by decide +kernel
theorem dX8_takes_18 : decode cX8_takes 18 = .ok (.iconst 0, 1) := by decide +kernel
theorem dX8_takes_19 : decode cX8_takes 19 = .ok (.istore 7, 2) := by decide +kernel
theorem dX8_takes_21 : decode cX8_takes 21 = .ok (.iload 7, 2) := by decide +kernel
theorem dX8_takes_23 : decode cX8_takes 23 = .ok (.bipush 6, 2) := by decide +kernel
theorem dX8_takes_25 : decode cX8_takes 25 = .ok (.if_icmp .ge 265, 3) := by decide +kernel
theorem dX8_takes_28 : decode cX8_takes 28 = .ok (.aload_n 0, 1) := by decide +kernel
theorem dX8_takes_29 : decode cX8_takes 29 = .ok (.iload 7, 2) := by decide +kernel
theorem dX8_takes_31 : decode cX8_takes 31 = .ok (.invokevirtual 95, 3) := by decide +kernel
theorem dX8_takes_34 : decode cX8_takes 34 = .ok (.istore 8, 2) := by decide +kernel
theorem dX8_takes_36 : decode cX8_takes 36 = .ok (.iload_n 3, 1) := by decide +kernel
theorem dX8_takes_37 : decode cX8_takes 37 = .ok (.iload 8, 2) := by decide +kernel
theorem dX8_takes_39 : decode cX8_takes 39 = .ok (.ishr, 1) := by decide +kernel
theorem dX8_takes_40 : decode cX8_takes 40 = .ok (.iconst 1, 1) := by decide +kernel
theorem dX8_takes_41 : decode cX8_takes 41 = .ok (.iand, 1) := by decide +kernel
theorem dX8_takes_42 : decode cX8_takes 42 = .ok (.ifCond .ne 6, 3) := by decide +kernel
theorem dX8_takes_45 : decode cX8_takes 45 = .ok (.goto 239, 3) := by decide +kernel
theorem dX8_takes_48 : decode cX8_takes 48 = .ok (.iload 8, 2) := by decide +kernel
theorem dX8_takes_50 : decode cX8_takes 50 = .ok (.istore 6, 2) := by decide +kernel
theorem dX8_takes_52 : decode cX8_takes 52 = .ok (.iload 4, 2) := by decide +kernel
theorem dX8_takes_54 : decode cX8_takes 54 = .ok (.ifCond .ne 6, 3) := by decide +kernel
theorem dX8_takes_57 : decode cX8_takes 57 = .ok (.goto 227, 3) := by decide +kernel
theorem dX8_takes_60 : decode cX8_takes 60 = .ok (.aload_n 0, 1) := by decide +kernel
theorem dX8_takes_61 : decode cX8_takes 61 = .ok (.iload 8, 2) := by decide +kernel
theorem dX8_takes_63 : decode cX8_takes 63 = .ok (.iload_n 1, 1) := by decide +kernel
theorem dX8_takes_64 : decode cX8_takes 64 = .ok (.iload_n 2, 1) := by decide +kernel
theorem dX8_takes_65 : decode cX8_takes 65 = .ok (.invokevirtual 125, 3) := by decide +kernel
theorem dX8_takes_68 : decode cX8_takes 68 = .ok (.ifCond .ne 5, 3) := by decide +kernel
theorem dX8_takes_71 : decode cX8_takes 71 = .ok (.iconst 0, 1) := by decide +kernel
theorem dX8_takes_72 : decode cX8_takes 72 = .ok (.ireturn, 1) := by decide +kernel
theorem dX8_takes_73 : decode cX8_takes 73 = .ok (.iload 4, 2) := by decide +kernel
theorem dX8_takes_75 : decode cX8_takes 75 = .ok (.iconst 1, 1) := by decide +kernel
theorem dX8_takes_76 : decode cX8_takes 76 = .ok (.if_icmp .ne 12, 3) := by decide +kernel
theorem dX8_takes_79 : decode cX8_takes 79 = .ok (.aload_n 0, 1) := by decide +kernel
theorem dX8_takes_80 : decode cX8_takes 80 = .ok (.iload_n 2, 1) := by decide +kernel
theorem dX8_takes_81 : decode cX8_takes 81 = .ok (.iload 8, 2) := by decide +kernel
theorem dX8_takes_83 : decode cX8_takes 83 = .ok (.invokevirtual 128, 3) := by decide +kernel
theorem dX8_takes_86 : decode cX8_takes 86 = .ok (.iconst 1, 1) := by decide +kernel
theorem dX8_takes_87 : decode cX8_takes 87 = .ok (.ireturn, 1) := by decide +kernel
theorem dX8_takes_88 : decode cX8_takes 88 = .ok (.iload 4, 2) := by decide +kernel
theorem dX8_takes_90 : decode cX8_takes 90 = .ok (.iconst 4, 1) := by decide +kernel
theorem dX8_takes_91 : decode cX8_takes 91 = .ok (.if_icmp .ne 56, 3) := by decide +kernel
theorem dX8_takes_94 : decode cX8_takes 94 = .ok (.iload 5, 2) := by decide +kernel
theorem dX8_takes_96 : decode cX8_takes 96 = .ok (.ifCond .eq 38, 3) := by decide +kernel
theorem dX8_takes_99 : decode cX8_takes 99 = .ok (.aload_n 0, 1) := by decide +kernel
theorem dX8_takes_100 : decode cX8_takes 100 = .ok (.getfield 31, 3) := by decide +kernel
theorem dX8_takes_103 : decode cX8_takes 103 = .ok (.iload_n 2, 1) := by decide +kernel
theorem dX8_takes_104 : decode cX8_takes 104 = .ok (.iconst 1, 1) := by decide +kernel
theorem dX8_takes_105 : decode cX8_takes 105 = .ok (.iastore, 1) := by decide +kernel
theorem dX8_takes_106 : decode cX8_takes 106 = .ok (.aload_n 0, 1) := by decide +kernel
theorem dX8_takes_107 : decode cX8_takes 107 = .ok (.getfield 34, 3) := by decide +kernel
theorem dX8_takes_110 : decode cX8_takes 110 = .ok (.iload_n 2, 1) := by decide +kernel
theorem dX8_takes_111 : decode cX8_takes 111 = .ok (.iconst 0, 1) := by decide +kernel
theorem dX8_takes_112 : decode cX8_takes 112 = .ok (.iastore, 1) := by decide +kernel
theorem dX8_takes_113 : decode cX8_takes 113 = .ok (.aload_n 0, 1) := by decide +kernel
theorem dX8_takes_114 : decode cX8_takes 114 = .ok (.getfield 37, 3) := by decide +kernel
theorem dX8_takes_117 : decode cX8_takes 117 = .ok (.iload_n 2, 1) := by decide +kernel
theorem dX8_takes_118 : decode cX8_takes 118 = .ok (.iconst 0, 1) := by decide +kernel
theorem dX8_takes_119 : decode cX8_takes 119 = .ok (.iastore, 1) := by decide +kernel
theorem dX8_takes_120 : decode cX8_takes 120 = .ok (.aload_n 0, 1) := by decide +kernel
theorem dX8_takes_121 : decode cX8_takes 121 = .ok (.getfield 40, 3) := by decide +kernel
theorem dX8_takes_124 : decode cX8_takes 124 = .ok (.iload_n 2, 1) := by decide +kernel
theorem dX8_takes_125 : decode cX8_takes 125 = .ok (.iconst 0, 1) := by decide +kernel
theorem dX8_takes_126 : decode cX8_takes 126 = .ok (.iastore, 1) := by decide +kernel
theorem dX8_takes_127 : decode cX8_takes 127 = .ok (.aload_n 0, 1) := by decide +kernel
theorem dX8_takes_128 : decode cX8_takes 128 = .ok (.getfield 43, 3) := by decide +kernel
theorem dX8_takes_131 : decode cX8_takes 131 = .ok (.iload_n 2, 1) := by decide +kernel
theorem dX8_takes_132 : decode cX8_takes 132 = .ok (.iconst 0, 1) := by decide +kernel
theorem dX8_takes_133 : decode cX8_takes 133 = .ok (.iastore, 1) := by decide +kernel
theorem dX8_takes_134 : decode cX8_takes 134 = .ok (.aload_n 0, 1) := by decide +kernel
theorem dX8_takes_135 : decode cX8_takes 135 = .ok (.iload_n 1, 1) := by decide +kernel
theorem dX8_takes_136 : decode cX8_takes 136 = .ok (.iload_n 2, 1) := by decide +kernel
theorem dX8_takes_137 : decode cX8_takes 137 = .ok (.iload 8, 2) := by decide +kernel
theorem dX8_takes_139 : decode cX8_takes 139 = .ok (.invokevirtual 132, 3) := by decide +kernel
theorem dX8_takes_142 : decode cX8_takes 142 = .ok (.ifCond .ne 139, 3) := by decide +kernel
theorem dX8_takes_145 : decode cX8_takes 145 = .ok (.iconst 0, 1) := by decide +kernel
theorem dX8_takes_146 : decode cX8_takes 146 = .ok (.ireturn, 1) := by decide +kernel
theorem dX8_takes_147 : decode cX8_takes 147 = .ok (.aload_n 0, 1) := by decide +kernel
theorem dX8_takes_148 : decode cX8_takes 148 = .ok (.getfield 31, 3) := by decide +kernel
theorem dX8_takes_151 : decode cX8_takes 151 = .ok (.iload_n 2, 1) := by decide +kernel
theorem dX8_takes_152 : decode cX8_takes 152 = .ok (.iconst 1, 1) := by decide +kernel
theorem dX8_takes_153 : decode cX8_takes 153 = .ok (.iadd, 1) := by decide +kernel
theorem dX8_takes_154 : decode cX8_takes 154 = .ok (.iaload, 1) := by decide +kernel
theorem dX8_takes_155 : decode cX8_takes 155 = .ok (.ifCond .eq 10, 3) := by decide +kernel
theorem dX8_takes_158 : decode cX8_takes 158 = .ok (.aload_n 0, 1) := by decide +kernel
theorem dX8_takes_159 : decode cX8_takes 159 = .ok (.iconst 3, 1) := by decide +kernel
theorem dX8_takes_160 : decode cX8_takes 160 = .ok (.iload_n 1, 1) := by decide +kernel
theorem dX8_takes_161 : decode cX8_takes 161 = .ok (.invokevirtual 111, 3) := by decide +kernel
theorem dX8_takes_164 : decode cX8_takes 164 = .ok (.ireturn, 1) := by decide +kernel
theorem dX8_takes_165 : decode cX8_takes 165 = .ok (.iload 5, 2) := by decide +kernel
theorem dX8_takes_167 : decode cX8_takes 167 = .ok (.ifCond .ne 26, 3) := by decide +kernel
theorem dX8_takes_170 : decode cX8_takes 170 = .ok (.iload 4, 2) := by decide +kernel
theorem dX8_takes_172 : decode cX8_takes 172 = .ok (.iconst 3, 1) := by decide +kernel
theorem dX8_takes_173 : decode cX8_takes 173 = .ok (.if_icmp .ne 30, 3) := by decide +kernel
theorem dX8_takes_176 : decode cX8_takes 176 = .ok (.aload_n 0, 1) := by decide +kernel
theorem dX8_takes_177 : decode cX8_takes 177 = .ok (.getfield 34, 3) := by decide +kernel
theorem dX8_takes_180 : decode cX8_takes 180 = .ok (.iload_n 2, 1) := by decide +kernel
theorem dX8_takes_181 : decode cX8_takes 181 = .ok (.iconst 1, 1) := by decide +kernel
theorem dX8_takes_182 : decode cX8_takes 182 = .ok (.iadd, 1) := by decide +kernel
theorem dX8_takes_183 : decode cX8_takes 183 = .ok (.iaload, 1) := by decide +kernel
theorem dX8_takes_184 : decode cX8_takes 184 = .ok (.aload_n 0, 1) := by decide +kernel
theorem dX8_takes_185 : decode cX8_takes 185 = .ok (.getfield 34, 3) := by decide +kernel
theorem dX8_takes_188 : decode cX8_takes 188 = .ok (.iload_n 2, 1) := by decide +kernel
theorem dX8_takes_189 : decode cX8_takes 189 = .ok (.iaload, 1) := by decide +kernel
theorem dX8_takes_190 : decode cX8_takes 190 = .ok (.if_icmp .le 13, 3) := by decide +kernel
theorem dX8_takes_193 : decode cX8_takes 193 = .ok (.aload_n 0, 1) := by decide +kernel
theorem dX8_takes_194 : decode cX8_takes 194 = .ok (.iload_n 2, 1) := by decide +kernel
theorem dX8_takes_195 : decode cX8_takes 195 = .ok (.iload 8, 2) := by decide +kernel
theorem dX8_takes_197 : decode cX8_takes 197 = .ok (.invokevirtual 128, 3) := by decide +kernel
theorem dX8_takes_200 : decode cX8_takes 200 = .ok (.goto 56, 3) := by decide +kernel
theorem dX8_takes_203 : decode cX8_takes 203 = .ok (.iload 4, 2) := by decide +kernel
theorem dX8_takes_205 : decode cX8_takes 205 = .ok (.iconst 2, 1) := by decide +kernel
theorem dX8_takes_206 : decode cX8_takes 206 = .ok (.if_icmp .ne 50, 3) := by decide +kernel
theorem dX8_takes_209 : decode cX8_takes 209 = .ok (.aload_n 0, 1) := by decide +kernel
theorem dX8_takes_210 : decode cX8_takes 210 = .ok (.getfield 34, 3) := by decide +kernel
theorem dX8_takes_213 : decode cX8_takes 213 = .ok (.iload_n 2, 1) := by decide +kernel
theorem dX8_takes_214 : decode cX8_takes 214 = .ok (.dup2, 1) := by decide +kernel
theorem dX8_takes_215 : decode cX8_takes 215 = .ok (.iaload, 1) := by decide +kernel
theorem dX8_takes_216 : decode cX8_takes 216 = .ok (.aload_n 0, 1) := by decide +kernel
theorem dX8_takes_217 : decode cX8_takes 217 = .ok (.getfield 34, 3) := by decide +kernel
theorem dX8_takes_220 : decode cX8_takes 220 = .ok (.iload_n 2, 1) := by decide +kernel
theorem dX8_takes_221 : decode cX8_takes 221 = .ok (.iconst 1, 1) := by decide +kernel
theorem dX8_takes_222 : decode cX8_takes 222 = .ok (.iadd, 1) := by decide +kernel
theorem dX8_takes_223 : decode cX8_takes 223 = .ok (.iaload, 1) := by decide +kernel
theorem dX8_takes_224 : decode cX8_takes 224 = .ok (.iadd, 1) := by decide +kernel
theorem dX8_takes_225 : decode cX8_takes 225 = .ok (.iastore, 1) := by decide +kernel
theorem dX8_takes_226 : decode cX8_takes 226 = .ok (.aload_n 0, 1) := by decide +kernel
theorem dX8_takes_227 : decode cX8_takes 227 = .ok (.getfield 40, 3) := by decide +kernel
theorem dX8_takes_230 : decode cX8_takes 230 = .ok (.iload_n 2, 1) := by decide +kernel
theorem dX8_takes_231 : decode cX8_takes 231 = .ok (.dup2, 1) := by decide +kernel
theorem dX8_takes_232 : decode cX8_takes 232 = .ok (.iaload, 1) := by decide +kernel
theorem dX8_takes_233 : decode cX8_takes 233 = .ok (.iconst 1, 1) := by decide +kernel
theorem dX8_takes_234 : decode cX8_takes 234 = .ok (.iload 8, 2) := by decide +kernel
theorem dX8_takes_236 : decode cX8_takes 236 = .ok (.ishl, 1) := by decide +kernel
theorem dX8_takes_237 : decode cX8_takes 237 = .ok (.ior, 1) := by decide +kernel
theorem dX8_takes_238 : decode cX8_takes 238 = .ok (.iastore, 1) := by decide +kernel
theorem dX8_takes_239 : decode cX8_takes 239 = .ok (.aload_n 0, 1) := by decide +kernel
theorem dX8_takes_240 : decode cX8_takes 240 = .ok (.getfield 43, 3) := by decide +kernel
theorem dX8_takes_243 : decode cX8_takes 243 = .ok (.iload_n 2, 1) := by decide +kernel
theorem dX8_takes_244 : decode cX8_takes 244 = .ok (.dup2, 1) := by decide +kernel
theorem dX8_takes_245 : decode cX8_takes 245 = .ok (.iaload, 1) := by decide +kernel
theorem dX8_takes_246 : decode cX8_takes 246 = .ok (.aload_n 0, 1) := by decide +kernel
theorem dX8_takes_247 : decode cX8_takes 247 = .ok (.getfield 43, 3) := by decide +kernel
theorem dX8_takes_250 : decode cX8_takes 250 = .ok (.iload_n 2, 1) := by decide +kernel
theorem dX8_takes_251 : decode cX8_takes 251 = .ok (.iconst 1, 1) := by decide +kernel
theorem dX8_takes_252 : decode cX8_takes 252 = .ok (.iadd, 1) := by decide +kernel
theorem dX8_takes_253 : decode cX8_takes 253 = .ok (.iaload, 1) := by decide +kernel
theorem dX8_takes_254 : decode cX8_takes 254 = .ok (.ior, 1) := by decide +kernel
theorem dX8_takes_255 : decode cX8_takes 255 = .ok (.iastore, 1) := by decide +kernel
theorem dX8_takes_256 : decode cX8_takes 256 = .ok (.aload_n 0, 1) := by decide +kernel
theorem dX8_takes_257 : decode cX8_takes 257 = .ok (.getfield 34, 3) := by decide +kernel
theorem dX8_takes_260 : decode cX8_takes 260 = .ok (.iload_n 2, 1) := by decide +kernel
theorem dX8_takes_261 : decode cX8_takes 261 = .ok (.iaload, 1) := by decide +kernel
theorem dX8_takes_262 : decode cX8_takes 262 = .ok (.sipush 999, 3) := by decide +kernel
theorem dX8_takes_265 : decode cX8_takes 265 = .ok (.if_icmp .le 16, 3) := by decide +kernel
theorem dX8_takes_268 : decode cX8_takes 268 = .ok (.iload 4, 2) := by decide +kernel
theorem dX8_takes_270 : decode cX8_takes 270 = .ok (.iconst 2, 1) := by decide +kernel
theorem dX8_takes_271 : decode cX8_takes 271 = .ok (.if_icmp .ne 10, 3) := by decide +kernel
theorem dX8_takes_274 : decode cX8_takes 274 = .ok (.aload_n 0, 1) := by decide +kernel
theorem dX8_takes_275 : decode cX8_takes 275 = .ok (.iconst 4, 1) := by decide +kernel
theorem dX8_takes_276 : decode cX8_takes 276 = .ok (.iload_n 1, 1) := by decide +kernel
theorem dX8_takes_277 : decode cX8_takes 277 = .ok (.invokevirtual 111, 3) := by decide +kernel
theorem dX8_takes_280 : decode cX8_takes 280 = .ok (.ireturn, 1) := by decide +kernel
theorem dX8_takes_281 : decode cX8_takes 281 = .ok (.iconst 0, 1) := by decide +kernel
theorem dX8_takes_282 : decode cX8_takes 282 = .ok (.istore 5, 2) := by decide +kernel
theorem dX8_takes_284 : decode cX8_takes 284 = .ok (.iinc 7 1, 3) := by decide +kernel
theorem dX8_takes_287 : decode cX8_takes 287 = .ok (.goto (-266), 3) := by decide +kernel
theorem dX8_takes_290 : decode cX8_takes 290 = .ok (.iload 4, 2) := by decide +kernel
theorem dX8_takes_292 : decode cX8_takes 292 = .ok (.ifCond .eq 5, 3) := by decide +kernel
theorem dX8_takes_295 : decode cX8_takes 295 = .ok (.iconst 1, 1) := by decide +kernel
theorem dX8_takes_296 : decode cX8_takes 296 = .ok (.ireturn, 1) := by decide +kernel
theorem dX8_takes_297 : decode cX8_takes 297 = .ok (.aload_n 0, 1) := by decide +kernel
theorem dX8_takes_298 : decode cX8_takes 298 = .ok (.iload 6, 2) := by decide +kernel
theorem dX8_takes_300 : decode cX8_takes 300 = .ok (.iload_n 1, 1) := by decide +kernel
theorem dX8_takes_301 : decode cX8_takes 301 = .ok (.iload_n 2, 1) := by decide +kernel
theorem dX8_takes_302 : decode cX8_takes 302 = .ok (.invokevirtual 125, 3) := by decide +kernel
theorem dX8_takes_305 : decode cX8_takes 305 = .ok (.ifCond .ne 5, 3) := by decide +kernel
theorem dX8_takes_308 : decode cX8_takes 308 = .ok (.iconst 0, 1) := by decide +kernel
theorem dX8_takes_309 : decode cX8_takes 309 = .ok (.ireturn, 1) := by decide +kernel
theorem dX8_takes_310 : decode cX8_takes 310 = .ok (.aload_n 0, 1) := by decide +kernel
theorem dX8_takes_311 : decode cX8_takes 311 = .ok (.iload_n 2, 1) := by decide +kernel
theorem dX8_takes_312 : decode cX8_takes 312 = .ok (.iload 6, 2) := by decide +kernel
theorem dX8_takes_314 : decode cX8_takes 314 = .ok (.invokevirtual 128, 3) := by decide +kernel
theorem dX8_takes_317 : decode cX8_takes 317 = .ok (.iconst 1, 1) := by decide +kernel
theorem dX8_takes_318 : decode cX8_takes 318 = .ok (.ireturn, 1) := by decide +kernel
theorem dX8_numberOf_0 : decode cX8_numberOf 0 = .ok (.aload_n 0, 1) := by decide +kernel
theorem dX8_numberOf_1 : decode cX8_numberOf 1 = .ok (.iload_n 1, 1) := by decide +kernel
theorem dX8_numberOf_2 : decode cX8_numberOf 2 = .ok (.invokevirtual 135, 3) := by decide +kernel
theorem dX8_numberOf_5 : decode cX8_numberOf 5 = .ok (.ifCond .eq 21, 3) := by decide +kernel
theorem dX8_numberOf_8 : decode cX8_numberOf 8 = .ok (.aload_n 0, 1) := by decide +kernel
theorem dX8_numberOf_9 : decode cX8_numberOf 9 = .ok (.getfield 31, 3) := by decide +kernel
theorem dX8_numberOf_12 : decode cX8_numberOf 12 = .ok (.iconst 0, 1) := by decide +kernel
theorem dX8_numberOf_13 : decode cX8_numberOf 13 = .ok (.iaload, 1) := by decide +kernel
theorem dX8_numberOf_14 : decode cX8_numberOf 14 = .ok (.ifCond .ne 12, 3) := by decide +kernel
theorem dX8_numberOf_17 : decode cX8_numberOf 17 = .ok (.aload_n 0, 1) := by decide +kernel
theorem dX8_numberOf_18 : decode cX8_numberOf 18 = .ok (.getfield 34, 3) := by decide +kernel
theorem dX8_numberOf_21 : decode cX8_numberOf 21 = .ok (.iconst 0, 1) := by decide +kernel
theorem dX8_numberOf_22 : decode cX8_numberOf 22 = .ok (.iaload, 1) := by decide +kernel
theorem dX8_numberOf_23 : decode cX8_numberOf 23 = .ok (.goto 5, 3) := by decide +kernel
theorem dX8_numberOf_26 : decode cX8_numberOf 26 = .ok (.bipush (-9), 2) := by decide +kernel
theorem dX8_numberOf_28 : decode cX8_numberOf 28 = .ok (.ireturn, 1) := by decide +kernel
theorem dX8_tell_0 : decode cX8_tell 0 = .ok (.iload_n 1, 1) := by decide +kernel
theorem dX8_tell_1 : decode cX8_tell 1 = .ok (.iload_n 2, 1) := by decide +kernel
theorem dX8_tell_2 : decode cX8_tell 2 = .ok (.invokestatic 78, 3) := by decide +kernel
theorem dX8_tell_5 : decode cX8_tell 5 = .ok (.istore 6, 2) := by decide +kernel
theorem dX8_tell_7 : decode cX8_tell 7 = .ok (.aload_n 0, 1) := by decide +kernel
theorem dX8_tell_8 : decode cX8_tell 8 = .ok (.getfield 9, 3) := by decide +kernel
theorem dX8_tell_11 : decode cX8_tell 11 = .ok (.iload 6, 2) := by decide +kernel
theorem dX8_tell_13 : decode cX8_tell 13 = .ok (.iconst 0, 1) := by decide +kernel
theorem dX8_tell_14 : decode cX8_tell 14 = .ok (.iadd, 1) := by decide +kernel
theorem dX8_tell_15 : decode cX8_tell 15 = .ok (.iaload, 1) := by decide +kernel
theorem dX8_tell_16 : decode cX8_tell 16 = .ok (.bipush (-9), 2) := by decide +kernel
theorem dX8_tell_18 : decode cX8_tell 18 = .ok (.if_icmp .eq 7, 3) := by decide +kernel
theorem dX8_tell_21 : decode cX8_tell 21 = .ok (.iconst 1, 1) := by decide +kernel
theorem dX8_tell_22 : decode cX8_tell 22 = .ok (.goto 4, 3) := by decide +kernel
theorem dX8_tell_25 : decode cX8_tell 25 = .ok (.iconst 0, 1) := by decide +kernel
theorem dX8_tell_26 : decode cX8_tell 26 = .ok (.istore 7, 2) := by decide +kernel
theorem dX8_tell_28 : decode cX8_tell 28 = .ok (.iconst 0, 1) := by decide +kernel
theorem dX8_tell_29 : decode cX8_tell 29 = .ok (.istore 8, 2) := by decide +kernel
theorem dX8_tell_31 : decode cX8_tell 31 = .ok (.iload 8, 2) := by decide +kernel
theorem dX8_tell_33 : decode cX8_tell 33 = .ok (.bipush 12, 2) := by decide +kernel
theorem dX8_tell_35 : decode cX8_tell 35 = .ok (.if_icmp .ge 20, 3) := by decide +kernel
theorem dX8_tell_38 : decode cX8_tell 38 = .ok (.aload_n 0, 1) := by decide +kernel
theorem dX8_tell_39 : decode cX8_tell 39 = .ok (.getfield 9, 3) := by decide +kernel
theorem dX8_tell_42 : decode cX8_tell 42 = .ok (.iload 6, 2) := by decide +kernel
theorem dX8_tell_44 : decode cX8_tell 44 = .ok (.iload 8, 2) := by decide +kernel
theorem dX8_tell_46 : decode cX8_tell 46 = .ok (.iadd, 1) := by decide +kernel
theorem dX8_tell_47 : decode cX8_tell 47 = .ok (.iconst 0, 1) := by decide +kernel
theorem dX8_tell_48 : decode cX8_tell 48 = .ok (.iastore, 1) := by decide +kernel
theorem dX8_tell_49 : decode cX8_tell 49 = .ok (.iinc 8 1, 3) := by decide +kernel
theorem dX8_tell_52 : decode cX8_tell 52 = .ok (.goto (-21), 3) := by decide +kernel
theorem dX8_tell_55 : decode cX8_tell 55 = .ok (.aload_n 0, 1) := by decide +kernel
theorem dX8_tell_56 : decode cX8_tell 56 = .ok (.getfield 9, 3) := by decide +kernel
theorem dX8_tell_59 : decode cX8_tell 59 = .ok (.iload 6, 2) := by decide +kernel
theorem dX8_tell_61 : decode cX8_tell 61 = .ok (.iconst 0, 1) := by decide +kernel
theorem dX8_tell_62 : decode cX8_tell 62 = .ok (.iadd, 1) := by decide +kernel
theorem dX8_tell_63 : decode cX8_tell 63 = .ok (.iload_n 3, 1) := by decide +kernel
theorem dX8_tell_64 : decode cX8_tell 64 = .ok (.iastore, 1) := by decide +kernel
theorem dX8_tell_65 : decode cX8_tell 65 = .ok (.aload_n 0, 1) := by decide +kernel
theorem dX8_tell_66 : decode cX8_tell 66 = .ok (.getfield 9, 3) := by decide +kernel
theorem dX8_tell_69 : decode cX8_tell 69 = .ok (.iload 6, 2) := by decide +kernel
theorem dX8_tell_71 : decode cX8_tell 71 = .ok (.iconst 1, 1) := by decide +kernel
theorem dX8_tell_72 : decode cX8_tell 72 = .ok (.iadd, 1) := by decide +kernel
theorem dX8_tell_73 : decode cX8_tell 73 = .ok (.iload 4, 2) := by decide +kernel
theorem dX8_tell_75 : decode cX8_tell 75 = .ok (.iastore, 1) := by decide +kernel
theorem dX8_tell_76 : decode cX8_tell 76 = .ok (.aload_n 0, 1) := by decide +kernel
theorem dX8_tell_77 : decode cX8_tell 77 = .ok (.getfield 9, 3) := by decide +kernel
theorem dX8_tell_80 : decode cX8_tell 80 = .ok (.iload 6, 2) := by decide +kernel
theorem dX8_tell_82 : decode cX8_tell 82 = .ok (.iconst 2, 1) := by decide +kernel
theorem dX8_tell_83 : decode cX8_tell 83 = .ok (.iadd, 1) := by decide +kernel
theorem dX8_tell_84 : decode cX8_tell 84 = .ok (.iload 5, 2) := by decide +kernel
theorem dX8_tell_86 : decode cX8_tell 86 = .ok (.iastore, 1) := by decide +kernel
theorem dX8_tell_87 : decode cX8_tell 87 = .ok (.iload 7, 2) := by decide +kernel
theorem dX8_tell_89 : decode cX8_tell 89 = .ok (.ireturn, 1) := by decide +kernel
theorem dX8_find_0 : decode cX8_find 0 = .ok (.iload_n 1, 1) := by decide +kernel
theorem dX8_find_1 : decode cX8_find 1 = .ok (.iload_n 2, 1) := by decide +kernel
theorem dX8_find_2 : decode cX8_find 2 = .ok (.invokestatic 78, 3) := by decide +kernel
theorem dX8_find_5 : decode cX8_find 5 = .ok (.istore 4, 2) := by decide +kernel
theorem dX8_find_7 : decode cX8_find 7 = .ok (.iconst 0, 1) := by decide +kernel
theorem dX8_find_8 : decode cX8_find 8 = .ok (.istore 5, 2) := by decide +kernel
theorem dX8_find_10 : decode cX8_find 10 = .ok (.iload 5, 2) := by decide +kernel
theorem dX8_find_12 : decode cX8_find 12 = .ok (.aload_n 0, 1) := by decide +kernel
theorem dX8_find_13 : decode cX8_find 13 = .ok (.getfield 9, 3) := by decide +kernel
theorem dX8_find_16 : decode cX8_find 16 = .ok (.iload 4, 2) := by decide +kernel
theorem dX8_find_18 : decode cX8_find 18 = .ok (.iconst 3, 1) := by decide +kernel
theorem dX8_find_19 : decode cX8_find 19 = .ok (.iadd, 1) := by decide +kernel
theorem dX8_find_20 : decode cX8_find 20 = .ok (.iaload, 1) := by decide +kernel
theorem dX8_find_21 : decode cX8_find 21 = .ok (.if_icmp .ge 30, 3) := by decide +kernel
theorem dX8_find_24 : decode cX8_find 24 = .ok (.aload_n 0, 1) := by decide +kernel
theorem dX8_find_25 : decode cX8_find 25 = .ok (.getfield 9, 3) := by decide +kernel
theorem dX8_find_28 : decode cX8_find 28 = .ok (.iload 4, 2) := by decide +kernel
theorem dX8_find_30 : decode cX8_find 30 = .ok (.iconst 4, 1) := by decide +kernel
theorem dX8_find_31 : decode cX8_find 31 = .ok (.iadd, 1) := by decide +kernel
theorem dX8_find_32 : decode cX8_find 32 = .ok (.iconst 2, 1) := by decide +kernel
theorem dX8_find_33 : decode cX8_find 33 = .ok (.iload 5, 2) := by decide +kernel
theorem dX8_find_35 : decode cX8_find 35 = .ok (.imul, 1) := by decide +kernel
theorem dX8_find_36 : decode cX8_find 36 = .ok (.iadd, 1) := by decide +kernel
theorem dX8_find_37 : decode cX8_find 37 = .ok (.iaload, 1) := by decide +kernel
theorem dX8_find_38 : decode cX8_find 38 = .ok (.iload_n 3, 1) := by decide +kernel
theorem dX8_find_39 : decode cX8_find 39 = .ok (.if_icmp .ne 6, 3) := by decide +kernel
theorem dX8_find_42 : decode cX8_find 42 = .ok (.iload 5, 2) := by decide +kernel
theorem dX8_find_44 : decode cX8_find 44 = .ok (.ireturn, 1) := by decide +kernel
theorem dX8_find_45 : decode cX8_find 45 = .ok (.iinc 5 1, 3) := by decide +kernel
theorem dX8_find_48 : decode cX8_find 48 = .ok (.goto (-38), 3) := by decide +kernel
theorem dX8_find_51 : decode cX8_find 51 = .ok (.bipush (-9), 2) := by decide +kernel
theorem dX8_find_53 : decode cX8_find 53 = .ok (.ireturn, 1) := by decide +kernel
theorem dX8_puts_0 : decode cX8_puts 0 = .ok (.iload_n 1, 1) := by decide +kernel
theorem dX8_puts_1 : decode cX8_puts 1 = .ok (.iload_n 2, 1) := by decide +kernel
theorem dX8_puts_2 : decode cX8_puts 2 = .ok (.invokestatic 78, 3) := by decide +kernel
theorem dX8_puts_5 : decode cX8_puts 5 = .ok (.istore 5, 2) := by decide +kernel
theorem dX8_puts_7 : decode cX8_puts 7 = .ok (.aload_n 0, 1) := by decide +kernel
theorem dX8_puts_8 : decode cX8_puts 8 = .ok (.getfield 9, 3) := by decide +kernel
theorem dX8_puts_11 : decode cX8_puts 11 = .ok (.iload 5, 2) := by decide +kernel
theorem dX8_puts_13 : decode cX8_puts 13 = .ok (.iconst 4, 1) := by decide +kernel
theorem dX8_puts_14 : decode cX8_puts 14 = .ok (.iadd, 1) := by decide +kernel
theorem dX8_puts_15 : decode cX8_puts 15 = .ok (.iconst 2, 1) := by decide +kernel
theorem dX8_puts_16 : decode cX8_puts 16 = .ok (.aload_n 0, 1) := by decide +kernel
theorem dX8_puts_17 : decode cX8_puts 17 = .ok (.getfield 9, 3) := by decide +kernel
theorem dX8_puts_20 : decode cX8_puts 20 = .ok (.iload 5, 2) := by decide +kernel
theorem dX8_puts_22 : decode cX8_puts 22 = .ok (.iconst 3, 1) := by decide +kernel
theorem dX8_puts_23 : decode cX8_puts 23 = .ok (.iadd, 1) := by decide +kernel
theorem dX8_puts_24 : decode cX8_puts 24 = .ok (.iaload, 1) := by decide +kernel
theorem dX8_puts_25 : decode cX8_puts 25 = .ok (.imul, 1) := by decide +kernel
theorem dX8_puts_26 : decode cX8_puts 26 = .ok (.iadd, 1) := by decide +kernel
theorem dX8_puts_27 : decode cX8_puts 27 = .ok (.iload_n 3, 1) := by decide +kernel
theorem dX8_puts_28 : decode cX8_puts 28 = .ok (.iastore, 1) := by decide +kernel
theorem dX8_puts_29 : decode cX8_puts 29 = .ok (.aload_n 0, 1) := by decide +kernel
theorem dX8_puts_30 : decode cX8_puts 30 = .ok (.getfield 9, 3) := by decide +kernel
theorem dX8_puts_33 : decode cX8_puts 33 = .ok (.iload 5, 2) := by decide +kernel
theorem dX8_puts_35 : decode cX8_puts 35 = .ok (.iconst 4, 1) := by decide +kernel
theorem dX8_puts_36 : decode cX8_puts 36 = .ok (.iadd, 1) := by decide +kernel
theorem dX8_puts_37 : decode cX8_puts 37 = .ok (.iconst 2, 1) := by decide +kernel
theorem dX8_puts_38 : decode cX8_puts 38 = .ok (.aload_n 0, 1) := by decide +kernel
theorem dX8_puts_39 : decode cX8_puts 39 = .ok (.getfield 9, 3) := by decide +kernel
theorem dX8_puts_42 : decode cX8_puts 42 = .ok (.iload 5, 2) := by decide +kernel
theorem dX8_puts_44 : decode cX8_puts 44 = .ok (.iconst 3, 1) := by decide +kernel
theorem dX8_puts_45 : decode cX8_puts 45 = .ok (.iadd, 1) := by decide +kernel
theorem dX8_puts_46 : decode cX8_puts 46 = .ok (.iaload, 1) := by decide +kernel
theorem dX8_puts_47 : decode cX8_puts 47 = .ok (.imul, 1) := by decide +kernel
theorem dX8_puts_48 : decode cX8_puts 48 = .ok (.iadd, 1) := by decide +kernel
theorem dX8_puts_49 : decode cX8_puts 49 = .ok (.iconst 1, 1) := by decide +kernel
theorem dX8_puts_50 : decode cX8_puts 50 = .ok (.iadd, 1) := by decide +kernel
theorem dX8_puts_51 : decode cX8_puts 51 = .ok (.iload 4, 2) := by decide +kernel
theorem dX8_puts_53 : decode cX8_puts 53 = .ok (.iastore, 1) := by decide +kernel
theorem dX8_puts_54 : decode cX8_puts 54 = .ok (.aload_n 0, 1) := by decide +kernel
theorem dX8_puts_55 : decode cX8_puts 55 = .ok (.getfield 9, 3) := by decide +kernel
theorem dX8_puts_58 : decode cX8_puts 58 = .ok (.iload 5, 2) := by decide +kernel
theorem dX8_puts_60 : decode cX8_puts 60 = .ok (.iconst 3, 1) := by decide +kernel
theorem dX8_puts_61 : decode cX8_puts 61 = .ok (.iadd, 1) := by decide +kernel
theorem dX8_puts_62 : decode cX8_puts 62 = .ok (.dup2, 1) := by decide +kernel
theorem dX8_puts_63 : decode cX8_puts 63 = .ok (.iaload, 1) := by decide +kernel
theorem dX8_puts_64 : decode cX8_puts 64 = .ok (.iconst 1, 1) := by decide +kernel
theorem dX8_puts_65 : decode cX8_puts 65 = .ok (.iadd, 1) := by decide +kernel
theorem dX8_puts_66 : decode cX8_puts 66 = .ok (.iastore, 1) := by decide +kernel
theorem dX8_puts_67 : decode cX8_puts 67 = .ok (.return_, 1) := by decide +kernel
theorem dX8_turns_0 : decode cX8_turns 0 = .ok (.iload_n 1, 1) := by decide +kernel
theorem dX8_turns_1 : decode cX8_turns 1 = .ok (.invokestatic 138, 3) := by decide +kernel
theorem dX8_turns_4 : decode cX8_turns 4 = .ok (.ifCond .ne 9, 3) := by decide +kernel
theorem dX8_turns_7 : decode cX8_turns 7 = .ok (.aload_n 0, 1) := by decide +kernel
theorem dX8_turns_8 : decode cX8_turns 8 = .ok (.iconst (-1), 1) := by decide +kernel
theorem dX8_turns_9 : decode cX8_turns 9 = .ok (.invokevirtual 70, 3) := by decide +kernel
theorem dX8_turns_12 : decode cX8_turns 12 = .ok (.ireturn, 1) := by decide +kernel
theorem dX8_turns_13 : decode cX8_turns 13 = .ok (.aload_n 0, 1) := by decide +kernel
theorem dX8_turns_14 : decode cX8_turns 14 = .ok (.getfield 9, 3) := by decide +kernel
theorem dX8_turns_17 : decode cX8_turns 17 = .ok (.iconst 3, 1) := by decide +kernel
theorem dX8_turns_18 : decode cX8_turns 18 = .ok (.iload_n 1, 1) := by decide +kernel
theorem dX8_turns_19 : decode cX8_turns 19 = .ok (.imul, 1) := by decide +kernel
theorem dX8_turns_20 : decode cX8_turns 20 = .ok (.iconst 0, 1) := by decide +kernel
theorem dX8_turns_21 : decode cX8_turns 21 = .ok (.iadd, 1) := by decide +kernel
theorem dX8_turns_22 : decode cX8_turns 22 = .ok (.iconst 1, 1) := by decide +kernel
theorem dX8_turns_23 : decode cX8_turns 23 = .ok (.aload_n 0, 1) := by decide +kernel
theorem dX8_turns_24 : decode cX8_turns 24 = .ok (.getfield 9, 3) := by decide +kernel
theorem dX8_turns_27 : decode cX8_turns 27 = .ok (.iconst 3, 1) := by decide +kernel
theorem dX8_turns_28 : decode cX8_turns 28 = .ok (.iload_n 1, 1) := by decide +kernel
theorem dX8_turns_29 : decode cX8_turns 29 = .ok (.imul, 1) := by decide +kernel
theorem dX8_turns_30 : decode cX8_turns 30 = .ok (.iconst 0, 1) := by decide +kernel
theorem dX8_turns_31 : decode cX8_turns 31 = .ok (.iadd, 1) := by decide +kernel
theorem dX8_turns_32 : decode cX8_turns 32 = .ok (.iaload, 1) := by decide +kernel
theorem dX8_turns_33 : decode cX8_turns 33 = .ok (.isub, 1) := by decide +kernel
theorem dX8_turns_34 : decode cX8_turns 34 = .ok (.iastore, 1) := by decide +kernel
theorem dX8_turns_35 : decode cX8_turns 35 = .ok (.aload_n 0, 1) := by decide +kernel
theorem dX8_turns_36 : decode cX8_turns 36 = .ok (.getfield 9, 3) := by decide +kernel
theorem dX8_turns_39 : decode cX8_turns 39 = .ok (.iconst 3, 1) := by decide +kernel
theorem dX8_turns_40 : decode cX8_turns 40 = .ok (.iload_n 1, 1) := by decide +kernel
theorem dX8_turns_41 : decode cX8_turns 41 = .ok (.imul, 1) := by decide +kernel
theorem dX8_turns_42 : decode cX8_turns 42 = .ok (.iconst 0, 1) := by decide +kernel
theorem dX8_turns_43 : decode cX8_turns 43 = .ok (.iadd, 1) := by decide +kernel
theorem dX8_turns_44 : decode cX8_turns 44 = .ok (.iaload, 1) := by decide +kernel
theorem dX8_turns_45 : decode cX8_turns 45 = .ok (.ireturn, 1) := by decide +kernel
theorem dX8_kind_0 : decode cX8_kind 0 = .ok (.iload_n 1, 1) := by decide +kernel
theorem dX8_kind_1 : decode cX8_kind 1 = .ok (.invokestatic 138, 3) := by decide +kernel
theorem dX8_kind_4 : decode cX8_kind 4 = .ok (.ifCond .ne 9, 3) := by decide +kernel
theorem dX8_kind_7 : decode cX8_kind 7 = .ok (.aload_n 0, 1) := by decide +kernel
theorem dX8_kind_8 : decode cX8_kind 8 = .ok (.iconst (-1), 1) := by decide +kernel
theorem dX8_kind_9 : decode cX8_kind 9 = .ok (.invokevirtual 70, 3) := by decide +kernel
theorem dX8_kind_12 : decode cX8_kind 12 = .ok (.ireturn, 1) := by decide +kernel
theorem dX8_kind_13 : decode cX8_kind 13 = .ok (.iload_n 2, 1) := by decide +kernel
theorem dX8_kind_14 : decode cX8_kind 14 = .ok (.iconst 0, 1) := by decide +kernel
theorem dX8_kind_15 : decode cX8_kind 15 = .ok (.iconst 5, 1) := by decide +kernel
theorem dX8_kind_16 : decode cX8_kind 16 = .ok (.invokestatic 74, 3) := by decide +kernel
theorem dX8_kind_19 : decode cX8_kind 19 = .ok (.ifCond .ne 10, 3) := by decide +kernel
theorem dX8_kind_22 : decode cX8_kind 22 = .ok (.aload_n 0, 1) := by decide +kernel
theorem dX8_kind_23 : decode cX8_kind 23 = .ok (.bipush (-2), 2) := by decide +kernel
theorem dX8_kind_25 : decode cX8_kind 25 = .ok (.invokevirtual 70, 3) := by decide +kernel
theorem dX8_kind_28 : decode cX8_kind 28 = .ok (.ireturn, 1) := by decide +kernel
theorem dX8_kind_29 : decode cX8_kind 29 = .ok (.iload_n 3, 1) := by decide +kernel
theorem dX8_kind_30 : decode cX8_kind 30 = .ok (.ifCond .ge 10, 3) := by decide +kernel
theorem dX8_kind_33 : decode cX8_kind 33 = .ok (.aload_n 0, 1) := by decide +kernel
theorem dX8_kind_34 : decode cX8_kind 34 = .ok (.bipush (-4), 2) := by decide +kernel
theorem dX8_kind_36 : decode cX8_kind 36 = .ok (.invokevirtual 70, 3) := by decide +kernel
theorem dX8_kind_39 : decode cX8_kind 39 = .ok (.ireturn, 1) := by decide +kernel
theorem dX8_kind_40 : decode cX8_kind 40 = .ok (.iload_n 3, 1) := by decide +kernel
theorem dX8_kind_41 : decode cX8_kind 41 = .ok (.bipush 9, 2) := by decide +kernel
theorem dX8_kind_43 : decode cX8_kind 43 = .ok (.if_icmp .le 10, 3) := by decide +kernel
theorem dX8_kind_46 : decode cX8_kind 46 = .ok (.aload_n 0, 1) := by decide +kernel
theorem dX8_kind_47 : decode cX8_kind 47 = .ok (.bipush (-6), 2) := by decide +kernel
theorem dX8_kind_49 : decode cX8_kind 49 = .ok (.invokevirtual 70, 3) := by decide +kernel
theorem dX8_kind_52 : decode cX8_kind 52 = .ok (.ireturn, 1) := by decide +kernel
theorem dX8_kind_53 : decode cX8_kind 53 = .ok (.bipush 10, 2) := by decide +kernel
theorem dX8_kind_55 : decode cX8_kind 55 = .ok (.aload_n 0, 1) := by decide +kernel
theorem dX8_kind_56 : decode cX8_kind 56 = .ok (.getfield 9, 3) := by decide +kernel
theorem dX8_kind_59 : decode cX8_kind 59 = .ok (.iconst 3, 1) := by decide +kernel
theorem dX8_kind_60 : decode cX8_kind 60 = .ok (.iload_n 1, 1) := by decide +kernel
theorem dX8_kind_61 : decode cX8_kind 61 = .ok (.imul, 1) := by decide +kernel
theorem dX8_kind_62 : decode cX8_kind 62 = .ok (.iconst 1, 1) := by decide +kernel
theorem dX8_kind_63 : decode cX8_kind 63 = .ok (.iadd, 1) := by decide +kernel
theorem dX8_kind_64 : decode cX8_kind 64 = .ok (.iaload, 1) := by decide +kernel
theorem dX8_kind_65 : decode cX8_kind 65 = .ok (.imul, 1) := by decide +kernel
theorem dX8_kind_66 : decode cX8_kind 66 = .ok (.aload_n 0, 1) := by decide +kernel
theorem dX8_kind_67 : decode cX8_kind 67 = .ok (.getfield 9, 3) := by decide +kernel
theorem dX8_kind_70 : decode cX8_kind 70 = .ok (.iconst 3, 1) := by decide +kernel
theorem dX8_kind_71 : decode cX8_kind 71 = .ok (.iload_n 1, 1) := by decide +kernel
theorem dX8_kind_72 : decode cX8_kind 72 = .ok (.imul, 1) := by decide +kernel
theorem dX8_kind_73 : decode cX8_kind 73 = .ok (.iconst 2, 1) := by decide +kernel
theorem dX8_kind_74 : decode cX8_kind 74 = .ok (.iadd, 1) := by decide +kernel
theorem dX8_kind_75 : decode cX8_kind 75 = .ok (.iaload, 1) := by decide +kernel
theorem dX8_kind_76 : decode cX8_kind 76 = .ok (.iadd, 1) := by decide +kernel
theorem dX8_kind_77 : decode cX8_kind 77 = .ok (.istore 4, 2) := by decide +kernel
theorem dX8_kind_79 : decode cX8_kind 79 = .ok (.aload_n 0, 1) := by decide +kernel
theorem dX8_kind_80 : decode cX8_kind 80 = .ok (.getfield 9, 3) := by decide +kernel
theorem dX8_kind_83 : decode cX8_kind 83 = .ok (.iconst 3, 1) := by decide +kernel
theorem dX8_kind_84 : decode cX8_kind 84 = .ok (.iload_n 1, 1) := by decide +kernel
theorem dX8_kind_85 : decode cX8_kind 85 = .ok (.imul, 1) := by decide +kernel
theorem dX8_kind_86 : decode cX8_kind 86 = .ok (.iconst 1, 1) := by decide +kernel
theorem dX8_kind_87 : decode cX8_kind 87 = .ok (.iadd, 1) := by decide +kernel
theorem dX8_kind_88 : decode cX8_kind 88 = .ok (.iload_n 2, 1) := by decide +kernel
theorem dX8_kind_89 : decode cX8_kind 89 = .ok (.iastore, 1) := by decide +kernel
theorem dX8_kind_90 : decode cX8_kind 90 = .ok (.aload_n 0, 1) := by decide +kernel
theorem dX8_kind_91 : decode cX8_kind 91 = .ok (.getfield 9, 3) := by decide +kernel
theorem dX8_kind_94 : decode cX8_kind 94 = .ok (.iconst 3, 1) := by decide +kernel
theorem dX8_kind_95 : decode cX8_kind 95 = .ok (.iload_n 1, 1) := by decide +kernel
theorem dX8_kind_96 : decode cX8_kind 96 = .ok (.imul, 1) := by decide +kernel
theorem dX8_kind_97 : decode cX8_kind 97 = .ok (.iconst 2, 1) := by decide +kernel
theorem dX8_kind_98 : decode cX8_kind 98 = .ok (.iadd, 1) := by decide +kernel
theorem dX8_kind_99 : decode cX8_kind 99 = .ok (.iload_n 3, 1) := by decide +kernel
theorem dX8_kind_100 : decode cX8_kind 100 = .ok (.iastore, 1) := by decide +kernel
theorem dX8_kind_101 : decode cX8_kind 101 = .ok (.iload 4, 2) := by decide +kernel
theorem dX8_kind_103 : decode cX8_kind 103 = .ok (.ireturn, 1) := by decide +kernel
theorem dX8_manner_0 : decode cX8_manner 0 = .ok (.iload_n 1, 1) := by decide +kernel
theorem dX8_manner_1 : decode cX8_manner 1 = .ok (.invokestatic 141, 3) := by decide +kernel
theorem dX8_manner_4 : decode cX8_manner 4 = .ok (.ifCond .ne 9, 3) := by decide +kernel
theorem dX8_manner_7 : decode cX8_manner 7 = .ok (.aload_n 0, 1) := by decide +kernel
theorem dX8_manner_8 : decode cX8_manner 8 = .ok (.iconst (-1), 1) := by decide +kernel
theorem dX8_manner_9 : decode cX8_manner 9 = .ok (.invokevirtual 70, 3) := by decide +kernel
theorem dX8_manner_12 : decode cX8_manner 12 = .ok (.ireturn, 1) := by decide +kernel
theorem dX8_manner_13 : decode cX8_manner 13 = .ok (.iload_n 2, 1) := by decide +kernel
theorem dX8_manner_14 : decode cX8_manner 14 = .ok (.iconst 0, 1) := by decide +kernel
theorem dX8_manner_15 : decode cX8_manner 15 = .ok (.iconst 4, 1) := by decide +kernel
theorem dX8_manner_16 : decode cX8_manner 16 = .ok (.invokestatic 74, 3) := by decide +kernel
theorem dX8_manner_19 : decode cX8_manner 19 = .ok (.ifCond .ne 10, 3) := by decide +kernel
theorem dX8_manner_22 : decode cX8_manner 22 = .ok (.aload_n 0, 1) := by decide +kernel
theorem dX8_manner_23 : decode cX8_manner 23 = .ok (.bipush (-2), 2) := by decide +kernel
theorem dX8_manner_25 : decode cX8_manner 25 = .ok (.invokevirtual 70, 3) := by decide +kernel
theorem dX8_manner_28 : decode cX8_manner 28 = .ok (.ireturn, 1) := by decide +kernel
theorem dX8_manner_29 : decode cX8_manner 29 = .ok (.aload_n 0, 1) := by decide +kernel
theorem dX8_manner_30 : decode cX8_manner 30 = .ok (.getfield 9, 3) := by decide +kernel
theorem dX8_manner_33 : decode cX8_manner 33 = .ok (.bipush 20, 2) := by decide +kernel
theorem dX8_manner_35 : decode cX8_manner 35 = .ok (.iload_n 1, 1) := by decide +kernel
theorem dX8_manner_36 : decode cX8_manner 36 = .ok (.iadd, 1) := by decide +kernel
theorem dX8_manner_37 : decode cX8_manner 37 = .ok (.iaload, 1) := by decide +kernel
theorem dX8_manner_38 : decode cX8_manner 38 = .ok (.istore_n 3, 1) := by decide +kernel
theorem dX8_manner_39 : decode cX8_manner 39 = .ok (.aload_n 0, 1) := by decide +kernel
theorem dX8_manner_40 : decode cX8_manner 40 = .ok (.getfield 9, 3) := by decide +kernel
theorem dX8_manner_43 : decode cX8_manner 43 = .ok (.bipush 20, 2) := by decide +kernel
theorem dX8_manner_45 : decode cX8_manner 45 = .ok (.iload_n 1, 1) := by decide +kernel
theorem dX8_manner_46 : decode cX8_manner 46 = .ok (.iadd, 1) := by decide +kernel
theorem dX8_manner_47 : decode cX8_manner 47 = .ok (.iload_n 2, 1) := by decide +kernel
theorem dX8_manner_48 : decode cX8_manner 48 = .ok (.iastore, 1) := by decide +kernel
theorem dX8_manner_49 : decode cX8_manner 49 = .ok (.iload_n 3, 1) := by decide +kernel
theorem dX8_manner_50 : decode cX8_manner 50 = .ok (.ireturn, 1) := by decide +kernel
theorem dX8_sets_0 : decode cX8_sets 0 = .ok (.iload_n 1, 1) := by decide +kernel
theorem dX8_sets_1 : decode cX8_sets 1 = .ok (.invokestatic 138, 3) := by decide +kernel
theorem dX8_sets_4 : decode cX8_sets 4 = .ok (.ifCond .eq 10, 3) := by decide +kernel
theorem dX8_sets_7 : decode cX8_sets 7 = .ok (.iload_n 2, 1) := by decide +kernel
theorem dX8_sets_8 : decode cX8_sets 8 = .ok (.invokestatic 141, 3) := by decide +kernel
theorem dX8_sets_11 : decode cX8_sets 11 = .ok (.ifCond .ne 9, 3) := by decide +kernel
theorem dX8_sets_14 : decode cX8_sets 14 = .ok (.aload_n 0, 1) := by decide +kernel
theorem dX8_sets_15 : decode cX8_sets 15 = .ok (.iconst (-1), 1) := by decide +kernel
theorem dX8_sets_16 : decode cX8_sets 16 = .ok (.invokevirtual 70, 3) := by decide +kernel
theorem dX8_sets_19 : decode cX8_sets 19 = .ok (.ireturn, 1) := by decide +kernel
theorem dX8_sets_20 : decode cX8_sets 20 = .ok (.iload_n 3, 1) := by decide +kernel
theorem dX8_sets_21 : decode cX8_sets 21 = .ok (.ifCond .ge 10, 3) := by decide +kernel
theorem dX8_sets_24 : decode cX8_sets 24 = .ok (.aload_n 0, 1) := by decide +kernel
theorem dX8_sets_25 : decode cX8_sets 25 = .ok (.bipush (-4), 2) := by decide +kernel
theorem dX8_sets_27 : decode cX8_sets 27 = .ok (.invokevirtual 70, 3) := by decide +kernel
theorem dX8_sets_30 : decode cX8_sets 30 = .ok (.ireturn, 1) := by decide +kernel
theorem dX8_sets_31 : decode cX8_sets 31 = .ok (.iload_n 3, 1) := by decide +kernel
theorem dX8_sets_32 : decode cX8_sets 32 = .ok (.bipush 99, 2) := by decide +kernel
theorem dX8_sets_34 : decode cX8_sets 34 = .ok (.if_icmp .le 12, 3) := by decide +kernel
theorem dX8_sets_37 : decode cX8_sets 37 = .ok (.aload_n 0, 1) := by decide +kernel
theorem dX8_sets_38 : decode cX8_sets 38 = .ok (.bipush (-6), 2) := by decide +kernel
theorem dX8_sets_40 : decode cX8_sets 40 = .ok (.invokevirtual 70, 3) := by decide +kernel
theorem dX8_sets_43 : decode cX8_sets 43 = .ok (.goto 12, 3) := by decide +kernel
theorem dX8_sets_46 : decode cX8_sets 46 = .ok (.aload_n 0, 1) := by decide +kernel
theorem dX8_sets_47 : decode cX8_sets 47 = .ok (.iload_n 1, 1) := by decide +kernel
theorem dX8_sets_48 : decode cX8_sets 48 = .ok (.iload_n 2, 1) := by decide +kernel
theorem dX8_sets_49 : decode cX8_sets 49 = .ok (.iconst 0, 1) := by decide +kernel
theorem dX8_sets_50 : decode cX8_sets 50 = .ok (.iload_n 3, 1) := by decide +kernel
theorem dX8_sets_51 : decode cX8_sets 51 = .ok (.iconst 0, 1) := by decide +kernel
theorem dX8_sets_52 : decode cX8_sets 52 = .ok (.invokevirtual 144, 3) := by decide +kernel
theorem dX8_sets_55 : decode cX8_sets 55 = .ok (.ireturn, 1) := by decide +kernel
theorem dX8_adds_0 : decode cX8_adds 0 = .ok (.iload_n 1, 1) := by decide +kernel
theorem dX8_adds_1 : decode cX8_adds 1 = .ok (.invokestatic 138, 3) := by decide +kernel
theorem dX8_adds_4 : decode cX8_adds 4 = .ok (.ifCond .eq 10, 3) := by decide +kernel
theorem dX8_adds_7 : decode cX8_adds 7 = .ok (.iload_n 2, 1) := by decide +kernel
theorem dX8_adds_8 : decode cX8_adds 8 = .ok (.invokestatic 141, 3) := by decide +kernel
theorem dX8_adds_11 : decode cX8_adds 11 = .ok (.ifCond .ne 9, 3) := by decide +kernel
theorem dX8_adds_14 : decode cX8_adds 14 = .ok (.aload_n 0, 1) := by decide +kernel
theorem dX8_adds_15 : decode cX8_adds 15 = .ok (.iconst (-1), 1) := by decide +kernel
theorem dX8_adds_16 : decode cX8_adds 16 = .ok (.invokevirtual 70, 3) := by decide +kernel
theorem dX8_adds_19 : decode cX8_adds 19 = .ok (.ireturn, 1) := by decide +kernel
theorem dX8_adds_20 : decode cX8_adds 20 = .ok (.iload_n 1, 1) := by decide +kernel
theorem dX8_adds_21 : decode cX8_adds 21 = .ok (.iload_n 2, 1) := by decide +kernel
theorem dX8_adds_22 : decode cX8_adds 22 = .ok (.invokestatic 78, 3) := by decide +kernel
theorem dX8_adds_25 : decode cX8_adds 25 = .ok (.istore 5, 2) := by decide +kernel
theorem dX8_adds_27 : decode cX8_adds 27 = .ok (.aload_n 0, 1) := by decide +kernel
theorem dX8_adds_28 : decode cX8_adds 28 = .ok (.iload_n 1, 1) := by decide +kernel
theorem dX8_adds_29 : decode cX8_adds 29 = .ok (.iload_n 2, 1) := by decide +kernel
theorem dX8_adds_30 : decode cX8_adds 30 = .ok (.invokevirtual 85, 3) := by decide +kernel
theorem dX8_adds_33 : decode cX8_adds 33 = .ok (.ifCond .eq 35, 3) := by decide +kernel
theorem dX8_adds_36 : decode cX8_adds 36 = .ok (.aload_n 0, 1) := by decide +kernel
theorem dX8_adds_37 : decode cX8_adds 37 = .ok (.getfield 9, 3) := by decide +kernel
theorem dX8_adds_40 : decode cX8_adds 40 = .ok (.iload 5, 2) := by decide +kernel
theorem dX8_adds_42 : decode cX8_adds 42 = .ok (.iconst 0, 1) := by decide +kernel
theorem dX8_adds_43 : decode cX8_adds 43 = .ok (.iadd, 1) := by decide +kernel
theorem dX8_adds_44 : decode cX8_adds 44 = .ok (.iaload, 1) := by decide +kernel
theorem dX8_adds_45 : decode cX8_adds 45 = .ok (.iconst 1, 1) := by decide +kernel
theorem dX8_adds_46 : decode cX8_adds 46 = .ok (.if_icmp .ne 15, 3) := by decide +kernel
theorem dX8_adds_49 : decode cX8_adds 49 = .ok (.aload_n 0, 1) := by decide +kernel
theorem dX8_adds_50 : decode cX8_adds 50 = .ok (.iload_n 1, 1) := by decide +kernel
theorem dX8_adds_51 : decode cX8_adds 51 = .ok (.iload_n 2, 1) := by decide +kernel
theorem dX8_adds_52 : decode cX8_adds 52 = .ok (.iload_n 3, 1) := by decide +kernel
theorem dX8_adds_53 : decode cX8_adds 53 = .ok (.invokevirtual 148, 3) := by decide +kernel
theorem dX8_adds_56 : decode cX8_adds 56 = .ok (.bipush (-9), 2) := by decide +kernel
theorem dX8_adds_58 : decode cX8_adds 58 = .ok (.if_icmp .eq 10, 3) := by decide +kernel
theorem dX8_adds_61 : decode cX8_adds 61 = .ok (.aload_n 0, 1) := by decide +kernel
theorem dX8_adds_62 : decode cX8_adds 62 = .ok (.bipush (-3), 2) := by decide +kernel
theorem dX8_adds_64 : decode cX8_adds 64 = .ok (.invokevirtual 70, 3) := by decide +kernel
theorem dX8_adds_67 : decode cX8_adds 67 = .ok (.ireturn, 1) := by decide +kernel
theorem dX8_adds_68 : decode cX8_adds 68 = .ok (.iload_n 3, 1) := by decide +kernel
theorem dX8_adds_69 : decode cX8_adds 69 = .ok (.ifCond .lt 8, 3) := by decide +kernel
theorem dX8_adds_72 : decode cX8_adds 72 = .ok (.iload 4, 2) := by decide +kernel
theorem dX8_adds_74 : decode cX8_adds 74 = .ok (.ifCond .ge 10, 3) := by decide +kernel
theorem dX8_adds_77 : decode cX8_adds 77 = .ok (.aload_n 0, 1) := by decide +kernel
theorem dX8_adds_78 : decode cX8_adds 78 = .ok (.bipush (-4), 2) := by decide +kernel
theorem dX8_adds_80 : decode cX8_adds 80 = .ok (.invokevirtual 70, 3) := by decide +kernel
theorem dX8_adds_83 : decode cX8_adds 83 = .ok (.ireturn, 1) := by decide +kernel
theorem dX8_adds_84 : decode cX8_adds 84 = .ok (.iload_n 3, 1) := by decide +kernel
theorem dX8_adds_85 : decode cX8_adds 85 = .ok (.bipush 9, 2) := by decide +kernel
theorem dX8_adds_87 : decode cX8_adds 87 = .ok (.if_icmp .gt 32, 3) := by decide +kernel
theorem dX8_adds_90 : decode cX8_adds 90 = .ok (.iload 4, 2) := by decide +kernel
theorem dX8_adds_92 : decode cX8_adds 92 = .ok (.bipush 99, 2) := by decide +kernel
theorem dX8_adds_94 : decode cX8_adds 94 = .ok (.if_icmp .gt 25, 3) := by decide +kernel
theorem dX8_adds_97 : decode cX8_adds 97 = .ok (.aload_n 0, 1) := by decide +kernel
theorem dX8_adds_98 : decode cX8_adds 98 = .ok (.iload_n 1, 1) := by decide +kernel
theorem dX8_adds_99 : decode cX8_adds 99 = .ok (.iload_n 2, 1) := by decide +kernel
theorem dX8_adds_100 : decode cX8_adds 100 = .ok (.invokevirtual 85, 3) := by decide +kernel
theorem dX8_adds_103 : decode cX8_adds 103 = .ok (.ifCond .eq 23, 3) := by decide +kernel
theorem dX8_adds_106 : decode cX8_adds 106 = .ok (.aload_n 0, 1) := by decide +kernel
theorem dX8_adds_107 : decode cX8_adds 107 = .ok (.getfield 9, 3) := by decide +kernel
theorem dX8_adds_110 : decode cX8_adds 110 = .ok (.iload 5, 2) := by decide +kernel
theorem dX8_adds_112 : decode cX8_adds 112 = .ok (.iconst 3, 1) := by decide +kernel
theorem dX8_adds_113 : decode cX8_adds 113 = .ok (.iadd, 1) := by decide +kernel
theorem dX8_adds_114 : decode cX8_adds 114 = .ok (.iaload, 1) := by decide +kernel
theorem dX8_adds_115 : decode cX8_adds 115 = .ok (.iconst 4, 1) := by decide +kernel
theorem dX8_adds_116 : decode cX8_adds 116 = .ok (.if_icmp .ne 10, 3) := by decide +kernel
theorem dX8_adds_119 : decode cX8_adds 119 = .ok (.aload_n 0, 1) := by decide +kernel
theorem dX8_adds_120 : decode cX8_adds 120 = .ok (.bipush (-6), 2) := by decide +kernel
theorem dX8_adds_122 : decode cX8_adds 122 = .ok (.invokevirtual 70, 3) := by decide +kernel
theorem dX8_adds_125 : decode cX8_adds 125 = .ok (.ireturn, 1) := by decide +kernel
theorem dX8_adds_126 : decode cX8_adds 126 = .ok (.aload_n 0, 1) := by decide +kernel
theorem dX8_adds_127 : decode cX8_adds 127 = .ok (.iload_n 1, 1) := by decide +kernel
theorem dX8_adds_128 : decode cX8_adds 128 = .ok (.iload_n 2, 1) := by decide +kernel
theorem dX8_adds_129 : decode cX8_adds 129 = .ok (.invokevirtual 85, 3) := by decide +kernel
theorem dX8_adds_132 : decode cX8_adds 132 = .ok (.ifCond .ne 13, 3) := by decide +kernel
theorem dX8_adds_135 : decode cX8_adds 135 = .ok (.aload_n 0, 1) := by decide +kernel
theorem dX8_adds_136 : decode cX8_adds 136 = .ok (.iload_n 1, 1) := by decide +kernel
theorem dX8_adds_137 : decode cX8_adds 137 = .ok (.iload_n 2, 1) := by decide +kernel
theorem dX8_adds_138 : decode cX8_adds 138 = .ok (.iconst 1, 1) := by decide +kernel
theorem dX8_adds_139 : decode cX8_adds 139 = .ok (.iconst 0, 1) := by decide +kernel
theorem dX8_adds_140 : decode cX8_adds 140 = .ok (.iconst 0, 1) := by decide +kernel
theorem dX8_adds_141 : decode cX8_adds 141 = .ok (.invokevirtual 144, 3) := by decide +kernel
theorem dX8_adds_144 : decode cX8_adds 144 = .ok (.pop, 1) := by decide +kernel
theorem dX8_adds_145 : decode cX8_adds 145 = .ok (.aload_n 0, 1) := by decide +kernel
theorem dX8_adds_146 : decode cX8_adds 146 = .ok (.iload_n 1, 1) := by decide +kernel
theorem dX8_adds_147 : decode cX8_adds 147 = .ok (.iload_n 2, 1) := by decide +kernel
theorem dX8_adds_148 : decode cX8_adds 148 = .ok (.iload_n 3, 1) := by decide +kernel
theorem dX8_adds_149 : decode cX8_adds 149 = .ok (.iload 4, 2) := by decide +kernel
theorem dX8_adds_151 : decode cX8_adds 151 = .ok (.invokevirtual 152, 3) := by decide +kernel
theorem dX8_adds_154 : decode cX8_adds 154 = .ok (.aload_n 0, 1) := by decide +kernel
theorem dX8_adds_155 : decode cX8_adds 155 = .ok (.getfield 9, 3) := by decide +kernel
theorem dX8_adds_158 : decode cX8_adds 158 = .ok (.iload 5, 2) := by decide +kernel
theorem dX8_adds_160 : decode cX8_adds 160 = .ok (.iconst 3, 1) := by decide +kernel
theorem dX8_adds_161 : decode cX8_adds 161 = .ok (.iadd, 1) := by decide +kernel
theorem dX8_adds_162 : decode cX8_adds 162 = .ok (.iaload, 1) := by decide +kernel
theorem dX8_adds_163 : decode cX8_adds 163 = .ok (.ireturn, 1) := by decide +kernel
theorem dX8_refers_0 : decode cX8_refers 0 = .ok (.iload_n 1, 1) := by decide +kernel
theorem dX8_refers_1 : decode cX8_refers 1 = .ok (.invokestatic 138, 3) := by decide +kernel
theorem dX8_refers_4 : decode cX8_refers 4 = .ok (.ifCond .eq 17, 3) := by decide +kernel
theorem dX8_refers_7 : decode cX8_refers 7 = .ok (.iload_n 2, 1) := by decide +kernel
theorem dX8_refers_8 : decode cX8_refers 8 = .ok (.invokestatic 141, 3) := by decide +kernel
theorem dX8_refers_11 : decode cX8_refers 11 = .ok (.ifCond .eq 10, 3) := by decide +kernel
theorem dX8_refers_14 : decode cX8_refers 14 = .ok (.iload_n 3, 1) := by decide +kernel
theorem dX8_refers_15 : decode cX8_refers 15 = .ok (.invokestatic 141, 3) := by decide +kernel
theorem dX8_refers_18 : decode cX8_refers 18 = .ok (.ifCond .ne 9, 3) := by decide +kernel
theorem dX8_refers_21 : decode cX8_refers 21 = .ok (.aload_n 0, 1) := by decide +kernel
theorem dX8_refers_22 : decode cX8_refers 22 = .ok (.iconst (-1), 1) := by decide +kernel
theorem dX8_refers_23 : decode cX8_refers 23 = .ok (.invokevirtual 70, 3) := by decide +kernel
theorem dX8_refers_26 : decode cX8_refers 26 = .ok (.ireturn, 1) := by decide +kernel
theorem dX8_refers_27 : decode cX8_refers 27 = .ok (.iload 4, 2) := by decide +kernel
theorem dX8_refers_29 : decode cX8_refers 29 = .ok (.iconst (-1), 1) := by decide +kernel
theorem dX8_refers_30 : decode cX8_refers 30 = .ok (.if_icmp .ge 10, 3) := by decide +kernel
theorem dX8_refers_33 : decode cX8_refers 33 = .ok (.aload_n 0, 1) := by decide +kernel
theorem dX8_refers_34 : decode cX8_refers 34 = .ok (.bipush (-4), 2) := by decide +kernel
theorem dX8_refers_36 : decode cX8_refers 36 = .ok (.invokevirtual 70, 3) := by decide +kernel
theorem dX8_refers_39 : decode cX8_refers 39 = .ok (.ireturn, 1) := by decide +kernel
theorem dX8_refers_40 : decode cX8_refers 40 = .ok (.iload 4, 2) := by decide +kernel
theorem dX8_refers_42 : decode cX8_refers 42 = .ok (.bipush 99, 2) := by decide +kernel
theorem dX8_refers_44 : decode cX8_refers 44 = .ok (.if_icmp .le 10, 3) := by decide +kernel
theorem dX8_refers_47 : decode cX8_refers 47 = .ok (.aload_n 0, 1) := by decide +kernel
theorem dX8_refers_48 : decode cX8_refers 48 = .ok (.bipush (-6), 2) := by decide +kernel
theorem dX8_refers_50 : decode cX8_refers 50 = .ok (.invokevirtual 70, 3) := by decide +kernel
theorem dX8_refers_53 : decode cX8_refers 53 = .ok (.ireturn, 1) := by decide +kernel
theorem dX8_refers_54 : decode cX8_refers 54 = .ok (.aload_n 0, 1) := by decide +kernel
theorem dX8_refers_55 : decode cX8_refers 55 = .ok (.iload_n 1, 1) := by decide +kernel
theorem dX8_refers_56 : decode cX8_refers 56 = .ok (.iload_n 2, 1) := by decide +kernel
theorem dX8_refers_57 : decode cX8_refers 57 = .ok (.iload 4, 2) := by decide +kernel
theorem dX8_refers_59 : decode cX8_refers 59 = .ok (.ifCond .ge 7, 3) := by decide +kernel
theorem dX8_refers_62 : decode cX8_refers 62 = .ok (.iconst 2, 1) := by decide +kernel
theorem dX8_refers_63 : decode cX8_refers 63 = .ok (.goto 4, 3) := by decide +kernel
theorem dX8_refers_66 : decode cX8_refers 66 = .ok (.iconst 3, 1) := by decide +kernel
theorem dX8_refers_67 : decode cX8_refers 67 = .ok (.iconst 0, 1) := by decide +kernel
theorem dX8_refers_68 : decode cX8_refers 68 = .ok (.iload 4, 2) := by decide +kernel
theorem dX8_refers_70 : decode cX8_refers 70 = .ok (.invokestatic 120, 3) := by decide +kernel
theorem dX8_refers_73 : decode cX8_refers 73 = .ok (.iload_n 3, 1) := by decide +kernel
theorem dX8_refers_74 : decode cX8_refers 74 = .ok (.invokevirtual 144, 3) := by decide +kernel
theorem dX8_refers_77 : decode cX8_refers 77 = .ok (.ireturn, 1) := by decide +kernel
theorem dX8_gap_0 : decode cX8_gap 0 = .ok (.iload_n 1, 1) := by decide +kernel
theorem dX8_gap_1 : decode cX8_gap 1 = .ok (.invokestatic 138, 3) := by decide +kernel
theorem dX8_gap_4 : decode cX8_gap 4 = .ok (.ifCond .eq 10, 3) := by decide +kernel
theorem dX8_gap_7 : decode cX8_gap 7 = .ok (.iload_n 2, 1) := by decide +kernel
theorem dX8_gap_8 : decode cX8_gap 8 = .ok (.invokestatic 141, 3) := by decide +kernel
theorem dX8_gap_11 : decode cX8_gap 11 = .ok (.ifCond .ne 11, 3) := by decide +kernel
theorem dX8_gap_14 : decode cX8_gap 14 = .ok (.aload_n 0, 1) := by decide +kernel
theorem dX8_gap_15 : decode cX8_gap 15 = .ok (.iconst (-1), 1) := by decide +kernel
theorem dX8_gap_16 : decode cX8_gap 16 = .ok (.invokevirtual 70, 3) := by decide +kernel
theorem dX8_gap_19 : decode cX8_gap 19 = .ok (.goto 12, 3) := by decide +kernel
theorem dX8_gap_22 : decode cX8_gap 22 = .ok (.aload_n 0, 1) := by decide +kernel
theorem dX8_gap_23 : decode cX8_gap 23 = .ok (.iload_n 1, 1) := by decide +kernel
theorem dX8_gap_24 : decode cX8_gap 24 = .ok (.iload_n 2, 1) := by decide +kernel
theorem dX8_gap_25 : decode cX8_gap 25 = .ok (.iconst 4, 1) := by decide +kernel
theorem dX8_gap_26 : decode cX8_gap 26 = .ok (.iconst 0, 1) := by decide +kernel
theorem dX8_gap_27 : decode cX8_gap 27 = .ok (.iconst 0, 1) := by decide +kernel
theorem dX8_gap_28 : decode cX8_gap 28 = .ok (.invokevirtual 144, 3) := by decide +kernel
theorem dX8_gap_31 : decode cX8_gap 31 = .ok (.ireturn, 1) := by decide +kernel
theorem dX8_entries_0 : decode cX8_entries 0 = .ok (.iconst 0, 1) := by decide +kernel
theorem dX8_entries_1 : decode cX8_entries 1 = .ok (.istore_n 2, 1) := by decide +kernel
theorem dX8_entries_2 : decode cX8_entries 2 = .ok (.iconst 0, 1) := by decide +kernel
theorem dX8_entries_3 : decode cX8_entries 3 = .ok (.istore_n 3, 1) := by decide +kernel
theorem dX8_entries_4 : decode cX8_entries 4 = .ok (.iload_n 3, 1) := by decide +kernel
theorem dX8_entries_5 : decode cX8_entries 5 = .ok (.bipush 8, 2) := by decide +kernel
theorem dX8_entries_7 : decode cX8_entries 7 = .ok (.if_icmp .ge 28, 3) := by decide +kernel
theorem dX8_entries_10 : decode cX8_entries 10 = .ok (.iload_n 2, 1) := by decide +kernel
theorem dX8_entries_11 : decode cX8_entries 11 = .ok (.aload_n 0, 1) := by decide +kernel
theorem dX8_entries_12 : decode cX8_entries 12 = .ok (.iload_n 1, 1) := by decide +kernel
theorem dX8_entries_13 : decode cX8_entries 13 = .ok (.iload_n 3, 1) := by decide +kernel
theorem dX8_entries_14 : decode cX8_entries 14 = .ok (.invokevirtual 85, 3) := by decide +kernel
theorem dX8_entries_17 : decode cX8_entries 17 = .ok (.ifCond .eq 9, 3) := by decide +kernel
theorem dX8_entries_20 : decode cX8_entries 20 = .ok (.iconst 1, 1) := by decide +kernel
theorem dX8_entries_21 : decode cX8_entries 21 = .ok (.iload_n 3, 1) := by decide +kernel
theorem dX8_entries_22 : decode cX8_entries 22 = .ok (.ishl, 1) := by decide +kernel
theorem dX8_entries_23 : decode cX8_entries 23 = .ok (.goto 4, 3) := by decide +kernel
theorem dX8_entries_26 : decode cX8_entries 26 = .ok (.iconst 0, 1) := by decide +kernel
theorem dX8_entries_27 : decode cX8_entries 27 = .ok (.ior, 1) := by decide +kernel
theorem dX8_entries_28 : decode cX8_entries 28 = .ok (.istore_n 2, 1) := by decide +kernel
theorem dX8_entries_29 : decode cX8_entries 29 = .ok (.iinc 3 1, 3) := by decide +kernel
theorem dX8_entries_32 : decode cX8_entries 32 = .ok (.goto (-28), 3) := by decide +kernel
theorem dX8_entries_35 : decode cX8_entries 35 = .ok (.iload_n 2, 1) := by decide +kernel
theorem dX8_entries_36 : decode cX8_entries 36 = .ok (.ireturn, 1) := by decide +kernel
theorem dX8_ones_0 : decode cX8_ones 0 = .ok (.iconst 0, 1) := by decide +kernel
theorem dX8_ones_1 : decode cX8_ones 1 = .ok (.istore_n 1, 1) := by decide +kernel
theorem dX8_ones_2 : decode cX8_ones 2 = .ok (.iconst 0, 1) := by decide +kernel
theorem dX8_ones_3 : decode cX8_ones 3 = .ok (.istore_n 2, 1) := by decide +kernel
theorem dX8_ones_4 : decode cX8_ones 4 = .ok (.iload_n 2, 1) := by decide +kernel
theorem dX8_ones_5 : decode cX8_ones 5 = .ok (.bipush 16, 2) := by decide +kernel
theorem dX8_ones_7 : decode cX8_ones 7 = .ok (.if_icmp .ge 17, 3) := by decide +kernel
theorem dX8_ones_10 : decode cX8_ones 10 = .ok (.iload_n 1, 1) := by decide +kernel
theorem dX8_ones_11 : decode cX8_ones 11 = .ok (.iload_n 0, 1) := by decide +kernel
theorem dX8_ones_12 : decode cX8_ones 12 = .ok (.iload_n 2, 1) := by decide +kernel
theorem dX8_ones_13 : decode cX8_ones 13 = .ok (.ishr, 1) := by decide +kernel
theorem dX8_ones_14 : decode cX8_ones 14 = .ok (.iconst 1, 1) := by decide +kernel
theorem dX8_ones_15 : decode cX8_ones 15 = .ok (.iand, 1) := by decide +kernel
theorem dX8_ones_16 : decode cX8_ones 16 = .ok (.iadd, 1) := by decide +kernel
theorem dX8_ones_17 : decode cX8_ones 17 = .ok (.istore_n 1, 1) := by decide +kernel
theorem dX8_ones_18 : decode cX8_ones 18 = .ok (.iinc 2 1, 3) := by decide +kernel
theorem dX8_ones_21 : decode cX8_ones 21 = .ok (.goto (-17), 3) := by decide +kernel
theorem dX8_ones_24 : decode cX8_ones 24 = .ok (.iload_n 1, 1) := by decide +kernel
theorem dX8_ones_25 : decode cX8_ones 25 = .ok (.ireturn, 1) := by decide +kernel
theorem dX8_drops_0 : decode cX8_drops 0 = .ok (.iload_n 1, 1) := by decide +kernel
theorem dX8_drops_1 : decode cX8_drops 1 = .ok (.invokestatic 138, 3) := by decide +kernel
theorem dX8_drops_4 : decode cX8_drops 4 = .ok (.ifCond .eq 19, 3) := by decide +kernel
theorem dX8_drops_7 : decode cX8_drops 7 = .ok (.iload_n 2, 1) := by decide +kernel
theorem dX8_drops_8 : decode cX8_drops 8 = .ok (.invokestatic 141, 3) := by decide +kernel
theorem dX8_drops_11 : decode cX8_drops 11 = .ok (.ifCond .eq 12, 3) := by decide +kernel
theorem dX8_drops_14 : decode cX8_drops 14 = .ok (.aload_n 0, 1) := by decide +kernel
theorem dX8_drops_15 : decode cX8_drops 15 = .ok (.iload_n 1, 1) := by decide +kernel
theorem dX8_drops_16 : decode cX8_drops 16 = .ok (.iload_n 2, 1) := by decide +kernel
theorem dX8_drops_17 : decode cX8_drops 17 = .ok (.invokevirtual 85, 3) := by decide +kernel
theorem dX8_drops_20 : decode cX8_drops 20 = .ok (.ifCond .ne 9, 3) := by decide +kernel
theorem dX8_drops_23 : decode cX8_drops 23 = .ok (.aload_n 0, 1) := by decide +kernel
theorem dX8_drops_24 : decode cX8_drops 24 = .ok (.iconst (-1), 1) := by decide +kernel
theorem dX8_drops_25 : decode cX8_drops 25 = .ok (.invokevirtual 70, 3) := by decide +kernel
theorem dX8_drops_28 : decode cX8_drops 28 = .ok (.ireturn, 1) := by decide +kernel
theorem dX8_drops_29 : decode cX8_drops 29 = .ok (.aload_n 0, 1) := by decide +kernel
theorem dX8_drops_30 : decode cX8_drops 30 = .ok (.getfield 9, 3) := by decide +kernel
theorem dX8_drops_33 : decode cX8_drops 33 = .ok (.iload_n 1, 1) := by decide +kernel
theorem dX8_drops_34 : decode cX8_drops 34 = .ok (.iload_n 2, 1) := by decide +kernel
theorem dX8_drops_35 : decode cX8_drops 35 = .ok (.invokestatic 78, 3) := by decide +kernel
theorem dX8_drops_38 : decode cX8_drops 38 = .ok (.iconst 0, 1) := by decide +kernel
theorem dX8_drops_39 : decode cX8_drops 39 = .ok (.iadd, 1) := by decide +kernel
theorem dX8_drops_40 : decode cX8_drops 40 = .ok (.bipush (-9), 2) := by decide +kernel
theorem dX8_drops_42 : decode cX8_drops 42 = .ok (.iastore, 1) := by decide +kernel
theorem dX8_drops_43 : decode cX8_drops 43 = .ok (.aload_n 0, 1) := by decide +kernel
theorem dX8_drops_44 : decode cX8_drops 44 = .ok (.iload_n 1, 1) := by decide +kernel
theorem dX8_drops_45 : decode cX8_drops 45 = .ok (.invokevirtual 156, 3) := by decide +kernel
theorem dX8_drops_48 : decode cX8_drops 48 = .ok (.invokestatic 159, 3) := by decide +kernel
theorem dX8_drops_51 : decode cX8_drops 51 = .ok (.ireturn, 1) := by decide +kernel
theorem dX8_letter_0 : decode cX8_letter 0 = .ok (.iload_n 1, 1) := by decide +kernel
theorem dX8_letter_1 : decode cX8_letter 1 = .ok (.ifCond .ge 10, 3) := by decide +kernel
theorem dX8_letter_4 : decode cX8_letter 4 = .ok (.aload_n 0, 1) := by decide +kernel
theorem dX8_letter_5 : decode cX8_letter 5 = .ok (.bipush (-4), 2) := by decide +kernel
theorem dX8_letter_7 : decode cX8_letter 7 = .ok (.invokevirtual 70, 3) := by decide +kernel
theorem dX8_letter_10 : decode cX8_letter 10 = .ok (.ireturn, 1) := by decide +kernel
theorem dX8_letter_11 : decode cX8_letter 11 = .ok (.iload_n 1, 1) := by decide +kernel
theorem dX8_letter_12 : decode cX8_letter 12 = .ok (.sipush 255, 3) := by decide +kernel
theorem dX8_letter_15 : decode cX8_letter 15 = .ok (.if_icmp .gt 12, 3) := by decide +kernel
theorem dX8_letter_18 : decode cX8_letter 18 = .ok (.aload_n 0, 1) := by decide +kernel
theorem dX8_letter_19 : decode cX8_letter 19 = .ok (.getfield 162, 3) := by decide +kernel
theorem dX8_letter_22 : decode cX8_letter 22 = .ok (.bipush 96, 2) := by decide +kernel
theorem dX8_letter_24 : decode cX8_letter 24 = .ok (.if_icmp .ne 10, 3) := by decide +kernel
theorem dX8_letter_27 : decode cX8_letter 27 = .ok (.aload_n 0, 1) := by decide +kernel
theorem dX8_letter_28 : decode cX8_letter 28 = .ok (.bipush (-6), 2) := by decide +kernel
theorem dX8_letter_30 : decode cX8_letter 30 = .ok (.invokevirtual 70, 3) := by decide +kernel
theorem dX8_letter_33 : decode cX8_letter 33 = .ok (.ireturn, 1) := by decide +kernel
theorem dX8_letter_34 : decode cX8_letter 34 = .ok (.aload_n 0, 1) := by decide +kernel
theorem dX8_letter_35 : decode cX8_letter 35 = .ok (.getfield 25, 3) := by decide +kernel
theorem dX8_letter_38 : decode cX8_letter 38 = .ok (.aload_n 0, 1) := by decide +kernel
theorem dX8_letter_39 : decode cX8_letter 39 = .ok (.getfield 162, 3) := by decide +kernel
theorem dX8_letter_42 : decode cX8_letter 42 = .ok (.iload_n 1, 1) := by decide +kernel
theorem dX8_letter_43 : decode cX8_letter 43 = .ok (.iastore, 1) := by decide +kernel
theorem dX8_letter_44 : decode cX8_letter 44 = .ok (.aload_n 0, 1) := by decide +kernel
theorem dX8_letter_45 : decode cX8_letter 45 = .ok (.dup, 1) := by decide +kernel
theorem dX8_letter_46 : decode cX8_letter 46 = .ok (.getfield 162, 3) := by decide +kernel
theorem dX8_letter_49 : decode cX8_letter 49 = .ok (.iconst 1, 1) := by decide +kernel
theorem dX8_letter_50 : decode cX8_letter 50 = .ok (.iadd, 1) := by decide +kernel
theorem dX8_letter_51 : decode cX8_letter 51 = .ok (.putfield 162, 3) := by decide +kernel
theorem dX8_letter_54 : decode cX8_letter 54 = .ok (.aload_n 0, 1) := by decide +kernel
theorem dX8_letter_55 : decode cX8_letter 55 = .ok (.getfield 162, 3) := by decide +kernel
theorem dX8_letter_58 : decode cX8_letter 58 = .ok (.ireturn, 1) := by decide +kernel
theorem dX8_isAt_0 : decode cX8_isAt 0 = .ok (.aload_n 0, 1) := by decide +kernel
theorem dX8_isAt_1 : decode cX8_isAt 1 = .ok (.getfield 165, 3) := by decide +kernel
theorem dX8_isAt_4 : decode cX8_isAt 4 = .ok (.aload_n 0, 1) := by decide +kernel
theorem dX8_isAt_5 : decode cX8_isAt 5 = .ok (.getfield 162, 3) := by decide +kernel
theorem dX8_isAt_8 : decode cX8_isAt 8 = .ok (.if_icmp .ge 33, 3) := by decide +kernel
theorem dX8_isAt_11 : decode cX8_isAt 11 = .ok (.aload_n 0, 1) := by decide +kernel
theorem dX8_isAt_12 : decode cX8_isAt 12 = .ok (.getfield 25, 3) := by decide +kernel
theorem dX8_isAt_15 : decode cX8_isAt 15 = .ok (.aload_n 0, 1) := by decide +kernel
theorem dX8_isAt_16 : decode cX8_isAt 16 = .ok (.getfield 165, 3) := by decide +kernel
theorem dX8_isAt_19 : decode cX8_isAt 19 = .ok (.iaload, 1) := by decide +kernel
theorem dX8_isAt_20 : decode cX8_isAt 20 = .ok (.iload_n 1, 1) := by decide +kernel
theorem dX8_isAt_21 : decode cX8_isAt 21 = .ok (.if_icmp .lt 20, 3) := by decide +kernel
theorem dX8_isAt_24 : decode cX8_isAt 24 = .ok (.aload_n 0, 1) := by decide +kernel
theorem dX8_isAt_25 : decode cX8_isAt 25 = .ok (.getfield 25, 3) := by decide +kernel
theorem dX8_isAt_28 : decode cX8_isAt 28 = .ok (.aload_n 0, 1) := by decide +kernel
theorem dX8_isAt_29 : decode cX8_isAt 29 = .ok (.getfield 165, 3) := by decide +kernel
theorem dX8_isAt_32 : decode cX8_isAt 32 = .ok (.iaload, 1) := by decide +kernel
theorem dX8_isAt_33 : decode cX8_isAt 33 = .ok (.iload_n 2, 1) := by decide +kernel
theorem dX8_isAt_34 : decode cX8_isAt 34 = .ok (.if_icmp .gt 7, 3) := by decide +kernel
theorem dX8_isAt_37 : decode cX8_isAt 37 = .ok (.iconst 1, 1) := by decide +kernel
theorem dX8_isAt_38 : decode cX8_isAt 38 = .ok (.goto 4, 3) := by decide +kernel
theorem dX8_isAt_41 : decode cX8_isAt 41 = .ok (.iconst 0, 1) := by decide +kernel
theorem dX8_isAt_42 : decode cX8_isAt 42 = .ok (.ireturn, 1) := by decide +kernel
theorem dX8_takes__0 : decode cX8_takes_ 0 = .ok (.aload_n 0, 1) := by decide +kernel
theorem dX8_takes__1 : decode cX8_takes_ 1 = .ok (.getfield 168, 3) := by decide +kernel
theorem dX8_takes__4 : decode cX8_takes_ 4 = .ok (.ifCond .eq 5, 3) := by decide +kernel
theorem dX8_takes__7 : decode cX8_takes_ 7 = .ok (.iconst 0, 1) := by decide +kernel
theorem dX8_takes__8 : decode cX8_takes_ 8 = .ok (.ireturn, 1) := by decide +kernel
theorem dX8_takes__9 : decode cX8_takes_ 9 = .ok (.aload_n 0, 1) := by decide +kernel
theorem dX8_takes__10 : decode cX8_takes_ 10 = .ok (.iload_n 1, 1) := by decide +kernel
theorem dX8_takes__11 : decode cX8_takes_ 11 = .ok (.iload_n 2, 1) := by decide +kernel
theorem dX8_takes__12 : decode cX8_takes_ 12 = .ok (.invokevirtual 171, 3) := by decide +kernel
theorem dX8_takes__15 : decode cX8_takes_ 15 = .ok (.ifCond .ne 17, 3) := by decide +kernel
theorem dX8_takes__18 : decode cX8_takes_ 18 = .ok (.aload_n 0, 1) := by decide +kernel
theorem dX8_takes__19 : decode cX8_takes_ 19 = .ok (.sipush (-1000), 3) := by decide +kernel
theorem dX8_takes__22 : decode cX8_takes_ 22 = .ok (.aload_n 0, 1) := by decide +kernel
theorem dX8_takes__23 : decode cX8_takes_ 23 = .ok (.getfield 165, 3) := by decide +kernel
theorem dX8_takes__26 : decode cX8_takes_ 26 = .ok (.isub, 1) := by decide +kernel
theorem dX8_takes__27 : decode cX8_takes_ 27 = .ok (.putfield 168, 3) := by decide +kernel
theorem dX8_takes__30 : decode cX8_takes_ 30 = .ok (.iconst 0, 1) := by decide +kernel
theorem dX8_takes__31 : decode cX8_takes_ 31 = .ok (.ireturn, 1) := by decide +kernel
theorem dX8_takes__32 : decode cX8_takes_ 32 = .ok (.aload_n 0, 1) := by decide +kernel
theorem dX8_takes__33 : decode cX8_takes_ 33 = .ok (.dup, 1) := by decide +kernel
theorem dX8_takes__34 : decode cX8_takes_ 34 = .ok (.getfield 165, 3) := by decide +kernel
theorem dX8_takes__37 : decode cX8_takes_ 37 = .ok (.iconst 1, 1) := by decide +kernel
theorem dX8_takes__38 : decode cX8_takes_ 38 = .ok (.iadd, 1) := by decide +kernel
theorem dX8_takes__39 : decode cX8_takes_ 39 = .ok (.putfield 165, 3) := by decide +kernel
theorem dX8_takes__42 : decode cX8_takes_ 42 = .ok (.aload_n 0, 1) := by decide +kernel
theorem dX8_takes__43 : decode cX8_takes_ 43 = .ok (.getfield 25, 3) := by decide +kernel
theorem dX8_takes__46 : decode cX8_takes_ 46 = .ok (.aload_n 0, 1) := by decide +kernel
theorem dX8_takes__47 : decode cX8_takes_ 47 = .ok (.getfield 165, 3) := by decide +kernel
theorem dX8_takes__50 : decode cX8_takes_ 50 = .ok (.iconst 1, 1) := by decide +kernel
theorem dX8_takes__51 : decode cX8_takes_ 51 = .ok (.isub, 1) := by decide +kernel
theorem dX8_takes__52 : decode cX8_takes_ 52 = .ok (.iaload, 1) := by decide +kernel
theorem dX8_takes__53 : decode cX8_takes_ 53 = .ok (.iload_n 1, 1) := by decide +kernel
theorem dX8_takes__54 : decode cX8_takes_ 54 = .ok (.isub, 1) := by decide +kernel
theorem dX8_takes__55 : decode cX8_takes_ 55 = .ok (.ireturn, 1) := by decide +kernel
theorem dX8_digit_0 : decode cX8_digit 0 = .ok (.aload_n 0, 1) := by decide +kernel
theorem dX8_digit_1 : decode cX8_digit 1 = .ok (.bipush 48, 2) := by decide +kernel
theorem dX8_digit_3 : decode cX8_digit 3 = .ok (.bipush 57, 2) := by decide +kernel
theorem dX8_digit_5 : decode cX8_digit 5 = .ok (.invokevirtual 174, 3) := by decide +kernel
theorem dX8_digit_8 : decode cX8_digit 8 = .ok (.ireturn, 1) := by decide +kernel
theorem dX8_twoDigits_0 : decode cX8_twoDigits 0 = .ok (.bipush 10, 2) := by decide +kernel
theorem dX8_twoDigits_2 : decode cX8_twoDigits 2 = .ok (.aload_n 0, 1) := by decide +kernel
theorem dX8_twoDigits_3 : decode cX8_twoDigits 3 = .ok (.invokevirtual 176, 3) := by decide +kernel
theorem dX8_twoDigits_6 : decode cX8_twoDigits 6 = .ok (.imul, 1) := by decide +kernel
theorem dX8_twoDigits_7 : decode cX8_twoDigits 7 = .ok (.istore_n 1, 1) := by decide +kernel
theorem dX8_twoDigits_8 : decode cX8_twoDigits 8 = .ok (.iload_n 1, 1) := by decide +kernel
theorem dX8_twoDigits_9 : decode cX8_twoDigits 9 = .ok (.aload_n 0, 1) := by decide +kernel
theorem dX8_twoDigits_10 : decode cX8_twoDigits 10 = .ok (.invokevirtual 176, 3) := by decide +kernel
theorem dX8_twoDigits_13 : decode cX8_twoDigits 13 = .ok (.iadd, 1) := by decide +kernel
theorem dX8_twoDigits_14 : decode cX8_twoDigits 14 = .ok (.ireturn, 1) := by decide +kernel
theorem dX8_entry_0 : decode cX8_entry 0 = .ok (.aload_n 0, 1) := by decide +kernel
theorem dX8_entry_1 : decode cX8_entry 1 = .ok (.getfield 165, 3) := by decide +kernel
theorem dX8_entry_4 : decode cX8_entry 4 = .ok (.aload_n 0, 1) := by decide +kernel
theorem dX8_entry_5 : decode cX8_entry 5 = .ok (.getfield 162, 3) := by decide +kernel
theorem dX8_entry_8 : decode cX8_entry 8 = .ok (.if_icmp .ge 15, 3) := by decide +kernel
theorem dX8_entry_11 : decode cX8_entry 11 = .ok (.aload_n 0, 1) := by decide +kernel
theorem dX8_entry_12 : decode cX8_entry 12 = .ok (.getfield 25, 3) := by decide +kernel
theorem dX8_entry_15 : decode cX8_entry 15 = .ok (.aload_n 0, 1) := by decide +kernel
theorem dX8_entry_16 : decode cX8_entry 16 = .ok (.getfield 165, 3) := by decide +kernel
theorem dX8_entry_19 : decode cX8_entry 19 = .ok (.iaload, 1) := by decide +kernel
theorem dX8_entry_20 : decode cX8_entry 20 = .ok (.goto 4, 3) := by decide +kernel
theorem dX8_entry_23 : decode cX8_entry 23 = .ok (.iconst 0, 1) := by decide +kernel
theorem dX8_entry_24 : decode cX8_entry 24 = .ok (.istore 4, 2) := by decide +kernel
theorem dX8_entry_26 : decode cX8_entry 26 = .ok (.aload_n 0, 1) := by decide +kernel
theorem dX8_entry_27 : decode cX8_entry 27 = .ok (.getfield 168, 3) := by decide +kernel
theorem dX8_entry_30 : decode cX8_entry 30 = .ok (.ifCond .ne 50, 3) := by decide +kernel
theorem dX8_entry_33 : decode cX8_entry 33 = .ok (.iload 4, 2) := by decide +kernel
theorem dX8_entry_35 : decode cX8_entry 35 = .ok (.bipush 61, 2) := by decide +kernel
theorem dX8_entry_37 : decode cX8_entry 37 = .ok (.if_icmp .eq 43, 3) := by decide +kernel
theorem dX8_entry_40 : decode cX8_entry 40 = .ok (.iload 4, 2) := by decide +kernel
theorem dX8_entry_42 : decode cX8_entry 42 = .ok (.bipush 91, 2) := by decide +kernel
theorem dX8_entry_44 : decode cX8_entry 44 = .ok (.if_icmp .eq 36, 3) := by decide +kernel
theorem dX8_entry_47 : decode cX8_entry 47 = .ok (.iload 4, 2) := by decide +kernel
theorem dX8_entry_49 : decode cX8_entry 49 = .ok (.bipush 64, 2) := by decide +kernel
theorem dX8_entry_51 : decode cX8_entry 51 = .ok (.if_icmp .eq 29, 3) := by decide +kernel
theorem dX8_entry_54 : decode cX8_entry 54 = .ok (.iload 4, 2) := by decide +kernel
theorem dX8_entry_56 : decode cX8_entry 56 = .ok (.bipush 43, 2) := by decide +kernel
theorem dX8_entry_58 : decode cX8_entry 58 = .ok (.if_icmp .eq 22, 3) := by decide +kernel
theorem dX8_entry_61 : decode cX8_entry 61 = .ok (.iload 4, 2) := by decide +kernel
theorem dX8_entry_63 : decode cX8_entry 63 = .ok (.bipush 33, 2) := by decide +kernel
theorem dX8_entry_65 : decode cX8_entry 65 = .ok (.if_icmp .eq 15, 3) := by decide +kernel
theorem dX8_entry_68 : decode cX8_entry 68 = .ok (.aload_n 0, 1) := by decide +kernel
theorem dX8_entry_69 : decode cX8_entry 69 = .ok (.sipush (-1000), 3) := by decide +kernel
theorem dX8_entry_72 : decode cX8_entry 72 = .ok (.aload_n 0, 1) := by decide +kernel
theorem dX8_entry_73 : decode cX8_entry 73 = .ok (.getfield 165, 3) := by decide +kernel
theorem dX8_entry_76 : decode cX8_entry 76 = .ok (.isub, 1) := by decide +kernel
theorem dX8_entry_77 : decode cX8_entry 77 = .ok (.putfield 168, 3) := by decide +kernel
theorem dX8_entry_80 : decode cX8_entry 80 = .ok (.aload_n 0, 1) := by decide +kernel
theorem dX8_entry_81 : decode cX8_entry 81 = .ok (.getfield 168, 3) := by decide +kernel
theorem dX8_entry_84 : decode cX8_entry 84 = .ok (.ifCond .eq 5, 3) := by decide +kernel
theorem dX8_entry_87 : decode cX8_entry 87 = .ok (.iconst 0, 1) := by decide +kernel
theorem dX8_entry_88 : decode cX8_entry 88 = .ok (.ireturn, 1) := by decide +kernel
theorem dX8_entry_89 : decode cX8_entry 89 = .ok (.aload_n 0, 1) := by decide +kernel
theorem dX8_entry_90 : decode cX8_entry 90 = .ok (.dup, 1) := by decide +kernel
theorem dX8_entry_91 : decode cX8_entry 91 = .ok (.getfield 165, 3) := by decide +kernel
theorem dX8_entry_94 : decode cX8_entry 94 = .ok (.iconst 1, 1) := by decide +kernel
theorem dX8_entry_95 : decode cX8_entry 95 = .ok (.iadd, 1) := by decide +kernel
theorem dX8_entry_96 : decode cX8_entry 96 = .ok (.putfield 165, 3) := by decide +kernel
theorem dX8_entry_99 : decode cX8_entry 99 = .ok (.iload_n 1, 1) := by decide +kernel
theorem dX8_entry_100 : decode cX8_entry 100 = .ok (.bipush 6, 2) := by decide +kernel
theorem dX8_entry_102 : decode cX8_entry 102 = .ok (.if_icmp .ge 7, 3) := by decide +kernel
theorem dX8_entry_105 : decode cX8_entry 105 = .ok (.iconst 1, 1) := by decide +kernel
theorem dX8_entry_106 : decode cX8_entry 106 = .ok (.goto 4, 3) := by decide +kernel
theorem dX8_entry_109 : decode cX8_entry 109 = .ok (.iconst 0, 1) := by decide +kernel
theorem dX8_entry_110 : decode cX8_entry 110 = .ok (.istore 5, 2) := by decide +kernel
theorem dX8_entry_112 : decode cX8_entry 112 = .ok (.iload 4, 2) := by decide +kernel
theorem dX8_entry_114 : decode cX8_entry 114 = .ok (.bipush 61, 2) := by decide +kernel
theorem dX8_entry_116 : decode cX8_entry 116 = .ok (.if_icmp .ne 32, 3) := by decide +kernel
theorem dX8_entry_119 : decode cX8_entry 119 = .ok (.aload_n 0, 1) := by decide +kernel
theorem dX8_entry_120 : decode cX8_entry 120 = .ok (.invokevirtual 180, 3) := by decide +kernel
theorem dX8_entry_123 : decode cX8_entry 123 = .ok (.istore 6, 2) := by decide +kernel
theorem dX8_entry_125 : decode cX8_entry 125 = .ok (.iload_n 3, 1) := by decide +kernel
theorem dX8_entry_126 : decode cX8_entry 126 = .ok (.ifCond .eq 19, 3) := by decide +kernel
theorem dX8_entry_129 : decode cX8_entry 129 = .ok (.iload 5, 2) := by decide +kernel
theorem dX8_entry_131 : decode cX8_entry 131 = .ok (.ifCond .eq 14, 3) := by decide +kernel
theorem dX8_entry_134 : decode cX8_entry 134 = .ok (.aload_n 0, 1) := by decide +kernel
theorem dX8_entry_135 : decode cX8_entry 135 = .ok (.iload_n 1, 1) := by decide +kernel
theorem dX8_entry_136 : decode cX8_entry 136 = .ok (.iload_n 2, 1) := by decide +kernel
theorem dX8_entry_137 : decode cX8_entry 137 = .ok (.iconst 0, 1) := by decide +kernel
theorem dX8_entry_138 : decode cX8_entry 138 = .ok (.iload 6, 2) := by decide +kernel
theorem dX8_entry_140 : decode cX8_entry 140 = .ok (.iconst 0, 1) := by decide +kernel
theorem dX8_entry_141 : decode cX8_entry 141 = .ok (.invokevirtual 144, 3) := by decide +kernel
theorem dX8_entry_144 : decode cX8_entry 144 = .ok (.pop, 1) := by decide +kernel
theorem dX8_entry_145 : decode cX8_entry 145 = .ok (.goto 232, 3) := by decide +kernel
theorem dX8_entry_148 : decode cX8_entry 148 = .ok (.iload 4, 2) := by decide +kernel
theorem dX8_entry_150 : decode cX8_entry 150 = .ok (.bipush 33, 2) := by decide +kernel
theorem dX8_entry_152 : decode cX8_entry 152 = .ok (.if_icmp .ne 25, 3) := by decide +kernel
theorem dX8_entry_155 : decode cX8_entry 155 = .ok (.iload_n 3, 1) := by decide +kernel
theorem dX8_entry_156 : decode cX8_entry 156 = .ok (.ifCond .eq 221, 3) := by decide +kernel
theorem dX8_entry_159 : decode cX8_entry 159 = .ok (.iload 5, 2) := by decide +kernel
theorem dX8_entry_161 : decode cX8_entry 161 = .ok (.ifCond .eq 216, 3) := by decide +kernel
theorem dX8_entry_164 : decode cX8_entry 164 = .ok (.aload_n 0, 1) := by decide +kernel
theorem dX8_entry_165 : decode cX8_entry 165 = .ok (.iload_n 1, 1) := by decide +kernel
theorem dX8_entry_166 : decode cX8_entry 166 = .ok (.iload_n 2, 1) := by decide +kernel
theorem dX8_entry_167 : decode cX8_entry 167 = .ok (.iconst 4, 1) := by decide +kernel
theorem dX8_entry_168 : decode cX8_entry 168 = .ok (.iconst 0, 1) := by decide +kernel
theorem dX8_entry_169 : decode cX8_entry 169 = .ok (.iconst 0, 1) := by decide +kernel
theorem dX8_entry_170 : decode cX8_entry 170 = .ok (.invokevirtual 144, 3) := by decide +kernel
theorem dX8_entry_173 : decode cX8_entry 173 = .ok (.pop, 1) := by decide +kernel
theorem dX8_entry_174 : decode cX8_entry 174 = .ok (.goto 203, 3) := by decide +kernel
theorem dX8_entry_177 : decode cX8_entry 177 = .ok (.iload 4, 2) := by decide +kernel
theorem dX8_entry_179 : decode cX8_entry 179 = .ok (.bipush 64, 2) := by decide +kernel
theorem dX8_entry_181 : decode cX8_entry 181 = .ok (.if_icmp .eq 10, 3) := by decide +kernel
theorem dX8_entry_184 : decode cX8_entry 184 = .ok (.iload 4, 2) := by decide +kernel
theorem dX8_entry_186 : decode cX8_entry 186 = .ok (.bipush 43, 2) := by decide +kernel
theorem dX8_entry_188 : decode cX8_entry 188 = .ok (.if_icmp .ne 65, 3) := by decide +kernel
theorem dX8_entry_191 : decode cX8_entry 191 = .ok (.aload_n 0, 1) := by decide +kernel
theorem dX8_entry_192 : decode cX8_entry 192 = .ok (.bipush 97, 2) := by decide +kernel
theorem dX8_entry_194 : decode cX8_entry 194 = .ok (.bipush 104, 2) := by decide +kernel
theorem dX8_entry_196 : decode cX8_entry 196 = .ok (.invokevirtual 174, 3) := by decide +kernel
theorem dX8_entry_199 : decode cX8_entry 199 = .ok (.istore 6, 2) := by decide +kernel
theorem dX8_entry_201 : decode cX8_entry 201 = .ok (.iload 4, 2) := by decide +kernel
theorem dX8_entry_203 : decode cX8_entry 203 = .ok (.bipush 43, 2) := by decide +kernel
theorem dX8_entry_205 : decode cX8_entry 205 = .ok (.if_icmp .ne 10, 3) := by decide +kernel
theorem dX8_entry_208 : decode cX8_entry 208 = .ok (.aload_n 0, 1) := by decide +kernel
theorem dX8_entry_209 : decode cX8_entry 209 = .ok (.invokevirtual 180, 3) := by decide +kernel
theorem dX8_entry_212 : decode cX8_entry 212 = .ok (.goto 4, 3) := by decide +kernel
theorem dX8_entry_215 : decode cX8_entry 215 = .ok (.iconst 0, 1) := by decide +kernel
theorem dX8_entry_216 : decode cX8_entry 216 = .ok (.istore 7, 2) := by decide +kernel
theorem dX8_entry_218 : decode cX8_entry 218 = .ok (.iload_n 3, 1) := by decide +kernel
theorem dX8_entry_219 : decode cX8_entry 219 = .ok (.ifCond .eq 31, 3) := by decide +kernel
theorem dX8_entry_222 : decode cX8_entry 222 = .ok (.iload 5, 2) := by decide +kernel
theorem dX8_entry_224 : decode cX8_entry 224 = .ok (.ifCond .eq 26, 3) := by decide +kernel
theorem dX8_entry_227 : decode cX8_entry 227 = .ok (.aload_n 0, 1) := by decide +kernel
theorem dX8_entry_228 : decode cX8_entry 228 = .ok (.iload_n 1, 1) := by decide +kernel
theorem dX8_entry_229 : decode cX8_entry 229 = .ok (.iload_n 2, 1) := by decide +kernel
theorem dX8_entry_230 : decode cX8_entry 230 = .ok (.iload 4, 2) := by decide +kernel
theorem dX8_entry_232 : decode cX8_entry 232 = .ok (.bipush 43, 2) := by decide +kernel
theorem dX8_entry_234 : decode cX8_entry 234 = .ok (.if_icmp .ne 7, 3) := by decide +kernel
theorem dX8_entry_237 : decode cX8_entry 237 = .ok (.iconst 3, 1) := by decide +kernel
theorem dX8_entry_238 : decode cX8_entry 238 = .ok (.goto 4, 3) := by decide +kernel
theorem dX8_entry_241 : decode cX8_entry 241 = .ok (.iconst 2, 1) := by decide +kernel
theorem dX8_entry_242 : decode cX8_entry 242 = .ok (.iload 7, 2) := by decide +kernel
theorem dX8_entry_244 : decode cX8_entry 244 = .ok (.iload 6, 2) := by decide +kernel
theorem dX8_entry_246 : decode cX8_entry 246 = .ok (.invokevirtual 144, 3) := by decide +kernel
theorem dX8_entry_249 : decode cX8_entry 249 = .ok (.pop, 1) := by decide +kernel
theorem dX8_entry_250 : decode cX8_entry 250 = .ok (.goto 127, 3) := by decide +kernel
theorem dX8_entry_253 : decode cX8_entry 253 = .ok (.iconst 0, 1) := by decide +kernel
theorem dX8_entry_254 : decode cX8_entry 254 = .ok (.istore 6, 2) := by decide +kernel
theorem dX8_entry_256 : decode cX8_entry 256 = .ok (.iconst 0, 1) := by decide +kernel
theorem dX8_entry_257 : decode cX8_entry 257 = .ok (.istore 7, 2) := by decide +kernel
theorem dX8_entry_259 : decode cX8_entry 259 = .ok (.iload_n 3, 1) := by decide +kernel
theorem dX8_entry_260 : decode cX8_entry 260 = .ok (.ifCond .eq 18, 3) := by decide +kernel
theorem dX8_entry_263 : decode cX8_entry 263 = .ok (.iload 5, 2) := by decide +kernel
theorem dX8_entry_265 : decode cX8_entry 265 = .ok (.ifCond .eq 13, 3) := by decide +kernel
theorem dX8_entry_268 : decode cX8_entry 268 = .ok (.aload_n 0, 1) := by decide +kernel
theorem dX8_entry_269 : decode cX8_entry 269 = .ok (.iload_n 1, 1) := by decide +kernel
theorem dX8_entry_270 : decode cX8_entry 270 = .ok (.iload_n 2, 1) := by decide +kernel
theorem dX8_entry_271 : decode cX8_entry 271 = .ok (.iconst 1, 1) := by decide +kernel
theorem dX8_entry_272 : decode cX8_entry 272 = .ok (.iconst 0, 1) := by decide +kernel
theorem dX8_entry_273 : decode cX8_entry 273 = .ok (.iconst 0, 1) := by decide +kernel
theorem dX8_entry_274 : decode cX8_entry 274 = .ok (.invokevirtual 144, 3) := by decide +kernel
theorem dX8_entry_277 : decode cX8_entry 277 = .ok (.pop, 1) := by decide +kernel
theorem dX8_entry_278 : decode cX8_entry 278 = .ok (.aload_n 0, 1) := by decide +kernel
theorem dX8_entry_279 : decode cX8_entry 279 = .ok (.getfield 168, 3) := by decide +kernel
theorem dX8_entry_282 : decode cX8_entry 282 = .ok (.ifCond .ne 86, 3) := by decide +kernel
theorem dX8_entry_285 : decode cX8_entry 285 = .ok (.aload_n 0, 1) := by decide +kernel
theorem dX8_entry_286 : decode cX8_entry 286 = .ok (.bipush 48, 2) := by decide +kernel
theorem dX8_entry_288 : decode cX8_entry 288 = .ok (.bipush 57, 2) := by decide +kernel
theorem dX8_entry_290 : decode cX8_entry 290 = .ok (.invokevirtual 171, 3) := by decide +kernel
theorem dX8_entry_293 : decode cX8_entry 293 = .ok (.ifCond .eq 75, 3) := by decide +kernel
theorem dX8_entry_296 : decode cX8_entry 296 = .ok (.aload_n 0, 1) := by decide +kernel
theorem dX8_entry_297 : decode cX8_entry 297 = .ok (.invokevirtual 176, 3) := by decide +kernel
theorem dX8_entry_300 : decode cX8_entry 300 = .ok (.istore 8, 2) := by decide +kernel
theorem dX8_entry_302 : decode cX8_entry 302 = .ok (.aload_n 0, 1) := by decide +kernel
theorem dX8_entry_303 : decode cX8_entry 303 = .ok (.invokevirtual 180, 3) := by decide +kernel
theorem dX8_entry_306 : decode cX8_entry 306 = .ok (.istore 9, 2) := by decide +kernel
theorem dX8_entry_308 : decode cX8_entry 308 = .ok (.iload 5, 2) := by decide +kernel
theorem dX8_entry_310 : decode cX8_entry 310 = .ok (.iload 6, 2) := by decide +kernel
theorem dX8_entry_312 : decode cX8_entry 312 = .ok (.iconst 4, 1) := by decide +kernel
theorem dX8_entry_313 : decode cX8_entry 313 = .ok (.if_icmp .ge 17, 3) := by decide +kernel
theorem dX8_entry_316 : decode cX8_entry 316 = .ok (.iload 7, 2) := by decide +kernel
theorem dX8_entry_318 : decode cX8_entry 318 = .ok (.iload 8, 2) := by decide +kernel
theorem dX8_entry_320 : decode cX8_entry 320 = .ok (.ishr, 1) := by decide +kernel
theorem dX8_entry_321 : decode cX8_entry 321 = .ok (.iconst 1, 1) := by decide +kernel
theorem dX8_entry_322 : decode cX8_entry 322 = .ok (.iand, 1) := by decide +kernel
theorem dX8_entry_323 : decode cX8_entry 323 = .ok (.ifCond .ne 7, 3) := by decide +kernel
theorem dX8_entry_326 : decode cX8_entry 326 = .ok (.iconst 1, 1) := by decide +kernel
theorem dX8_entry_327 : decode cX8_entry 327 = .ok (.goto 4, 3) := by decide +kernel
theorem dX8_entry_330 : decode cX8_entry 330 = .ok (.iconst 0, 1) := by decide +kernel
theorem dX8_entry_331 : decode cX8_entry 331 = .ok (.iand, 1) := by decide +kernel
theorem dX8_entry_332 : decode cX8_entry 332 = .ok (.istore 5, 2) := by decide +kernel
theorem dX8_entry_334 : decode cX8_entry 334 = .ok (.iload_n 3, 1) := by decide +kernel
theorem dX8_entry_335 : decode cX8_entry 335 = .ok (.ifCond .eq 18, 3) := by decide +kernel
theorem dX8_entry_338 : decode cX8_entry 338 = .ok (.iload 5, 2) := by decide +kernel
theorem dX8_entry_340 : decode cX8_entry 340 = .ok (.ifCond .eq 13, 3) := by decide +kernel
theorem dX8_entry_343 : decode cX8_entry 343 = .ok (.aload_n 0, 1) := by decide +kernel
theorem dX8_entry_344 : decode cX8_entry 344 = .ok (.iload_n 1, 1) := by decide +kernel
theorem dX8_entry_345 : decode cX8_entry 345 = .ok (.iload_n 2, 1) := by decide +kernel
theorem dX8_entry_346 : decode cX8_entry 346 = .ok (.iload 8, 2) := by decide +kernel
theorem dX8_entry_348 : decode cX8_entry 348 = .ok (.iload 9, 2) := by decide +kernel
theorem dX8_entry_350 : decode cX8_entry 350 = .ok (.invokevirtual 152, 3) := by decide +kernel
theorem dX8_entry_353 : decode cX8_entry 353 = .ok (.iload 7, 2) := by decide +kernel
theorem dX8_entry_355 : decode cX8_entry 355 = .ok (.iconst 1, 1) := by decide +kernel
theorem dX8_entry_356 : decode cX8_entry 356 = .ok (.iload 8, 2) := by decide +kernel
theorem dX8_entry_358 : decode cX8_entry 358 = .ok (.ishl, 1) := by decide +kernel
theorem dX8_entry_359 : decode cX8_entry 359 = .ok (.ior, 1) := by decide +kernel
theorem dX8_entry_360 : decode cX8_entry 360 = .ok (.istore 7, 2) := by decide +kernel
theorem dX8_entry_362 : decode cX8_entry 362 = .ok (.iinc 6 1, 3) := by decide +kernel
theorem dX8_entry_365 : decode cX8_entry 365 = .ok (.goto (-87), 3) := by decide +kernel
theorem dX8_entry_368 : decode cX8_entry 368 = .ok (.aload_n 0, 1) := by decide +kernel
theorem dX8_entry_369 : decode cX8_entry 369 = .ok (.bipush 93, 2) := by decide +kernel
theorem dX8_entry_371 : decode cX8_entry 371 = .ok (.bipush 93, 2) := by decide +kernel
theorem dX8_entry_373 : decode cX8_entry 373 = .ok (.invokevirtual 174, 3) := by decide +kernel
theorem dX8_entry_376 : decode cX8_entry 376 = .ok (.pop, 1) := by decide +kernel
theorem dX8_entry_377 : decode cX8_entry 377 = .ok (.iload 5, 2) := by decide +kernel
theorem dX8_entry_379 : decode cX8_entry 379 = .ok (.ireturn, 1) := by decide +kernel
theorem dX8_statement_0 : decode cX8_statement 0 = .ok (.aload_n 0, 1) := by decide +kernel
theorem dX8_statement_1 : decode cX8_statement 1 = .ok (.getfield 165, 3) := by decide +kernel
theorem dX8_statement_4 : decode cX8_statement 4 = .ok (.aload_n 0, 1) := by decide +kernel
theorem dX8_statement_5 : decode cX8_statement 5 = .ok (.getfield 162, 3) := by decide +kernel
theorem dX8_statement_8 : decode cX8_statement 8 = .ok (.if_icmp .ge 15, 3) := by decide +kernel
theorem dX8_statement_11 : decode cX8_statement 11 = .ok (.aload_n 0, 1) := by decide +kernel
theorem dX8_statement_12 : decode cX8_statement 12 = .ok (.getfield 25, 3) := by decide +kernel
theorem dX8_statement_15 : decode cX8_statement 15 = .ok (.aload_n 0, 1) := by decide +kernel
theorem dX8_statement_16 : decode cX8_statement 16 = .ok (.getfield 165, 3) := by decide +kernel
theorem dX8_statement_19 : decode cX8_statement 19 = .ok (.iaload, 1) := by decide +kernel
theorem dX8_statement_20 : decode cX8_statement 20 = .ok (.goto 4, 3) := by decide +kernel
theorem dX8_statement_23 : decode cX8_statement 23 = .ok (.iconst 0, 1) := by decide +kernel
theorem dX8_statement_24 : decode cX8_statement 24 = .ok (.istore_n 2, 1) := by decide +kernel
theorem dX8_statement_25 : decode cX8_statement 25 = .ok (.iload_n 2, 1) := by decide +kernel
theorem dX8_statement_26 : decode cX8_statement 26 = .ok (.bipush 108, 2) := by decide +kernel
theorem dX8_statement_28 : decode cX8_statement 28 = .ok (.if_icmp .eq 41, 3) := by decide +kernel
theorem dX8_statement_31 : decode cX8_statement 31 = .ok (.iload_n 2, 1) := by decide +kernel
theorem dX8_statement_32 : decode cX8_statement 32 = .ok (.bipush 111, 2) := by decide +kernel
