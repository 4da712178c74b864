abbrev y_m_isAllowed : MethodName := ({ cls := "TypeGuardModel", name := "isAllowed", desc := "(IIII)Z" } : Jvm.MethodName)
theorem d_m_isAllowed_0 : decode prog_14_method_57_code 0 = .ok (.iconst (-1), 1) := by decide +kernel
theorem d_m_isAllowed_1 : decode prog_14_method_57_code 1 = .ok (.istore 5, 2) := by decide +kernel
theorem d_m_isAllowed_3 : decode prog_14_method_57_code 3 = .ok (.iconst 0, 1) := by decide +kernel
theorem d_m_isAllowed_4 : decode prog_14_method_57_code 4 = .ok (.istore 6, 2) := by decide +kernel
theorem d_m_isAllowed_6 : decode prog_14_method_57_code 6 = .ok (.iconst 0, 1) := by decide +kernel
theorem d_m_isAllowed_7 : decode prog_14_method_57_code 7 = .ok (.istore 7, 2) := by decide +kernel
theorem d_m_isAllowed_9 : decode prog_14_method_57_code 9 = .ok (.iload 7, 2) := by decide +kernel
theorem d_m_isAllowed_11 : decode prog_14_method_57_code 11 = .ok (.aload_n 0, 1) := by decide +kernel
theorem d_m_isAllowed_12 : decode prog_14_method_57_code 12 = .ok (.getfield 319, 3) := by decide +kernel
theorem d_m_isAllowed_15 : decode prog_14_method_57_code 15 = .ok (.if_icmp .ge 64, 3) := by decide +kernel
theorem d_m_isAllowed_18 : decode prog_14_method_57_code 18 = .ok (.aload_n 0, 1) := by decide +kernel
theorem d_m_isAllowed_19 : decode prog_14_method_57_code 19 = .ok (.getfield 91, 3) := by decide +kernel
theorem d_m_isAllowed_22 : decode prog_14_method_57_code 22 = .ok (.iload 7, 2) := by decide +kernel
theorem d_m_isAllowed_24 : decode prog_14_method_57_code 24 = .ok (.iaload, 1) := by decide +kernel
theorem d_m_isAllowed_25 : decode prog_14_method_57_code 25 = .ok (.bipush 64, 2) := by decide +kernel
theorem d_m_isAllowed_27 : decode prog_14_method_57_code 27 = .ok (.iload_n 1, 1) := by decide +kernel
theorem d_m_isAllowed_28 : decode prog_14_method_57_code 28 = .ok (.imul, 1) := by decide +kernel
theorem d_m_isAllowed_29 : decode prog_14_method_57_code 29 = .ok (.iconst 4, 1) := by decide +kernel
theorem d_m_isAllowed_30 : decode prog_14_method_57_code 30 = .ok (.iload_n 2, 1) := by decide +kernel
theorem d_m_isAllowed_31 : decode prog_14_method_57_code 31 = .ok (.imul, 1) := by decide +kernel
theorem d_m_isAllowed_32 : decode prog_14_method_57_code 32 = .ok (.iadd, 1) := by decide +kernel
theorem d_m_isAllowed_33 : decode prog_14_method_57_code 33 = .ok (.iload_n 3, 1) := by decide +kernel
theorem d_m_isAllowed_34 : decode prog_14_method_57_code 34 = .ok (.iadd, 1) := by decide +kernel
theorem d_m_isAllowed_35 : decode prog_14_method_57_code 35 = .ok (.if_icmp .ne 8, 3) := by decide +kernel
theorem d_m_isAllowed_38 : decode prog_14_method_57_code 38 = .ok (.iload 7, 2) := by decide +kernel
theorem d_m_isAllowed_40 : decode prog_14_method_57_code 40 = .ok (.goto 5, 3) := by decide +kernel
theorem d_m_isAllowed_43 : decode prog_14_method_57_code 43 = .ok (.iload 5, 2) := by decide +kernel
theorem d_m_isAllowed_45 : decode prog_14_method_57_code 45 = .ok (.istore 5, 2) := by decide +kernel
theorem d_m_isAllowed_47 : decode prog_14_method_57_code 47 = .ok (.aload_n 0, 1) := by decide +kernel
theorem d_m_isAllowed_48 : decode prog_14_method_57_code 48 = .ok (.getfield 100, 3) := by decide +kernel
theorem d_m_isAllowed_51 : decode prog_14_method_57_code 51 = .ok (.iload 7, 2) := by decide +kernel
theorem d_m_isAllowed_53 : decode prog_14_method_57_code 53 = .ok (.iaload, 1) := by decide +kernel
theorem d_m_isAllowed_54 : decode prog_14_method_57_code 54 = .ok (.aload_n 0, 1) := by decide +kernel
theorem d_m_isAllowed_55 : decode prog_14_method_57_code 55 = .ok (.getfield 100, 3) := by decide +kernel
theorem d_m_isAllowed_58 : decode prog_14_method_57_code 58 = .ok (.iload 6, 2) := by decide +kernel
theorem d_m_isAllowed_60 : decode prog_14_method_57_code 60 = .ok (.iaload, 1) := by decide +kernel
theorem d_m_isAllowed_61 : decode prog_14_method_57_code 61 = .ok (.if_icmp .ge 8, 3) := by decide +kernel
theorem d_m_isAllowed_64 : decode prog_14_method_57_code 64 = .ok (.iload 7, 2) := by decide +kernel
theorem d_m_isAllowed_66 : decode prog_14_method_57_code 66 = .ok (.goto 5, 3) := by decide +kernel
theorem d_m_isAllowed_69 : decode prog_14_method_57_code 69 = .ok (.iload 6, 2) := by decide +kernel
theorem d_m_isAllowed_71 : decode prog_14_method_57_code 71 = .ok (.istore 6, 2) := by decide +kernel
theorem d_m_isAllowed_73 : decode prog_14_method_57_code 73 = .ok (.iinc 7 1, 3) := by decide +kernel
theorem d_m_isAllowed_76 : decode prog_14_method_57_code 76 = .ok (.goto (-67), 3) := by decide +kernel
theorem d_m_isAllowed_79 : decode prog_14_method_57_code 79 = .ok (.iload 5, 2) := by decide +kernel
theorem d_m_isAllowed_81 : decode prog_14_method_57_code 81 = .ok (.ifCond .lt 21, 3) := by decide +kernel
theorem d_m_isAllowed_84 : decode prog_14_method_57_code 84 = .ok (.aload_n 0, 1) := by decide +kernel
theorem d_m_isAllowed_85 : decode prog_14_method_57_code 85 = .ok (.getfield 94, 3) := by decide +kernel
theorem d_m_isAllowed_88 : decode prog_14_method_57_code 88 = .ok (.iload 5, 2) := by decide +kernel
theorem d_m_isAllowed_90 : decode prog_14_method_57_code 90 = .ok (.iaload, 1) := by decide +kernel
theorem d_m_isAllowed_91 : decode prog_14_method_57_code 91 = .ok (.aload_n 0, 1) := by decide +kernel
theorem d_m_isAllowed_92 : decode prog_14_method_57_code 92 = .ok (.getfield 287, 3) := by decide +kernel
theorem d_m_isAllowed_95 : decode prog_14_method_57_code 95 = .ok (.if_icmp .ne 7, 3) := by decide +kernel
theorem d_m_isAllowed_98 : decode prog_14_method_57_code 98 = .ok (.iconst 1, 1) := by decide +kernel
theorem d_m_isAllowed_99 : decode prog_14_method_57_code 99 = .ok (.goto 4, 3) := by decide +kernel
theorem d_m_isAllowed_102 : decode prog_14_method_57_code 102 = .ok (.iconst 0, 1) := by decide +kernel
theorem d_m_isAllowed_103 : decode prog_14_method_57_code 103 = .ok (.istore 7, 2) := by decide +kernel
theorem d_m_isAllowed_105 : decode prog_14_method_57_code 105 = .ok (.aload_n 0, 1) := by decide +kernel
theorem d_m_isAllowed_106 : decode prog_14_method_57_code 106 = .ok (.dup, 1) := by decide +kernel
theorem d_m_isAllowed_107 : decode prog_14_method_57_code 107 = .ok (.getfield 322, 3) := by decide +kernel
theorem d_m_isAllowed_110 : decode prog_14_method_57_code 110 = .ok (.iload 7, 2) := by decide +kernel
theorem d_m_isAllowed_112 : decode prog_14_method_57_code 112 = .ok (.ifCond .eq 7, 3) := by decide +kernel
theorem d_m_isAllowed_115 : decode prog_14_method_57_code 115 = .ok (.iconst 1, 1) := by decide +kernel
theorem d_m_isAllowed_116 : decode prog_14_method_57_code 116 = .ok (.goto 4, 3) := by decide +kernel
theorem d_m_isAllowed_119 : decode prog_14_method_57_code 119 = .ok (.iconst 0, 1) := by decide +kernel
theorem d_m_isAllowed_120 : decode prog_14_method_57_code 120 = .ok (.iadd, 1) := by decide +kernel
theorem d_m_isAllowed_121 : decode prog_14_method_57_code 121 = .ok (.putfield 322, 3) := by decide +kernel
theorem d_m_isAllowed_124 : decode prog_14_method_57_code 124 = .ok (.aload_n 0, 1) := by decide +kernel
theorem d_m_isAllowed_125 : decode prog_14_method_57_code 125 = .ok (.dup, 1) := by decide +kernel
theorem d_m_isAllowed_126 : decode prog_14_method_57_code 126 = .ok (.getfield 325, 3) := by decide +kernel
theorem d_m_isAllowed_129 : decode prog_14_method_57_code 129 = .ok (.iload 7, 2) := by decide +kernel
theorem d_m_isAllowed_131 : decode prog_14_method_57_code 131 = .ok (.ifCond .eq 7, 3) := by decide +kernel
theorem d_m_isAllowed_134 : decode prog_14_method_57_code 134 = .ok (.iconst 0, 1) := by decide +kernel
theorem d_m_isAllowed_135 : decode prog_14_method_57_code 135 = .ok (.goto 4, 3) := by decide +kernel
theorem d_m_isAllowed_138 : decode prog_14_method_57_code 138 = .ok (.iconst 1, 1) := by decide +kernel
theorem d_m_isAllowed_139 : decode prog_14_method_57_code 139 = .ok (.iadd, 1) := by decide +kernel
theorem d_m_isAllowed_140 : decode prog_14_method_57_code 140 = .ok (.putfield 325, 3) := by decide +kernel
theorem d_m_isAllowed_143 : decode prog_14_method_57_code 143 = .ok (.iload 5, 2) := by decide +kernel
theorem d_m_isAllowed_145 : decode prog_14_method_57_code 145 = .ok (.ifCond .ge 46, 3) := by decide +kernel
theorem d_m_isAllowed_148 : decode prog_14_method_57_code 148 = .ok (.aload_n 0, 1) := by decide +kernel
theorem d_m_isAllowed_149 : decode prog_14_method_57_code 149 = .ok (.getfield 319, 3) := by decide +kernel
theorem d_m_isAllowed_152 : decode prog_14_method_57_code 152 = .ok (.bipush 6, 2) := by decide +kernel
theorem d_m_isAllowed_154 : decode prog_14_method_57_code 154 = .ok (.if_icmp .ge 10, 3) := by decide +kernel
theorem d_m_isAllowed_157 : decode prog_14_method_57_code 157 = .ok (.aload_n 0, 1) := by decide +kernel
theorem d_m_isAllowed_158 : decode prog_14_method_57_code 158 = .ok (.getfield 319, 3) := by decide +kernel
theorem d_m_isAllowed_161 : decode prog_14_method_57_code 161 = .ok (.goto 5, 3) := by decide +kernel
theorem d_m_isAllowed_164 : decode prog_14_method_57_code 164 = .ok (.iload 6, 2) := by decide +kernel
theorem d_m_isAllowed_166 : decode prog_14_method_57_code 166 = .ok (.istore 5, 2) := by decide +kernel
theorem d_m_isAllowed_168 : decode prog_14_method_57_code 168 = .ok (.aload_n 0, 1) := by decide +kernel
theorem d_m_isAllowed_169 : decode prog_14_method_57_code 169 = .ok (.dup, 1) := by decide +kernel
theorem d_m_isAllowed_170 : decode prog_14_method_57_code 170 = .ok (.getfield 319, 3) := by decide +kernel
theorem d_m_isAllowed_173 : decode prog_14_method_57_code 173 = .ok (.aload_n 0, 1) := by decide +kernel
theorem d_m_isAllowed_174 : decode prog_14_method_57_code 174 = .ok (.getfield 319, 3) := by decide +kernel
theorem d_m_isAllowed_177 : decode prog_14_method_57_code 177 = .ok (.bipush 6, 2) := by decide +kernel
theorem d_m_isAllowed_179 : decode prog_14_method_57_code 179 = .ok (.if_icmp .ge 7, 3) := by decide +kernel
theorem d_m_isAllowed_182 : decode prog_14_method_57_code 182 = .ok (.iconst 1, 1) := by decide +kernel
theorem d_m_isAllowed_183 : decode prog_14_method_57_code 183 = .ok (.goto 4, 3) := by decide +kernel
theorem d_m_isAllowed_186 : decode prog_14_method_57_code 186 = .ok (.iconst 0, 1) := by decide +kernel
theorem d_m_isAllowed_187 : decode prog_14_method_57_code 187 = .ok (.iadd, 1) := by decide +kernel
theorem d_m_isAllowed_188 : decode prog_14_method_57_code 188 = .ok (.putfield 319, 3) := by decide +kernel
theorem d_m_isAllowed_191 : decode prog_14_method_57_code 191 = .ok (.aload_n 0, 1) := by decide +kernel
theorem d_m_isAllowed_192 : decode prog_14_method_57_code 192 = .ok (.getfield 91, 3) := by decide +kernel
theorem d_m_isAllowed_195 : decode prog_14_method_57_code 195 = .ok (.iload 5, 2) := by decide +kernel
theorem d_m_isAllowed_197 : decode prog_14_method_57_code 197 = .ok (.bipush 64, 2) := by decide +kernel
theorem d_m_isAllowed_199 : decode prog_14_method_57_code 199 = .ok (.iload_n 1, 1) := by decide +kernel
theorem d_m_isAllowed_200 : decode prog_14_method_57_code 200 = .ok (.imul, 1) := by decide +kernel
theorem d_m_isAllowed_201 : decode prog_14_method_57_code 201 = .ok (.iconst 4, 1) := by decide +kernel
theorem d_m_isAllowed_202 : decode prog_14_method_57_code 202 = .ok (.iload_n 2, 1) := by decide +kernel
theorem d_m_isAllowed_203 : decode prog_14_method_57_code 203 = .ok (.imul, 1) := by decide +kernel
theorem d_m_isAllowed_204 : decode prog_14_method_57_code 204 = .ok (.iadd, 1) := by decide +kernel
theorem d_m_isAllowed_205 : decode prog_14_method_57_code 205 = .ok (.iload_n 3, 1) := by decide +kernel
theorem d_m_isAllowed_206 : decode prog_14_method_57_code 206 = .ok (.iadd, 1) := by decide +kernel
theorem d_m_isAllowed_207 : decode prog_14_method_57_code 207 = .ok (.iastore, 1) := by decide +kernel
theorem d_m_isAllowed_208 : decode prog_14_method_57_code 208 = .ok (.aload_n 0, 1) := by decide +kernel
theorem d_m_isAllowed_209 : decode prog_14_method_57_code 209 = .ok (.getfield 94, 3) := by decide +kernel
theorem d_m_isAllowed_212 : decode prog_14_method_57_code 212 = .ok (.iload 5, 2) := by decide +kernel
theorem d_m_isAllowed_214 : decode prog_14_method_57_code 214 = .ok (.aload_n 0, 1) := by decide +kernel
theorem d_m_isAllowed_215 : decode prog_14_method_57_code 215 = .ok (.getfield 287, 3) := by decide +kernel
theorem d_m_isAllowed_218 : decode prog_14_method_57_code 218 = .ok (.iastore, 1) := by decide +kernel
theorem d_m_isAllowed_219 : decode prog_14_method_57_code 219 = .ok (.iconst 0, 1) := by decide +kernel
theorem d_m_isAllowed_220 : decode prog_14_method_57_code 220 = .ok (.istore 8, 2) := by decide +kernel
theorem d_m_isAllowed_222 : decode prog_14_method_57_code 222 = .ok (.iload 8, 2) := by decide +kernel
theorem d_m_isAllowed_224 : decode prog_14_method_57_code 224 = .ok (.iconst 3, 1) := by decide +kernel
theorem d_m_isAllowed_225 : decode prog_14_method_57_code 225 = .ok (.if_icmp .ge 35, 3) := by decide +kernel
theorem d_m_isAllowed_228 : decode prog_14_method_57_code 228 = .ok (.iload 7, 2) := by decide +kernel
theorem d_m_isAllowed_230 : decode prog_14_method_57_code 230 = .ok (.ifCond .ne 30, 3) := by decide +kernel
theorem d_m_isAllowed_233 : decode prog_14_method_57_code 233 = .ok (.aload_n 0, 1) := by decide +kernel
theorem d_m_isAllowed_234 : decode prog_14_method_57_code 234 = .ok (.getfield 97, 3) := by decide +kernel
theorem d_m_isAllowed_237 : decode prog_14_method_57_code 237 = .ok (.iconst 3, 1) := by decide +kernel
theorem d_m_isAllowed_238 : decode prog_14_method_57_code 238 = .ok (.iload 5, 2) := by decide +kernel
theorem d_m_isAllowed_240 : decode prog_14_method_57_code 240 = .ok (.imul, 1) := by decide +kernel
theorem d_m_isAllowed_241 : decode prog_14_method_57_code 241 = .ok (.iload 8, 2) := by decide +kernel
theorem d_m_isAllowed_243 : decode prog_14_method_57_code 243 = .ok (.iadd, 1) := by decide +kernel
theorem d_m_isAllowed_244 : decode prog_14_method_57_code 244 = .ok (.aload_n 0, 1) := by decide +kernel
theorem d_m_isAllowed_245 : decode prog_14_method_57_code 245 = .ok (.iload 8, 2) := by decide +kernel
theorem d_m_isAllowed_247 : decode prog_14_method_57_code 247 = .ok (.iload_n 1, 1) := by decide +kernel
theorem d_m_isAllowed_248 : decode prog_14_method_57_code 248 = .ok (.iload_n 2, 1) := by decide +kernel
theorem d_m_isAllowed_249 : decode prog_14_method_57_code 249 = .ok (.iload_n 3, 1) := by decide +kernel
theorem d_m_isAllowed_250 : decode prog_14_method_57_code 250 = .ok (.invokevirtual 299, 3) := by decide +kernel
theorem d_m_isAllowed_253 : decode prog_14_method_57_code 253 = .ok (.iastore, 1) := by decide +kernel
theorem d_m_isAllowed_254 : decode prog_14_method_57_code 254 = .ok (.iinc 8 1, 3) := by decide +kernel
theorem d_m_isAllowed_257 : decode prog_14_method_57_code 257 = .ok (.goto (-35), 3) := by decide +kernel
theorem d_m_isAllowed_260 : decode prog_14_method_57_code 260 = .ok (.aload_n 0, 1) := by decide +kernel
theorem d_m_isAllowed_261 : decode prog_14_method_57_code 261 = .ok (.dup, 1) := by decide +kernel
theorem d_m_isAllowed_262 : decode prog_14_method_57_code 262 = .ok (.getfield 328, 3) := by decide +kernel
theorem d_m_isAllowed_265 : decode prog_14_method_57_code 265 = .ok (.iconst 1, 1) := by decide +kernel
theorem d_m_isAllowed_266 : decode prog_14_method_57_code 266 = .ok (.iadd, 1) := by decide +kernel
theorem d_m_isAllowed_267 : decode prog_14_method_57_code 267 = .ok (.putfield 328, 3) := by decide +kernel
theorem d_m_isAllowed_270 : decode prog_14_method_57_code 270 = .ok (.aload_n 0, 1) := by decide +kernel
theorem d_m_isAllowed_271 : decode prog_14_method_57_code 271 = .ok (.getfield 100, 3) := by decide +kernel
theorem d_m_isAllowed_274 : decode prog_14_method_57_code 274 = .ok (.iload 5, 2) := by decide +kernel
theorem d_m_isAllowed_276 : decode prog_14_method_57_code 276 = .ok (.aload_n 0, 1) := by decide +kernel
theorem d_m_isAllowed_277 : decode prog_14_method_57_code 277 = .ok (.getfield 328, 3) := by decide +kernel
theorem d_m_isAllowed_280 : decode prog_14_method_57_code 280 = .ok (.iastore, 1) := by decide +kernel
theorem d_m_isAllowed_281 : decode prog_14_method_57_code 281 = .ok (.iload 4, 2) := by decide +kernel
theorem d_m_isAllowed_283 : decode prog_14_method_57_code 283 = .ok (.ifCond .lt 14, 3) := by decide +kernel
theorem d_m_isAllowed_286 : decode prog_14_method_57_code 286 = .ok (.iload 4, 2) := by decide +kernel
theorem d_m_isAllowed_288 : decode prog_14_method_57_code 288 = .ok (.bipush 8, 2) := by decide +kernel
theorem d_m_isAllowed_290 : decode prog_14_method_57_code 290 = .ok (.if_icmp .ge 7, 3) := by decide +kernel
theorem d_m_isAllowed_293 : decode prog_14_method_57_code 293 = .ok (.iconst 1, 1) := by decide +kernel
theorem d_m_isAllowed_294 : decode prog_14_method_57_code 294 = .ok (.goto 4, 3) := by decide +kernel
theorem d_m_isAllowed_297 : decode prog_14_method_57_code 297 = .ok (.iconst 0, 1) := by decide +kernel
theorem d_m_isAllowed_298 : decode prog_14_method_57_code 298 = .ok (.istore 8, 2) := by decide +kernel
theorem d_m_isAllowed_300 : decode prog_14_method_57_code 300 = .ok (.iload 8, 2) := by decide +kernel
theorem d_m_isAllowed_302 : decode prog_14_method_57_code 302 = .ok (.ifCond .eq 25, 3) := by decide +kernel
theorem d_m_isAllowed_305 : decode prog_14_method_57_code 305 = .ok (.aload_n 0, 1) := by decide +kernel
theorem d_m_isAllowed_306 : decode prog_14_method_57_code 306 = .ok (.getfield 97, 3) := by decide +kernel
theorem d_m_isAllowed_309 : decode prog_14_method_57_code 309 = .ok (.iconst 3, 1) := by decide +kernel
theorem d_m_isAllowed_310 : decode prog_14_method_57_code 310 = .ok (.iload 5, 2) := by decide +kernel
theorem d_m_isAllowed_312 : decode prog_14_method_57_code 312 = .ok (.imul, 1) := by decide +kernel
theorem d_m_isAllowed_313 : decode prog_14_method_57_code 313 = .ok (.iaload, 1) := by decide +kernel
theorem d_m_isAllowed_314 : decode prog_14_method_57_code 314 = .ok (.iload 4, 2) := by decide +kernel
theorem d_m_isAllowed_316 : decode prog_14_method_57_code 316 = .ok (.ishr, 1) := by decide +kernel
theorem d_m_isAllowed_317 : decode prog_14_method_57_code 317 = .ok (.iconst 1, 1) := by decide +kernel
theorem d_m_isAllowed_318 : decode prog_14_method_57_code 318 = .ok (.iand, 1) := by decide +kernel
theorem d_m_isAllowed_319 : decode prog_14_method_57_code 319 = .ok (.iconst 1, 1) := by decide +kernel
theorem d_m_isAllowed_320 : decode prog_14_method_57_code 320 = .ok (.if_icmp .ne 7, 3) := by decide +kernel
theorem d_m_isAllowed_323 : decode prog_14_method_57_code 323 = .ok (.iconst 1, 1) := by decide +kernel
theorem d_m_isAllowed_324 : decode prog_14_method_57_code 324 = .ok (.goto 4, 3) := by decide +kernel
theorem d_m_isAllowed_327 : decode prog_14_method_57_code 327 = .ok (.iconst 0, 1) := by decide +kernel
theorem d_m_isAllowed_328 : decode prog_14_method_57_code 328 = .ok (.istore 9, 2) := by decide +kernel
theorem d_m_isAllowed_330 : decode prog_14_method_57_code 330 = .ok (.iload 8, 2) := by decide +kernel
theorem d_m_isAllowed_332 : decode prog_14_method_57_code 332 = .ok (.ifCond .eq 27, 3) := by decide +kernel
theorem d_m_isAllowed_335 : decode prog_14_method_57_code 335 = .ok (.aload_n 0, 1) := by decide +kernel
theorem d_m_isAllowed_336 : decode prog_14_method_57_code 336 = .ok (.getfield 97, 3) := by decide +kernel
theorem d_m_isAllowed_339 : decode prog_14_method_57_code 339 = .ok (.iconst 3, 1) := by decide +kernel
theorem d_m_isAllowed_340 : decode prog_14_method_57_code 340 = .ok (.iload 5, 2) := by decide +kernel
theorem d_m_isAllowed_342 : decode prog_14_method_57_code 342 = .ok (.imul, 1) := by decide +kernel
theorem d_m_isAllowed_343 : decode prog_14_method_57_code 343 = .ok (.iconst 1, 1) := by decide +kernel
theorem d_m_isAllowed_344 : decode prog_14_method_57_code 344 = .ok (.iadd, 1) := by decide +kernel
theorem d_m_isAllowed_345 : decode prog_14_method_57_code 345 = .ok (.iaload, 1) := by decide +kernel
theorem d_m_isAllowed_346 : decode prog_14_method_57_code 346 = .ok (.iload 4, 2) := by decide +kernel
theorem d_m_isAllowed_348 : decode prog_14_method_57_code 348 = .ok (.ishr, 1) := by decide +kernel
theorem d_m_isAllowed_349 : decode prog_14_method_57_code 349 = .ok (.iconst 1, 1) := by decide +kernel
theorem d_m_isAllowed_350 : decode prog_14_method_57_code 350 = .ok (.iand, 1) := by decide +kernel
theorem d_m_isAllowed_351 : decode prog_14_method_57_code 351 = .ok (.iconst 1, 1) := by decide +kernel
theorem d_m_isAllowed_352 : decode prog_14_method_57_code 352 = .ok (.if_icmp .ne 7, 3) := by decide +kernel
theorem d_m_isAllowed_355 : decode prog_14_method_57_code 355 = .ok (.iconst 1, 1) := by decide +kernel
theorem d_m_isAllowed_356 : decode prog_14_method_57_code 356 = .ok (.goto 4, 3) := by decide +kernel
theorem d_m_isAllowed_359 : decode prog_14_method_57_code 359 = .ok (.iconst 0, 1) := by decide +kernel
theorem d_m_isAllowed_360 : decode prog_14_method_57_code 360 = .ok (.istore 10, 2) := by decide +kernel
theorem d_m_isAllowed_362 : decode prog_14_method_57_code 362 = .ok (.iload 8, 2) := by decide +kernel
theorem d_m_isAllowed_364 : decode prog_14_method_57_code 364 = .ok (.ifCond .eq 27, 3) := by decide +kernel
theorem d_m_isAllowed_367 : decode prog_14_method_57_code 367 = .ok (.aload_n 0, 1) := by decide +kernel
theorem d_m_isAllowed_368 : decode prog_14_method_57_code 368 = .ok (.getfield 97, 3) := by decide +kernel
theorem d_m_isAllowed_371 : decode prog_14_method_57_code 371 = .ok (.iconst 3, 1) := by decide +kernel
theorem d_m_isAllowed_372 : decode prog_14_method_57_code 372 = .ok (.iload 5, 2) := by decide +kernel
theorem d_m_isAllowed_374 : decode prog_14_method_57_code 374 = .ok (.imul, 1) := by decide +kernel
theorem d_m_isAllowed_375 : decode prog_14_method_57_code 375 = .ok (.iconst 2, 1) := by decide +kernel
theorem d_m_isAllowed_376 : decode prog_14_method_57_code 376 = .ok (.iadd, 1) := by decide +kernel
theorem d_m_isAllowed_377 : decode prog_14_method_57_code 377 = .ok (.iaload, 1) := by decide +kernel
theorem d_m_isAllowed_378 : decode prog_14_method_57_code 378 = .ok (.iload 4, 2) := by decide +kernel
theorem d_m_isAllowed_380 : decode prog_14_method_57_code 380 = .ok (.ishr, 1) := by decide +kernel
theorem d_m_isAllowed_381 : decode prog_14_method_57_code 381 = .ok (.iconst 1, 1) := by decide +kernel
theorem d_m_isAllowed_382 : decode prog_14_method_57_code 382 = .ok (.iand, 1) := by decide +kernel
theorem d_m_isAllowed_383 : decode prog_14_method_57_code 383 = .ok (.iconst 1, 1) := by decide +kernel
theorem d_m_isAllowed_384 : decode prog_14_method_57_code 384 = .ok (.if_icmp .ne 7, 3) := by decide +kernel
theorem d_m_isAllowed_387 : decode prog_14_method_57_code 387 = .ok (.iconst 1, 1) := by decide +kernel
theorem d_m_isAllowed_388 : decode prog_14_method_57_code 388 = .ok (.goto 4, 3) := by decide +kernel
theorem d_m_isAllowed_391 : decode prog_14_method_57_code 391 = .ok (.iconst 0, 1) := by decide +kernel
theorem d_m_isAllowed_392 : decode prog_14_method_57_code 392 = .ok (.istore 11, 2) := by decide +kernel
theorem d_m_isAllowed_394 : decode prog_14_method_57_code 394 = .ok (.iload 9, 2) := by decide +kernel
theorem d_m_isAllowed_396 : decode prog_14_method_57_code 396 = .ok (.ifCond .eq 11, 3) := by decide +kernel
theorem d_m_isAllowed_399 : decode prog_14_method_57_code 399 = .ok (.iload 10, 2) := by decide +kernel
theorem d_m_isAllowed_401 : decode prog_14_method_57_code 401 = .ok (.ifCond .eq 90, 3) := by decide +kernel
theorem d_m_isAllowed_404 : decode prog_14_method_57_code 404 = .ok (.goto 8, 3) := by decide +kernel
theorem d_m_isAllowed_407 : decode prog_14_method_57_code 407 = .ok (.iload 11, 2) := by decide +kernel
theorem d_m_isAllowed_409 : decode prog_14_method_57_code 409 = .ok (.ifCond .ne 82, 3) := by decide +kernel
theorem d_m_isAllowed_412 : decode prog_14_method_57_code 412 = .ok (.iconst 5, 1) := by decide +kernel
theorem d_m_isAllowed_413 : decode prog_14_method_57_code 413 = .ok (.aload_n 0, 1) := by decide +kernel
theorem d_m_isAllowed_414 : decode prog_14_method_57_code 414 = .ok (.getfield 331, 3) := by decide +kernel
theorem d_m_isAllowed_417 : decode prog_14_method_57_code 417 = .ok (.bipush 8, 2) := by decide +kernel
theorem d_m_isAllowed_419 : decode prog_14_method_57_code 419 = .ok (.irem, 1) := by decide +kernel
theorem d_m_isAllowed_420 : decode prog_14_method_57_code 420 = .ok (.imul, 1) := by decide +kernel
theorem d_m_isAllowed_421 : decode prog_14_method_57_code 421 = .ok (.istore 12, 2) := by decide +kernel
theorem d_m_isAllowed_423 : decode prog_14_method_57_code 423 = .ok (.aload_n 0, 1) := by decide +kernel
theorem d_m_isAllowed_424 : decode prog_14_method_57_code 424 = .ok (.getfield 103, 3) := by decide +kernel
theorem d_m_isAllowed_427 : decode prog_14_method_57_code 427 = .ok (.iload 12, 2) := by decide +kernel
theorem d_m_isAllowed_429 : decode prog_14_method_57_code 429 = .ok (.iload_n 1, 1) := by decide +kernel
theorem d_m_isAllowed_430 : decode prog_14_method_57_code 430 = .ok (.iastore, 1) := by decide +kernel
theorem d_m_isAllowed_431 : decode prog_14_method_57_code 431 = .ok (.aload_n 0, 1) := by decide +kernel
theorem d_m_isAllowed_432 : decode prog_14_method_57_code 432 = .ok (.getfield 103, 3) := by decide +kernel
theorem d_m_isAllowed_435 : decode prog_14_method_57_code 435 = .ok (.iload 12, 2) := by decide +kernel
theorem d_m_isAllowed_437 : decode prog_14_method_57_code 437 = .ok (.iconst 1, 1) := by decide +kernel
theorem d_m_isAllowed_438 : decode prog_14_method_57_code 438 = .ok (.iadd, 1) := by decide +kernel
theorem d_m_isAllowed_439 : decode prog_14_method_57_code 439 = .ok (.iload_n 2, 1) := by decide +kernel
theorem d_m_isAllowed_440 : decode prog_14_method_57_code 440 = .ok (.iastore, 1) := by decide +kernel
theorem d_m_isAllowed_441 : decode prog_14_method_57_code 441 = .ok (.aload_n 0, 1) := by decide +kernel
theorem d_m_isAllowed_442 : decode prog_14_method_57_code 442 = .ok (.getfield 103, 3) := by decide +kernel
theorem d_m_isAllowed_445 : decode prog_14_method_57_code 445 = .ok (.iload 12, 2) := by decide +kernel
theorem d_m_isAllowed_447 : decode prog_14_method_57_code 447 = .ok (.iconst 2, 1) := by decide +kernel
theorem d_m_isAllowed_448 : decode prog_14_method_57_code 448 = .ok (.iadd, 1) := by decide +kernel
theorem d_m_isAllowed_449 : decode prog_14_method_57_code 449 = .ok (.iload_n 3, 1) := by decide +kernel
theorem d_m_isAllowed_450 : decode prog_14_method_57_code 450 = .ok (.iastore, 1) := by decide +kernel
theorem d_m_isAllowed_451 : decode prog_14_method_57_code 451 = .ok (.aload_n 0, 1) := by decide +kernel
theorem d_m_isAllowed_452 : decode prog_14_method_57_code 452 = .ok (.getfield 103, 3) := by decide +kernel
theorem d_m_isAllowed_455 : decode prog_14_method_57_code 455 = .ok (.iload 12, 2) := by decide +kernel
theorem d_m_isAllowed_457 : decode prog_14_method_57_code 457 = .ok (.iconst 3, 1) := by decide +kernel
theorem d_m_isAllowed_458 : decode prog_14_method_57_code 458 = .ok (.iadd, 1) := by decide +kernel
theorem d_m_isAllowed_459 : decode prog_14_method_57_code 459 = .ok (.iload 4, 2) := by decide +kernel
theorem d_m_isAllowed_461 : decode prog_14_method_57_code 461 = .ok (.iastore, 1) := by decide +kernel
theorem d_m_isAllowed_462 : decode prog_14_method_57_code 462 = .ok (.aload_n 0, 1) := by decide +kernel
theorem d_m_isAllowed_463 : decode prog_14_method_57_code 463 = .ok (.getfield 103, 3) := by decide +kernel
theorem d_m_isAllowed_466 : decode prog_14_method_57_code 466 = .ok (.iload 12, 2) := by decide +kernel
theorem d_m_isAllowed_468 : decode prog_14_method_57_code 468 = .ok (.iconst 4, 1) := by decide +kernel
theorem d_m_isAllowed_469 : decode prog_14_method_57_code 469 = .ok (.iadd, 1) := by decide +kernel
theorem d_m_isAllowed_470 : decode prog_14_method_57_code 470 = .ok (.iload 9, 2) := by decide +kernel
theorem d_m_isAllowed_472 : decode prog_14_method_57_code 472 = .ok (.ifCond .eq 7, 3) := by decide +kernel
theorem d_m_isAllowed_475 : decode prog_14_method_57_code 475 = .ok (.iconst 1, 1) := by decide +kernel
theorem d_m_isAllowed_476 : decode prog_14_method_57_code 476 = .ok (.goto 4, 3) := by decide +kernel
theorem d_m_isAllowed_479 : decode prog_14_method_57_code 479 = .ok (.iconst 0, 1) := by decide +kernel
theorem d_m_isAllowed_480 : decode prog_14_method_57_code 480 = .ok (.iastore, 1) := by decide +kernel
theorem d_m_isAllowed_481 : decode prog_14_method_57_code 481 = .ok (.aload_n 0, 1) := by decide +kernel
theorem d_m_isAllowed_482 : decode prog_14_method_57_code 482 = .ok (.dup, 1) := by decide +kernel
theorem d_m_isAllowed_483 : decode prog_14_method_57_code 483 = .ok (.getfield 331, 3) := by decide +kernel
theorem d_m_isAllowed_486 : decode prog_14_method_57_code 486 = .ok (.iconst 1, 1) := by decide +kernel
theorem d_m_isAllowed_487 : decode prog_14_method_57_code 487 = .ok (.iadd, 1) := by decide +kernel
theorem d_m_isAllowed_488 : decode prog_14_method_57_code 488 = .ok (.putfield 331, 3) := by decide +kernel
theorem d_m_isAllowed_491 : decode prog_14_method_57_code 491 = .ok (.iload 9, 2) := by decide +kernel
theorem d_m_isAllowed_493 : decode prog_14_method_57_code 493 = .ok (.ireturn, 1) := by decide +kernel
def m_isAllowed_J480 (v9_480 : Bool) (s0_480 : Bool) (s1_480 : Int32) (S_480 : MS) : Option (MS × Bool) := (if inbd s1_480 40 = true then (bd (pI S_480 30 (txN s1_480) (bI s0_480)) fun S480 => (bd (pI S480 0 46 ((gI S480 0 46) + 1)) fun S488 => some (S488, v9_480))) else none)
def m_isAllowed_J412 (v1_412 : Int32) (v2_412 : Int32) (v3_412 : Int32) (v4_412 : Int32) (v9_412 : Bool) (S_412 : MS) : Option (MS × Bool) := (bd ((5 * ((gI S_412 0 46) - (gI S_412 0 46) / 8 * 8))) fun a421 => (if inbd a421 40 = true then (bd (pI S_412 30 (txN a421) v1_412) fun S430 => (if inbd (a421 + 1) 40 = true then (bd (pI S430 30 (txN (a421 + 1)) v2_412) fun S440 => (if inbd (a421 + 2) 40 = true then (bd (pI S440 30 (txN (a421 + 2)) v3_412) fun S450 => (if inbd (a421 + 3) 40 = true then (bd (pI S450 30 (txN (a421 + 3)) v4_412) fun S461 => (if v9_412 = true then m_isAllowed_J480 v9_412 true (a421 + 4) S461 else m_isAllowed_J480 v9_412 false (a421 + 4) S461)) else none)) else none)) else none)) else none))
def m_isAllowed_J392 (v1_392 : Int32) (v2_392 : Int32) (v3_392 : Int32) (v4_392 : Int32) (v9_392 : Bool) (v10_392 : Bool) (s0_392 : Bool) (S_392 : MS) : Option (MS × Bool) := (if v9_392 = true then (if v10_392 = true then m_isAllowed_J412 v1_392 v2_392 v3_392 v4_392 v9_392 S_392 else some (S_392, v9_392)) else (if s0_392 = true then some (S_392, v9_392) else m_isAllowed_J412 v1_392 v2_392 v3_392 v4_392 v9_392 S_392))
def m_isAllowed_J391 (v1_391 : Int32) (v2_391 : Int32) (v3_391 : Int32) (v4_391 : Int32) (v9_391 : Bool) (v10_391 : Bool) (S_391 : MS) : Option (MS × Bool) := m_isAllowed_J392 v1_391 v2_391 v3_391 v4_391 v9_391 v10_391 false S_391
def m_isAllowed_J360 (v1_360 : Int32) (v2_360 : Int32) (v3_360 : Int32) (v4_360 : Int32) (v5_360 : Int32) (v8_360 : Bool) (v9_360 : Bool) (s0_360 : Bool) (S_360 : MS) : Option (MS × Bool) := (if v8_360 = true then (if inbd ((3 * v5_360) + 2) 18 = true then (if (((gI S_360 28 (txN ((3 * v5_360) + 2))) >>> (v4_360 &&& 31)) &&& 1) = 1 then m_isAllowed_J392 v1_360 v2_360 v3_360 v4_360 v9_360 s0_360 true S_360 else m_isAllowed_J391 v1_360 v2_360 v3_360 v4_360 v9_360 s0_360 S_360) else none) else m_isAllowed_J391 v1_360 v2_360 v3_360 v4_360 v9_360 s0_360 S_360)
def m_isAllowed_J359 (v1_359 : Int32) (v2_359 : Int32) (v3_359 : Int32) (v4_359 : Int32) (v5_359 : Int32) (v8_359 : Bool) (v9_359 : Bool) (S_359 : MS) : Option (MS × Bool) := m_isAllowed_J360 v1_359 v2_359 v3_359 v4_359 v5_359 v8_359 v9_359 false S_359
def m_isAllowed_J328 (v1_328 : Int32) (v2_328 : Int32) (v3_328 : Int32) (v4_328 : Int32) (v5_328 : Int32) (v8_328 : Bool) (s0_328 : Bool) (S_328 : MS) : Option (MS × Bool) := (if v8_328 = true then (if inbd ((3 * v5_328) + 1) 18 = true then (if (((gI S_328 28 (txN ((3 * v5_328) + 1))) >>> (v4_328 &&& 31)) &&& 1) = 1 then m_isAllowed_J360 v1_328 v2_328 v3_328 v4_328 v5_328 v8_328 s0_328 true S_328 else m_isAllowed_J359 v1_328 v2_328 v3_328 v4_328 v5_328 v8_328 s0_328 S_328) else none) else m_isAllowed_J359 v1_328 v2_328 v3_328 v4_328 v5_328 v8_328 s0_328 S_328)
def m_isAllowed_J327 (v1_327 : Int32) (v2_327 : Int32) (v3_327 : Int32) (v4_327 : Int32) (v5_327 : Int32) (v8_327 : Bool) (S_327 : MS) : Option (MS × Bool) := m_isAllowed_J328 v1_327 v2_327 v3_327 v4_327 v5_327 v8_327 false S_327
def m_isAllowed_J298 (v1_298 : Int32) (v2_298 : Int32) (v3_298 : Int32) (v4_298 : Int32) (v5_298 : Int32) (s0_298 : Bool) (S_298 : MS) : Option (MS × Bool) := (if s0_298 = true then (if inbd (3 * v5_298) 18 = true then (if (((gI S_298 28 (txN (3 * v5_298))) >>> (v4_298 &&& 31)) &&& 1) = 1 then m_isAllowed_J328 v1_298 v2_298 v3_298 v4_298 v5_298 s0_298 true S_298 else m_isAllowed_J327 v1_298 v2_298 v3_298 v4_298 v5_298 s0_298 S_298) else none) else m_isAllowed_J327 v1_298 v2_298 v3_298 v4_298 v5_298 s0_298 S_298)
def m_isAllowed_J297 (v1_297 : Int32) (v2_297 : Int32) (v3_297 : Int32) (v4_297 : Int32) (v5_297 : Int32) (S_297 : MS) : Option (MS × Bool) := m_isAllowed_J298 v1_297 v2_297 v3_297 v4_297 v5_297 false S_297
def m_isAllowed_J260 (v1_260 : Int32) (v2_260 : Int32) (v3_260 : Int32) (v4_260 : Int32) (v5_260 : Int32) (S_260 : MS) : Option (MS × Bool) := (bd (pI S_260 0 43 ((gI S_260 0 43) + 1)) fun S267 => (if inbd v5_260 6 = true then (bd (pI S267 29 (txN v5_260) (gI S267 0 43)) fun S280 => (if v4_260 < 0 then m_isAllowed_J297 v1_260 v2_260 v3_260 v4_260 v5_260 S280 else (if 8 ≤ v4_260 then m_isAllowed_J297 v1_260 v2_260 v3_260 v4_260 v5_260 S280 else m_isAllowed_J298 v1_260 v2_260 v3_260 v4_260 v5_260 true S280))) else none))
def m_isAllowed_L222 (v1_222 : Int32) (v2_222 : Int32) (v3_222 : Int32) (v4_222 : Int32) (v5_222 : Int32) (v7_222 : Bool) : Nat → Int32 → MS → Option (MS × Bool)
  | 0, _, _ => none
  | n + 1, v8_222, S_222 => (if 3 ≤ v8_222 then m_isAllowed_J260 v1_222 v2_222 v3_222 v4_222 v5_222 S_222 else (if v7_222 = true then m_isAllowed_J260 v1_222 v2_222 v3_222 v4_222 v5_222 S_222 else ((m_worked v8_222 v1_222 v2_222 v3_222 S_222).bind fun q250 => (if inbd ((3 * v5_222) + v8_222) 18 = true then (bd (pI S_222 28 (txN ((3 * v5_222) + v8_222)) q250) fun S253 => (bd ((v8_222 + 1)) fun a254 => (m_isAllowed_L222 v1_222 v2_222 v3_222 v4_222 v5_222 v7_222 n) a254 S253)) else none))))
def m_isAllowed_J191 (v1_191 : Int32) (v2_191 : Int32) (v3_191 : Int32) (v4_191 : Int32) (v5_191 : Int32) (v7_191 : Bool) (S_191 : MS) : Option (MS × Bool) := (if inbd v5_191 6 = true then (bd (pI S_191 26 (txN v5_191) (((64 * v1_191) + (4 * v2_191)) + v3_191)) fun S207 => (if inbd v5_191 6 = true then (bd (pI S207 27 (txN v5_191) (gI S207 0 34)) fun S218 => m_isAllowed_L222 v1_191 v2_191 v3_191 v4_191 v5_191 v7_191 600 0 S218) else none)) else none)
def m_isAllowed_J187 (v1_187 : Int32) (v2_187 : Int32) (v3_187 : Int32) (v4_187 : Int32) (v5_187 : Int32) (v7_187 : Bool) (s0_187 : Bool) (s1_187 : Int32) (S_187 : MS) : Option (MS × Bool) := (bd (pI S_187 0 42 (s1_187 + (bI s0_187))) fun S188 => m_isAllowed_J191 v1_187 v2_187 v3_187 v4_187 v5_187 v7_187 S188)
def m_isAllowed_J166 (v1_166 : Int32) (v2_166 : Int32) (v3_166 : Int32) (v4_166 : Int32) (v7_166 : Bool) (s0_166 : Int32) (S_166 : MS) : Option (MS × Bool) := (if 6 ≤ (gI S_166 0 42) then m_isAllowed_J187 v1_166 v2_166 v3_166 v4_166 s0_166 v7_166 false (gI S_166 0 42) S_166 else m_isAllowed_J187 v1_166 v2_166 v3_166 v4_166 s0_166 v7_166 true (gI S_166 0 42) S_166)
def m_isAllowed_J139 (v1_139 : Int32) (v2_139 : Int32) (v3_139 : Int32) (v4_139 : Int32) (v5_139 : Int32) (v6_139 : Int32) (v7_139 : Bool) (s0_139 : Bool) (s1_139 : Int32) (S_139 : MS) : Option (MS × Bool) := (bd (pI S_139 0 45 (s1_139 + (bI s0_139))) fun S140 => (if 0 ≤ v5_139 then m_isAllowed_J191 v1_139 v2_139 v3_139 v4_139 v5_139 v7_139 S140 else (if 6 ≤ (gI S140 0 42) then m_isAllowed_J166 v1_139 v2_139 v3_139 v4_139 v7_139 v6_139 S140 else m_isAllowed_J166 v1_139 v2_139 v3_139 v4_139 v7_139 (gI S140 0 42) S140)))
def m_isAllowed_J120 (v1_120 : Int32) (v2_120 : Int32) (v3_120 : Int32) (v4_120 : Int32) (v5_120 : Int32) (v6_120 : Int32) (v7_120 : Bool) (s0_120 : Bool) (s1_120 : Int32) (S_120 : MS) : Option (MS × Bool) := (bd (pI S_120 0 44 (s1_120 + (bI s0_120))) fun S121 => (if v7_120 = true then m_isAllowed_J139 v1_120 v2_120 v3_120 v4_120 v5_120 v6_120 v7_120 false (gI S121 0 45) S121 else m_isAllowed_J139 v1_120 v2_120 v3_120 v4_120 v5_120 v6_120 v7_120 true (gI S121 0 45) S121))
def m_isAllowed_J103 (v1_103 : Int32) (v2_103 : Int32) (v3_103 : Int32) (v4_103 : Int32) (v5_103 : Int32) (v6_103 : Int32) (s0_103 : Bool) (S_103 : MS) : Option (MS × Bool) := (if s0_103 = true then m_isAllowed_J120 v1_103 v2_103 v3_103 v4_103 v5_103 v6_103 s0_103 true (gI S_103 0 44) S_103 else m_isAllowed_J120 v1_103 v2_103 v3_103 v4_103 v5_103 v6_103 s0_103 false (gI S_103 0 44) S_103)
def m_isAllowed_J102 (v1_102 : Int32) (v2_102 : Int32) (v3_102 : Int32) (v4_102 : Int32) (v5_102 : Int32) (v6_102 : Int32) (S_102 : MS) : Option (MS × Bool) := m_isAllowed_J103 v1_102 v2_102 v3_102 v4_102 v5_102 v6_102 false S_102
def m_isAllowed_J45 (kO9 : Int32 → Int32 → Int32 → Option (MS × Bool)) (v1_45 : Int32) (v2_45 : Int32) (v3_45 : Int32) (v4_45 : Int32) (v6_45 : Int32) (v7_45 : Int32) (s0_45 : Int32) (S_45 : MS) : Option (MS × Bool) := (if inbd v7_45 6 = true then (if inbd v6_45 6 = true then (if (gI S_45 29 (txN v6_45)) ≤ (gI S_45 29 (txN v7_45)) then (bd ((v7_45 + 1)) fun a73 => kO9 s0_45 v6_45 a73) else (bd ((v7_45 + 1)) fun a73 => kO9 s0_45 v7_45 a73)) else none) else none)
def m_isAllowed_L9 (v1_9 : Int32) (v2_9 : Int32) (v3_9 : Int32) (v4_9 : Int32) (S_9 : MS) : Nat → Int32 → Int32 → Int32 → Option (MS × Bool)
  | 0, _, _, _ => none
  | n + 1, v5_9, v6_9, v7_9 => (if (gI S_9 0 42) ≤ v7_9 then (if v5_9 < 0 then m_isAllowed_J102 v1_9 v2_9 v3_9 v4_9 v5_9 v6_9 S_9 else (if inbd v5_9 6 = true then (if (gI S_9 27 (txN v5_9)) = (gI S_9 0 34) then m_isAllowed_J103 v1_9 v2_9 v3_9 v4_9 v5_9 v6_9 true S_9 else m_isAllowed_J102 v1_9 v2_9 v3_9 v4_9 v5_9 v6_9 S_9) else none)) else (if inbd v7_9 6 = true then (if (gI S_9 26 (txN v7_9)) = (((64 * v1_9) + (4 * v2_9)) + v3_9) then m_isAllowed_J45 (m_isAllowed_L9 v1_9 v2_9 v3_9 v4_9 S_9 n) v1_9 v2_9 v3_9 v4_9 v6_9 v7_9 v7_9 S_9 else m_isAllowed_J45 (m_isAllowed_L9 v1_9 v2_9 v3_9 v4_9 S_9 n) v1_9 v2_9 v3_9 v4_9 v6_9 v7_9 v5_9 S_9) else none))
def m_isAllowed (x1 : Int32) (x2 : Int32) (x3 : Int32) (x4 : Int32) (S : MS) : Option (MS × Bool) := m_isAllowed_L9 x1 x2 x3 x4 S 600 (-1) 0 0
set_option maxHeartbeats 4000000 in
set_option maxRecDepth 100000 in
theorem M_m_isAllowed {l : Launch} {D : va_G} {cA : Nat → ClassId} {b : Nat} {ad : Nat → Nat} {x1 : Int32} {x2 : Int32} {x3 : Int32} {x4 : Int32} {S : MS} {T : CS} {o : Nat → Int64} {rr : (MS × Bool)}  (h : m_isAllowed x1 x2 x3 x4 S = some rr) : Met l y_m_isAllowed (Cond.code y_m_isAllowed prog_14_method_57_code 13 (Option.some Jvm.ClassFile.FieldType.boolean) :: TW) { frames := 2, cells := 0, slots := 0, locals := 48 } (va_Pc [.ref (b + 262), .int x1, .int x2, .int x3, .int x4] (Rp D cA b ad (T, S, o))) (Qr D cA b ad (T, rr.1, o) (some (.int (bI rr.2)))) 0 0 (Ab b) := by
  refine Ct_of (by decide) (Nat.le_of_ble_eq_true rfl) ?_
  intro p e R s m args below meth c ls Q H locs hR hQ hx hb hts hown hml hr hlk hC hX hS hl
  have hRf : R.frames = 2 := by rw [hR]
  have hRl : R.locals = 48 := by rw [hR]
  have hown : s.vm.findClass "TypeGuardModel" = some m.cls := hown
  have hl : lv_has ls 13 [(0, .ref (b + 262)), (1, .int x1), (2, .int x2), (3, .int x3), (4, .int x4)] := hl
  rw [m_isAllowed] at h
  refine lv_iconst (v := (-1)) hx hb d_m_isAllowed_0 (by decide) ?_
  refine lv_istore (lv' := [(5, .int (-1)), (0, .ref (b + 262)), (1, .int x1), (2, .int x2), (3, .int x3), (4, .int x4)]) hx hb d_m_isAllowed_1 hl (by decide) rfl (fun ls hl => ?_)
  refine lv_iconst (v := 0) hx hb d_m_isAllowed_3 (by decide) ?_
  refine lv_istore (lv' := [(6, .int 0), (5, .int (-1)), (0, .ref (b + 262)), (1, .int x1), (2, .int x2), (3, .int x3), (4, .int x4)]) hx hb d_m_isAllowed_4 hl (by decide) rfl (fun ls hl => ?_)
  refine lv_iconst (v := 0) hx hb d_m_isAllowed_6 (by decide) ?_
  refine lv_istore (lv' := [(7, .int 0), (6, .int 0), (5, .int (-1)), (0, .ref (b + 262)), (1, .int x1), (2, .int x2), (3, .int x3), (4, .int x4)]) hx hb d_m_isAllowed_7 hl (by decide) rfl (fun ls hl => ?_)
  have L9 : ∀ (n9 : Nat) (v5_9 : Int32) (v6_9 : Int32) (v7_9 : Int32) (H : Heap) (locs : List Loc) (ls : Array Slot), hp D cA b ad (T, S, o) H → va_S (Ab b) s.heap H locs → lv_has ls 13 [(0, .ref (b + 262)), (1, .int x1), (2, .int x2), (3, .int x3), (4, .int x4), (5, .int v5_9), (6, .int v6_9), (7, .int v7_9)] → m_isAllowed_L9 x1 x2 x3 x4 S n9 v5_9 v6_9 v7_9 = some rr → W p l e R s m args below meth c H locs 0 0 Q (F0 m 9 ls []) := by
    intro n9; induction n9 with
    | zero => intro v5_9 v6_9 v7_9 H locs ls  hX hS hl h; rw [m_isAllowed_L9] at h; cases h
    | succ n9 ih9 =>
      intro v5_9 v6_9 v7_9 H locs ls  hX hS hl h
      rw [m_isAllowed_L9] at h
      refine lv_iload hx hb d_m_isAllowed_9 (lv_at hl 7 rfl) ?_
      refine lv_aload_n hx hb d_m_isAllowed_11 rfl (lv_at hl 0 rfl) ?_
      refine m_get_0_42 hx hb hts hown hC hX (by rfl) (hts _ t_1029) d_m_isAllowed_12 ?_
      refine lv_icmp_ge hx hb d_m_isAllowed_15 (tgt := 79) (by decide) (fun hc => ?_) (fun hc => ?_)
      · rw [if_pos hc] at h
        refine lv_iload hx hb d_m_isAllowed_79 (lv_at hl 5 rfl) ?_
        have J103 : ∀ (s0_103 : Bool) (H : Heap) (locs : List Loc) (ls : Array Slot), hp D cA b ad (T, S, o) H → va_S (Ab b) s.heap H locs → lv_has ls 13 [(0, .ref (b + 262)), (1, .int x1), (2, .int x2), (3, .int x3), (4, .int x4), (5, .int v5_9), (6, .int v6_9)] → m_isAllowed_J103 x1 x2 x3 x4 v5_9 v6_9 s0_103 S = some rr → W p l e R s m args below meth c H locs 0 0 Q (F0 m 103 ls [.int (bI s0_103)]) := by
          intro s0_103 H locs ls  hX hS hl h
          rw [m_isAllowed_J103] at h
          refine lv_istore (lv' := [(7, .int (bI s0_103)), (0, .ref (b + 262)), (1, .int x1), (2, .int x2), (3, .int x3), (4, .int x4), (5, .int v5_9), (6, .int v6_9)]) hx hb d_m_isAllowed_103 hl (by decide) rfl (fun ls hl => ?_)
          refine lv_aload_n hx hb d_m_isAllowed_105 rfl (lv_at hl 1 rfl) ?_
          refine lv_dup hx hb d_m_isAllowed_106 rfl ?_
          refine m_get_0_44 hx hb hts hown hC hX (by rfl) (hts _ t_1031) d_m_isAllowed_107 ?_
          refine lv_iload hx hb d_m_isAllowed_110 (lv_at hl 0 rfl) ?_
          have J120 : ∀ (s0_120 : Bool) (H : Heap) (locs : List Loc) (ls : Array Slot), hp D cA b ad (T, S, o) H → va_S (Ab b) s.heap H locs → lv_has ls 13 [(0, .ref (b + 262)), (1, .int x1), (2, .int x2), (3, .int x3), (4, .int x4), (5, .int v5_9), (6, .int v6_9), (7, .int (bI s0_103))] → m_isAllowed_J120 x1 x2 x3 x4 v5_9 v6_9 s0_103 s0_120 (gI S 0 44) S = some rr → W p l e R s m args below meth c H locs 0 0 Q (F0 m 120 ls [.int (bI s0_120), .int (gI S 0 44), .ref (b + 262)]) := by
            intro s0_120 H locs ls  hX hS hl h
            rw [m_isAllowed_J120] at h
            refine lv_iadd hx hb d_m_isAllowed_120 ?_
            refine m_put_0_44 (v := ((gI S 0 44) + (bI s0_120))) hx hb hts hown hC hX hS (by rfl) (hts _ t_1031) d_m_isAllowed_121 (fun H locs hX hS => ?_)
            obtain ⟨S121, e121, h⟩ := bd_some h
            rw [← e121] at hX
            refine lv_aload_n hx hb d_m_isAllowed_124 rfl (lv_at hl 0 rfl) ?_
            refine lv_dup hx hb d_m_isAllowed_125 rfl ?_
            refine m_get_0_45 hx hb hts hown hC hX (by rfl) (hts _ t_1032) d_m_isAllowed_126 ?_
            refine lv_iload hx hb d_m_isAllowed_129 (lv_at hl 7 rfl) ?_
            have J139 : ∀ (s0_139 : Bool) (H : Heap) (locs : List Loc) (ls : Array Slot), hp D cA b ad (T, S121, o) H → va_S (Ab b) s.heap H locs → lv_has ls 13 [(0, .ref (b + 262)), (1, .int x1), (2, .int x2), (3, .int x3), (4, .int x4), (5, .int v5_9), (6, .int v6_9), (7, .int (bI s0_103))] → m_isAllowed_J139 x1 x2 x3 x4 v5_9 v6_9 s0_103 s0_139 (gI S121 0 45) S121 = some rr → W p l e R s m args below meth c H locs 0 0 Q (F0 m 139 ls [.int (bI s0_139), .int (gI S121 0 45), .ref (b + 262)]) := by
              intro s0_139 H locs ls  hX hS hl h
              rw [m_isAllowed_J139] at h
              refine lv_iadd hx hb d_m_isAllowed_139 ?_
              refine m_put_0_45 (v := ((gI S121 0 45) + (bI s0_139))) hx hb hts hown hC hX hS (by rfl) (hts _ t_1032) d_m_isAllowed_140 (fun H locs hX hS => ?_)
              obtain ⟨S140, e140, h⟩ := bd_some h
              rw [← e140] at hX
              refine lv_iload hx hb d_m_isAllowed_143 (lv_at hl 5 rfl) ?_
              have J191 : ∀ (v5_191 : Int32) (S_191 : MS) (H : Heap) (locs : List Loc) (ls : Array Slot), hp D cA b ad (T, S_191, o) H → va_S (Ab b) s.heap H locs → lv_has ls 13 [(0, .ref (b + 262)), (1, .int x1), (2, .int x2), (3, .int x3), (4, .int x4), (5, .int v5_191), (7, .int (bI s0_103))] → m_isAllowed_J191 x1 x2 x3 x4 v5_191 s0_103 S_191 = some rr → W p l e R s m args below meth c H locs 0 0 Q (F0 m 191 ls []) := by
                intro v5_191 S_191 H locs ls  hX hS hl h
                rw [m_isAllowed_J191] at h
                refine lv_aload_n hx hb d_m_isAllowed_191 rfl (lv_at hl 0 rfl) ?_
                refine m_get_0_38 hx hb hts hown hC hX (by rfl) (hts _ t_1025) d_m_isAllowed_192 ?_
                refine lv_iload hx hb d_m_isAllowed_195 (lv_at hl 5 rfl) ?_
                refine lv_bipush (v := 64) hx hb d_m_isAllowed_197 (by decide) ?_
                refine lv_iload_n hx hb d_m_isAllowed_199 rfl (lv_at hl 1 rfl) ?_
                refine lv_imul hx hb d_m_isAllowed_200 ?_
                refine lv_iconst (v := 4) hx hb d_m_isAllowed_201 (by decide) ?_
                refine lv_iload_n hx hb d_m_isAllowed_202 rfl (lv_at hl 2 rfl) ?_
                refine lv_imul hx hb d_m_isAllowed_203 ?_
                refine lv_iadd hx hb d_m_isAllowed_204 ?_
                refine lv_iload_n hx hb d_m_isAllowed_205 rfl (lv_at hl 3 rfl) ?_
                refine lv_iadd hx hb d_m_isAllowed_206 ?_
                by_cases hg207 : inbd v5_191 6 = true
                rotate_left; · rw [if_neg hg207] at h; cases h
                rw [if_pos hg207] at h
                refine m_ast_1 (k := 26) (v := (((64 * x1) + (4 * x2)) + x3)) hx hb hC hX hS (by rfl) hg207 d_m_isAllowed_207 (fun H locs hX hS => ?_)
                obtain ⟨S207, e207, h⟩ := bd_some h
                rw [← e207] at hX
                refine lv_aload_n hx hb d_m_isAllowed_208 rfl (lv_at hl 0 rfl) ?_
                refine m_get_0_39 hx hb hts hown hC hX (by rfl) (hts _ t_1026) d_m_isAllowed_209 ?_
                refine lv_iload hx hb d_m_isAllowed_212 (lv_at hl 5 rfl) ?_
                refine lv_aload_n hx hb d_m_isAllowed_214 rfl (lv_at hl 0 rfl) ?_
                refine m_get_0_34 hx hb hts hown hC hX (by rfl) (hts _ t_1021) d_m_isAllowed_215 ?_
                by_cases hg218 : inbd v5_191 6 = true
                rotate_left; · rw [if_neg hg218] at h; cases h
                rw [if_pos hg218] at h
                refine m_ast_1 (k := 27) (v := (gI S207 0 34)) hx hb hC hX hS (by rfl) hg218 d_m_isAllowed_218 (fun H locs hX hS => ?_)
                obtain ⟨S218, e218, h⟩ := bd_some h
                rw [← e218] at hX
                refine lv_iconst (v := 0) hx hb d_m_isAllowed_219 (by decide) ?_
                refine lv_istore (lv' := [(8, .int 0), (0, .ref (b + 262)), (1, .int x1), (2, .int x2), (3, .int x3), (4, .int x4), (5, .int v5_191), (7, .int (bI s0_103))]) hx hb d_m_isAllowed_220 hl (by decide) rfl (fun ls hl => ?_)
                have L222 : ∀ (n222 : Nat) (v8_222 : Int32) (S_222 : MS) (H : Heap) (locs : List Loc) (ls : Array Slot), hp D cA b ad (T, S_222, o) H → va_S (Ab b) s.heap H locs → lv_has ls 13 [(0, .ref (b + 262)), (1, .int x1), (2, .int x2), (3, .int x3), (4, .int x4), (5, .int v5_191), (7, .int (bI s0_103)), (8, .int v8_222)] → m_isAllowed_L222 x1 x2 x3 x4 v5_191 s0_103 n222 v8_222 S_222 = some rr → W p l e R s m args below meth c H locs 0 0 Q (F0 m 222 ls []) := by
                  intro n222; induction n222 with
                  | zero => intro v8_222 S_222 H locs ls  hX hS hl h; rw [m_isAllowed_L222] at h; cases h
                  | succ n222 ih222 =>
                    intro v8_222 S_222 H locs ls  hX hS hl h
                    rw [m_isAllowed_L222] at h
                    refine lv_iload hx hb d_m_isAllowed_222 (lv_at hl 7 rfl) ?_
                    refine lv_iconst (v := 3) hx hb d_m_isAllowed_224 (by decide) ?_
                    have J260 : ∀  (H : Heap) (locs : List Loc) (ls : Array Slot), hp D cA b ad (T, S_222, o) H → va_S (Ab b) s.heap H locs → lv_has ls 13 [(0, .ref (b + 262)), (1, .int x1), (2, .int x2), (3, .int x3), (4, .int x4), (5, .int v5_191)] → m_isAllowed_J260 x1 x2 x3 x4 v5_191 S_222 = some rr → W p l e R s m args below meth c H locs 0 0 Q (F0 m 260 ls []) := by
                      intro  H locs ls  hX hS hl h
                      rw [m_isAllowed_J260] at h
                      refine lv_aload_n hx hb d_m_isAllowed_260 rfl (lv_at hl 0 rfl) ?_
                      refine lv_dup hx hb d_m_isAllowed_261 rfl ?_
                      refine m_get_0_43 hx hb hts hown hC hX (by rfl) (hts _ t_1030) d_m_isAllowed_262 ?_
                      refine lv_iconst (v := 1) hx hb d_m_isAllowed_265 (by decide) ?_
                      refine lv_iadd hx hb d_m_isAllowed_266 ?_
                      refine m_put_0_43 (v := ((gI S_222 0 43) + 1)) hx hb hts hown hC hX hS (by rfl) (hts _ t_1030) d_m_isAllowed_267 (fun H locs hX hS => ?_)
                      obtain ⟨S267, e267, h⟩ := bd_some h
                      rw [← e267] at hX
                      refine lv_aload_n hx hb d_m_isAllowed_270 rfl (lv_at hl 0 rfl) ?_
                      refine m_get_0_41 hx hb hts hown hC hX (by rfl) (hts _ t_1028) d_m_isAllowed_271 ?_
                      refine lv_iload hx hb d_m_isAllowed_274 (lv_at hl 5 rfl) ?_
                      refine lv_aload_n hx hb d_m_isAllowed_276 rfl (lv_at hl 0 rfl) ?_
                      refine m_get_0_43 hx hb hts hown hC hX (by rfl) (hts _ t_1030) d_m_isAllowed_277 ?_
                      by_cases hg280 : inbd v5_191 6 = true
                      rotate_left; · rw [if_neg hg280] at h; cases h
                      rw [if_pos hg280] at h
                      refine m_ast_1 (k := 29) (v := (gI S267 0 43)) hx hb hC hX hS (by rfl) hg280 d_m_isAllowed_280 (fun H locs hX hS => ?_)
                      obtain ⟨S280, e280, h⟩ := bd_some h
                      rw [← e280] at hX
                      refine lv_iload hx hb d_m_isAllowed_281 (lv_at hl 4 rfl) ?_
                      have J298 : ∀ (s0_298 : Bool) (H : Heap) (locs : List Loc) (ls : Array Slot), hp D cA b ad (T, S280, o) H → va_S (Ab b) s.heap H locs → lv_has ls 13 [(0, .ref (b + 262)), (1, .int x1), (2, .int x2), (3, .int x3), (4, .int x4), (5, .int v5_191)] → m_isAllowed_J298 x1 x2 x3 x4 v5_191 s0_298 S280 = some rr → W p l e R s m args below meth c H locs 0 0 Q (F0 m 298 ls [.int (bI s0_298)]) := by
                        intro s0_298 H locs ls  hX hS hl h
                        rw [m_isAllowed_J298] at h
                        refine lv_istore (lv' := [(8, .int (bI s0_298)), (0, .ref (b + 262)), (1, .int x1), (2, .int x2), (3, .int x3), (4, .int x4), (5, .int v5_191)]) hx hb d_m_isAllowed_298 hl (by decide) rfl (fun ls hl => ?_)
                        refine lv_iload hx hb d_m_isAllowed_300 (lv_at hl 0 rfl) ?_
                        have J328 : ∀ (s0_328 : Bool) (H : Heap) (locs : List Loc) (ls : Array Slot), hp D cA b ad (T, S280, o) H → va_S (Ab b) s.heap H locs → lv_has ls 13 [(0, .ref (b + 262)), (1, .int x1), (2, .int x2), (3, .int x3), (4, .int x4), (5, .int v5_191), (8, .int (bI s0_298))] → m_isAllowed_J328 x1 x2 x3 x4 v5_191 s0_298 s0_328 S280 = some rr → W p l e R s m args below meth c H locs 0 0 Q (F0 m 328 ls [.int (bI s0_328)]) := by
                          intro s0_328 H locs ls  hX hS hl h
                          rw [m_isAllowed_J328] at h
                          refine lv_istore (lv' := [(9, .int (bI s0_328)), (0, .ref (b + 262)), (1, .int x1), (2, .int x2), (3, .int x3), (4, .int x4), (5, .int v5_191), (8, .int (bI s0_298))]) hx hb d_m_isAllowed_328 hl (by decide) rfl (fun ls hl => ?_)
                          refine lv_iload hx hb d_m_isAllowed_330 (lv_at hl 7 rfl) ?_
                          have J360 : ∀ (s0_360 : Bool) (H : Heap) (locs : List Loc) (ls : Array Slot), hp D cA b ad (T, S280, o) H → va_S (Ab b) s.heap H locs → lv_has ls 13 [(0, .ref (b + 262)), (1, .int x1), (2, .int x2), (3, .int x3), (4, .int x4), (5, .int v5_191), (8, .int (bI s0_298)), (9, .int (bI s0_328))] → m_isAllowed_J360 x1 x2 x3 x4 v5_191 s0_298 s0_328 s0_360 S280 = some rr → W p l e R s m args below meth c H locs 0 0 Q (F0 m 360 ls [.int (bI s0_360)]) := by
                            intro s0_360 H locs ls  hX hS hl h
                            rw [m_isAllowed_J360] at h
                            refine lv_istore (lv' := [(10, .int (bI s0_360)), (0, .ref (b + 262)), (1, .int x1), (2, .int x2), (3, .int x3), (4, .int x4), (5, .int v5_191), (8, .int (bI s0_298)), (9, .int (bI s0_328))]) hx hb d_m_isAllowed_360 hl (by decide) rfl (fun ls hl => ?_)
                            refine lv_iload hx hb d_m_isAllowed_362 (lv_at hl 7 rfl) ?_
                            have J392 : ∀ (s0_392 : Bool) (H : Heap) (locs : List Loc) (ls : Array Slot), hp D cA b ad (T, S280, o) H → va_S (Ab b) s.heap H locs → lv_has ls 13 [(0, .ref (b + 262)), (1, .int x1), (2, .int x2), (3, .int x3), (4, .int x4), (9, .int (bI s0_328)), (10, .int (bI s0_360))] → m_isAllowed_J392 x1 x2 x3 x4 s0_328 s0_360 s0_392 S280 = some rr → W p l e R s m args below meth c H locs 0 0 Q (F0 m 392 ls [.int (bI s0_392)]) := by
                              intro s0_392 H locs ls  hX hS hl h
                              rw [m_isAllowed_J392] at h
                              refine lv_istore (lv' := [(11, .int (bI s0_392)), (0, .ref (b + 262)), (1, .int x1), (2, .int x2), (3, .int x3), (4, .int x4), (9, .int (bI s0_328)), (10, .int (bI s0_360))]) hx hb d_m_isAllowed_392 hl (by decide) rfl (fun ls hl => ?_)
                              refine lv_iload hx hb d_m_isAllowed_394 (lv_at hl 6 rfl) ?_
                              have J412 : ∀  (H : Heap) (locs : List Loc) (ls : Array Slot), hp D cA b ad (T, S280, o) H → va_S (Ab b) s.heap H locs → lv_has ls 13 [(0, .ref (b + 262)), (1, .int x1), (2, .int x2), (3, .int x3), (4, .int x4), (9, .int (bI s0_328))] → m_isAllowed_J412 x1 x2 x3 x4 s0_328 S280 = some rr → W p l e R s m args below meth c H locs 0 0 Q (F0 m 412 ls []) := by
                                intro  H locs ls  hX hS hl h
                                rw [m_isAllowed_J412] at h
                                refine lv_iconst (v := 5) hx hb d_m_isAllowed_412 (by decide) ?_
                                refine lv_aload_n hx hb d_m_isAllowed_413 rfl (lv_at hl 0 rfl) ?_
                                refine m_get_0_46 hx hb hts hown hC hX (by rfl) (hts _ t_1033) d_m_isAllowed_414 ?_
                                refine lv_bipush (v := 8) hx hb d_m_isAllowed_417 (by decide) ?_
                                refine lv_irem hx hb d_m_isAllowed_419 (by decide) ?_
                                refine lv_imul hx hb d_m_isAllowed_420 ?_
                                obtain ⟨a421, e421, h⟩ := bd_some h
                                refine lt_I e421 ?_
                                refine lv_istore (lv' := [(12, .int a421), (0, .ref (b + 262)), (1, .int x1), (2, .int x2), (3, .int x3), (4, .int x4), (9, .int (bI s0_328))]) hx hb d_m_isAllowed_421 hl (by decide) rfl (fun ls hl => ?_)
                                refine lv_aload_n hx hb d_m_isAllowed_423 rfl (lv_at hl 1 rfl) ?_
                                refine m_get_0_47 hx hb hts hown hC hX (by rfl) (hts _ t_1034) d_m_isAllowed_424 ?_
                                refine lv_iload hx hb d_m_isAllowed_427 (lv_at hl 0 rfl) ?_
                                refine lv_iload_n hx hb d_m_isAllowed_429 rfl (lv_at hl 2 rfl) ?_
                                by_cases hg430 : inbd a421 40 = true
                                rotate_left; · rw [if_neg hg430] at h; cases h
                                rw [if_pos hg430] at h
                                refine m_ast_1 (k := 30) (v := x1) hx hb hC hX hS (by rfl) hg430 d_m_isAllowed_430 (fun H locs hX hS => ?_)
                                obtain ⟨S430, e430, h⟩ := bd_some h
                                rw [← e430] at hX
                                refine lv_aload_n hx hb d_m_isAllowed_431 rfl (lv_at hl 1 rfl) ?_
                                refine m_get_0_47 hx hb hts hown hC hX (by rfl) (hts _ t_1034) d_m_isAllowed_432 ?_
                                refine lv_iload hx hb d_m_isAllowed_435 (lv_at hl 0 rfl) ?_
                                refine lv_iconst (v := 1) hx hb d_m_isAllowed_437 (by decide) ?_
                                refine lv_iadd hx hb d_m_isAllowed_438 ?_
                                refine lv_iload_n hx hb d_m_isAllowed_439 rfl (lv_at hl 3 rfl) ?_
                                by_cases hg440 : inbd (a421 + 1) 40 = true
                                rotate_left; · rw [if_neg hg440] at h; cases h
                                rw [if_pos hg440] at h
                                refine m_ast_1 (k := 30) (v := x2) hx hb hC hX hS (by rfl) hg440 d_m_isAllowed_440 (fun H locs hX hS => ?_)
                                obtain ⟨S440, e440, h⟩ := bd_some h
                                rw [← e440] at hX
                                refine lv_aload_n hx hb d_m_isAllowed_441 rfl (lv_at hl 1 rfl) ?_
                                refine m_get_0_47 hx hb hts hown hC hX (by rfl) (hts _ t_1034) d_m_isAllowed_442 ?_
                                refine lv_iload hx hb d_m_isAllowed_445 (lv_at hl 0 rfl) ?_
                                refine lv_iconst (v := 2) hx hb d_m_isAllowed_447 (by decide) ?_
                                refine lv_iadd hx hb d_m_isAllowed_448 ?_
                                refine lv_iload_n hx hb d_m_isAllowed_449 rfl (lv_at hl 4 rfl) ?_
                                by_cases hg450 : inbd (a421 + 2) 40 = true
                                rotate_left; · rw [if_neg hg450] at h; cases h
                                rw [if_pos hg450] at h
                                refine m_ast_1 (k := 30) (v := x3) hx hb hC hX hS (by rfl) hg450 d_m_isAllowed_450 (fun H locs hX hS => ?_)
                                obtain ⟨S450, e450, h⟩ := bd_some h
                                rw [← e450] at hX
                                refine lv_aload_n hx hb d_m_isAllowed_451 rfl (lv_at hl 1 rfl) ?_
                                refine m_get_0_47 hx hb hts hown hC hX (by rfl) (hts _ t_1034) d_m_isAllowed_452 ?_
                                refine lv_iload hx hb d_m_isAllowed_455 (lv_at hl 0 rfl) ?_
                                refine lv_iconst (v := 3) hx hb d_m_isAllowed_457 (by decide) ?_
                                refine lv_iadd hx hb d_m_isAllowed_458 ?_
                                refine lv_iload hx hb d_m_isAllowed_459 (lv_at hl 5 rfl) ?_
                                by_cases hg461 : inbd (a421 + 3) 40 = true
                                rotate_left; · rw [if_neg hg461] at h; cases h
                                rw [if_pos hg461] at h
                                refine m_ast_1 (k := 30) (v := x4) hx hb hC hX hS (by rfl) hg461 d_m_isAllowed_461 (fun H locs hX hS => ?_)
                                obtain ⟨S461, e461, h⟩ := bd_some h
                                rw [← e461] at hX
                                refine lv_aload_n hx hb d_m_isAllowed_462 rfl (lv_at hl 1 rfl) ?_
                                refine m_get_0_47 hx hb hts hown hC hX (by rfl) (hts _ t_1034) d_m_isAllowed_463 ?_
                                refine lv_iload hx hb d_m_isAllowed_466 (lv_at hl 0 rfl) ?_
                                refine lv_iconst (v := 4) hx hb d_m_isAllowed_468 (by decide) ?_
                                refine lv_iadd hx hb d_m_isAllowed_469 ?_
                                refine lv_iload hx hb d_m_isAllowed_470 (lv_at hl 6 rfl) ?_
                                have J480 : ∀ (s0_480 : Bool) (H : Heap) (locs : List Loc) (ls : Array Slot), hp D cA b ad (T, S461, o) H → va_S (Ab b) s.heap H locs → lv_has ls 13 [(0, .ref (b + 262)), (9, .int (bI s0_328))] → m_isAllowed_J480 s0_328 s0_480 (a421 + 4) S461 = some rr → W p l e R s m args below meth c H locs 0 0 Q (F0 m 480 ls [.int (bI s0_480), .int (a421 + 4), .ref (b + 292)]) := by
                                  intro s0_480 H locs ls  hX hS hl h
                                  rw [m_isAllowed_J480] at h
                                  by_cases hg480 : inbd (a421 + 4) 40 = true
                                  rotate_left; · rw [if_neg hg480] at h; cases h
                                  rw [if_pos hg480] at h
                                  refine m_ast_1 (k := 30) (v := (bI s0_480)) hx hb hC hX hS (by rfl) hg480 d_m_isAllowed_480 (fun H locs hX hS => ?_)
                                  obtain ⟨S480, e480, h⟩ := bd_some h
                                  rw [← e480] at hX
                                  refine lv_aload_n hx hb d_m_isAllowed_481 rfl (lv_at hl 0 rfl) ?_
                                  refine lv_dup hx hb d_m_isAllowed_482 rfl ?_
                                  refine m_get_0_46 hx hb hts hown hC hX (by rfl) (hts _ t_1033) d_m_isAllowed_483 ?_
                                  refine lv_iconst (v := 1) hx hb d_m_isAllowed_486 (by decide) ?_
                                  refine lv_iadd hx hb d_m_isAllowed_487 ?_
                                  refine m_put_0_46 (v := ((gI S480 0 46) + 1)) hx hb hts hown hC hX hS (by rfl) (hts _ t_1033) d_m_isAllowed_488 (fun H locs hX hS => ?_)
                                  obtain ⟨S488, e488, h⟩ := bd_some h
                                  rw [← e488] at hX
                                  refine lv_iload hx hb d_m_isAllowed_491 (lv_at hl 1 rfl) ?_
                                  obtain rfl := Option.some.inj h
                                  exact rt_z hQ hx hb hr hX hS hlk d_m_isAllowed_493
                                refine lz_ifeq hx hb d_m_isAllowed_472 (tgt := 479) (by decide) (fun hc => ?_) (fun hc => ?_)
                                · rw [if_neg hc] at h
                                  refine lv_iconst (v := 0) hx hb d_m_isAllowed_479 (by decide) ?_
                                  exact J480 false H locs ls  hX hS (lv_sub hl [1, 6] rfl) h
                                · rw [if_pos hc] at h
                                  refine lv_iconst (v := 1) hx hb d_m_isAllowed_475 (by decide) ?_
                                  refine lv_goto hx hb d_m_isAllowed_476 (tgt := 480) (by decide) ?_
                                  exact J480 true H locs ls  hX hS (lv_sub hl [1, 6] rfl) h
                              refine lz_ifeq hx hb d_m_isAllowed_396 (tgt := 407) (by decide) (fun hc => ?_) (fun hc => ?_)
                              · rw [if_neg hc] at h
                                refine lv_iload hx hb d_m_isAllowed_407 (lv_at hl 0 rfl) ?_
                                refine lz_ifne hx hb d_m_isAllowed_409 (tgt := 491) (by decide) (fun hc => ?_) (fun hc => ?_)
                                · rw [if_pos hc] at h
                                  refine lv_iload hx hb d_m_isAllowed_491 (lv_at hl 6 rfl) ?_
                                  obtain rfl := Option.some.inj h
                                  exact rt_z hQ hx hb hr hX hS hlk d_m_isAllowed_493
                                · rw [if_neg hc] at h
                                  exact J412  H locs ls  hX hS (lv_sub hl [1, 2, 3, 4, 5, 6] rfl) h
                              · rw [if_pos hc] at h
                                refine lv_iload hx hb d_m_isAllowed_399 (lv_at hl 7 rfl) ?_
                                refine lz_ifeq hx hb d_m_isAllowed_401 (tgt := 491) (by decide) (fun hc => ?_) (fun hc => ?_)
                                · rw [if_neg hc] at h
                                  refine lv_iload hx hb d_m_isAllowed_491 (lv_at hl 6 rfl) ?_
                                  obtain rfl := Option.some.inj h
                                  exact rt_z hQ hx hb hr hX hS hlk d_m_isAllowed_493
                                · rw [if_pos hc] at h
                                  refine lv_goto hx hb d_m_isAllowed_404 (tgt := 412) (by decide) ?_
                                  exact J412  H locs ls  hX hS (lv_sub hl [1, 2, 3, 4, 5, 6] rfl) h
                            have J391 : ∀  (H : Heap) (locs : List Loc) (ls : Array Slot), hp D cA b ad (T, S280, o) H → va_S (Ab b) s.heap H locs → lv_has ls 13 [(0, .ref (b + 262)), (1, .int x1), (2, .int x2), (3, .int x3), (4, .int x4), (9, .int (bI s0_328)), (10, .int (bI s0_360))] → m_isAllowed_J391 x1 x2 x3 x4 s0_328 s0_360 S280 = some rr → W p l e R s m args below meth c H locs 0 0 Q (F0 m 391 ls []) := by
                              intro  H locs ls  hX hS hl h
                              rw [m_isAllowed_J391] at h
                              refine lv_iconst (v := 0) hx hb d_m_isAllowed_391 (by decide) ?_
                              exact J392 false H locs ls  hX hS (lv_sub hl [0, 1, 2, 3, 4, 5, 6] rfl) h
                            refine lz_ifeq hx hb d_m_isAllowed_364 (tgt := 391) (by decide) (fun hc => ?_) (fun hc => ?_)
                            · rw [if_neg hc] at h
                              exact J391  H locs ls  hX hS (lv_sub hl [1, 2, 3, 4, 5, 8, 0] rfl) h
                            · rw [if_pos hc] at h
                              refine lv_aload_n hx hb d_m_isAllowed_367 rfl (lv_at hl 1 rfl) ?_
                              refine m_get_0_40 hx hb hts hown hC hX (by rfl) (hts _ t_1027) d_m_isAllowed_368 ?_
                              refine lv_iconst (v := 3) hx hb d_m_isAllowed_371 (by decide) ?_
                              refine lv_iload hx hb d_m_isAllowed_372 (lv_at hl 6 rfl) ?_
                              refine lv_imul hx hb d_m_isAllowed_374 ?_
                              refine lv_iconst (v := 2) hx hb d_m_isAllowed_375 (by decide) ?_
                              refine lv_iadd hx hb d_m_isAllowed_376 ?_
                              by_cases hg377 : inbd ((3 * v5_191) + 2) 18 = true
                              rotate_left; · rw [if_neg hg377] at h; cases h
                              rw [if_pos hg377] at h
                              refine m_ald_1 (k := 28) hx hb hC hX (by rfl) hg377 d_m_isAllowed_377 ?_
                              refine lv_iload hx hb d_m_isAllowed_378 (lv_at hl 5 rfl) ?_
                              refine lv_ishr hx hb d_m_isAllowed_380 ?_
                              refine lv_iconst (v := 1) hx hb d_m_isAllowed_381 (by decide) ?_
                              refine lv_iand hx hb d_m_isAllowed_382 ?_
                              refine lv_iconst (v := 1) hx hb d_m_isAllowed_383 (by decide) ?_
                              refine lv_icmp_ne hx hb d_m_isAllowed_384 (tgt := 391) (by decide) (fun hc => ?_) (fun hc => ?_)
                              · rw [if_neg hc] at h
                                exact J391  H locs ls  hX hS (lv_sub hl [1, 2, 3, 4, 5, 8, 0] rfl) h
                              · rw [if_pos hc] at h
                                refine lv_iconst (v := 1) hx hb d_m_isAllowed_387 (by decide) ?_
                                refine lv_goto hx hb d_m_isAllowed_388 (tgt := 392) (by decide) ?_
                                exact J392 true H locs ls  hX hS (lv_sub hl [1, 2, 3, 4, 5, 8, 0] rfl) h
                          have J359 : ∀  (H : Heap) (locs : List Loc) (ls : Array Slot), hp D cA b ad (T, S280, o) H → va_S (Ab b) s.heap H locs → lv_has ls 13 [(0, .ref (b + 262)), (1, .int x1), (2, .int x2), (3, .int x3), (4, .int x4), (5, .int v5_191), (8, .int (bI s0_298)), (9, .int (bI s0_328))] → m_isAllowed_J359 x1 x2 x3 x4 v5_191 s0_298 s0_328 S280 = some rr → W p l e R s m args below meth c H locs 0 0 Q (F0 m 359 ls []) := by
                            intro  H locs ls  hX hS hl h
                            rw [m_isAllowed_J359] at h
                            refine lv_iconst (v := 0) hx hb d_m_isAllowed_359 (by decide) ?_
                            exact J360 false H locs ls  hX hS (lv_sub hl [0, 1, 2, 3, 4, 5, 6, 7] rfl) h
                          refine lz_ifeq hx hb d_m_isAllowed_332 (tgt := 359) (by decide) (fun hc => ?_) (fun hc => ?_)
                          · rw [if_neg hc] at h
                            exact J359  H locs ls  hX hS (lv_sub hl [1, 2, 3, 4, 5, 6, 7, 0] rfl) h
                          · rw [if_pos hc] at h
                            refine lv_aload_n hx hb d_m_isAllowed_335 rfl (lv_at hl 1 rfl) ?_
                            refine m_get_0_40 hx hb hts hown hC hX (by rfl) (hts _ t_1027) d_m_isAllowed_336 ?_
                            refine lv_iconst (v := 3) hx hb d_m_isAllowed_339 (by decide) ?_
                            refine lv_iload hx hb d_m_isAllowed_340 (lv_at hl 6 rfl) ?_
                            refine lv_imul hx hb d_m_isAllowed_342 ?_
                            refine lv_iconst (v := 1) hx hb d_m_isAllowed_343 (by decide) ?_
                            refine lv_iadd hx hb d_m_isAllowed_344 ?_
                            by_cases hg345 : inbd ((3 * v5_191) + 1) 18 = true
                            rotate_left; · rw [if_neg hg345] at h; cases h
                            rw [if_pos hg345] at h
                            refine m_ald_1 (k := 28) hx hb hC hX (by rfl) hg345 d_m_isAllowed_345 ?_
                            refine lv_iload hx hb d_m_isAllowed_346 (lv_at hl 5 rfl) ?_
                            refine lv_ishr hx hb d_m_isAllowed_348 ?_
                            refine lv_iconst (v := 1) hx hb d_m_isAllowed_349 (by decide) ?_
                            refine lv_iand hx hb d_m_isAllowed_350 ?_
                            refine lv_iconst (v := 1) hx hb d_m_isAllowed_351 (by decide) ?_
                            refine lv_icmp_ne hx hb d_m_isAllowed_352 (tgt := 359) (by decide) (fun hc => ?_) (fun hc => ?_)
                            · rw [if_neg hc] at h
                              exact J359  H locs ls  hX hS (lv_sub hl [1, 2, 3, 4, 5, 6, 7, 0] rfl) h
                            · rw [if_pos hc] at h
                              refine lv_iconst (v := 1) hx hb d_m_isAllowed_355 (by decide) ?_
                              refine lv_goto hx hb d_m_isAllowed_356 (tgt := 360) (by decide) ?_
                              exact J360 true H locs ls  hX hS (lv_sub hl [1, 2, 3, 4, 5, 6, 7, 0] rfl) h
                        have J327 : ∀  (H : Heap) (locs : List Loc) (ls : Array Slot), hp D cA b ad (T, S280, o) H → va_S (Ab b) s.heap H locs → lv_has ls 13 [(0, .ref (b + 262)), (1, .int x1), (2, .int x2), (3, .int x3), (4, .int x4), (5, .int v5_191), (8, .int (bI s0_298))] → m_isAllowed_J327 x1 x2 x3 x4 v5_191 s0_298 S280 = some rr → W p l e R s m args below meth c H locs 0 0 Q (F0 m 327 ls []) := by
                          intro  H locs ls  hX hS hl h
                          rw [m_isAllowed_J327] at h
                          refine lv_iconst (v := 0) hx hb d_m_isAllowed_327 (by decide) ?_
                          exact J328 false H locs ls  hX hS (lv_sub hl [0, 1, 2, 3, 4, 5, 6] rfl) h
                        refine lz_ifeq hx hb d_m_isAllowed_302 (tgt := 327) (by decide) (fun hc => ?_) (fun hc => ?_)
                        · rw [if_neg hc] at h
                          exact J327  H locs ls  hX hS (lv_sub hl [1, 2, 3, 4, 5, 6, 0] rfl) h
                        · rw [if_pos hc] at h
                          refine lv_aload_n hx hb d_m_isAllowed_305 rfl (lv_at hl 1 rfl) ?_
                          refine m_get_0_40 hx hb hts hown hC hX (by rfl) (hts _ t_1027) d_m_isAllowed_306 ?_
                          refine lv_iconst (v := 3) hx hb d_m_isAllowed_309 (by decide) ?_
                          refine lv_iload hx hb d_m_isAllowed_310 (lv_at hl 6 rfl) ?_
                          refine lv_imul hx hb d_m_isAllowed_312 ?_
                          by_cases hg313 : inbd (3 * v5_191) 18 = true
                          rotate_left; · rw [if_neg hg313] at h; cases h
                          rw [if_pos hg313] at h
                          refine m_ald_1 (k := 28) hx hb hC hX (by rfl) hg313 d_m_isAllowed_313 ?_
                          refine lv_iload hx hb d_m_isAllowed_314 (lv_at hl 5 rfl) ?_
                          refine lv_ishr hx hb d_m_isAllowed_316 ?_
                          refine lv_iconst (v := 1) hx hb d_m_isAllowed_317 (by decide) ?_
                          refine lv_iand hx hb d_m_isAllowed_318 ?_
                          refine lv_iconst (v := 1) hx hb d_m_isAllowed_319 (by decide) ?_
                          refine lv_icmp_ne hx hb d_m_isAllowed_320 (tgt := 327) (by decide) (fun hc => ?_) (fun hc => ?_)
                          · rw [if_neg hc] at h
                            exact J327  H locs ls  hX hS (lv_sub hl [1, 2, 3, 4, 5, 6, 0] rfl) h
                          · rw [if_pos hc] at h
                            refine lv_iconst (v := 1) hx hb d_m_isAllowed_323 (by decide) ?_
                            refine lv_goto hx hb d_m_isAllowed_324 (tgt := 328) (by decide) ?_
                            exact J328 true H locs ls  hX hS (lv_sub hl [1, 2, 3, 4, 5, 6, 0] rfl) h
                      have J297 : ∀  (H : Heap) (locs : List Loc) (ls : Array Slot), hp D cA b ad (T, S280, o) H → va_S (Ab b) s.heap H locs → lv_has ls 13 [(0, .ref (b + 262)), (1, .int x1), (2, .int x2), (3, .int x3), (4, .int x4), (5, .int v5_191)] → m_isAllowed_J297 x1 x2 x3 x4 v5_191 S280 = some rr → W p l e R s m args below meth c H locs 0 0 Q (F0 m 297 ls []) := by
                        intro  H locs ls  hX hS hl h
                        rw [m_isAllowed_J297] at h
                        refine lv_iconst (v := 0) hx hb d_m_isAllowed_297 (by decide) ?_
                        exact J298 false H locs ls  hX hS (lv_sub hl [0, 1, 2, 3, 4, 5] rfl) h
                      refine lv_if_lt hx hb d_m_isAllowed_283 (tgt := 297) (by decide) (fun hc => ?_) (fun hc => ?_)
                      · rw [if_pos hc] at h
                        exact J297  H locs ls  hX hS (lv_sub hl [0, 1, 2, 3, 4, 5] rfl) h
                      · rw [if_neg hc] at h
                        refine lv_iload hx hb d_m_isAllowed_286 (lv_at hl 4 rfl) ?_
                        refine lv_bipush (v := 8) hx hb d_m_isAllowed_288 (by decide) ?_
                        refine lv_icmp_ge hx hb d_m_isAllowed_290 (tgt := 297) (by decide) (fun hc => ?_) (fun hc => ?_)
                        · rw [if_pos hc] at h
                          exact J297  H locs ls  hX hS (lv_sub hl [0, 1, 2, 3, 4, 5] rfl) h
                        · rw [if_neg hc] at h
                          refine lv_iconst (v := 1) hx hb d_m_isAllowed_293 (by decide) ?_
                          refine lv_goto hx hb d_m_isAllowed_294 (tgt := 298) (by decide) ?_
                          exact J298 true H locs ls  hX hS (lv_sub hl [0, 1, 2, 3, 4, 5] rfl) h
                    refine lv_icmp_ge hx hb d_m_isAllowed_225 (tgt := 260) (by decide) (fun hc => ?_) (fun hc => ?_)
                    · rw [if_pos hc] at h
                      exact J260  H locs ls  hX hS (lv_sub hl [0, 1, 2, 3, 4, 5] rfl) h
                    · rw [if_neg hc] at h
                      refine lv_iload hx hb d_m_isAllowed_228 (lv_at hl 6 rfl) ?_
                      refine lz_ifne hx hb d_m_isAllowed_230 (tgt := 260) (by decide) (fun hc => ?_) (fun hc => ?_)
                      · rw [if_pos hc] at h
                        exact J260  H locs ls  hX hS (lv_sub hl [0, 1, 2, 3, 4, 5] rfl) h
                      · rw [if_neg hc] at h
                        refine lv_aload_n hx hb d_m_isAllowed_233 rfl (lv_at hl 0 rfl) ?_
                        refine m_get_0_40 hx hb hts hown hC hX (by rfl) (hts _ t_1027) d_m_isAllowed_234 ?_
                        refine lv_iconst (v := 3) hx hb d_m_isAllowed_237 (by decide) ?_
                        refine lv_iload hx hb d_m_isAllowed_238 (lv_at hl 5 rfl) ?_
                        refine lv_imul hx hb d_m_isAllowed_240 ?_
                        refine lv_iload hx hb d_m_isAllowed_241 (lv_at hl 7 rfl) ?_
                        refine lv_iadd hx hb d_m_isAllowed_243 ?_
                        refine lv_aload_n hx hb d_m_isAllowed_244 rfl (lv_at hl 0 rfl) ?_
                        refine lv_iload hx hb d_m_isAllowed_245 (lv_at hl 7 rfl) ?_
                        refine lv_iload_n hx hb d_m_isAllowed_247 rfl (lv_at hl 1 rfl) ?_
                        refine lv_iload_n hx hb d_m_isAllowed_248 rfl (lv_at hl 2 rfl) ?_
                        refine lv_iload_n hx hb d_m_isAllowed_249 rfl (lv_at hl 3 rfl) ?_
                        obtain ⟨q250, hc250, h⟩ := Option.bind_eq_some_iff.mp h
                        refine ck_V (As := [.int v8_222, .int x1, .int x2, .int x3]) (rest := [.int ((3 * v5_191) + v8_222), .ref (b + 290)]) (st1 := [.int q250, .int ((3 * v5_191) + v8_222), .ref (b + 290)]) (M_m_worked  hc250) t_1316 t_1318 p_69 t_1319 t_13 hx hb hts hown hC hX hS (hrc_m0 hC hX (by rfl)) hml hl.1 ⟨by rw [hRf]; decide, by rw [hRl]; decide⟩ ⟨rfl, rfl⟩ (n := 4) (by decide +kernel) rfl rfl rfl (lv_room (Nat.le_of_ble_eq_true rfl)) d_m_isAllowed_250 (fun H locs hX hS => ?_)
                        by_cases hg253 : inbd ((3 * v5_191) + v8_222) 18 = true
                        rotate_left; · rw [if_neg hg253] at h; cases h
                        rw [if_pos hg253] at h
                        refine m_ast_1 (k := 28) (v := q250) hx hb hC hX hS (by rfl) hg253 d_m_isAllowed_253 (fun H locs hX hS => ?_)
                        obtain ⟨S253, e253, h⟩ := bd_some h
                        rw [← e253] at hX
                        obtain ⟨a254, e254, h⟩ := bd_some h
                        refine lv_iinc (v := a254) (lv' := [(8, .int a254), (0, .ref (b + 262)), (1, .int x1), (2, .int x2), (3, .int x3), (4, .int x4), (5, .int v5_191), (7, .int (bI s0_103))]) hx hb d_m_isAllowed_254 hl (k := 7) rfl e254.symm (by decide) rfl (fun ls hl => ?_)
                        refine lv_goto hx hb d_m_isAllowed_257 (tgt := 222) (by decide) ?_
                        exact ih222 a254 S253 H locs ls  hX hS (lv_sub hl [1, 2, 3, 4, 5, 6, 7, 0] rfl) h
                exact L222 600 0 S218 H locs ls  hX hS (lv_sub hl [1, 2, 3, 4, 5, 6, 7, 0] rfl) h
              refine lv_if_ge hx hb d_m_isAllowed_145 (tgt := 191) (by decide) (fun hc => ?_) (fun hc => ?_)
              · rw [if_pos hc] at h
                exact J191 v5_9 S140 H locs ls  hX hS (lv_sub hl [0, 1, 2, 3, 4, 5, 7] rfl) h
              · rw [if_neg hc] at h
                refine lv_aload_n hx hb d_m_isAllowed_148 rfl (lv_at hl 0 rfl) ?_
                refine m_get_0_42 hx hb hts hown hC hX (by rfl) (hts _ t_1029) d_m_isAllowed_149 ?_
                refine lv_bipush (v := 6) hx hb d_m_isAllowed_152 (by decide) ?_
                have J166 : ∀ (s0_166 : Int32) (H : Heap) (locs : List Loc) (ls : Array Slot), hp D cA b ad (T, S140, o) H → va_S (Ab b) s.heap H locs → lv_has ls 13 [(0, .ref (b + 262)), (1, .int x1), (2, .int x2), (3, .int x3), (4, .int x4), (7, .int (bI s0_103))] → m_isAllowed_J166 x1 x2 x3 x4 s0_103 s0_166 S140 = some rr → W p l e R s m args below meth c H locs 0 0 Q (F0 m 166 ls [.int s0_166]) := by
                  intro s0_166 H locs ls  hX hS hl h
                  rw [m_isAllowed_J166] at h
                  refine lv_istore (lv' := [(5, .int s0_166), (0, .ref (b + 262)), (1, .int x1), (2, .int x2), (3, .int x3), (4, .int x4), (7, .int (bI s0_103))]) hx hb d_m_isAllowed_166 hl (by decide) rfl (fun ls hl => ?_)
                  refine lv_aload_n hx hb d_m_isAllowed_168 rfl (lv_at hl 1 rfl) ?_
                  refine lv_dup hx hb d_m_isAllowed_169 rfl ?_
                  refine m_get_0_42 hx hb hts hown hC hX (by rfl) (hts _ t_1029) d_m_isAllowed_170 ?_
                  refine lv_aload_n hx hb d_m_isAllowed_173 rfl (lv_at hl 1 rfl) ?_
                  refine m_get_0_42 hx hb hts hown hC hX (by rfl) (hts _ t_1029) d_m_isAllowed_174 ?_
                  refine lv_bipush (v := 6) hx hb d_m_isAllowed_177 (by decide) ?_
                  have J187 : ∀ (s0_187 : Bool) (H : Heap) (locs : List Loc) (ls : Array Slot), hp D cA b ad (T, S140, o) H → va_S (Ab b) s.heap H locs → lv_has ls 13 [(0, .ref (b + 262)), (1, .int x1), (2, .int x2), (3, .int x3), (4, .int x4), (5, .int s0_166), (7, .int (bI s0_103))] → m_isAllowed_J187 x1 x2 x3 x4 s0_166 s0_103 s0_187 (gI S140 0 42) S140 = some rr → W p l e R s m args below meth c H locs 0 0 Q (F0 m 187 ls [.int (bI s0_187), .int (gI S140 0 42), .ref (b + 262)]) := by
                    intro s0_187 H locs ls  hX hS hl h
                    rw [m_isAllowed_J187] at h
                    refine lv_iadd hx hb d_m_isAllowed_187 ?_
                    refine m_put_0_42 (v := ((gI S140 0 42) + (bI s0_187))) hx hb hts hown hC hX hS (by rfl) (hts _ t_1029) d_m_isAllowed_188 (fun H locs hX hS => ?_)
                    obtain ⟨S188, e188, h⟩ := bd_some h
                    rw [← e188] at hX
                    exact J191 s0_166 S188 H locs ls  hX hS (lv_sub hl [0, 1, 2, 3, 4, 5, 6] rfl) h
                  refine lv_icmp_ge hx hb d_m_isAllowed_179 (tgt := 186) (by decide) (fun hc => ?_) (fun hc => ?_)
                  · rw [if_pos hc] at h
                    refine lv_iconst (v := 0) hx hb d_m_isAllowed_186 (by decide) ?_
                    exact J187 false H locs ls  hX hS (lv_sub hl [1, 2, 3, 4, 5, 0, 6] rfl) h
                  · rw [if_neg hc] at h
                    refine lv_iconst (v := 1) hx hb d_m_isAllowed_182 (by decide) ?_
                    refine lv_goto hx hb d_m_isAllowed_183 (tgt := 187) (by decide) ?_
                    exact J187 true H locs ls  hX hS (lv_sub hl [1, 2, 3, 4, 5, 0, 6] rfl) h
                refine lv_icmp_ge hx hb d_m_isAllowed_154 (tgt := 164) (by decide) (fun hc => ?_) (fun hc => ?_)
                · rw [if_pos hc] at h
                  refine lv_iload hx hb d_m_isAllowed_164 (lv_at hl 6 rfl) ?_
                  exact J166 v6_9 H locs ls  hX hS (lv_sub hl [0, 1, 2, 3, 4, 7] rfl) h
                · rw [if_neg hc] at h
                  refine lv_aload_n hx hb d_m_isAllowed_157 rfl (lv_at hl 0 rfl) ?_
                  refine m_get_0_42 hx hb hts hown hC hX (by rfl) (hts _ t_1029) d_m_isAllowed_158 ?_
                  refine lv_goto hx hb d_m_isAllowed_161 (tgt := 166) (by decide) ?_
                  exact J166 (gI S140 0 42) H locs ls  hX hS (lv_sub hl [0, 1, 2, 3, 4, 7] rfl) h
            refine lz_ifeq hx hb d_m_isAllowed_131 (tgt := 138) (by decide) (fun hc => ?_) (fun hc => ?_)
            · rw [if_neg hc] at h
              refine lv_iconst (v := 1) hx hb d_m_isAllowed_138 (by decide) ?_
              exact J139 true H locs ls  hX hS (lv_sub hl [0, 1, 2, 3, 4, 5, 6, 7] rfl) h
            · rw [if_pos hc] at h
              refine lv_iconst (v := 0) hx hb d_m_isAllowed_134 (by decide) ?_
              refine lv_goto hx hb d_m_isAllowed_135 (tgt := 139) (by decide) ?_
              exact J139 false H locs ls  hX hS (lv_sub hl [0, 1, 2, 3, 4, 5, 6, 7] rfl) h
          refine lz_ifeq hx hb d_m_isAllowed_112 (tgt := 119) (by decide) (fun hc => ?_) (fun hc => ?_)
          · rw [if_neg hc] at h
            refine lv_iconst (v := 0) hx hb d_m_isAllowed_119 (by decide) ?_
            exact J120 false H locs ls  hX hS (lv_sub hl [1, 2, 3, 4, 5, 6, 7, 0] rfl) h
          · rw [if_pos hc] at h
            refine lv_iconst (v := 1) hx hb d_m_isAllowed_115 (by decide) ?_
            refine lv_goto hx hb d_m_isAllowed_116 (tgt := 120) (by decide) ?_
            exact J120 true H locs ls  hX hS (lv_sub hl [1, 2, 3, 4, 5, 6, 7, 0] rfl) h
        have J102 : ∀  (H : Heap) (locs : List Loc) (ls : Array Slot), hp D cA b ad (T, S, o) H → va_S (Ab b) s.heap H locs → lv_has ls 13 [(0, .ref (b + 262)), (1, .int x1), (2, .int x2), (3, .int x3), (4, .int x4), (5, .int v5_9), (6, .int v6_9)] → m_isAllowed_J102 x1 x2 x3 x4 v5_9 v6_9 S = some rr → W p l e R s m args below meth c H locs 0 0 Q (F0 m 102 ls []) := by
          intro  H locs ls  hX hS hl h
          rw [m_isAllowed_J102] at h
          refine lv_iconst (v := 0) hx hb d_m_isAllowed_102 (by decide) ?_
          exact J103 false H locs ls  hX hS (lv_sub hl [0, 1, 2, 3, 4, 5, 6] rfl) h
        refine lv_if_lt hx hb d_m_isAllowed_81 (tgt := 102) (by decide) (fun hc => ?_) (fun hc => ?_)
        · rw [if_pos hc] at h
          exact J102  H locs ls  hX hS (lv_sub hl [0, 1, 2, 3, 4, 5, 6] rfl) h
        · rw [if_neg hc] at h
          refine lv_aload_n hx hb d_m_isAllowed_84 rfl (lv_at hl 0 rfl) ?_
          refine m_get_0_39 hx hb hts hown hC hX (by rfl) (hts _ t_1026) d_m_isAllowed_85 ?_
          refine lv_iload hx hb d_m_isAllowed_88 (lv_at hl 5 rfl) ?_
          by_cases hg90 : inbd v5_9 6 = true
          rotate_left; · rw [if_neg hg90] at h; cases h
          rw [if_pos hg90] at h
          refine m_ald_1 (k := 27) hx hb hC hX (by rfl) hg90 d_m_isAllowed_90 ?_
          refine lv_aload_n hx hb d_m_isAllowed_91 rfl (lv_at hl 0 rfl) ?_
          refine m_get_0_34 hx hb hts hown hC hX (by rfl) (hts _ t_1021) d_m_isAllowed_92 ?_
          refine lv_icmp_ne hx hb d_m_isAllowed_95 (tgt := 102) (by decide) (fun hc => ?_) (fun hc => ?_)
          · rw [if_neg hc] at h
            exact J102  H locs ls  hX hS (lv_sub hl [0, 1, 2, 3, 4, 5, 6] rfl) h
          · rw [if_pos hc] at h
            refine lv_iconst (v := 1) hx hb d_m_isAllowed_98 (by decide) ?_
            refine lv_goto hx hb d_m_isAllowed_99 (tgt := 103) (by decide) ?_
            exact J103 true H locs ls  hX hS (lv_sub hl [0, 1, 2, 3, 4, 5, 6] rfl) h
      · rw [if_neg hc] at h
        refine lv_aload_n hx hb d_m_isAllowed_18 rfl (lv_at hl 0 rfl) ?_
        refine m_get_0_38 hx hb hts hown hC hX (by rfl) (hts _ t_1025) d_m_isAllowed_19 ?_
        refine lv_iload hx hb d_m_isAllowed_22 (lv_at hl 7 rfl) ?_
        by_cases hg24 : inbd v7_9 6 = true
        rotate_left; · rw [if_neg hg24] at h; cases h
        rw [if_pos hg24] at h
        refine m_ald_1 (k := 26) hx hb hC hX (by rfl) hg24 d_m_isAllowed_24 ?_
        refine lv_bipush (v := 64) hx hb d_m_isAllowed_25 (by decide) ?_
        refine lv_iload_n hx hb d_m_isAllowed_27 rfl (lv_at hl 1 rfl) ?_
        refine lv_imul hx hb d_m_isAllowed_28 ?_
        refine lv_iconst (v := 4) hx hb d_m_isAllowed_29 (by decide) ?_
        refine lv_iload_n hx hb d_m_isAllowed_30 rfl (lv_at hl 2 rfl) ?_
        refine lv_imul hx hb d_m_isAllowed_31 ?_
        refine lv_iadd hx hb d_m_isAllowed_32 ?_
        refine lv_iload_n hx hb d_m_isAllowed_33 rfl (lv_at hl 3 rfl) ?_
        refine lv_iadd hx hb d_m_isAllowed_34 ?_
        have J45 : ∀ (s0_45 : Int32) (H : Heap) (locs : List Loc) (ls : Array Slot), hp D cA b ad (T, S, o) H → va_S (Ab b) s.heap H locs → lv_has ls 13 [(0, .ref (b + 262)), (1, .int x1), (2, .int x2), (3, .int x3), (4, .int x4), (6, .int v6_9), (7, .int v7_9)] → m_isAllowed_J45 (m_isAllowed_L9 x1 x2 x3 x4 S n9) x1 x2 x3 x4 v6_9 v7_9 s0_45 S = some rr → W p l e R s m args below meth c H locs 0 0 Q (F0 m 45 ls [.int s0_45]) := by
          intro s0_45 H locs ls  hX hS hl h
          rw [m_isAllowed_J45] at h
          refine lv_istore (lv' := [(5, .int s0_45), (0, .ref (b + 262)), (1, .int x1), (2, .int x2), (3, .int x3), (4, .int x4), (6, .int v6_9), (7, .int v7_9)]) hx hb d_m_isAllowed_45 hl (by decide) rfl (fun ls hl => ?_)
          refine lv_aload_n hx hb d_m_isAllowed_47 rfl (lv_at hl 1 rfl) ?_
          refine m_get_0_41 hx hb hts hown hC hX (by rfl) (hts _ t_1028) d_m_isAllowed_48 ?_
          refine lv_iload hx hb d_m_isAllowed_51 (lv_at hl 7 rfl) ?_
          by_cases hg53 : inbd v7_9 6 = true
          rotate_left; · rw [if_neg hg53] at h; cases h
          rw [if_pos hg53] at h
          refine m_ald_1 (k := 29) hx hb hC hX (by rfl) hg53 d_m_isAllowed_53 ?_
          refine lv_aload_n hx hb d_m_isAllowed_54 rfl (lv_at hl 1 rfl) ?_
          refine m_get_0_41 hx hb hts hown hC hX (by rfl) (hts _ t_1028) d_m_isAllowed_55 ?_
          refine lv_iload hx hb d_m_isAllowed_58 (lv_at hl 6 rfl) ?_
          by_cases hg60 : inbd v6_9 6 = true
          rotate_left; · rw [if_neg hg60] at h; cases h
          rw [if_pos hg60] at h
          refine m_ald_1 (k := 29) hx hb hC hX (by rfl) hg60 d_m_isAllowed_60 ?_
          refine lv_icmp_ge hx hb d_m_isAllowed_61 (tgt := 69) (by decide) (fun hc => ?_) (fun hc => ?_)
          · rw [if_pos hc] at h
            refine lv_iload hx hb d_m_isAllowed_69 (lv_at hl 6 rfl) ?_
            refine lv_istore (lv' := [(6, .int v6_9), (5, .int s0_45), (0, .ref (b + 262)), (1, .int x1), (2, .int x2), (3, .int x3), (4, .int x4), (7, .int v7_9)]) hx hb d_m_isAllowed_71 hl (by decide) rfl (fun ls hl => ?_)
            obtain ⟨a73, e73, h⟩ := bd_some h
            refine lv_iinc (v := a73) (lv' := [(7, .int a73), (6, .int v6_9), (5, .int s0_45), (0, .ref (b + 262)), (1, .int x1), (2, .int x2), (3, .int x3), (4, .int x4)]) hx hb d_m_isAllowed_73 hl (k := 7) rfl e73.symm (by decide) rfl (fun ls hl => ?_)
            refine lv_goto hx hb d_m_isAllowed_76 (tgt := 9) (by decide) ?_
            exact ih9 s0_45 v6_9 a73 H locs ls  hX hS (lv_sub hl [3, 4, 5, 6, 7, 2, 1, 0] rfl) h
          · rw [if_neg hc] at h
            refine lv_iload hx hb d_m_isAllowed_64 (lv_at hl 7 rfl) ?_
            refine lv_goto hx hb d_m_isAllowed_66 (tgt := 71) (by decide) ?_
            refine lv_istore (lv' := [(6, .int v7_9), (5, .int s0_45), (0, .ref (b + 262)), (1, .int x1), (2, .int x2), (3, .int x3), (4, .int x4), (7, .int v7_9)]) hx hb d_m_isAllowed_71 hl (by decide) rfl (fun ls hl => ?_)
            obtain ⟨a73, e73, h⟩ := bd_some h
            refine lv_iinc (v := a73) (lv' := [(7, .int a73), (6, .int v7_9), (5, .int s0_45), (0, .ref (b + 262)), (1, .int x1), (2, .int x2), (3, .int x3), (4, .int x4)]) hx hb d_m_isAllowed_73 hl (k := 7) rfl e73.symm (by decide) rfl (fun ls hl => ?_)
            refine lv_goto hx hb d_m_isAllowed_76 (tgt := 9) (by decide) ?_
            exact ih9 s0_45 v7_9 a73 H locs ls  hX hS (lv_sub hl [3, 4, 5, 6, 7, 2, 1, 0] rfl) h
        refine lv_icmp_ne hx hb d_m_isAllowed_35 (tgt := 43) (by decide) (fun hc => ?_) (fun hc => ?_)
        · rw [if_neg hc] at h
          refine lv_iload hx hb d_m_isAllowed_43 (lv_at hl 5 rfl) ?_
          exact J45 v5_9 H locs ls  hX hS (lv_sub hl [0, 1, 2, 3, 4, 6, 7] rfl) h
        · rw [if_pos hc] at h
          refine lv_iload hx hb d_m_isAllowed_38 (lv_at hl 7 rfl) ?_
          refine lv_goto hx hb d_m_isAllowed_40 (tgt := 45) (by decide) ?_
          exact J45 v7_9 H locs ls  hX hS (lv_sub hl [0, 1, 2, 3, 4, 6, 7] rfl) h
  exact L9 600 (-1) 0 0 H locs ls  hX hS (lv_sub hl [3, 4, 5, 6, 7, 2, 1, 0] rfl) h
abbrev y_m_ask : MethodName := ({ cls := "TypeGuardModel", name := "ask", desc := "(III)Z" } : Jvm.MethodName)
theorem d_m_ask_0 : decode prog_14_method_58_code 0 = .ok (.aload_n 0, 1) := by decide +kernel
theorem d_m_ask_1 : decode prog_14_method_58_code 1 = .ok (.aload_n 0, 1) := by decide +kernel
theorem d_m_ask_2 : decode prog_14_method_58_code 2 = .ok (.iload_n 1, 1) := by decide +kernel
theorem d_m_ask_3 : decode prog_14_method_58_code 3 = .ok (.iload_n 2, 1) := by decide +kernel
theorem d_m_ask_4 : decode prog_14_method_58_code 4 = .ok (.invokevirtual 334, 3) := by decide +kernel
theorem d_m_ask_7 : decode prog_14_method_58_code 7 = .ok (.ifCond .eq 7, 3) := by decide +kernel
theorem d_m_ask_10 : decode prog_14_method_58_code 10 = .ok (.iconst 1, 1) := by decide +kernel
theorem d_m_ask_11 : decode prog_14_method_58_code 11 = .ok (.goto 4, 3) := by decide +kernel
theorem d_m_ask_14 : decode prog_14_method_58_code 14 = .ok (.iconst 0, 1) := by decide +kernel
theorem d_m_ask_15 : decode prog_14_method_58_code 15 = .ok (.putfield 106, 3) := by decide +kernel
theorem d_m_ask_18 : decode prog_14_method_58_code 18 = .ok (.aload_n 0, 1) := by decide +kernel
theorem d_m_ask_19 : decode prog_14_method_58_code 19 = .ok (.getfield 106, 3) := by decide +kernel
theorem d_m_ask_22 : decode prog_14_method_58_code 22 = .ok (.ifCond .ne 30, 3) := by decide +kernel
theorem d_m_ask_25 : decode prog_14_method_58_code 25 = .ok (.aload_n 0, 1) := by decide +kernel
theorem d_m_ask_26 : decode prog_14_method_58_code 26 = .ok (.aload_n 0, 1) := by decide +kernel
theorem d_m_ask_27 : decode prog_14_method_58_code 27 = .ok (.iload_n 1, 1) := by decide +kernel
theorem d_m_ask_28 : decode prog_14_method_58_code 28 = .ok (.invokevirtual 309, 3) := by decide +kernel
theorem d_m_ask_31 : decode prog_14_method_58_code 31 = .ok (.aload_n 0, 1) := by decide +kernel
theorem d_m_ask_32 : decode prog_14_method_58_code 32 = .ok (.iload_n 2, 1) := by decide +kernel
theorem d_m_ask_33 : decode prog_14_method_58_code 33 = .ok (.invokevirtual 313, 3) := by decide +kernel
theorem d_m_ask_36 : decode prog_14_method_58_code 36 = .ok (.aload_n 0, 1) := by decide +kernel
theorem d_m_ask_37 : decode prog_14_method_58_code 37 = .ok (.iload_n 2, 1) := by decide +kernel
theorem d_m_ask_38 : decode prog_14_method_58_code 38 = .ok (.invokevirtual 316, 3) := by decide +kernel
theorem d_m_ask_41 : decode prog_14_method_58_code 41 = .ok (.iload_n 3, 1) := by decide +kernel
theorem d_m_ask_42 : decode prog_14_method_58_code 42 = .ok (.invokevirtual 338, 3) := by decide +kernel
theorem d_m_ask_45 : decode prog_14_method_58_code 45 = .ok (.ifCond .eq 7, 3) := by decide +kernel
theorem d_m_ask_48 : decode prog_14_method_58_code 48 = .ok (.iconst 1, 1) := by decide +kernel
theorem d_m_ask_49 : decode prog_14_method_58_code 49 = .ok (.goto 4, 3) := by decide +kernel
theorem d_m_ask_52 : decode prog_14_method_58_code 52 = .ok (.iconst 0, 1) := by decide +kernel
theorem d_m_ask_53 : decode prog_14_method_58_code 53 = .ok (.ireturn, 1) := by decide +kernel
def m_ask_J15 (v1_15 : Int32) (v2_15 : Int32) (v3_15 : Int32) (s0_15 : Bool) (S_15 : MS) : Option (MS × Bool) := (bd (pI S_15 0 0 (bI s0_15)) fun S15 => (if (gI S15 0 0) = 0 then ((m_processType v1_15 S15).bind fun q28 => ((m_typeAt v2_15 S15).bind fun q33 => ((m_classAt v2_15 S15).bind fun q38 => ((m_isAllowed q28 q33 q38 v3_15 S15).bind fun q42 => (if q42.2 = true then some (q42.1, true) else some (q42.1, false)))))) else some (S15, false)))
def m_ask (x1 : Int32) (x2 : Int32) (x3 : Int32) (S : MS) : Option (MS × Bool) := ((m_cannotAsk x1 x2 S).bind fun q4 => (if q4 = true then m_ask_J15 x1 x2 x3 true S else m_ask_J15 x1 x2 x3 false S))
set_option maxHeartbeats 4000000 in
set_option maxRecDepth 100000 in
theorem M_m_ask {l : Launch} {D : va_G} {cA : Nat → ClassId} {b : Nat} {ad : Nat → Nat} {x1 : Int32} {x2 : Int32} {x3 : Int32} {S : MS} {T : CS} {o : Nat → Int64} {rr : (MS × Bool)}  (h : m_ask x1 x2 x3 S = some rr) : Met l y_m_ask (Cond.code y_m_ask prog_14_method_58_code 4 (Option.some Jvm.ClassFile.FieldType.boolean) :: TW) { frames := 4, cells := 0, slots := 0, locals := 91 } (va_Pc [.ref (b + 262), .int x1, .int x2, .int x3] (Rp D cA b ad (T, S, o))) (Qr D cA b ad (T, rr.1, o) (some (.int (bI rr.2)))) 0 0 (Ab b) := by
  refine Ct_of (by decide) (Nat.le_of_ble_eq_true rfl) ?_
  intro p e R s m args below meth c ls Q H locs hR hQ hx hb hts hown hml hr hlk hC hX hS hl
  have hRf : R.frames = 4 := by rw [hR]
  have hRl : R.locals = 91 := by rw [hR]
  have hown : s.vm.findClass "TypeGuardModel" = some m.cls := hown
  have hl : lv_has ls 4 [(0, .ref (b + 262)), (1, .int x1), (2, .int x2), (3, .int x3)] := hl
  rw [m_ask] at h
  refine lv_aload_n hx hb d_m_ask_0 rfl (lv_at hl 0 rfl) ?_
  refine lv_aload_n hx hb d_m_ask_1 rfl (lv_at hl 0 rfl) ?_
  refine lv_iload_n hx hb d_m_ask_2 rfl (lv_at hl 1 rfl) ?_
  refine lv_iload_n hx hb d_m_ask_3 rfl (lv_at hl 2 rfl) ?_
  obtain ⟨q4, hc4, h⟩ := Option.bind_eq_some_iff.mp h
  refine ck_V (As := [.int x1, .int x2]) (rest := [.ref (b + 262)]) (st1 := [.int (bI q4), .ref (b + 262)]) (M_m_cannotAsk  hc4) t_1362 t_1364 p_74 t_1365 t_13 hx hb hts hown hC hX hS (hrc_m0 hC hX (by rfl)) hml hl.1 ⟨by rw [hRf]; decide, by rw [hRl]; decide⟩ ⟨rfl, rfl⟩ (n := 2) (by decide +kernel) rfl rfl rfl (lv_room (Nat.le_of_ble_eq_true rfl)) d_m_ask_4 (fun H locs hX hS => ?_)
  have J15 : ∀ (s0_15 : Bool) (H : Heap) (locs : List Loc) (ls : Array Slot), hp D cA b ad (T, S, o) H → va_S (Ab b) s.heap H locs → lv_has ls 4 [(0, .ref (b + 262)), (1, .int x1), (2, .int x2), (3, .int x3)] → m_ask_J15 x1 x2 x3 s0_15 S = some rr → W p l e R s m args below meth c H locs 0 0 Q (F0 m 15 ls [.int (bI s0_15), .ref (b + 262)]) := by
    intro s0_15 H locs ls  hX hS hl h
    rw [m_ask_J15] at h
    refine m_put_0_0 (v := (bI s0_15)) hx hb hts hown hC hX hS (by rfl) (hts _ t_987) d_m_ask_15 (fun H locs hX hS => ?_)
    obtain ⟨S15, e15, h⟩ := bd_some h
    rw [← e15] at hX
    refine lv_aload_n hx hb d_m_ask_18 rfl (lv_at hl 0 rfl) ?_
    refine m_get_0_0 hx hb hts hown hC hX (by rfl) (hts _ t_987) d_m_ask_19 ?_
    refine lv_if_ne hx hb d_m_ask_22 (tgt := 52) (by decide) (fun hc => ?_) (fun hc => ?_)
    · rw [if_neg hc] at h
      refine lv_iconst (v := 0) hx hb d_m_ask_52 (by decide) ?_
      obtain rfl := Option.some.inj h
      exact rt_zf hQ hx hb hr hX hS hlk d_m_ask_53
    · rw [if_pos hc] at h
      refine lv_aload_n hx hb d_m_ask_25 rfl (lv_at hl 0 rfl) ?_
      refine lv_aload_n hx hb d_m_ask_26 rfl (lv_at hl 0 rfl) ?_
      refine lv_iload_n hx hb d_m_ask_27 rfl (lv_at hl 1 rfl) ?_
      obtain ⟨q28, hc28, h⟩ := Option.bind_eq_some_iff.mp h
      refine ck_V (As := [.int x1]) (rest := [.ref (b + 262)]) (st1 := [.int q28, .ref (b + 262)]) (M_m_processType  hc28) t_1346 t_1348 p_71 t_1349 t_13 hx hb hts hown hC hX hS (hrc_m0 hC hX (by rfl)) hml hl.1 ⟨by rw [hRf]; decide, by rw [hRl]; decide⟩ ⟨rfl, rfl⟩ (n := 1) (by decide +kernel) rfl rfl rfl (lv_room (Nat.le_of_ble_eq_true rfl)) d_m_ask_28 (fun H locs hX hS => ?_)
      refine lv_aload_n hx hb d_m_ask_31 rfl (lv_at hl 0 rfl) ?_
      refine lv_iload_n hx hb d_m_ask_32 rfl (lv_at hl 2 rfl) ?_
      obtain ⟨q33, hc33, h⟩ := Option.bind_eq_some_iff.mp h
      refine ck_V (As := [.int x2]) (rest := [.int q28, .ref (b + 262)]) (st1 := [.int q33, .int q28, .ref (b + 262)]) (M_m_typeAt  hc33) t_1350 t_1352 p_72 t_1353 t_13 hx hb hts hown hC hX hS (hrc_m0 hC hX (by rfl)) hml hl.1 ⟨by rw [hRf]; decide, by rw [hRl]; decide⟩ ⟨rfl, rfl⟩ (n := 1) (by decide +kernel) rfl rfl rfl (lv_room (Nat.le_of_ble_eq_true rfl)) d_m_ask_33 (fun H locs hX hS => ?_)
      refine lv_aload_n hx hb d_m_ask_36 rfl (lv_at hl 0 rfl) ?_
      refine lv_iload_n hx hb d_m_ask_37 rfl (lv_at hl 2 rfl) ?_
      obtain ⟨q38, hc38, h⟩ := Option.bind_eq_some_iff.mp h
      refine ck_V (As := [.int x2]) (rest := [.int q33, .int q28, .ref (b + 262)]) (st1 := [.int q38, .int q33, .int q28, .ref (b + 262)]) (M_m_classAt  hc38) t_1354 t_1356 p_73 t_1357 t_13 hx hb hts hown hC hX hS (hrc_m0 hC hX (by rfl)) hml hl.1 ⟨by rw [hRf]; decide, by rw [hRl]; decide⟩ ⟨rfl, rfl⟩ (n := 1) (by decide +kernel) rfl rfl rfl (lv_room (Nat.le_of_ble_eq_true rfl)) d_m_ask_38 (fun H locs hX hS => ?_)
      refine lv_iload_n hx hb d_m_ask_41 rfl (lv_at hl 3 rfl) ?_
      obtain ⟨q42, hc42, h⟩ := Option.bind_eq_some_iff.mp h
      refine ck_V (As := [.int q28, .int q33, .int q38, .int x3]) (rest := []) (st1 := [.int (bI q42.2)]) (M_m_isAllowed  hc42) t_1366 t_1368 p_75 t_1369 t_13 hx hb hts hown hC hX hS (hrc_m0 hC hX (by rfl)) hml hl.1 ⟨by rw [hRf]; decide, by rw [hRl]; decide⟩ ⟨rfl, rfl⟩ (n := 4) (by decide +kernel) rfl rfl rfl (lv_room (Nat.le_of_ble_eq_true rfl)) d_m_ask_42 (fun H locs hX hS => ?_)
      refine lz_ifeq hx hb d_m_ask_45 (tgt := 52) (by decide) (fun hc => ?_) (fun hc => ?_)
      · rw [if_neg hc] at h
        refine lv_iconst (v := 0) hx hb d_m_ask_52 (by decide) ?_
        obtain rfl := Option.some.inj h
        exact rt_zf hQ hx hb hr hX hS hlk d_m_ask_53
      · rw [if_pos hc] at h
        refine lv_iconst (v := 1) hx hb d_m_ask_48 (by decide) ?_
        refine lv_goto hx hb d_m_ask_49 (tgt := 53) (by decide) ?_
        obtain rfl := Option.some.inj h
        exact rt_zt hQ hx hb hr hX hS hlk d_m_ask_53
  refine lz_ifeq hx hb d_m_ask_7 (tgt := 14) (by decide) (fun hc => ?_) (fun hc => ?_)
  · rw [if_neg hc] at h
    refine lv_iconst (v := 0) hx hb d_m_ask_14 (by decide) ?_
    exact J15 false H locs ls  hX hS (lv_sub hl [0, 1, 2, 3] rfl) h
  · rw [if_pos hc] at h
    refine lv_iconst (v := 1) hx hb d_m_ask_10 (by decide) ?_
    refine lv_goto hx hb d_m_ask_11 (tgt := 15) (by decide) ?_
    exact J15 true H locs ls  hX hS (lv_sub hl [0, 1, 2, 3] rfl) h
abbrev y_m_moved : MethodName := ({ cls := "TypeGuardModel", name := "moved", desc := "(IIII)I" } : Jvm.MethodName)
theorem d_m_moved_0 : decode prog_14_method_59_code 0 = .ok (.iload 4, 2) := by decide +kernel
theorem d_m_moved_2 : decode prog_14_method_59_code 2 = .ok (.istore 5, 2) := by decide +kernel
theorem d_m_moved_4 : decode prog_14_method_59_code 4 = .ok (.bipush 24, 2) := by decide +kernel
theorem d_m_moved_6 : decode prog_14_method_59_code 6 = .ok (.aload_n 0, 1) := by decide +kernel
theorem d_m_moved_7 : decode prog_14_method_59_code 7 = .ok (.getfield 154, 3) := by decide +kernel
theorem d_m_moved_10 : decode prog_14_method_59_code 10 = .ok (.imul, 1) := by decide +kernel
theorem d_m_moved_11 : decode prog_14_method_59_code 11 = .ok (.istore 6, 2) := by decide +kernel
theorem d_m_moved_13 : decode prog_14_method_59_code 13 = .ok (.iload 6, 2) := by decide +kernel
theorem d_m_moved_15 : decode prog_14_method_59_code 15 = .ok (.bipush 24, 2) := by decide +kernel
theorem d_m_moved_17 : decode prog_14_method_59_code 17 = .ok (.aload_n 0, 1) := by decide +kernel
theorem d_m_moved_18 : decode prog_14_method_59_code 18 = .ok (.getfield 154, 3) := by decide +kernel
theorem d_m_moved_21 : decode prog_14_method_59_code 21 = .ok (.imul, 1) := by decide +kernel
theorem d_m_moved_22 : decode prog_14_method_59_code 22 = .ok (.aload_n 0, 1) := by decide +kernel
theorem d_m_moved_23 : decode prog_14_method_59_code 23 = .ok (.getfield 17, 3) := by decide +kernel
theorem d_m_moved_26 : decode prog_14_method_59_code 26 = .ok (.iconst 5, 1) := by decide +kernel
theorem d_m_moved_27 : decode prog_14_method_59_code 27 = .ok (.aload_n 0, 1) := by decide +kernel
theorem d_m_moved_28 : decode prog_14_method_59_code 28 = .ok (.getfield 154, 3) := by decide +kernel
theorem d_m_moved_31 : decode prog_14_method_59_code 31 = .ok (.imul, 1) := by decide +kernel
theorem d_m_moved_32 : decode prog_14_method_59_code 32 = .ok (.iconst 4, 1) := by decide +kernel
theorem d_m_moved_33 : decode prog_14_method_59_code 33 = .ok (.iadd, 1) := by decide +kernel
theorem d_m_moved_34 : decode prog_14_method_59_code 34 = .ok (.iaload, 1) := by decide +kernel
theorem d_m_moved_35 : decode prog_14_method_59_code 35 = .ok (.iadd, 1) := by decide +kernel
theorem d_m_moved_36 : decode prog_14_method_59_code 36 = .ok (.if_icmp .ge 59, 3) := by decide +kernel
theorem d_m_moved_39 : decode prog_14_method_59_code 39 = .ok (.aload_n 0, 1) := by decide +kernel
theorem d_m_moved_40 : decode prog_14_method_59_code 40 = .ok (.getfield 46, 3) := by decide +kernel
theorem d_m_moved_43 : decode prog_14_method_59_code 43 = .ok (.iload 6, 2) := by decide +kernel
theorem d_m_moved_45 : decode prog_14_method_59_code 45 = .ok (.iaload, 1) := by decide +kernel
theorem d_m_moved_46 : decode prog_14_method_59_code 46 = .ok (.iconst 4, 1) := by decide +kernel
theorem d_m_moved_47 : decode prog_14_method_59_code 47 = .ok (.if_icmp .ne 42, 3) := by decide +kernel
theorem d_m_moved_50 : decode prog_14_method_59_code 50 = .ok (.aload_n 0, 1) := by decide +kernel
theorem d_m_moved_51 : decode prog_14_method_59_code 51 = .ok (.getfield 61, 3) := by decide +kernel
theorem d_m_moved_54 : decode prog_14_method_59_code 54 = .ok (.iload 6, 2) := by decide +kernel
theorem d_m_moved_56 : decode prog_14_method_59_code 56 = .ok (.iaload, 1) := by decide +kernel
theorem d_m_moved_57 : decode prog_14_method_59_code 57 = .ok (.iload_n 3, 1) := by decide +kernel
theorem d_m_moved_58 : decode prog_14_method_59_code 58 = .ok (.ishr, 1) := by decide +kernel
theorem d_m_moved_59 : decode prog_14_method_59_code 59 = .ok (.iconst 1, 1) := by decide +kernel
theorem d_m_moved_60 : decode prog_14_method_59_code 60 = .ok (.iand, 1) := by decide +kernel
theorem d_m_moved_61 : decode prog_14_method_59_code 61 = .ok (.iconst 1, 1) := by decide +kernel
theorem d_m_moved_62 : decode prog_14_method_59_code 62 = .ok (.if_icmp .ne 27, 3) := by decide +kernel
theorem d_m_moved_65 : decode prog_14_method_59_code 65 = .ok (.aload_n 0, 1) := by decide +kernel
theorem d_m_moved_66 : decode prog_14_method_59_code 66 = .ok (.iload 6, 2) := by decide +kernel
theorem d_m_moved_68 : decode prog_14_method_59_code 68 = .ok (.iload_n 1, 1) := by decide +kernel
theorem d_m_moved_69 : decode prog_14_method_59_code 69 = .ok (.invokevirtual 263, 3) := by decide +kernel
theorem d_m_moved_72 : decode prog_14_method_59_code 72 = .ok (.iload_n 2, 1) := by decide +kernel
theorem d_m_moved_73 : decode prog_14_method_59_code 73 = .ok (.ishr, 1) := by decide +kernel
theorem d_m_moved_74 : decode prog_14_method_59_code 74 = .ok (.iconst 1, 1) := by decide +kernel
theorem d_m_moved_75 : decode prog_14_method_59_code 75 = .ok (.iand, 1) := by decide +kernel
theorem d_m_moved_76 : decode prog_14_method_59_code 76 = .ok (.iconst 1, 1) := by decide +kernel
theorem d_m_moved_77 : decode prog_14_method_59_code 77 = .ok (.if_icmp .ne 12, 3) := by decide +kernel
theorem d_m_moved_80 : decode prog_14_method_59_code 80 = .ok (.aload_n 0, 1) := by decide +kernel
theorem d_m_moved_81 : decode prog_14_method_59_code 81 = .ok (.getfield 64, 3) := by decide +kernel
theorem d_m_moved_84 : decode prog_14_method_59_code 84 = .ok (.iload 6, 2) := by decide +kernel
theorem d_m_moved_86 : decode prog_14_method_59_code 86 = .ok (.iaload, 1) := by decide +kernel
theorem d_m_moved_87 : decode prog_14_method_59_code 87 = .ok (.istore 5, 2) := by decide +kernel
theorem d_m_moved_89 : decode prog_14_method_59_code 89 = .ok (.iinc 6 1, 3) := by decide +kernel
theorem d_m_moved_92 : decode prog_14_method_59_code 92 = .ok (.goto (-79), 3) := by decide +kernel
theorem d_m_moved_95 : decode prog_14_method_59_code 95 = .ok (.iload 5, 2) := by decide +kernel
theorem d_m_moved_97 : decode prog_14_method_59_code 97 = .ok (.ireturn, 1) := by decide +kernel
def m_moved_L13 (v1_13 : Int32) (v2_13 : Int32) (v3_13 : Int32) (S_13 : MS) : Nat → Int32 → Int32 → Option Int32
  | 0, _, _ => none
  | n + 1, v5_13, v6_13 => (if inbd ((5 * (gI S_13 0 12)) + 4) 10 = true then (if ((24 * (gI S_13 0 12)) + (gI S_13 2 (txN ((5 * (gI S_13 0 12)) + 4)))) ≤ v6_13 then some v5_13 else (if inbd v6_13 48 = true then (if (gI S_13 11 (txN v6_13)) = 4 then (if inbd v6_13 48 = true then (if (((gI S_13 16 (txN v6_13)) >>> (v3_13 &&& 31)) &&& 1) = 1 then ((m_targetsOf v6_13 v1_13 S_13).bind fun q69 => (if ((q69 >>> (v2_13 &&& 31)) &&& 1) = 1 then (if inbd v6_13 48 = true then (bd ((gI S_13 17 (txN v6_13))) fun a87 => (bd ((v6_13 + 1)) fun a89 => (m_moved_L13 v1_13 v2_13 v3_13 S_13 n) a87 a89)) else none) else (bd ((v6_13 + 1)) fun a89 => (m_moved_L13 v1_13 v2_13 v3_13 S_13 n) v5_13 a89))) else (bd ((v6_13 + 1)) fun a89 => (m_moved_L13 v1_13 v2_13 v3_13 S_13 n) v5_13 a89)) else none) else (bd ((v6_13 + 1)) fun a89 => (m_moved_L13 v1_13 v2_13 v3_13 S_13 n) v5_13 a89)) else none)) else none)
def m_moved (x1 : Int32) (x2 : Int32) (x3 : Int32) (x4 : Int32) (S : MS) : Option Int32 := (bd ((24 * (gI S 0 12))) fun a11 => m_moved_L13 x1 x2 x3 S 600 x4 a11)
set_option maxHeartbeats 4000000 in
set_option maxRecDepth 100000 in
theorem M_m_moved {l : Launch} {D : va_G} {cA : Nat → ClassId} {b : Nat} {ad : Nat → Nat} {x1 : Int32} {x2 : Int32} {x3 : Int32} {x4 : Int32} {S : MS} {T : CS} {o : Nat → Int64} {rr : Int32}  (h : m_moved x1 x2 x3 x4 S = some rr) : Met l y_m_moved (Cond.code y_m_moved prog_14_method_59_code 7 (Option.some Jvm.ClassFile.FieldType.int) :: TW) { frames := 1, cells := 0, slots := 0, locals := 22 } (va_Pc [.ref (b + 262), .int x1, .int x2, .int x3, .int x4] (Rp D cA b ad (T, S, o))) (Qr D cA b ad (T, S, o) (some (.int rr))) 0 0 (Ab b) := by
  refine Ct_of (by decide) (Nat.le_of_ble_eq_true rfl) ?_
  intro p e R s m args below meth c ls Q H locs hR hQ hx hb hts hown hml hr hlk hC hX hS hl
  have hRf : R.frames = 1 := by rw [hR]
  have hRl : R.locals = 22 := by rw [hR]
  have hown : s.vm.findClass "TypeGuardModel" = some m.cls := hown
  have hl : lv_has ls 7 [(0, .ref (b + 262)), (1, .int x1), (2, .int x2), (3, .int x3), (4, .int x4)] := hl
  rw [m_moved] at h
  refine lv_iload hx hb d_m_moved_0 (lv_at hl 4 rfl) ?_
  refine lv_istore (lv' := [(5, .int x4), (0, .ref (b + 262)), (1, .int x1), (2, .int x2), (3, .int x3), (4, .int x4)]) hx hb d_m_moved_2 hl (by decide) rfl (fun ls hl => ?_)
  refine lv_bipush (v := 24) hx hb d_m_moved_4 (by decide) ?_
  refine lv_aload_n hx hb d_m_moved_6 rfl (lv_at hl 1 rfl) ?_
  refine m_get_0_12 hx hb hts hown hC hX (by rfl) (hts _ t_999) d_m_moved_7 ?_
  refine lv_imul hx hb d_m_moved_10 ?_
  obtain ⟨a11, e11, h⟩ := bd_some h
  refine lt_I e11 ?_
  refine lv_istore (lv' := [(6, .int a11), (5, .int x4), (0, .ref (b + 262)), (1, .int x1), (2, .int x2), (3, .int x3), (4, .int x4)]) hx hb d_m_moved_11 hl (by decide) rfl (fun ls hl => ?_)
  have L13 : ∀ (n13 : Nat) (v5_13 : Int32) (v6_13 : Int32) (H : Heap) (locs : List Loc) (ls : Array Slot), hp D cA b ad (T, S, o) H → va_S (Ab b) s.heap H locs → lv_has ls 7 [(0, .ref (b + 262)), (1, .int x1), (2, .int x2), (3, .int x3), (5, .int v5_13), (6, .int v6_13)] → m_moved_L13 x1 x2 x3 S n13 v5_13 v6_13 = some rr → W p l e R s m args below meth c H locs 0 0 Q (F0 m 13 ls []) := by
    intro n13; induction n13 with
    | zero => intro v5_13 v6_13 H locs ls  hX hS hl h; rw [m_moved_L13] at h; cases h
    | succ n13 ih13 =>
      intro v5_13 v6_13 H locs ls  hX hS hl h
      rw [m_moved_L13] at h
      refine lv_iload hx hb d_m_moved_13 (lv_at hl 5 rfl) ?_
      refine lv_bipush (v := 24) hx hb d_m_moved_15 (by decide) ?_
      refine lv_aload_n hx hb d_m_moved_17 rfl (lv_at hl 0 rfl) ?_
      refine m_get_0_12 hx hb hts hown hC hX (by rfl) (hts _ t_999) d_m_moved_18 ?_
      refine lv_imul hx hb d_m_moved_21 ?_
      refine lv_aload_n hx hb d_m_moved_22 rfl (lv_at hl 0 rfl) ?_
      refine m_get_0_13 hx hb hts hown hC hX (by rfl) (hts _ t_1000) d_m_moved_23 ?_
      refine lv_iconst (v := 5) hx hb d_m_moved_26 (by decide) ?_
      refine lv_aload_n hx hb d_m_moved_27 rfl (lv_at hl 0 rfl) ?_
      refine m_get_0_12 hx hb hts hown hC hX (by rfl) (hts _ t_999) d_m_moved_28 ?_
      refine lv_imul hx hb d_m_moved_31 ?_
      refine lv_iconst (v := 4) hx hb d_m_moved_32 (by decide) ?_
      refine lv_iadd hx hb d_m_moved_33 ?_
      by_cases hg34 : inbd ((5 * (gI S 0 12)) + 4) 10 = true
      rotate_left; · rw [if_neg hg34] at h; cases h
      rw [if_pos hg34] at h
      refine m_ald_1 (k := 2) hx hb hC hX (by rfl) hg34 d_m_moved_34 ?_
      refine lv_iadd hx hb d_m_moved_35 ?_
      refine lv_icmp_ge hx hb d_m_moved_36 (tgt := 95) (by decide) (fun hc => ?_) (fun hc => ?_)
      · rw [if_pos hc] at h
        refine lv_iload hx hb d_m_moved_95 (lv_at hl 4 rfl) ?_
        obtain rfl := Option.some.inj h
        exact rt_i hQ hx hb hr hX hS hlk d_m_moved_97
      · rw [if_neg hc] at h
        refine lv_aload_n hx hb d_m_moved_39 rfl (lv_at hl 0 rfl) ?_
        refine m_get_0_22 hx hb hts hown hC hX (by rfl) (hts _ t_1009) d_m_moved_40 ?_
        refine lv_iload hx hb d_m_moved_43 (lv_at hl 5 rfl) ?_
        by_cases hg45 : inbd v6_13 48 = true
        rotate_left; · rw [if_neg hg45] at h; cases h
        rw [if_pos hg45] at h
        refine m_ald_1 (k := 11) hx hb hC hX (by rfl) hg45 d_m_moved_45 ?_
        refine lv_iconst (v := 4) hx hb d_m_moved_46 (by decide) ?_
        refine lv_icmp_ne hx hb d_m_moved_47 (tgt := 89) (by decide) (fun hc => ?_) (fun hc => ?_)
        · rw [if_neg hc] at h
          obtain ⟨a89, e89, h⟩ := bd_some h
          refine lv_iinc (v := a89) (lv' := [(6, .int a89), (0, .ref (b + 262)), (1, .int x1), (2, .int x2), (3, .int x3), (5, .int v5_13)]) hx hb d_m_moved_89 hl (k := 5) rfl e89.symm (by decide) rfl (fun ls hl => ?_)
          refine lv_goto hx hb d_m_moved_92 (tgt := 13) (by decide) ?_
          exact ih13 v5_13 a89 H locs ls  hX hS (lv_sub hl [1, 2, 3, 4, 5, 0] rfl) h
        · rw [if_pos hc] at h
          refine lv_aload_n hx hb d_m_moved_50 rfl (lv_at hl 0 rfl) ?_
          refine m_get_0_27 hx hb hts hown hC hX (by rfl) (hts _ t_1014) d_m_moved_51 ?_
          refine lv_iload hx hb d_m_moved_54 (lv_at hl 5 rfl) ?_
          by_cases hg56 : inbd v6_13 48 = true
          rotate_left; · rw [if_neg hg56] at h; cases h
          rw [if_pos hg56] at h
          refine m_ald_1 (k := 16) hx hb hC hX (by rfl) hg56 d_m_moved_56 ?_
          refine lv_iload_n hx hb d_m_moved_57 rfl (lv_at hl 3 rfl) ?_
          refine lv_ishr hx hb d_m_moved_58 ?_
          refine lv_iconst (v := 1) hx hb d_m_moved_59 (by decide) ?_
          refine lv_iand hx hb d_m_moved_60 ?_
          refine lv_iconst (v := 1) hx hb d_m_moved_61 (by decide) ?_
          refine lv_icmp_ne hx hb d_m_moved_62 (tgt := 89) (by decide) (fun hc => ?_) (fun hc => ?_)
          · rw [if_neg hc] at h
            obtain ⟨a89, e89, h⟩ := bd_some h
            refine lv_iinc (v := a89) (lv' := [(6, .int a89), (0, .ref (b + 262)), (1, .int x1), (2, .int x2), (3, .int x3), (5, .int v5_13)]) hx hb d_m_moved_89 hl (k := 5) rfl e89.symm (by decide) rfl (fun ls hl => ?_)
            refine lv_goto hx hb d_m_moved_92 (tgt := 13) (by decide) ?_
            exact ih13 v5_13 a89 H locs ls  hX hS (lv_sub hl [1, 2, 3, 4, 5, 0] rfl) h
          · rw [if_pos hc] at h
            refine lv_aload_n hx hb d_m_moved_65 rfl (lv_at hl 0 rfl) ?_
            refine lv_iload hx hb d_m_moved_66 (lv_at hl 5 rfl) ?_
            refine lv_iload_n hx hb d_m_moved_68 rfl (lv_at hl 1 rfl) ?_
            obtain ⟨q69, hc69, h⟩ := Option.bind_eq_some_iff.mp h
            refine ck_V (As := [.int v6_13, .int x1]) (rest := []) (st1 := [.int q69]) (M_m_targetsOf  hc69) t_1284 t_1286 p_65 t_1287 t_13 hx hb hts hown hC hX hS (hrc_m0 hC hX (by rfl)) hml hl.1 ⟨by rw [hRf]; decide, by rw [hRl]; decide⟩ ⟨rfl, rfl⟩ (n := 2) (by decide +kernel) rfl rfl rfl (lv_room (Nat.le_of_ble_eq_true rfl)) d_m_moved_69 (fun H locs hX hS => ?_)
            refine lv_iload_n hx hb d_m_moved_72 rfl (lv_at hl 2 rfl) ?_
            refine lv_ishr hx hb d_m_moved_73 ?_
            refine lv_iconst (v := 1) hx hb d_m_moved_74 (by decide) ?_
            refine lv_iand hx hb d_m_moved_75 ?_
            refine lv_iconst (v := 1) hx hb d_m_moved_76 (by decide) ?_
            refine lv_icmp_ne hx hb d_m_moved_77 (tgt := 89) (by decide) (fun hc => ?_) (fun hc => ?_)
            · rw [if_neg hc] at h
              obtain ⟨a89, e89, h⟩ := bd_some h
              refine lv_iinc (v := a89) (lv' := [(6, .int a89), (0, .ref (b + 262)), (1, .int x1), (2, .int x2), (3, .int x3), (5, .int v5_13)]) hx hb d_m_moved_89 hl (k := 5) rfl e89.symm (by decide) rfl (fun ls hl => ?_)
              refine lv_goto hx hb d_m_moved_92 (tgt := 13) (by decide) ?_
              exact ih13 v5_13 a89 H locs ls  hX hS (lv_sub hl [1, 2, 3, 4, 5, 0] rfl) h
            · rw [if_pos hc] at h
              refine lv_aload_n hx hb d_m_moved_80 rfl (lv_at hl 0 rfl) ?_
              refine m_get_0_28 hx hb hts hown hC hX (by rfl) (hts _ t_1015) d_m_moved_81 ?_
              refine lv_iload hx hb d_m_moved_84 (lv_at hl 5 rfl) ?_
              by_cases hg86 : inbd v6_13 48 = true
              rotate_left; · rw [if_neg hg86] at h; cases h
              rw [if_pos hg86] at h
              refine m_ald_1 (k := 17) hx hb hC hX (by rfl) hg86 d_m_moved_86 ?_
              obtain ⟨a87, e87, h⟩ := bd_some h
              refine lt_I e87 ?_
              refine lv_istore (lv' := [(5, .int a87), (0, .ref (b + 262)), (1, .int x1), (2, .int x2), (3, .int x3), (6, .int v6_13)]) hx hb d_m_moved_87 hl (by decide) rfl (fun ls hl => ?_)
              obtain ⟨a89, e89, h⟩ := bd_some h
              refine lv_iinc (v := a89) (lv' := [(6, .int a89), (5, .int a87), (0, .ref (b + 262)), (1, .int x1), (2, .int x2), (3, .int x3)]) hx hb d_m_moved_89 hl (k := 5) rfl e89.symm (by decide) rfl (fun ls hl => ?_)
              refine lv_goto hx hb d_m_moved_92 (tgt := 13) (by decide) ?_
              exact ih13 a87 a89 H locs ls  hX hS (lv_sub hl [2, 3, 4, 5, 1, 0] rfl) h
  exact L13 600 x4 a11 H locs ls  hX hS (lv_sub hl [2, 3, 4, 5, 1, 0] rfl) h
abbrev y_m_run : MethodName := ({ cls := "TypeGuardModel", name := "run", desc := "(II)I" } : Jvm.MethodName)
theorem d_m_run_0 : decode prog_14_method_60_code 0 = .ok (.aload_n 0, 1) := by decide +kernel
theorem d_m_run_1 : decode prog_14_method_60_code 1 = .ok (.iload_n 1, 1) := by decide +kernel
theorem d_m_run_2 : decode prog_14_method_60_code 2 = .ok (.iload_n 2, 1) := by decide +kernel
theorem d_m_run_3 : decode prog_14_method_60_code 3 = .ok (.invokevirtual 334, 3) := by decide +kernel
theorem d_m_run_6 : decode prog_14_method_60_code 6 = .ok (.ifCond .eq 10, 3) := by decide +kernel
theorem d_m_run_9 : decode prog_14_method_60_code 9 = .ok (.aload_n 0, 1) := by decide +kernel
theorem d_m_run_10 : decode prog_14_method_60_code 10 = .ok (.iconst 1, 1) := by decide +kernel
theorem d_m_run_11 : decode prog_14_method_60_code 11 = .ok (.iconst 0, 1) := by decide +kernel
theorem d_m_run_12 : decode prog_14_method_60_code 12 = .ok (.invokevirtual 284, 3) := by decide +kernel
theorem d_m_run_15 : decode prog_14_method_60_code 15 = .ok (.ireturn, 1) := by decide +kernel
theorem d_m_run_16 : decode prog_14_method_60_code 16 = .ok (.aload_n 0, 1) := by decide +kernel
theorem d_m_run_17 : decode prog_14_method_60_code 17 = .ok (.iload_n 1, 1) := by decide +kernel
theorem d_m_run_18 : decode prog_14_method_60_code 18 = .ok (.invokevirtual 309, 3) := by decide +kernel
theorem d_m_run_21 : decode prog_14_method_60_code 21 = .ok (.istore_n 3, 1) := by decide +kernel
theorem d_m_run_22 : decode prog_14_method_60_code 22 = .ok (.aload_n 0, 1) := by decide +kernel
theorem d_m_run_23 : decode prog_14_method_60_code 23 = .ok (.iload_n 2, 1) := by decide +kernel
theorem d_m_run_24 : decode prog_14_method_60_code 24 = .ok (.invokevirtual 313, 3) := by decide +kernel
theorem d_m_run_27 : decode prog_14_method_60_code 27 = .ok (.istore 4, 2) := by decide +kernel
theorem d_m_run_29 : decode prog_14_method_60_code 29 = .ok (.aload_n 0, 1) := by decide +kernel
theorem d_m_run_30 : decode prog_14_method_60_code 30 = .ok (.iload_n 2, 1) := by decide +kernel
theorem d_m_run_31 : decode prog_14_method_60_code 31 = .ok (.invokevirtual 316, 3) := by decide +kernel
theorem d_m_run_34 : decode prog_14_method_60_code 34 = .ok (.istore 5, 2) := by decide +kernel
theorem d_m_run_36 : decode prog_14_method_60_code 36 = .ok (.aload_n 0, 1) := by decide +kernel
theorem d_m_run_37 : decode prog_14_method_60_code 37 = .ok (.iload_n 3, 1) := by decide +kernel
theorem d_m_run_38 : decode prog_14_method_60_code 38 = .ok (.iload 4, 2) := by decide +kernel
theorem d_m_run_40 : decode prog_14_method_60_code 40 = .ok (.iload 5, 2) := by decide +kernel
theorem d_m_run_42 : decode prog_14_method_60_code 42 = .ok (.iconst 0, 1) := by decide +kernel
theorem d_m_run_43 : decode prog_14_method_60_code 43 = .ok (.invokevirtual 338, 3) := by decide +kernel
theorem d_m_run_46 : decode prog_14_method_60_code 46 = .ok (.ifCond .ne 10, 3) := by decide +kernel
theorem d_m_run_49 : decode prog_14_method_60_code 49 = .ok (.aload_n 0, 1) := by decide +kernel
theorem d_m_run_50 : decode prog_14_method_60_code 50 = .ok (.iconst 2, 1) := by decide +kernel
theorem d_m_run_51 : decode prog_14_method_60_code 51 = .ok (.iconst 0, 1) := by decide +kernel
theorem d_m_run_52 : decode prog_14_method_60_code 52 = .ok (.invokevirtual 284, 3) := by decide +kernel
theorem d_m_run_55 : decode prog_14_method_60_code 55 = .ok (.ireturn, 1) := by decide +kernel
theorem d_m_run_56 : decode prog_14_method_60_code 56 = .ok (.aload_n 0, 1) := by decide +kernel
theorem d_m_run_57 : decode prog_14_method_60_code 57 = .ok (.iload_n 3, 1) := by decide +kernel
theorem d_m_run_58 : decode prog_14_method_60_code 58 = .ok (.iload 4, 2) := by decide +kernel
theorem d_m_run_60 : decode prog_14_method_60_code 60 = .ok (.iload 5, 2) := by decide +kernel
theorem d_m_run_62 : decode prog_14_method_60_code 62 = .ok (.iload_n 3, 1) := by decide +kernel
theorem d_m_run_63 : decode prog_14_method_60_code 63 = .ok (.invokevirtual 342, 3) := by decide +kernel
theorem d_m_run_66 : decode prog_14_method_60_code 66 = .ok (.istore 6, 2) := by decide +kernel
theorem d_m_run_68 : decode prog_14_method_60_code 68 = .ok (.iload 6, 2) := by decide +kernel
theorem d_m_run_70 : decode prog_14_method_60_code 70 = .ok (.iload_n 3, 1) := by decide +kernel
theorem d_m_run_71 : decode prog_14_method_60_code 71 = .ok (.if_icmp .eq 24, 3) := by decide +kernel
theorem d_m_run_74 : decode prog_14_method_60_code 74 = .ok (.aload_n 0, 1) := by decide +kernel
theorem d_m_run_75 : decode prog_14_method_60_code 75 = .ok (.iload 6, 2) := by decide +kernel
theorem d_m_run_77 : decode prog_14_method_60_code 77 = .ok (.iload 4, 2) := by decide +kernel
theorem d_m_run_79 : decode prog_14_method_60_code 79 = .ok (.iload 5, 2) := by decide +kernel
theorem d_m_run_81 : decode prog_14_method_60_code 81 = .ok (.iconst 1, 1) := by decide +kernel
theorem d_m_run_82 : decode prog_14_method_60_code 82 = .ok (.invokevirtual 338, 3) := by decide +kernel
theorem d_m_run_85 : decode prog_14_method_60_code 85 = .ok (.ifCond .ne 10, 3) := by decide +kernel
theorem d_m_run_88 : decode prog_14_method_60_code 88 = .ok (.aload_n 0, 1) := by decide +kernel
theorem d_m_run_89 : decode prog_14_method_60_code 89 = .ok (.iconst 2, 1) := by decide +kernel
theorem d_m_run_90 : decode prog_14_method_60_code 90 = .ok (.iconst 0, 1) := by decide +kernel
theorem d_m_run_91 : decode prog_14_method_60_code 91 = .ok (.invokevirtual 284, 3) := by decide +kernel
theorem d_m_run_94 : decode prog_14_method_60_code 94 = .ok (.ireturn, 1) := by decide +kernel
theorem d_m_run_95 : decode prog_14_method_60_code 95 = .ok (.aload_n 0, 1) := by decide +kernel
theorem d_m_run_96 : decode prog_14_method_60_code 96 = .ok (.getfield 82, 3) := by decide +kernel
theorem d_m_run_99 : decode prog_14_method_60_code 99 = .ok (.iload_n 1, 1) := by decide +kernel
theorem d_m_run_100 : decode prog_14_method_60_code 100 = .ok (.aload_n 0, 1) := by decide +kernel
theorem d_m_run_101 : decode prog_14_method_60_code 101 = .ok (.getfield 20, 3) := by decide +kernel
theorem d_m_run_104 : decode prog_14_method_60_code 104 = .ok (.bipush 12, 2) := by decide +kernel
theorem d_m_run_106 : decode prog_14_method_60_code 106 = .ok (.aload_n 0, 1) := by decide +kernel
theorem d_m_run_107 : decode prog_14_method_60_code 107 = .ok (.getfield 154, 3) := by decide +kernel
theorem d_m_run_110 : decode prog_14_method_60_code 110 = .ok (.imul, 1) := by decide +kernel
theorem d_m_run_111 : decode prog_14_method_60_code 111 = .ok (.iload 6, 2) := by decide +kernel
theorem d_m_run_113 : decode prog_14_method_60_code 113 = .ok (.iadd, 1) := by decide +kernel
theorem d_m_run_114 : decode prog_14_method_60_code 114 = .ok (.laload, 1) := by decide +kernel
theorem d_m_run_115 : decode prog_14_method_60_code 115 = .ok (.lastore, 1) := by decide +kernel
theorem d_m_run_116 : decode prog_14_method_60_code 116 = .ok (.aload_n 0, 1) := by decide +kernel
theorem d_m_run_117 : decode prog_14_method_60_code 117 = .ok (.iconst 0, 1) := by decide +kernel
theorem d_m_run_118 : decode prog_14_method_60_code 118 = .ok (.iload 6, 2) := by decide +kernel
theorem d_m_run_120 : decode prog_14_method_60_code 120 = .ok (.invokevirtual 284, 3) := by decide +kernel
theorem d_m_run_123 : decode prog_14_method_60_code 123 = .ok (.ireturn, 1) := by decide +kernel
def m_run_J95 (v1_95 : Int32) (v6_95 : Int32) (S_95 : MS) : Option (MS × Int32) := (if inbd ((12 * (gI S_95 0 12)) + v6_95) 24 = true then (if inbd v1_95 6 = true then (bd (pL S_95 23 (txN v1_95) (gL S_95 3 (txN ((12 * (gI S_95 0 12)) + v6_95)))) fun S115 => ((m_give 0 v6_95 S115).bind fun q120 => some (q120.1, q120.2))) else none) else none)
def m_run (x1 : Int32) (x2 : Int32) (S : MS) : Option (MS × Int32) := ((m_cannotAsk x1 x2 S).bind fun q3 => (if q3 = true then ((m_give 1 0 S).bind fun q12 => some (q12.1, q12.2)) else ((m_processType x1 S).bind fun q18 => ((m_typeAt x2 S).bind fun q24 => ((m_classAt x2 S).bind fun q31 => ((m_isAllowed q18 q24 q31 0 S).bind fun q43 => (if q43.2 = true then ((m_moved q18 q24 q31 q18 q43.1).bind fun q63 => (if q63 = q18 then m_run_J95 x1 q63 q43.1 else ((m_isAllowed q63 q24 q31 1 q43.1).bind fun q82 => (if q82.2 = true then m_run_J95 x1 q63 q82.1 else ((m_give 2 0 q82.1).bind fun q91 => some (q91.1, q91.2)))))) else ((m_give 2 0 q43.1).bind fun q52 => some (q52.1, q52.2)))))))))
set_option maxHeartbeats 4000000 in
set_option maxRecDepth 100000 in
theorem M_m_run {l : Launch} {D : va_G} {cA : Nat → ClassId} {b : Nat} {ad : Nat → Nat} {x1 : Int32} {x2 : Int32} {S : MS} {T : CS} {o : Nat → Int64} {rr : (MS × Int32)}  (h : m_run x1 x2 S = some rr) : Met l y_m_run (Cond.code y_m_run prog_14_method_60_code 7 (Option.some Jvm.ClassFile.FieldType.int) :: TW) { frames := 4, cells := 0, slots := 0, locals := 91 } (va_Pc [.ref (b + 262), .int x1, .int x2] (Rp D cA b ad (T, S, o))) (Qr D cA b ad (T, rr.1, o) (some (.int rr.2))) 0 0 (Ab b) := by
  refine Ct_of (by decide) (Nat.le_of_ble_eq_true rfl) ?_
  intro p e R s m args below meth c ls Q H locs hR hQ hx hb hts hown hml hr hlk hC hX hS hl
  have hRf : R.frames = 4 := by rw [hR]
  have hRl : R.locals = 91 := by rw [hR]
  have hown : s.vm.findClass "TypeGuardModel" = some m.cls := hown
  have hl : lv_has ls 7 [(0, .ref (b + 262)), (1, .int x1), (2, .int x2)] := hl
  rw [m_run] at h
  refine lv_aload_n hx hb d_m_run_0 rfl (lv_at hl 0 rfl) ?_
  refine lv_iload_n hx hb d_m_run_1 rfl (lv_at hl 1 rfl) ?_
  refine lv_iload_n hx hb d_m_run_2 rfl (lv_at hl 2 rfl) ?_
  obtain ⟨q3, hc3, h⟩ := Option.bind_eq_some_iff.mp h
  refine ck_V (As := [.int x1, .int x2]) (rest := []) (st1 := [.int (bI q3)]) (M_m_cannotAsk  hc3) t_1362 t_1364 p_74 t_1365 t_13 hx hb hts hown hC hX hS (hrc_m0 hC hX (by rfl)) hml hl.1 ⟨by rw [hRf]; decide, by rw [hRl]; decide⟩ ⟨rfl, rfl⟩ (n := 2) (by decide +kernel) rfl rfl rfl (lv_room (Nat.le_of_ble_eq_true rfl)) d_m_run_3 (fun H locs hX hS => ?_)
  refine lz_ifeq hx hb d_m_run_6 (tgt := 16) (by decide) (fun hc => ?_) (fun hc => ?_)
  · rw [if_neg hc] at h
    refine lv_aload_n hx hb d_m_run_16 rfl (lv_at hl 0 rfl) ?_
    refine lv_iload_n hx hb d_m_run_17 rfl (lv_at hl 1 rfl) ?_
    obtain ⟨q18, hc18, h⟩ := Option.bind_eq_some_iff.mp h
    refine ck_V (As := [.int x1]) (rest := []) (st1 := [.int q18]) (M_m_processType  hc18) t_1346 t_1348 p_71 t_1349 t_13 hx hb hts hown hC hX hS (hrc_m0 hC hX (by rfl)) hml hl.1 ⟨by rw [hRf]; decide, by rw [hRl]; decide⟩ ⟨rfl, rfl⟩ (n := 1) (by decide +kernel) rfl rfl rfl (lv_room (Nat.le_of_ble_eq_true rfl)) d_m_run_18 (fun H locs hX hS => ?_)
    refine lv_istore_n (lv' := [(3, .int q18), (0, .ref (b + 262)), (1, .int x1), (2, .int x2)]) hx hb d_m_run_21 rfl hl (by decide) rfl (fun ls hl => ?_)
    refine lv_aload_n hx hb d_m_run_22 rfl (lv_at hl 1 rfl) ?_
    refine lv_iload_n hx hb d_m_run_23 rfl (lv_at hl 3 rfl) ?_
    obtain ⟨q24, hc24, h⟩ := Option.bind_eq_some_iff.mp h
    refine ck_V (As := [.int x2]) (rest := []) (st1 := [.int q24]) (M_m_typeAt  hc24) t_1350 t_1352 p_72 t_1353 t_13 hx hb hts hown hC hX hS (hrc_m0 hC hX (by rfl)) hml hl.1 ⟨by rw [hRf]; decide, by rw [hRl]; decide⟩ ⟨rfl, rfl⟩ (n := 1) (by decide +kernel) rfl rfl rfl (lv_room (Nat.le_of_ble_eq_true rfl)) d_m_run_24 (fun H locs hX hS => ?_)
    refine lv_istore (lv' := [(4, .int q24), (3, .int q18), (0, .ref (b + 262)), (1, .int x1), (2, .int x2)]) hx hb d_m_run_27 hl (by decide) rfl (fun ls hl => ?_)
    refine lv_aload_n hx hb d_m_run_29 rfl (lv_at hl 2 rfl) ?_
    refine lv_iload_n hx hb d_m_run_30 rfl (lv_at hl 4 rfl) ?_
    obtain ⟨q31, hc31, h⟩ := Option.bind_eq_some_iff.mp h
    refine ck_V (As := [.int x2]) (rest := []) (st1 := [.int q31]) (M_m_classAt  hc31) t_1354 t_1356 p_73 t_1357 t_13 hx hb hts hown hC hX hS (hrc_m0 hC hX (by rfl)) hml hl.1 ⟨by rw [hRf]; decide, by rw [hRl]; decide⟩ ⟨rfl, rfl⟩ (n := 1) (by decide +kernel) rfl rfl rfl (lv_room (Nat.le_of_ble_eq_true rfl)) d_m_run_31 (fun H locs hX hS => ?_)
    refine lv_istore (lv' := [(5, .int q31), (4, .int q24), (3, .int q18), (0, .ref (b + 262)), (1, .int x1), (2, .int x2)]) hx hb d_m_run_34 hl (by decide) rfl (fun ls hl => ?_)
    refine lv_aload_n hx hb d_m_run_36 rfl (lv_at hl 3 rfl) ?_
    refine lv_iload_n hx hb d_m_run_37 rfl (lv_at hl 2 rfl) ?_
    refine lv_iload hx hb d_m_run_38 (lv_at hl 1 rfl) ?_
    refine lv_iload hx hb d_m_run_40 (lv_at hl 0 rfl) ?_
    refine lv_iconst (v := 0) hx hb d_m_run_42 (by decide) ?_
    obtain ⟨q43, hc43, h⟩ := Option.bind_eq_some_iff.mp h
    refine ck_V (As := [.int q18, .int q24, .int q31, .int 0]) (rest := []) (st1 := [.int (bI q43.2)]) (M_m_isAllowed  hc43) t_1366 t_1368 p_75 t_1369 t_13 hx hb hts hown hC hX hS (hrc_m0 hC hX (by rfl)) hml hl.1 ⟨by rw [hRf]; decide, by rw [hRl]; decide⟩ ⟨rfl, rfl⟩ (n := 4) (by decide +kernel) rfl rfl rfl (lv_room (Nat.le_of_ble_eq_true rfl)) d_m_run_43 (fun H locs hX hS => ?_)
    refine lz_ifne hx hb d_m_run_46 (tgt := 56) (by decide) (fun hc => ?_) (fun hc => ?_)
    · rw [if_pos hc] at h
      refine lv_aload_n hx hb d_m_run_56 rfl (lv_at hl 3 rfl) ?_
      refine lv_iload_n hx hb d_m_run_57 rfl (lv_at hl 2 rfl) ?_
      refine lv_iload hx hb d_m_run_58 (lv_at hl 1 rfl) ?_
      refine lv_iload hx hb d_m_run_60 (lv_at hl 0 rfl) ?_
      refine lv_iload_n hx hb d_m_run_62 rfl (lv_at hl 2 rfl) ?_
      obtain ⟨q63, hc63, h⟩ := Option.bind_eq_some_iff.mp h
      refine ck_V (As := [.int q18, .int q24, .int q31, .int q18]) (rest := []) (st1 := [.int q63]) (M_m_moved  hc63) t_1374 t_1376 p_76 t_1377 t_13 hx hb hts hown hC hX hS (hrc_m0 hC hX (by rfl)) hml hl.1 ⟨by rw [hRf]; decide, by rw [hRl]; decide⟩ ⟨rfl, rfl⟩ (n := 4) (by decide +kernel) rfl rfl rfl (lv_room (Nat.le_of_ble_eq_true rfl)) d_m_run_63 (fun H locs hX hS => ?_)
      refine lv_istore (lv' := [(6, .int q63), (5, .int q31), (4, .int q24), (3, .int q18), (0, .ref (b + 262)), (1, .int x1), (2, .int x2)]) hx hb d_m_run_66 hl (by decide) rfl (fun ls hl => ?_)
      refine lv_iload hx hb d_m_run_68 (lv_at hl 0 rfl) ?_
      refine lv_iload_n hx hb d_m_run_70 rfl (lv_at hl 3 rfl) ?_
      have J95 : ∀ (S_95 : MS) (H : Heap) (locs : List Loc) (ls : Array Slot), hp D cA b ad (T, S_95, o) H → va_S (Ab b) s.heap H locs → lv_has ls 7 [(0, .ref (b + 262)), (1, .int x1), (6, .int q63)] → m_run_J95 x1 q63 S_95 = some rr → W p l e R s m args below meth c H locs 0 0 Q (F0 m 95 ls []) := by
        intro S_95 H locs ls  hX hS hl h
        rw [m_run_J95] at h
        refine lv_aload_n hx hb d_m_run_95 rfl (lv_at hl 0 rfl) ?_
        refine m_get_0_35 hx hb hts hown hC hX (by rfl) (hts _ t_1022) d_m_run_96 ?_
        refine lv_iload_n hx hb d_m_run_99 rfl (lv_at hl 1 rfl) ?_
        refine lv_aload_n hx hb d_m_run_100 rfl (lv_at hl 0 rfl) ?_
        refine m_get_0_14 hx hb hts hown hC hX (by rfl) (hts _ t_1001) d_m_run_101 ?_
        refine lv_bipush (v := 12) hx hb d_m_run_104 (by decide) ?_
        refine lv_aload_n hx hb d_m_run_106 rfl (lv_at hl 0 rfl) ?_
        refine m_get_0_12 hx hb hts hown hC hX (by rfl) (hts _ t_999) d_m_run_107 ?_
        refine lv_imul hx hb d_m_run_110 ?_
        refine lv_iload hx hb d_m_run_111 (lv_at hl 2 rfl) ?_
        refine lv_iadd hx hb d_m_run_113 ?_
        by_cases hg114 : inbd ((12 * (gI S_95 0 12)) + q63) 24 = true
        rotate_left; · rw [if_neg hg114] at h; cases h
        rw [if_pos hg114] at h
        refine m_ald_2 (k := 3) hx hb hC hX (by rfl) hg114 d_m_run_114 ?_
        by_cases hg115 : inbd x1 6 = true
        rotate_left; · rw [if_neg hg115] at h; cases h
        rw [if_pos hg115] at h
        refine m_ast_2 (k := 23) (v := (gL S_95 3 (txN ((12 * (gI S_95 0 12)) + q63)))) hx hb hC hX hS (by rfl) hg115 d_m_run_115 (fun H locs hX hS => ?_)
        obtain ⟨S115, e115, h⟩ := bd_some h
        rw [← e115] at hX
        refine lv_aload_n hx hb d_m_run_116 rfl (lv_at hl 0 rfl) ?_
        refine lv_iconst (v := 0) hx hb d_m_run_117 (by decide) ?_
        refine lv_iload hx hb d_m_run_118 (lv_at hl 2 rfl) ?_
        obtain ⟨q120, hc120, h⟩ := Option.bind_eq_some_iff.mp h
        refine ck_V (As := [.int 0, .int q63]) (rest := []) (st1 := [.int q120.2]) (M_m_give  hc120) t_1288 t_1290 p_66 t_1291 t_13 hx hb hts hown hC hX hS (hrc_m0 hC hX (by rfl)) hml hl.1 ⟨by rw [hRf]; decide, by rw [hRl]; decide⟩ ⟨rfl, rfl⟩ (n := 2) (by decide +kernel) rfl rfl rfl (lv_room (Nat.le_of_ble_eq_true rfl)) d_m_run_120 (fun H locs hX hS => ?_)
        obtain rfl := Option.some.inj h
        exact rt_i hQ hx hb hr hX hS hlk d_m_run_123
      refine lv_icmp_eq hx hb d_m_run_71 (tgt := 95) (by decide) (fun hc => ?_) (fun hc => ?_)
      · rw [if_pos hc] at h
        exact J95 q43.1 H locs ls  hX hS (lv_sub hl [4, 5, 0] rfl) h
      · rw [if_neg hc] at h
        refine lv_aload_n hx hb d_m_run_74 rfl (lv_at hl 4 rfl) ?_
        refine lv_iload hx hb d_m_run_75 (lv_at hl 0 rfl) ?_
        refine lv_iload hx hb d_m_run_77 (lv_at hl 2 rfl) ?_
        refine lv_iload hx hb d_m_run_79 (lv_at hl 1 rfl) ?_
        refine lv_iconst (v := 1) hx hb d_m_run_81 (by decide) ?_
        obtain ⟨q82, hc82, h⟩ := Option.bind_eq_some_iff.mp h
        refine ck_V (As := [.int q63, .int q24, .int q31, .int 1]) (rest := []) (st1 := [.int (bI q82.2)]) (M_m_isAllowed  hc82) t_1366 t_1368 p_75 t_1369 t_13 hx hb hts hown hC hX hS (hrc_m0 hC hX (by rfl)) hml hl.1 ⟨by rw [hRf]; decide, by rw [hRl]; decide⟩ ⟨rfl, rfl⟩ (n := 4) (by decide +kernel) rfl rfl rfl (lv_room (Nat.le_of_ble_eq_true rfl)) d_m_run_82 (fun H locs hX hS => ?_)
        refine lz_ifne hx hb d_m_run_85 (tgt := 95) (by decide) (fun hc => ?_) (fun hc => ?_)
        · rw [if_pos hc] at h
          exact J95 q82.1 H locs ls  hX hS (lv_sub hl [4, 5, 0] rfl) h
        · rw [if_neg hc] at h
          refine lv_aload_n hx hb d_m_run_88 rfl (lv_at hl 4 rfl) ?_
          refine lv_iconst (v := 2) hx hb d_m_run_89 (by decide) ?_
          refine lv_iconst (v := 0) hx hb d_m_run_90 (by decide) ?_
          obtain ⟨q91, hc91, h⟩ := Option.bind_eq_some_iff.mp h
          refine ck_V (As := [.int 2, .int 0]) (rest := []) (st1 := [.int q91.2]) (M_m_give  hc91) t_1288 t_1290 p_66 t_1291 t_13 hx hb hts hown hC hX hS (hrc_m0 hC hX (by rfl)) hml hl.1 ⟨by rw [hRf]; decide, by rw [hRl]; decide⟩ ⟨rfl, rfl⟩ (n := 2) (by decide +kernel) rfl rfl rfl (lv_room (Nat.le_of_ble_eq_true rfl)) d_m_run_91 (fun H locs hX hS => ?_)
          obtain rfl := Option.some.inj h
          exact rt_i hQ hx hb hr hX hS hlk d_m_run_94
    · rw [if_neg hc] at h
      refine lv_aload_n hx hb d_m_run_49 rfl (lv_at hl 3 rfl) ?_
      refine lv_iconst (v := 2) hx hb d_m_run_50 (by decide) ?_
      refine lv_iconst (v := 0) hx hb d_m_run_51 (by decide) ?_
      obtain ⟨q52, hc52, h⟩ := Option.bind_eq_some_iff.mp h
      refine ck_V (As := [.int 2, .int 0]) (rest := []) (st1 := [.int q52.2]) (M_m_give  hc52) t_1288 t_1290 p_66 t_1291 t_13 hx hb hts hown hC hX hS (hrc_m0 hC hX (by rfl)) hml hl.1 ⟨by rw [hRf]; decide, by rw [hRl]; decide⟩ ⟨rfl, rfl⟩ (n := 2) (by decide +kernel) rfl rfl rfl (lv_room (Nat.le_of_ble_eq_true rfl)) d_m_run_52 (fun H locs hX hS => ?_)
      obtain rfl := Option.some.inj h
      exact rt_i hQ hx hb hr hX hS hlk d_m_run_55
  · rw [if_pos hc] at h
    refine lv_aload_n hx hb d_m_run_9 rfl (lv_at hl 0 rfl) ?_
    refine lv_iconst (v := 1) hx hb d_m_run_10 (by decide) ?_
    refine lv_iconst (v := 0) hx hb d_m_run_11 (by decide) ?_
    obtain ⟨q12, hc12, h⟩ := Option.bind_eq_some_iff.mp h
    refine ck_V (As := [.int 1, .int 0]) (rest := []) (st1 := [.int q12.2]) (M_m_give  hc12) t_1288 t_1290 p_66 t_1291 t_13 hx hb hts hown hC hX hS (hrc_m0 hC hX (by rfl)) hml hl.1 ⟨by rw [hRf]; decide, by rw [hRl]; decide⟩ ⟨rfl, rfl⟩ (n := 2) (by decide +kernel) rfl rfl rfl (lv_room (Nat.le_of_ble_eq_true rfl)) d_m_run_12 (fun H locs hX hS => ?_)
    obtain rfl := Option.some.inj h
    exact rt_i hQ hx hb hr hX hS hlk d_m_run_15
abbrev y_m_make : MethodName := ({ cls := "TypeGuardModel", name := "make", desc := "(III)I" } : Jvm.MethodName)
theorem d_m_make_0 : decode prog_14_method_61_code 0 = .ok (.aload_n 0, 1) := by decide +kernel
theorem d_m_make_1 : decode prog_14_method_61_code 1 = .ok (.iload_n 1, 1) := by decide +kernel
theorem d_m_make_2 : decode prog_14_method_61_code 2 = .ok (.iload_n 2, 1) := by decide +kernel
theorem d_m_make_3 : decode prog_14_method_61_code 3 = .ok (.invokevirtual 334, 3) := by decide +kernel
theorem d_m_make_6 : decode prog_14_method_61_code 6 = .ok (.ifCond .ne 10, 3) := by decide +kernel
theorem d_m_make_9 : decode prog_14_method_61_code 9 = .ok (.iload_n 3, 1) := by decide +kernel
theorem d_m_make_10 : decode prog_14_method_61_code 10 = .ok (.invokestatic 306, 3) := by decide +kernel
theorem d_m_make_13 : decode prog_14_method_61_code 13 = .ok (.ifCond .ne 10, 3) := by decide +kernel
theorem d_m_make_16 : decode prog_14_method_61_code 16 = .ok (.aload_n 0, 1) := by decide +kernel
theorem d_m_make_17 : decode prog_14_method_61_code 17 = .ok (.iconst 1, 1) := by decide +kernel
theorem d_m_make_18 : decode prog_14_method_61_code 18 = .ok (.iconst 0, 1) := by decide +kernel
theorem d_m_make_19 : decode prog_14_method_61_code 19 = .ok (.invokevirtual 284, 3) := by decide +kernel
theorem d_m_make_22 : decode prog_14_method_61_code 22 = .ok (.ireturn, 1) := by decide +kernel
theorem d_m_make_23 : decode prog_14_method_61_code 23 = .ok (.aload_n 0, 1) := by decide +kernel
theorem d_m_make_24 : decode prog_14_method_61_code 24 = .ok (.iload_n 3, 1) := by decide +kernel
theorem d_m_make_25 : decode prog_14_method_61_code 25 = .ok (.invokevirtual 313, 3) := by decide +kernel
theorem d_m_make_28 : decode prog_14_method_61_code 28 = .ok (.ifCond .lt 10, 3) := by decide +kernel
theorem d_m_make_31 : decode prog_14_method_61_code 31 = .ok (.aload_n 0, 1) := by decide +kernel
theorem d_m_make_32 : decode prog_14_method_61_code 32 = .ok (.iconst 2, 1) := by decide +kernel
theorem d_m_make_33 : decode prog_14_method_61_code 33 = .ok (.iconst 0, 1) := by decide +kernel
theorem d_m_make_34 : decode prog_14_method_61_code 34 = .ok (.invokevirtual 284, 3) := by decide +kernel
theorem d_m_make_37 : decode prog_14_method_61_code 37 = .ok (.ireturn, 1) := by decide +kernel
theorem d_m_make_38 : decode prog_14_method_61_code 38 = .ok (.aload_n 0, 1) := by decide +kernel
theorem d_m_make_39 : decode prog_14_method_61_code 39 = .ok (.iload_n 1, 1) := by decide +kernel
theorem d_m_make_40 : decode prog_14_method_61_code 40 = .ok (.invokevirtual 309, 3) := by decide +kernel
theorem d_m_make_43 : decode prog_14_method_61_code 43 = .ok (.istore 4, 2) := by decide +kernel
theorem d_m_make_45 : decode prog_14_method_61_code 45 = .ok (.aload_n 0, 1) := by decide +kernel
theorem d_m_make_46 : decode prog_14_method_61_code 46 = .ok (.iload_n 2, 1) := by decide +kernel
theorem d_m_make_47 : decode prog_14_method_61_code 47 = .ok (.invokevirtual 313, 3) := by decide +kernel
theorem d_m_make_50 : decode prog_14_method_61_code 50 = .ok (.istore 5, 2) := by decide +kernel
theorem d_m_make_52 : decode prog_14_method_61_code 52 = .ok (.aload_n 0, 1) := by decide +kernel
theorem d_m_make_53 : decode prog_14_method_61_code 53 = .ok (.iload_n 2, 1) := by decide +kernel
theorem d_m_make_54 : decode prog_14_method_61_code 54 = .ok (.invokevirtual 316, 3) := by decide +kernel
theorem d_m_make_57 : decode prog_14_method_61_code 57 = .ok (.istore 6, 2) := by decide +kernel
theorem d_m_make_59 : decode prog_14_method_61_code 59 = .ok (.aload_n 0, 1) := by decide +kernel
theorem d_m_make_60 : decode prog_14_method_61_code 60 = .ok (.iload 4, 2) := by decide +kernel
theorem d_m_make_62 : decode prog_14_method_61_code 62 = .ok (.iload 5, 2) := by decide +kernel
theorem d_m_make_64 : decode prog_14_method_61_code 64 = .ok (.iload 6, 2) := by decide +kernel
theorem d_m_make_66 : decode prog_14_method_61_code 66 = .ok (.iconst 2, 1) := by decide +kernel
theorem d_m_make_67 : decode prog_14_method_61_code 67 = .ok (.invokevirtual 338, 3) := by decide +kernel
theorem d_m_make_70 : decode prog_14_method_61_code 70 = .ok (.ifCond .ne 10, 3) := by decide +kernel
theorem d_m_make_73 : decode prog_14_method_61_code 73 = .ok (.aload_n 0, 1) := by decide +kernel
theorem d_m_make_74 : decode prog_14_method_61_code 74 = .ok (.iconst 2, 1) := by decide +kernel
theorem d_m_make_75 : decode prog_14_method_61_code 75 = .ok (.iconst 0, 1) := by decide +kernel
theorem d_m_make_76 : decode prog_14_method_61_code 76 = .ok (.invokevirtual 284, 3) := by decide +kernel
theorem d_m_make_79 : decode prog_14_method_61_code 79 = .ok (.ireturn, 1) := by decide +kernel
theorem d_m_make_80 : decode prog_14_method_61_code 80 = .ok (.aload_n 0, 1) := by decide +kernel
theorem d_m_make_81 : decode prog_14_method_61_code 81 = .ok (.iload 4, 2) := by decide +kernel
theorem d_m_make_83 : decode prog_14_method_61_code 83 = .ok (.iload 5, 2) := by decide +kernel
theorem d_m_make_85 : decode prog_14_method_61_code 85 = .ok (.iload 6, 2) := by decide +kernel
theorem d_m_make_87 : decode prog_14_method_61_code 87 = .ok (.iload 5, 2) := by decide +kernel
theorem d_m_make_89 : decode prog_14_method_61_code 89 = .ok (.invokevirtual 342, 3) := by decide +kernel
theorem d_m_make_92 : decode prog_14_method_61_code 92 = .ok (.istore 7, 2) := by decide +kernel
theorem d_m_make_94 : decode prog_14_method_61_code 94 = .ok (.aload_n 0, 1) := by decide +kernel
theorem d_m_make_95 : decode prog_14_method_61_code 95 = .ok (.getfield 85, 3) := by decide +kernel
theorem d_m_make_98 : decode prog_14_method_61_code 98 = .ok (.iload_n 3, 1) := by decide +kernel
theorem d_m_make_99 : decode prog_14_method_61_code 99 = .ok (.aload_n 0, 1) := by decide +kernel
theorem d_m_make_100 : decode prog_14_method_61_code 100 = .ok (.getfield 20, 3) := by decide +kernel
theorem d_m_make_103 : decode prog_14_method_61_code 103 = .ok (.bipush 12, 2) := by decide +kernel
theorem d_m_make_105 : decode prog_14_method_61_code 105 = .ok (.aload_n 0, 1) := by decide +kernel
theorem d_m_make_106 : decode prog_14_method_61_code 106 = .ok (.getfield 154, 3) := by decide +kernel
theorem d_m_make_109 : decode prog_14_method_61_code 109 = .ok (.imul, 1) := by decide +kernel
theorem d_m_make_110 : decode prog_14_method_61_code 110 = .ok (.iload 7, 2) := by decide +kernel
theorem d_m_make_112 : decode prog_14_method_61_code 112 = .ok (.iadd, 1) := by decide +kernel
theorem d_m_make_113 : decode prog_14_method_61_code 113 = .ok (.laload, 1) := by decide +kernel
theorem d_m_make_114 : decode prog_14_method_61_code 114 = .ok (.lastore, 1) := by decide +kernel
theorem d_m_make_115 : decode prog_14_method_61_code 115 = .ok (.aload_n 0, 1) := by decide +kernel
theorem d_m_make_116 : decode prog_14_method_61_code 116 = .ok (.getfield 88, 3) := by decide +kernel
theorem d_m_make_119 : decode prog_14_method_61_code 119 = .ok (.iload_n 3, 1) := by decide +kernel
theorem d_m_make_120 : decode prog_14_method_61_code 120 = .ok (.aload_n 0, 1) := by decide +kernel
theorem d_m_make_121 : decode prog_14_method_61_code 121 = .ok (.getfield 27, 3) := by decide +kernel
theorem d_m_make_124 : decode prog_14_method_61_code 124 = .ok (.iconst 4, 1) := by decide +kernel
theorem d_m_make_125 : decode prog_14_method_61_code 125 = .ok (.aload_n 0, 1) := by decide +kernel
theorem d_m_make_126 : decode prog_14_method_61_code 126 = .ok (.getfield 154, 3) := by decide +kernel
theorem d_m_make_129 : decode prog_14_method_61_code 129 = .ok (.imul, 1) := by decide +kernel
theorem d_m_make_130 : decode prog_14_method_61_code 130 = .ok (.iload 6, 2) := by decide +kernel
theorem d_m_make_132 : decode prog_14_method_61_code 132 = .ok (.iadd, 1) := by decide +kernel
theorem d_m_make_133 : decode prog_14_method_61_code 133 = .ok (.laload, 1) := by decide +kernel
theorem d_m_make_134 : decode prog_14_method_61_code 134 = .ok (.lastore, 1) := by decide +kernel
theorem d_m_make_135 : decode prog_14_method_61_code 135 = .ok (.aload_n 0, 1) := by decide +kernel
theorem d_m_make_136 : decode prog_14_method_61_code 136 = .ok (.iconst 0, 1) := by decide +kernel
theorem d_m_make_137 : decode prog_14_method_61_code 137 = .ok (.iload 7, 2) := by decide +kernel
theorem d_m_make_139 : decode prog_14_method_61_code 139 = .ok (.invokevirtual 284, 3) := by decide +kernel
theorem d_m_make_142 : decode prog_14_method_61_code 142 = .ok (.ireturn, 1) := by decide +kernel
def m_make_J16 (S_16 : MS) : Option (MS × Int32) := ((m_give 1 0 S_16).bind fun q19 => some (q19.1, q19.2))
def m_make (x1 : Int32) (x2 : Int32) (x3 : Int32) (S : MS) : Option (MS × Int32) := ((m_cannotAsk x1 x2 S).bind fun q3 => (if q3 = true then m_make_J16 S else ((m_isObject x3).bind fun q10 => (if q10 = true then ((m_typeAt x3 S).bind fun q25 => (if q25 < 0 then ((m_processType x1 S).bind fun q40 => ((m_typeAt x2 S).bind fun q47 => ((m_classAt x2 S).bind fun q54 => ((m_isAllowed q40 q47 q54 2 S).bind fun q67 => (if q67.2 = true then ((m_moved q40 q47 q54 q47 q67.1).bind fun q89 => (if inbd ((12 * (gI q67.1 0 12)) + q89) 24 = true then (if inbd x3 10 = true then (bd (pL q67.1 24 (txN x3) (gL q67.1 3 (txN ((12 * (gI q67.1 0 12)) + q89)))) fun S114 => (if inbd ((4 * (gI S114 0 12)) + q54) 8 = true then (if inbd x3 10 = true then (bd (pL S114 25 (txN x3) (gL S114 5 (txN ((4 * (gI S114 0 12)) + q54)))) fun S134 => ((m_give 0 q89 S134).bind fun q139 => some (q139.1, q139.2))) else none) else none)) else none) else none)) else ((m_give 2 0 q67.1).bind fun q76 => some (q76.1, q76.2))))))) else ((m_give 2 0 S).bind fun q34 => some (q34.1, q34.2)))) else m_make_J16 S))))
set_option maxHeartbeats 4000000 in
set_option maxRecDepth 100000 in
theorem M_m_make {l : Launch} {D : va_G} {cA : Nat → ClassId} {b : Nat} {ad : Nat → Nat} {x1 : Int32} {x2 : Int32} {x3 : Int32} {S : MS} {T : CS} {o : Nat → Int64} {rr : (MS × Int32)}  (h : m_make x1 x2 x3 S = some rr) : Met l y_m_make (Cond.code y_m_make prog_14_method_61_code 8 (Option.some Jvm.ClassFile.FieldType.int) :: TW) { frames := 4, cells := 0, slots := 0, locals := 91 } (va_Pc [.ref (b + 262), .int x1, .int x2, .int x3] (Rp D cA b ad (T, S, o))) (Qr D cA b ad (T, rr.1, o) (some (.int rr.2))) 0 0 (Ab b) := by
  refine Ct_of (by decide) (Nat.le_of_ble_eq_true rfl) ?_
  intro p e R s m args below meth c ls Q H locs hR hQ hx hb hts hown hml hr hlk hC hX hS hl
  have hRf : R.frames = 4 := by rw [hR]
  have hRl : R.locals = 91 := by rw [hR]
  have hown : s.vm.findClass "TypeGuardModel" = some m.cls := hown
  have hl : lv_has ls 8 [(0, .ref (b + 262)), (1, .int x1), (2, .int x2), (3, .int x3)] := hl
  rw [m_make] at h
  refine lv_aload_n hx hb d_m_make_0 rfl (lv_at hl 0 rfl) ?_
  refine lv_iload_n hx hb d_m_make_1 rfl (lv_at hl 1 rfl) ?_
  refine lv_iload_n hx hb d_m_make_2 rfl (lv_at hl 2 rfl) ?_
  obtain ⟨q3, hc3, h⟩ := Option.bind_eq_some_iff.mp h
  refine ck_V (As := [.int x1, .int x2]) (rest := []) (st1 := [.int (bI q3)]) (M_m_cannotAsk  hc3) t_1362 t_1364 p_74 t_1365 t_13 hx hb hts hown hC hX hS (hrc_m0 hC hX (by rfl)) hml hl.1 ⟨by rw [hRf]; decide, by rw [hRl]; decide⟩ ⟨rfl, rfl⟩ (n := 2) (by decide +kernel) rfl rfl rfl (lv_room (Nat.le_of_ble_eq_true rfl)) d_m_make_3 (fun H locs hX hS => ?_)
  have J16 : ∀  (H : Heap) (locs : List Loc) (ls : Array Slot), hp D cA b ad (T, S, o) H → va_S (Ab b) s.heap H locs → lv_has ls 8 [(0, .ref (b + 262))] → m_make_J16 S = some rr → W p l e R s m args below meth c H locs 0 0 Q (F0 m 16 ls []) := by
    intro  H locs ls  hX hS hl h
    rw [m_make_J16] at h
    refine lv_aload_n hx hb d_m_make_16 rfl (lv_at hl 0 rfl) ?_
    refine lv_iconst (v := 1) hx hb d_m_make_17 (by decide) ?_
    refine lv_iconst (v := 0) hx hb d_m_make_18 (by decide) ?_
    obtain ⟨q19, hc19, h⟩ := Option.bind_eq_some_iff.mp h
    refine ck_V (As := [.int 1, .int 0]) (rest := []) (st1 := [.int q19.2]) (M_m_give  hc19) t_1288 t_1290 p_66 t_1291 t_13 hx hb hts hown hC hX hS (hrc_m0 hC hX (by rfl)) hml hl.1 ⟨by rw [hRf]; decide, by rw [hRl]; decide⟩ ⟨rfl, rfl⟩ (n := 2) (by decide +kernel) rfl rfl rfl (lv_room (Nat.le_of_ble_eq_true rfl)) d_m_make_19 (fun H locs hX hS => ?_)
    obtain rfl := Option.some.inj h
    exact rt_i hQ hx hb hr hX hS hlk d_m_make_22
  refine lz_ifne hx hb d_m_make_6 (tgt := 16) (by decide) (fun hc => ?_) (fun hc => ?_)
  · rw [if_pos hc] at h
    exact J16  H locs ls  hX hS (lv_sub hl [0] rfl) h
  · rw [if_neg hc] at h
    refine lv_iload_n hx hb d_m_make_9 rfl (lv_at hl 3 rfl) ?_
    obtain ⟨q10, hc10, h⟩ := Option.bind_eq_some_iff.mp h
    refine ck_S (As := [.int x3]) (rest := []) (st1 := [.int (bI q10)]) (M_m_isObject  hc10) t_1339 t_1340 t_1341 t_13 hx hb hts hown hC hX hS  hml hl.1 ⟨by rw [hRf]; decide, by rw [hRl]; decide⟩ ⟨rfl, rfl⟩ (n := 1) (by decide +kernel) rfl rfl rfl (lv_room (Nat.le_of_ble_eq_true rfl)) d_m_make_10 (fun H locs hX hS => ?_)
    refine lz_ifne hx hb d_m_make_13 (tgt := 23) (by decide) (fun hc => ?_) (fun hc => ?_)
    · rw [if_pos hc] at h
      refine lv_aload_n hx hb d_m_make_23 rfl (lv_at hl 0 rfl) ?_
      refine lv_iload_n hx hb d_m_make_24 rfl (lv_at hl 3 rfl) ?_
      obtain ⟨q25, hc25, h⟩ := Option.bind_eq_some_iff.mp h
      refine ck_V (As := [.int x3]) (rest := []) (st1 := [.int q25]) (M_m_typeAt  hc25) t_1350 t_1352 p_72 t_1353 t_13 hx hb hts hown hC hX hS (hrc_m0 hC hX (by rfl)) hml hl.1 ⟨by rw [hRf]; decide, by rw [hRl]; decide⟩ ⟨rfl, rfl⟩ (n := 1) (by decide +kernel) rfl rfl rfl (lv_room (Nat.le_of_ble_eq_true rfl)) d_m_make_25 (fun H locs hX hS => ?_)
      refine lv_if_lt hx hb d_m_make_28 (tgt := 38) (by decide) (fun hc => ?_) (fun hc => ?_)
      · rw [if_pos hc] at h
        refine lv_aload_n hx hb d_m_make_38 rfl (lv_at hl 0 rfl) ?_
        refine lv_iload_n hx hb d_m_make_39 rfl (lv_at hl 1 rfl) ?_
        obtain ⟨q40, hc40, h⟩ := Option.bind_eq_some_iff.mp h
        refine ck_V (As := [.int x1]) (rest := []) (st1 := [.int q40]) (M_m_processType  hc40) t_1346 t_1348 p_71 t_1349 t_13 hx hb hts hown hC hX hS (hrc_m0 hC hX (by rfl)) hml hl.1 ⟨by rw [hRf]; decide, by rw [hRl]; decide⟩ ⟨rfl, rfl⟩ (n := 1) (by decide +kernel) rfl rfl rfl (lv_room (Nat.le_of_ble_eq_true rfl)) d_m_make_40 (fun H locs hX hS => ?_)
        refine lv_istore (lv' := [(4, .int q40), (0, .ref (b + 262)), (1, .int x1), (2, .int x2), (3, .int x3)]) hx hb d_m_make_43 hl (by decide) rfl (fun ls hl => ?_)
        refine lv_aload_n hx hb d_m_make_45 rfl (lv_at hl 1 rfl) ?_
        refine lv_iload_n hx hb d_m_make_46 rfl (lv_at hl 3 rfl) ?_
        obtain ⟨q47, hc47, h⟩ := Option.bind_eq_some_iff.mp h
        refine ck_V (As := [.int x2]) (rest := []) (st1 := [.int q47]) (M_m_typeAt  hc47) t_1350 t_1352 p_72 t_1353 t_13 hx hb hts hown hC hX hS (hrc_m0 hC hX (by rfl)) hml hl.1 ⟨by rw [hRf]; decide, by rw [hRl]; decide⟩ ⟨rfl, rfl⟩ (n := 1) (by decide +kernel) rfl rfl rfl (lv_room (Nat.le_of_ble_eq_true rfl)) d_m_make_47 (fun H locs hX hS => ?_)
        refine lv_istore (lv' := [(5, .int q47), (4, .int q40), (0, .ref (b + 262)), (1, .int x1), (2, .int x2), (3, .int x3)]) hx hb d_m_make_50 hl (by decide) rfl (fun ls hl => ?_)
        refine lv_aload_n hx hb d_m_make_52 rfl (lv_at hl 2 rfl) ?_
        refine lv_iload_n hx hb d_m_make_53 rfl (lv_at hl 4 rfl) ?_
        obtain ⟨q54, hc54, h⟩ := Option.bind_eq_some_iff.mp h
        refine ck_V (As := [.int x2]) (rest := []) (st1 := [.int q54]) (M_m_classAt  hc54) t_1354 t_1356 p_73 t_1357 t_13 hx hb hts hown hC hX hS (hrc_m0 hC hX (by rfl)) hml hl.1 ⟨by rw [hRf]; decide, by rw [hRl]; decide⟩ ⟨rfl, rfl⟩ (n := 1) (by decide +kernel) rfl rfl rfl (lv_room (Nat.le_of_ble_eq_true rfl)) d_m_make_54 (fun H locs hX hS => ?_)
        refine lv_istore (lv' := [(6, .int q54), (5, .int q47), (4, .int q40), (0, .ref (b + 262)), (1, .int x1), (2, .int x2), (3, .int x3)]) hx hb d_m_make_57 hl (by decide) rfl (fun ls hl => ?_)
        refine lv_aload_n hx hb d_m_make_59 rfl (lv_at hl 3 rfl) ?_
        refine lv_iload hx hb d_m_make_60 (lv_at hl 2 rfl) ?_
        refine lv_iload hx hb d_m_make_62 (lv_at hl 1 rfl) ?_
        refine lv_iload hx hb d_m_make_64 (lv_at hl 0 rfl) ?_
        refine lv_iconst (v := 2) hx hb d_m_make_66 (by decide) ?_
        obtain ⟨q67, hc67, h⟩ := Option.bind_eq_some_iff.mp h
        refine ck_V (As := [.int q40, .int q47, .int q54, .int 2]) (rest := []) (st1 := [.int (bI q67.2)]) (M_m_isAllowed  hc67) t_1366 t_1368 p_75 t_1369 t_13 hx hb hts hown hC hX hS (hrc_m0 hC hX (by rfl)) hml hl.1 ⟨by rw [hRf]; decide, by rw [hRl]; decide⟩ ⟨rfl, rfl⟩ (n := 4) (by decide +kernel) rfl rfl rfl (lv_room (Nat.le_of_ble_eq_true rfl)) d_m_make_67 (fun H locs hX hS => ?_)
        refine lz_ifne hx hb d_m_make_70 (tgt := 80) (by decide) (fun hc => ?_) (fun hc => ?_)
        · rw [if_pos hc] at h
          refine lv_aload_n hx hb d_m_make_80 rfl (lv_at hl 3 rfl) ?_
          refine lv_iload hx hb d_m_make_81 (lv_at hl 2 rfl) ?_
          refine lv_iload hx hb d_m_make_83 (lv_at hl 1 rfl) ?_
          refine lv_iload hx hb d_m_make_85 (lv_at hl 0 rfl) ?_
          refine lv_iload hx hb d_m_make_87 (lv_at hl 1 rfl) ?_
          obtain ⟨q89, hc89, h⟩ := Option.bind_eq_some_iff.mp h
          refine ck_V (As := [.int q40, .int q47, .int q54, .int q47]) (rest := []) (st1 := [.int q89]) (M_m_moved  hc89) t_1374 t_1376 p_76 t_1377 t_13 hx hb hts hown hC hX hS (hrc_m0 hC hX (by rfl)) hml hl.1 ⟨by rw [hRf]; decide, by rw [hRl]; decide⟩ ⟨rfl, rfl⟩ (n := 4) (by decide +kernel) rfl rfl rfl (lv_room (Nat.le_of_ble_eq_true rfl)) d_m_make_89 (fun H locs hX hS => ?_)
          refine lv_istore (lv' := [(7, .int q89), (6, .int q54), (5, .int q47), (4, .int q40), (0, .ref (b + 262)), (1, .int x1), (2, .int x2), (3, .int x3)]) hx hb d_m_make_92 hl (by decide) rfl (fun ls hl => ?_)
          refine lv_aload_n hx hb d_m_make_94 rfl (lv_at hl 4 rfl) ?_
          refine m_get_0_36 hx hb hts hown hC hX (by rfl) (hts _ t_1023) d_m_make_95 ?_
          refine lv_iload_n hx hb d_m_make_98 rfl (lv_at hl 7 rfl) ?_
          refine lv_aload_n hx hb d_m_make_99 rfl (lv_at hl 4 rfl) ?_
          refine m_get_0_14 hx hb hts hown hC hX (by rfl) (hts _ t_1001) d_m_make_100 ?_
          refine lv_bipush (v := 12) hx hb d_m_make_103 (by decide) ?_
          refine lv_aload_n hx hb d_m_make_105 rfl (lv_at hl 4 rfl) ?_
          refine m_get_0_12 hx hb hts hown hC hX (by rfl) (hts _ t_999) d_m_make_106 ?_
          refine lv_imul hx hb d_m_make_109 ?_
          refine lv_iload hx hb d_m_make_110 (lv_at hl 0 rfl) ?_
          refine lv_iadd hx hb d_m_make_112 ?_
          by_cases hg113 : inbd ((12 * (gI q67.1 0 12)) + q89) 24 = true
          rotate_left; · rw [if_neg hg113] at h; cases h
          rw [if_pos hg113] at h
          refine m_ald_2 (k := 3) hx hb hC hX (by rfl) hg113 d_m_make_113 ?_
          by_cases hg114 : inbd x3 10 = true
          rotate_left; · rw [if_neg hg114] at h; cases h
          rw [if_pos hg114] at h
          refine m_ast_2 (k := 24) (v := (gL q67.1 3 (txN ((12 * (gI q67.1 0 12)) + q89)))) hx hb hC hX hS (by rfl) hg114 d_m_make_114 (fun H locs hX hS => ?_)
          obtain ⟨S114, e114, h⟩ := bd_some h
          rw [← e114] at hX
          refine lv_aload_n hx hb d_m_make_115 rfl (lv_at hl 4 rfl) ?_
          refine m_get_0_37 hx hb hts hown hC hX (by rfl) (hts _ t_1024) d_m_make_116 ?_
          refine lv_iload_n hx hb d_m_make_119 rfl (lv_at hl 7 rfl) ?_
          refine lv_aload_n hx hb d_m_make_120 rfl (lv_at hl 4 rfl) ?_
          refine m_get_0_16 hx hb hts hown hC hX (by rfl) (hts _ t_1003) d_m_make_121 ?_
          refine lv_iconst (v := 4) hx hb d_m_make_124 (by decide) ?_
          refine lv_aload_n hx hb d_m_make_125 rfl (lv_at hl 4 rfl) ?_
          refine m_get_0_12 hx hb hts hown hC hX (by rfl) (hts _ t_999) d_m_make_126 ?_
          refine lv_imul hx hb d_m_make_129 ?_
          refine lv_iload hx hb d_m_make_130 (lv_at hl 1 rfl) ?_
          refine lv_iadd hx hb d_m_make_132 ?_
          by_cases hg133 : inbd ((4 * (gI S114 0 12)) + q54) 8 = true
          rotate_left; · rw [if_neg hg133] at h; cases h
          rw [if_pos hg133] at h
          refine m_ald_2 (k := 5) hx hb hC hX (by rfl) hg133 d_m_make_133 ?_
          by_cases hg134 : inbd x3 10 = true
          rotate_left; · rw [if_neg hg134] at h; cases h
          rw [if_pos hg134] at h
          refine m_ast_2 (k := 25) (v := (gL S114 5 (txN ((4 * (gI S114 0 12)) + q54)))) hx hb hC hX hS (by rfl) hg134 d_m_make_134 (fun H locs hX hS => ?_)
          obtain ⟨S134, e134, h⟩ := bd_some h
          rw [← e134] at hX
          refine lv_aload_n hx hb d_m_make_135 rfl (lv_at hl 4 rfl) ?_
          refine lv_iconst (v := 0) hx hb d_m_make_136 (by decide) ?_
          refine lv_iload hx hb d_m_make_137 (lv_at hl 0 rfl) ?_
          obtain ⟨q139, hc139, h⟩ := Option.bind_eq_some_iff.mp h
          refine ck_V (As := [.int 0, .int q89]) (rest := []) (st1 := [.int q139.2]) (M_m_give  hc139) t_1288 t_1290 p_66 t_1291 t_13 hx hb hts hown hC hX hS (hrc_m0 hC hX (by rfl)) hml hl.1 ⟨by rw [hRf]; decide, by rw [hRl]; decide⟩ ⟨rfl, rfl⟩ (n := 2) (by decide +kernel) rfl rfl rfl (lv_room (Nat.le_of_ble_eq_true rfl)) d_m_make_139 (fun H locs hX hS => ?_)
          obtain rfl := Option.some.inj h
          exact rt_i hQ hx hb hr hX hS hlk d_m_make_142
        · rw [if_neg hc] at h
          refine lv_aload_n hx hb d_m_make_73 rfl (lv_at hl 3 rfl) ?_
          refine lv_iconst (v := 2) hx hb d_m_make_74 (by decide) ?_
          refine lv_iconst (v := 0) hx hb d_m_make_75 (by decide) ?_
          obtain ⟨q76, hc76, h⟩ := Option.bind_eq_some_iff.mp h
          refine ck_V (As := [.int 2, .int 0]) (rest := []) (st1 := [.int q76.2]) (M_m_give  hc76) t_1288 t_1290 p_66 t_1291 t_13 hx hb hts hown hC hX hS (hrc_m0 hC hX (by rfl)) hml hl.1 ⟨by rw [hRf]; decide, by rw [hRl]; decide⟩ ⟨rfl, rfl⟩ (n := 2) (by decide +kernel) rfl rfl rfl (lv_room (Nat.le_of_ble_eq_true rfl)) d_m_make_76 (fun H locs hX hS => ?_)
          obtain rfl := Option.some.inj h
          exact rt_i hQ hx hb hr hX hS hlk d_m_make_79
      · rw [if_neg hc] at h
        refine lv_aload_n hx hb d_m_make_31 rfl (lv_at hl 0 rfl) ?_
        refine lv_iconst (v := 2) hx hb d_m_make_32 (by decide) ?_
        refine lv_iconst (v := 0) hx hb d_m_make_33 (by decide) ?_
        obtain ⟨q34, hc34, h⟩ := Option.bind_eq_some_iff.mp h
        refine ck_V (As := [.int 2, .int 0]) (rest := []) (st1 := [.int q34.2]) (M_m_give  hc34) t_1288 t_1290 p_66 t_1291 t_13 hx hb hts hown hC hX hS (hrc_m0 hC hX (by rfl)) hml hl.1 ⟨by rw [hRf]; decide, by rw [hRl]; decide⟩ ⟨rfl, rfl⟩ (n := 2) (by decide +kernel) rfl rfl rfl (lv_room (Nat.le_of_ble_eq_true rfl)) d_m_make_34 (fun H locs hX hS => ?_)
        obtain rfl := Option.some.inj h
        exact rt_i hQ hx hb hr hX hS hlk d_m_make_37
    · rw [if_neg hc] at h
      exact J16  H locs ls  hX hS (lv_sub hl [0] rfl) h
abbrev y_m_cache : MethodName := ({ cls := "TypeGuardModel", name := "cache", desc := "(I)I" } : Jvm.MethodName)
theorem d_m_cache_0 : decode prog_14_method_62_code 0 = .ok (.aload_n 0, 1) := by decide +kernel
theorem d_m_cache_1 : decode prog_14_method_62_code 1 = .ok (.iconst 0, 1) := by decide +kernel
theorem d_m_cache_2 : decode prog_14_method_62_code 2 = .ok (.putfield 106, 3) := by decide +kernel
theorem d_m_cache_5 : decode prog_14_method_62_code 5 = .ok (.iconst 0, 1) := by decide +kernel
theorem d_m_cache_6 : decode prog_14_method_62_code 6 = .ok (.istore_n 2, 1) := by decide +kernel
theorem d_m_cache_7 : decode prog_14_method_62_code 7 = .ok (.iconst 0, 1) := by decide +kernel
theorem d_m_cache_8 : decode prog_14_method_62_code 8 = .ok (.istore_n 3, 1) := by decide +kernel
theorem d_m_cache_9 : decode prog_14_method_62_code 9 = .ok (.iload_n 3, 1) := by decide +kernel
theorem d_m_cache_10 : decode prog_14_method_62_code 10 = .ok (.aload_n 0, 1) := by decide +kernel
theorem d_m_cache_11 : decode prog_14_method_62_code 11 = .ok (.getfield 319, 3) := by decide +kernel
theorem d_m_cache_14 : decode prog_14_method_62_code 14 = .ok (.if_icmp .ge 30, 3) := by decide +kernel
theorem d_m_cache_17 : decode prog_14_method_62_code 17 = .ok (.iload_n 2, 1) := by decide +kernel
theorem d_m_cache_18 : decode prog_14_method_62_code 18 = .ok (.aload_n 0, 1) := by decide +kernel
theorem d_m_cache_19 : decode prog_14_method_62_code 19 = .ok (.getfield 94, 3) := by decide +kernel
theorem d_m_cache_22 : decode prog_14_method_62_code 22 = .ok (.iload_n 3, 1) := by decide +kernel
theorem d_m_cache_23 : decode prog_14_method_62_code 23 = .ok (.iaload, 1) := by decide +kernel
theorem d_m_cache_24 : decode prog_14_method_62_code 24 = .ok (.aload_n 0, 1) := by decide +kernel
theorem d_m_cache_25 : decode prog_14_method_62_code 25 = .ok (.getfield 287, 3) := by decide +kernel
theorem d_m_cache_28 : decode prog_14_method_62_code 28 = .ok (.if_icmp .ne 7, 3) := by decide +kernel
theorem d_m_cache_31 : decode prog_14_method_62_code 31 = .ok (.iconst 1, 1) := by decide +kernel
theorem d_m_cache_32 : decode prog_14_method_62_code 32 = .ok (.goto 4, 3) := by decide +kernel
theorem d_m_cache_35 : decode prog_14_method_62_code 35 = .ok (.iconst 0, 1) := by decide +kernel
theorem d_m_cache_36 : decode prog_14_method_62_code 36 = .ok (.iadd, 1) := by decide +kernel
theorem d_m_cache_37 : decode prog_14_method_62_code 37 = .ok (.istore_n 2, 1) := by decide +kernel
theorem d_m_cache_38 : decode prog_14_method_62_code 38 = .ok (.iinc 3 1, 3) := by decide +kernel
theorem d_m_cache_41 : decode prog_14_method_62_code 41 = .ok (.goto (-32), 3) := by decide +kernel
theorem d_m_cache_44 : decode prog_14_method_62_code 44 = .ok (.iload_n 1, 1) := by decide +kernel
theorem d_m_cache_45 : decode prog_14_method_62_code 45 = .ok (.ifCond .ne 10, 3) := by decide +kernel
theorem d_m_cache_48 : decode prog_14_method_62_code 48 = .ok (.aload_n 0, 1) := by decide +kernel
theorem d_m_cache_49 : decode prog_14_method_62_code 49 = .ok (.getfield 322, 3) := by decide +kernel
theorem d_m_cache_52 : decode prog_14_method_62_code 52 = .ok (.goto 49, 3) := by decide +kernel
theorem d_m_cache_55 : decode prog_14_method_62_code 55 = .ok (.iload_n 1, 1) := by decide +kernel
theorem d_m_cache_56 : decode prog_14_method_62_code 56 = .ok (.iconst 1, 1) := by decide +kernel
theorem d_m_cache_57 : decode prog_14_method_62_code 57 = .ok (.if_icmp .ne 10, 3) := by decide +kernel
theorem d_m_cache_60 : decode prog_14_method_62_code 60 = .ok (.aload_n 0, 1) := by decide +kernel
theorem d_m_cache_61 : decode prog_14_method_62_code 61 = .ok (.getfield 325, 3) := by decide +kernel
theorem d_m_cache_64 : decode prog_14_method_62_code 64 = .ok (.goto 37, 3) := by decide +kernel
theorem d_m_cache_67 : decode prog_14_method_62_code 67 = .ok (.iload_n 1, 1) := by decide +kernel
theorem d_m_cache_68 : decode prog_14_method_62_code 68 = .ok (.iconst 2, 1) := by decide +kernel
theorem d_m_cache_69 : decode prog_14_method_62_code 69 = .ok (.if_icmp .ne 10, 3) := by decide +kernel
theorem d_m_cache_72 : decode prog_14_method_62_code 72 = .ok (.aload_n 0, 1) := by decide +kernel
theorem d_m_cache_73 : decode prog_14_method_62_code 73 = .ok (.getfield 319, 3) := by decide +kernel
theorem d_m_cache_76 : decode prog_14_method_62_code 76 = .ok (.goto 25, 3) := by decide +kernel
theorem d_m_cache_79 : decode prog_14_method_62_code 79 = .ok (.iload_n 1, 1) := by decide +kernel
theorem d_m_cache_80 : decode prog_14_method_62_code 80 = .ok (.iconst 3, 1) := by decide +kernel
theorem d_m_cache_81 : decode prog_14_method_62_code 81 = .ok (.if_icmp .ne 7, 3) := by decide +kernel
theorem d_m_cache_84 : decode prog_14_method_62_code 84 = .ok (.iload_n 2, 1) := by decide +kernel
theorem d_m_cache_85 : decode prog_14_method_62_code 85 = .ok (.goto 16, 3) := by decide +kernel
theorem d_m_cache_88 : decode prog_14_method_62_code 88 = .ok (.iload_n 1, 1) := by decide +kernel
theorem d_m_cache_89 : decode prog_14_method_62_code 89 = .ok (.iconst 4, 1) := by decide +kernel
theorem d_m_cache_90 : decode prog_14_method_62_code 90 = .ok (.if_icmp .ne 10, 3) := by decide +kernel
theorem d_m_cache_93 : decode prog_14_method_62_code 93 = .ok (.aload_n 0, 1) := by decide +kernel
theorem d_m_cache_94 : decode prog_14_method_62_code 94 = .ok (.getfield 331, 3) := by decide +kernel
theorem d_m_cache_97 : decode prog_14_method_62_code 97 = .ok (.goto 4, 3) := by decide +kernel
theorem d_m_cache_100 : decode prog_14_method_62_code 100 = .ok (.iconst (-1), 1) := by decide +kernel
theorem d_m_cache_101 : decode prog_14_method_62_code 101 = .ok (.ireturn, 1) := by decide +kernel
def m_cache_L9 (v1_9 : Int32) (S_9 : MS) : Nat → Int32 → Int32 → Option (MS × Int32)
  | 0, _, _ => none
  | n + 1, v2_9, v3_9 => (if (gI S_9 0 42) ≤ v3_9 then (if v1_9 = 0 then some (S_9, (gI S_9 0 44)) else (if v1_9 = 1 then some (S_9, (gI S_9 0 45)) else (if v1_9 = 2 then some (S_9, (gI S_9 0 42)) else (if v1_9 = 3 then some (S_9, v2_9) else (if v1_9 = 4 then some (S_9, (gI S_9 0 46)) else some (S_9, (-1))))))) else (if inbd v3_9 6 = true then (if (gI S_9 27 (txN v3_9)) = (gI S_9 0 34) then (bd ((v2_9 + 1)) fun a37 => (bd ((v3_9 + 1)) fun a38 => (m_cache_L9 v1_9 S_9 n) a37 a38)) else (bd ((v2_9 + 0)) fun a37 => (bd ((v3_9 + 1)) fun a38 => (m_cache_L9 v1_9 S_9 n) a37 a38))) else none))
def m_cache (x1 : Int32) (S : MS) : Option (MS × Int32) := (bd (pI S 0 0 0) fun S2 => m_cache_L9 x1 S2 600 0 0)
set_option maxHeartbeats 4000000 in
set_option maxRecDepth 100000 in
theorem M_m_cache {l : Launch} {D : va_G} {cA : Nat → ClassId} {b : Nat} {ad : Nat → Nat} {x1 : Int32} {S : MS} {T : CS} {o : Nat → Int64} {rr : (MS × Int32)}  (h : m_cache x1 S = some rr) : Met l y_m_cache (Cond.code y_m_cache prog_14_method_62_code 4 (Option.some Jvm.ClassFile.FieldType.int) :: TW) { frames := 0, cells := 0, slots := 0, locals := 0 } (va_Pc [.ref (b + 262), .int x1] (Rp D cA b ad (T, S, o))) (Qr D cA b ad (T, rr.1, o) (some (.int rr.2))) 0 0 (Ab b) := by
  refine Ct_of (by decide) (Nat.le_of_ble_eq_true rfl) ?_
  intro p e R s m args below meth c ls Q H locs hR hQ hx hb hts hown hml hr hlk hC hX hS hl
  have hRf : R.frames = 0 := by rw [hR]
  have hRl : R.locals = 0 := by rw [hR]
  have hown : s.vm.findClass "TypeGuardModel" = some m.cls := hown
  have hl : lv_has ls 4 [(0, .ref (b + 262)), (1, .int x1)] := hl
  rw [m_cache] at h
  refine lv_aload_n hx hb d_m_cache_0 rfl (lv_at hl 0 rfl) ?_
  refine lv_iconst (v := 0) hx hb d_m_cache_1 (by decide) ?_
  refine m_put_0_0 (v := 0) hx hb hts hown hC hX hS (by rfl) (hts _ t_987) d_m_cache_2 (fun H locs hX hS => ?_)
  obtain ⟨S2, e2, h⟩ := bd_some h
  rw [← e2] at hX
  refine lv_iconst (v := 0) hx hb d_m_cache_5 (by decide) ?_
  refine lv_istore_n (lv' := [(2, .int 0), (0, .ref (b + 262)), (1, .int x1)]) hx hb d_m_cache_6 rfl hl (by decide) rfl (fun ls hl => ?_)
  refine lv_iconst (v := 0) hx hb d_m_cache_7 (by decide) ?_
  refine lv_istore_n (lv' := [(3, .int 0), (2, .int 0), (0, .ref (b + 262)), (1, .int x1)]) hx hb d_m_cache_8 rfl hl (by decide) rfl (fun ls hl => ?_)
  have L9 : ∀ (n9 : Nat) (v2_9 : Int32) (v3_9 : Int32) (H : Heap) (locs : List Loc) (ls : Array Slot), hp D cA b ad (T, S2, o) H → va_S (Ab b) s.heap H locs → lv_has ls 4 [(0, .ref (b + 262)), (1, .int x1), (2, .int v2_9), (3, .int v3_9)] → m_cache_L9 x1 S2 n9 v2_9 v3_9 = some rr → W p l e R s m args below meth c H locs 0 0 Q (F0 m 9 ls []) := by
    intro n9; induction n9 with
    | zero => intro v2_9 v3_9 H locs ls  hX hS hl h; rw [m_cache_L9] at h; cases h
    | succ n9 ih9 =>
      intro v2_9 v3_9 H locs ls  hX hS hl h
      rw [m_cache_L9] at h
      refine lv_iload_n hx hb d_m_cache_9 rfl (lv_at hl 3 rfl) ?_
      refine lv_aload_n hx hb d_m_cache_10 rfl (lv_at hl 0 rfl) ?_
      refine m_get_0_42 hx hb hts hown hC hX (by rfl) (hts _ t_1029) d_m_cache_11 ?_
      refine lv_icmp_ge hx hb d_m_cache_14 (tgt := 44) (by decide) (fun hc => ?_) (fun hc => ?_)
      · rw [if_pos hc] at h
        refine lv_iload_n hx hb d_m_cache_44 rfl (lv_at hl 1 rfl) ?_
        refine lv_if_ne hx hb d_m_cache_45 (tgt := 55) (by decide) (fun hc => ?_) (fun hc => ?_)
        · rw [if_neg hc] at h
          refine lv_iload_n hx hb d_m_cache_55 rfl (lv_at hl 1 rfl) ?_
          refine lv_iconst (v := 1) hx hb d_m_cache_56 (by decide) ?_
          refine lv_icmp_ne hx hb d_m_cache_57 (tgt := 67) (by decide) (fun hc => ?_) (fun hc => ?_)
          · rw [if_neg hc] at h
            refine lv_iload_n hx hb d_m_cache_67 rfl (lv_at hl 1 rfl) ?_
            refine lv_iconst (v := 2) hx hb d_m_cache_68 (by decide) ?_
            refine lv_icmp_ne hx hb d_m_cache_69 (tgt := 79) (by decide) (fun hc => ?_) (fun hc => ?_)
            · rw [if_neg hc] at h
              refine lv_iload_n hx hb d_m_cache_79 rfl (lv_at hl 1 rfl) ?_
              refine lv_iconst (v := 3) hx hb d_m_cache_80 (by decide) ?_
              refine lv_icmp_ne hx hb d_m_cache_81 (tgt := 88) (by decide) (fun hc => ?_) (fun hc => ?_)
              · rw [if_neg hc] at h
                refine lv_iload_n hx hb d_m_cache_88 rfl (lv_at hl 1 rfl) ?_
                refine lv_iconst (v := 4) hx hb d_m_cache_89 (by decide) ?_
                refine lv_icmp_ne hx hb d_m_cache_90 (tgt := 100) (by decide) (fun hc => ?_) (fun hc => ?_)
                · rw [if_neg hc] at h
                  refine lv_iconst (v := (-1)) hx hb d_m_cache_100 (by decide) ?_
                  obtain rfl := Option.some.inj h
                  exact rt_i hQ hx hb hr hX hS hlk d_m_cache_101
                · rw [if_pos hc] at h
                  refine lv_aload_n hx hb d_m_cache_93 rfl (lv_at hl 0 rfl) ?_
                  refine m_get_0_46 hx hb hts hown hC hX (by rfl) (hts _ t_1033) d_m_cache_94 ?_
                  refine lv_goto hx hb d_m_cache_97 (tgt := 101) (by decide) ?_
                  obtain rfl := Option.some.inj h
                  exact rt_i hQ hx hb hr hX hS hlk d_m_cache_101
              · rw [if_pos hc] at h
                refine lv_iload_n hx hb d_m_cache_84 rfl (lv_at hl 2 rfl) ?_
                refine lv_goto hx hb d_m_cache_85 (tgt := 101) (by decide) ?_
                obtain rfl := Option.some.inj h
                exact rt_i hQ hx hb hr hX hS hlk d_m_cache_101
            · rw [if_pos hc] at h
              refine lv_aload_n hx hb d_m_cache_72 rfl (lv_at hl 0 rfl) ?_
              refine m_get_0_42 hx hb hts hown hC hX (by rfl) (hts _ t_1029) d_m_cache_73 ?_
              refine lv_goto hx hb d_m_cache_76 (tgt := 101) (by decide) ?_
              obtain rfl := Option.some.inj h
              exact rt_i hQ hx hb hr hX hS hlk d_m_cache_101
          · rw [if_pos hc] at h
            refine lv_aload_n hx hb d_m_cache_60 rfl (lv_at hl 0 rfl) ?_
            refine m_get_0_45 hx hb hts hown hC hX (by rfl) (hts _ t_1032) d_m_cache_61 ?_
            refine lv_goto hx hb d_m_cache_64 (tgt := 101) (by decide) ?_
            obtain rfl := Option.some.inj h
            exact rt_i hQ hx hb hr hX hS hlk d_m_cache_101
        · rw [if_pos hc] at h
          refine lv_aload_n hx hb d_m_cache_48 rfl (lv_at hl 0 rfl) ?_
          refine m_get_0_44 hx hb hts hown hC hX (by rfl) (hts _ t_1031) d_m_cache_49 ?_
          refine lv_goto hx hb d_m_cache_52 (tgt := 101) (by decide) ?_
          obtain rfl := Option.some.inj h
          exact rt_i hQ hx hb hr hX hS hlk d_m_cache_101
      · rw [if_neg hc] at h
        refine lv_iload_n hx hb d_m_cache_17 rfl (lv_at hl 2 rfl) ?_
        refine lv_aload_n hx hb d_m_cache_18 rfl (lv_at hl 0 rfl) ?_
        refine m_get_0_39 hx hb hts hown hC hX (by rfl) (hts _ t_1026) d_m_cache_19 ?_
        refine lv_iload_n hx hb d_m_cache_22 rfl (lv_at hl 3 rfl) ?_
        by_cases hg23 : inbd v3_9 6 = true
        rotate_left; · rw [if_neg hg23] at h; cases h
        rw [if_pos hg23] at h
        refine m_ald_1 (k := 27) hx hb hC hX (by rfl) hg23 d_m_cache_23 ?_
        refine lv_aload_n hx hb d_m_cache_24 rfl (lv_at hl 0 rfl) ?_
        refine m_get_0_34 hx hb hts hown hC hX (by rfl) (hts _ t_1021) d_m_cache_25 ?_
        refine lv_icmp_ne hx hb d_m_cache_28 (tgt := 35) (by decide) (fun hc => ?_) (fun hc => ?_)
        · rw [if_neg hc] at h
          refine lv_iconst (v := 0) hx hb d_m_cache_35 (by decide) ?_
          refine lv_iadd hx hb d_m_cache_36 ?_
          obtain ⟨a37, e37, h⟩ := bd_some h
          refine lt_I e37 ?_
          refine lv_istore_n (lv' := [(2, .int a37), (0, .ref (b + 262)), (1, .int x1), (3, .int v3_9)]) hx hb d_m_cache_37 rfl hl (by decide) rfl (fun ls hl => ?_)
          obtain ⟨a38, e38, h⟩ := bd_some h
          refine lv_iinc (v := a38) (lv' := [(3, .int a38), (2, .int a37), (0, .ref (b + 262)), (1, .int x1)]) hx hb d_m_cache_38 hl (k := 3) rfl e38.symm (by decide) rfl (fun ls hl => ?_)
          refine lv_goto hx hb d_m_cache_41 (tgt := 9) (by decide) ?_
          exact ih9 a37 a38 H locs ls  hX hS (lv_sub hl [2, 3, 1, 0] rfl) h
        · rw [if_pos hc] at h
          refine lv_iconst (v := 1) hx hb d_m_cache_31 (by decide) ?_
          refine lv_goto hx hb d_m_cache_32 (tgt := 36) (by decide) ?_
          refine lv_iadd hx hb d_m_cache_36 ?_
          obtain ⟨a37, e37, h⟩ := bd_some h
          refine lt_I e37 ?_
          refine lv_istore_n (lv' := [(2, .int a37), (0, .ref (b + 262)), (1, .int x1), (3, .int v3_9)]) hx hb d_m_cache_37 rfl hl (by decide) rfl (fun ls hl => ?_)
          obtain ⟨a38, e38, h⟩ := bd_some h
          refine lv_iinc (v := a38) (lv' := [(3, .int a38), (2, .int a37), (0, .ref (b + 262)), (1, .int x1)]) hx hb d_m_cache_38 hl (k := 3) rfl e38.symm (by decide) rfl (fun ls hl => ?_)
          refine lv_goto hx hb d_m_cache_41 (tgt := 9) (by decide) ?_
          exact ih9 a37 a38 H locs ls  hX hS (lv_sub hl [2, 3, 1, 0] rfl) h
  exact L9 600 0 0 H locs ls  hX hS (lv_sub hl [2, 3, 1, 0] rfl) h
abbrev y_m_note : MethodName := ({ cls := "TypeGuardModel", name := "note", desc := "(II)I" } : Jvm.MethodName)
theorem d_m_note_0 : decode prog_14_method_63_code 0 = .ok (.aload_n 0, 1) := by decide +kernel
theorem d_m_note_1 : decode prog_14_method_63_code 1 = .ok (.iconst 0, 1) := by decide +kernel
theorem d_m_note_2 : decode prog_14_method_63_code 2 = .ok (.putfield 106, 3) := by decide +kernel
theorem d_m_note_5 : decode prog_14_method_63_code 5 = .ok (.iload_n 1, 1) := by decide +kernel
theorem d_m_note_6 : decode prog_14_method_63_code 6 = .ok (.ifCond .lt 26, 3) := by decide +kernel
theorem d_m_note_9 : decode prog_14_method_63_code 9 = .ok (.iload_n 1, 1) := by decide +kernel
theorem d_m_note_10 : decode prog_14_method_63_code 10 = .ok (.bipush 7, 2) := by decide +kernel
theorem d_m_note_12 : decode prog_14_method_63_code 12 = .ok (.if_icmp .gt 20, 3) := by decide +kernel
theorem d_m_note_15 : decode prog_14_method_63_code 15 = .ok (.iload_n 1, 1) := by decide +kernel
theorem d_m_note_16 : decode prog_14_method_63_code 16 = .ok (.aload_n 0, 1) := by decide +kernel
theorem d_m_note_17 : decode prog_14_method_63_code 17 = .ok (.getfield 331, 3) := by decide +kernel
theorem d_m_note_20 : decode prog_14_method_63_code 20 = .ok (.if_icmp .ge 12, 3) := by decide +kernel
theorem d_m_note_23 : decode prog_14_method_63_code 23 = .ok (.iload_n 2, 1) := by decide +kernel
theorem d_m_note_24 : decode prog_14_method_63_code 24 = .ok (.ifCond .lt 8, 3) := by decide +kernel
theorem d_m_note_27 : decode prog_14_method_63_code 27 = .ok (.iload_n 2, 1) := by decide +kernel
theorem d_m_note_28 : decode prog_14_method_63_code 28 = .ok (.iconst 4, 1) := by decide +kernel
theorem d_m_note_29 : decode prog_14_method_63_code 29 = .ok (.if_icmp .le 5, 3) := by decide +kernel
theorem d_m_note_32 : decode prog_14_method_63_code 32 = .ok (.iconst (-1), 1) := by decide +kernel
theorem d_m_note_33 : decode prog_14_method_63_code 33 = .ok (.ireturn, 1) := by decide +kernel
theorem d_m_note_34 : decode prog_14_method_63_code 34 = .ok (.aload_n 0, 1) := by decide +kernel
theorem d_m_note_35 : decode prog_14_method_63_code 35 = .ok (.getfield 103, 3) := by decide +kernel
theorem d_m_note_38 : decode prog_14_method_63_code 38 = .ok (.iconst 5, 1) := by decide +kernel
theorem d_m_note_39 : decode prog_14_method_63_code 39 = .ok (.aload_n 0, 1) := by decide +kernel
theorem d_m_note_40 : decode prog_14_method_63_code 40 = .ok (.getfield 331, 3) := by decide +kernel
theorem d_m_note_43 : decode prog_14_method_63_code 43 = .ok (.iconst 1, 1) := by decide +kernel
theorem d_m_note_44 : decode prog_14_method_63_code 44 = .ok (.isub, 1) := by decide +kernel
theorem d_m_note_45 : decode prog_14_method_63_code 45 = .ok (.iload_n 1, 1) := by decide +kernel
theorem d_m_note_46 : decode prog_14_method_63_code 46 = .ok (.isub, 1) := by decide +kernel
theorem d_m_note_47 : decode prog_14_method_63_code 47 = .ok (.bipush 8, 2) := by decide +kernel
theorem d_m_note_49 : decode prog_14_method_63_code 49 = .ok (.irem, 1) := by decide +kernel
theorem d_m_note_50 : decode prog_14_method_63_code 50 = .ok (.imul, 1) := by decide +kernel
theorem d_m_note_51 : decode prog_14_method_63_code 51 = .ok (.iload_n 2, 1) := by decide +kernel
theorem d_m_note_52 : decode prog_14_method_63_code 52 = .ok (.iadd, 1) := by decide +kernel
theorem d_m_note_53 : decode prog_14_method_63_code 53 = .ok (.iaload, 1) := by decide +kernel
theorem d_m_note_54 : decode prog_14_method_63_code 54 = .ok (.ireturn, 1) := by decide +kernel
def m_note (x1 : Int32) (x2 : Int32) (S : MS) : Option (MS × Int32) := (bd (pI S 0 0 0) fun S2 => (if x1 < 0 then some (S2, (-1)) else (if 7 < x1 then some (S2, (-1)) else (if (gI S2 0 46) ≤ x1 then some (S2, (-1)) else (if x2 < 0 then some (S2, (-1)) else (if x2 ≤ 4 then (if inbd ((5 * ((((gI S2 0 46) - 1) - x1) - (((gI S2 0 46) - 1) - x1) / 8 * 8)) + x2) 40 = true then some (S2, (gI S2 30 (txN ((5 * ((((gI S2 0 46) - 1) - x1) - (((gI S2 0 46) - 1) - x1) / 8 * 8)) + x2)))) else none) else some (S2, (-1))))))))
set_option maxHeartbeats 4000000 in
set_option maxRecDepth 100000 in
theorem M_m_note {l : Launch} {D : va_G} {cA : Nat → ClassId} {b : Nat} {ad : Nat → Nat} {x1 : Int32} {x2 : Int32} {S : MS} {T : CS} {o : Nat → Int64} {rr : (MS × Int32)}  (h : m_note x1 x2 S = some rr) : Met l y_m_note (Cond.code y_m_note prog_14_method_63_code 3 (Option.some Jvm.ClassFile.FieldType.int) :: TW) { frames := 0, cells := 0, slots := 0, locals := 0 } (va_Pc [.ref (b + 262), .int x1, .int x2] (Rp D cA b ad (T, S, o))) (Qr D cA b ad (T, rr.1, o) (some (.int rr.2))) 0 0 (Ab b) := by
  refine Ct_of (by decide) (Nat.le_of_ble_eq_true rfl) ?_
  intro p e R s m args below meth c ls Q H locs hR hQ hx hb hts hown hml hr hlk hC hX hS hl
  have hRf : R.frames = 0 := by rw [hR]
  have hRl : R.locals = 0 := by rw [hR]
  have hown : s.vm.findClass "TypeGuardModel" = some m.cls := hown
  have hl : lv_has ls 3 [(0, .ref (b + 262)), (1, .int x1), (2, .int x2)] := hl
  rw [m_note] at h
  refine lv_aload_n hx hb d_m_note_0 rfl (lv_at hl 0 rfl) ?_
  refine lv_iconst (v := 0) hx hb d_m_note_1 (by decide) ?_
  refine m_put_0_0 (v := 0) hx hb hts hown hC hX hS (by rfl) (hts _ t_987) d_m_note_2 (fun H locs hX hS => ?_)
  obtain ⟨S2, e2, h⟩ := bd_some h
  rw [← e2] at hX
  refine lv_iload_n hx hb d_m_note_5 rfl (lv_at hl 1 rfl) ?_
  refine lv_if_lt hx hb d_m_note_6 (tgt := 32) (by decide) (fun hc => ?_) (fun hc => ?_)
  · rw [if_pos hc] at h
    refine lv_iconst (v := (-1)) hx hb d_m_note_32 (by decide) ?_
    obtain rfl := Option.some.inj h
    exact rt_i hQ hx hb hr hX hS hlk d_m_note_33
  · rw [if_neg hc] at h
    refine lv_iload_n hx hb d_m_note_9 rfl (lv_at hl 1 rfl) ?_
    refine lv_bipush (v := 7) hx hb d_m_note_10 (by decide) ?_
    refine lv_icmp_gt hx hb d_m_note_12 (tgt := 32) (by decide) (fun hc => ?_) (fun hc => ?_)
    · rw [if_pos hc] at h
      refine lv_iconst (v := (-1)) hx hb d_m_note_32 (by decide) ?_
      obtain rfl := Option.some.inj h
      exact rt_i hQ hx hb hr hX hS hlk d_m_note_33
    · rw [if_neg hc] at h
      refine lv_iload_n hx hb d_m_note_15 rfl (lv_at hl 1 rfl) ?_
      refine lv_aload_n hx hb d_m_note_16 rfl (lv_at hl 0 rfl) ?_
      refine m_get_0_46 hx hb hts hown hC hX (by rfl) (hts _ t_1033) d_m_note_17 ?_
      refine lv_icmp_ge hx hb d_m_note_20 (tgt := 32) (by decide) (fun hc => ?_) (fun hc => ?_)
      · rw [if_pos hc] at h
        refine lv_iconst (v := (-1)) hx hb d_m_note_32 (by decide) ?_
        obtain rfl := Option.some.inj h
        exact rt_i hQ hx hb hr hX hS hlk d_m_note_33
      · rw [if_neg hc] at h
        refine lv_iload_n hx hb d_m_note_23 rfl (lv_at hl 2 rfl) ?_
        refine lv_if_lt hx hb d_m_note_24 (tgt := 32) (by decide) (fun hc => ?_) (fun hc => ?_)
        · rw [if_pos hc] at h
          refine lv_iconst (v := (-1)) hx hb d_m_note_32 (by decide) ?_
          obtain rfl := Option.some.inj h
          exact rt_i hQ hx hb hr hX hS hlk d_m_note_33
        · rw [if_neg hc] at h
          refine lv_iload_n hx hb d_m_note_27 rfl (lv_at hl 2 rfl) ?_
          refine lv_iconst (v := 4) hx hb d_m_note_28 (by decide) ?_
          refine lv_icmp_le hx hb d_m_note_29 (tgt := 34) (by decide) (fun hc => ?_) (fun hc => ?_)
          · rw [if_pos hc] at h
            refine lv_aload_n hx hb d_m_note_34 rfl (lv_at hl 0 rfl) ?_
            refine m_get_0_47 hx hb hts hown hC hX (by rfl) (hts _ t_1034) d_m_note_35 ?_
            refine lv_iconst (v := 5) hx hb d_m_note_38 (by decide) ?_
            refine lv_aload_n hx hb d_m_note_39 rfl (lv_at hl 0 rfl) ?_
            refine m_get_0_46 hx hb hts hown hC hX (by rfl) (hts _ t_1033) d_m_note_40 ?_
            refine lv_iconst (v := 1) hx hb d_m_note_43 (by decide) ?_
            refine lv_isub hx hb d_m_note_44 ?_
            refine lv_iload_n hx hb d_m_note_45 rfl (lv_at hl 1 rfl) ?_
            refine lv_isub hx hb d_m_note_46 ?_
            refine lv_bipush (v := 8) hx hb d_m_note_47 (by decide) ?_
            refine lv_irem hx hb d_m_note_49 (by decide) ?_
            refine lv_imul hx hb d_m_note_50 ?_
            refine lv_iload_n hx hb d_m_note_51 rfl (lv_at hl 2 rfl) ?_
            refine lv_iadd hx hb d_m_note_52 ?_
            by_cases hg53 : inbd ((5 * ((((gI S2 0 46) - 1) - x1) - (((gI S2 0 46) - 1) - x1) / 8 * 8)) + x2) 40 = true
            rotate_left; · rw [if_neg hg53] at h; cases h
            rw [if_pos hg53] at h
            refine m_ald_1 (k := 30) hx hb hC hX (by rfl) hg53 d_m_note_53 ?_
            obtain rfl := Option.some.inj h
            exact rt_i hQ hx hb hr hX hS hlk d_m_note_54
          · rw [if_neg hc] at h
            refine lv_iconst (v := (-1)) hx hb d_m_note_32 (by decide) ?_
            obtain rfl := Option.some.inj h
            exact rt_i hQ hx hb hr hX hS hlk d_m_note_33
