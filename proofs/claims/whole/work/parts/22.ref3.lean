theorem xd_R_load_0 : decode xb_R_load 0 = .ok (.iload_n 1, 1) := by decide +kernel
theorem xd_R_load_1 : decode xb_R_load 1 = .ok (.iconst 0, 1) := by decide +kernel
theorem xd_R_load_2 : decode xb_R_load 2 = .ok (.iconst 5, 1) := by decide +kernel
theorem xd_R_load_3 : decode xb_R_load 3 = .ok (.invokestatic 83, 3) := by decide +kernel
theorem xd_R_load_6 : decode xb_R_load 6 = .ok (.ifCond .ne 5, 3) := by decide +kernel
theorem xd_R_load_9 : decode xb_R_load 9 = .ok (.iconst (-1), 1) := by decide +kernel
theorem xd_R_load_10 : decode xb_R_load 10 = .ok (.ireturn, 1) := by decide +kernel
theorem xd_R_load_11 : decode xb_R_load 11 = .ok (.iconst 0, 1) := by decide +kernel
theorem xd_R_load_12 : decode xb_R_load 12 = .ok (.istore_n 2, 1) := by decide +kernel
theorem xd_R_load_13 : decode xb_R_load 13 = .ok (.iconst 0, 1) := by decide +kernel
theorem xd_R_load_14 : decode xb_R_load 14 = .ok (.istore_n 3, 1) := by decide +kernel
theorem xd_R_load_15 : decode xb_R_load 15 = .ok (.iload_n 3, 1) := by decide +kernel
theorem xd_R_load_16 : decode xb_R_load 16 = .ok (.bipush 6, 2) := by decide +kernel
theorem xd_R_load_18 : decode xb_R_load 18 = .ok (.if_icmp .ge 27, 3) := by decide +kernel
theorem xd_R_load_21 : decode xb_R_load 21 = .ok (.aload_n 0, 1) := by decide +kernel
theorem xd_R_load_22 : decode xb_R_load 22 = .ok (.getfield 7, 3) := by decide +kernel
theorem xd_R_load_25 : decode xb_R_load 25 = .ok (.bipush 6, 2) := by decide +kernel
theorem xd_R_load_27 : decode xb_R_load 27 = .ok (.iload_n 3, 1) := by decide +kernel
theorem xd_R_load_28 : decode xb_R_load 28 = .ok (.iadd, 1) := by decide +kernel
theorem xd_R_load_29 : decode xb_R_load 29 = .ok (.iaload, 1) := by decide +kernel
theorem xd_R_load_30 : decode xb_R_load 30 = .ok (.ifCond .le 9, 3) := by decide +kernel
theorem xd_R_load_33 : decode xb_R_load 33 = .ok (.iload_n 2, 1) := by decide +kernel
theorem xd_R_load_34 : decode xb_R_load 34 = .ok (.iconst 1, 1) := by decide +kernel
theorem xd_R_load_35 : decode xb_R_load 35 = .ok (.iload_n 3, 1) := by decide +kernel
theorem xd_R_load_36 : decode xb_R_load 36 = .ok (.ishl, 1) := by decide +kernel
theorem xd_R_load_37 : decode xb_R_load 37 = .ok (.ior, 1) := by decide +kernel
theorem xd_R_load_38 : decode xb_R_load 38 = .ok (.istore_n 2, 1) := by decide +kernel
theorem xd_R_load_39 : decode xb_R_load 39 = .ok (.iinc 3 1, 3) := by decide +kernel
theorem xd_R_load_42 : decode xb_R_load 42 = .ok (.goto (-27), 3) := by decide +kernel
theorem xd_R_load_45 : decode xb_R_load 45 = .ok (.aload_n 0, 1) := by decide +kernel
theorem xd_R_load_46 : decode xb_R_load 46 = .ok (.getfield 7, 3) := by decide +kernel
theorem xd_R_load_49 : decode xb_R_load 49 = .ok (.bipush 6, 2) := by decide +kernel
theorem xd_R_load_51 : decode xb_R_load 51 = .ok (.iload_n 1, 1) := by decide +kernel
theorem xd_R_load_52 : decode xb_R_load 52 = .ok (.iadd, 1) := by decide +kernel
theorem xd_R_load_53 : decode xb_R_load 53 = .ok (.iaload, 1) := by decide +kernel
theorem xd_R_load_54 : decode xb_R_load 54 = .ok (.ifCond .le 5, 3) := by decide +kernel
theorem xd_R_load_57 : decode xb_R_load 57 = .ok (.iconst 0, 1) := by decide +kernel
theorem xd_R_load_58 : decode xb_R_load 58 = .ok (.ireturn, 1) := by decide +kernel
theorem xd_R_load_59 : decode xb_R_load 59 = .ok (.iconst 0, 1) := by decide +kernel
theorem xd_R_load_60 : decode xb_R_load 60 = .ok (.istore_n 3, 1) := by decide +kernel
theorem xd_R_load_61 : decode xb_R_load 61 = .ok (.aload_n 0, 1) := by decide +kernel
theorem xd_R_load_62 : decode xb_R_load 62 = .ok (.iload_n 1, 1) := by decide +kernel
theorem xd_R_load_63 : decode xb_R_load 63 = .ok (.iconst 0, 1) := by decide +kernel
theorem xd_R_load_64 : decode xb_R_load 64 = .ok (.invokevirtual 117, 3) := by decide +kernel
theorem xd_R_load_67 : decode xb_R_load 67 = .ok (.istore 4, 2) := by decide +kernel
theorem xd_R_load_69 : decode xb_R_load 69 = .ok (.aload_n 0, 1) := by decide +kernel
theorem xd_R_load_70 : decode xb_R_load 70 = .ok (.getfield 50, 3) := by decide +kernel
theorem xd_R_load_73 : decode xb_R_load 73 = .ok (.iconst 0, 1) := by decide +kernel
theorem xd_R_load_74 : decode xb_R_load 74 = .ok (.iload_n 1, 1) := by decide +kernel
theorem xd_R_load_75 : decode xb_R_load 75 = .ok (.iastore, 1) := by decide +kernel
theorem xd_R_load_76 : decode xb_R_load 76 = .ok (.aload_n 0, 1) := by decide +kernel
theorem xd_R_load_77 : decode xb_R_load 77 = .ok (.getfield 53, 3) := by decide +kernel
theorem xd_R_load_80 : decode xb_R_load 80 = .ok (.iconst 0, 1) := by decide +kernel
theorem xd_R_load_81 : decode xb_R_load 81 = .ok (.iconst 0, 1) := by decide +kernel
theorem xd_R_load_82 : decode xb_R_load 82 = .ok (.iastore, 1) := by decide +kernel
theorem xd_R_load_83 : decode xb_R_load 83 = .ok (.iconst 1, 1) := by decide +kernel
theorem xd_R_load_84 : decode xb_R_load 84 = .ok (.istore_n 3, 1) := by decide +kernel
theorem xd_R_load_85 : decode xb_R_load 85 = .ok (.iconst 0, 1) := by decide +kernel
theorem xd_R_load_86 : decode xb_R_load 86 = .ok (.istore 5, 2) := by decide +kernel
theorem xd_R_load_88 : decode xb_R_load 88 = .ok (.iload_n 3, 1) := by decide +kernel
theorem xd_R_load_89 : decode xb_R_load 89 = .ok (.ifCond .le 229, 3) := by decide +kernel
theorem xd_R_load_92 : decode xb_R_load 92 = .ok (.iload 4, 2) := by decide +kernel
theorem xd_R_load_94 : decode xb_R_load 94 = .ok (.ifCond .ne 224, 3) := by decide +kernel
theorem xd_R_load_97 : decode xb_R_load 97 = .ok (.aload_n 0, 1) := by decide +kernel
theorem xd_R_load_98 : decode xb_R_load 98 = .ok (.getfield 50, 3) := by decide +kernel
theorem xd_R_load_101 : decode xb_R_load 101 = .ok (.iload_n 3, 1) := by decide +kernel
theorem xd_R_load_102 : decode xb_R_load 102 = .ok (.iconst 1, 1) := by decide +kernel
theorem xd_R_load_103 : decode xb_R_load 103 = .ok (.isub, 1) := by decide +kernel
theorem xd_R_load_104 : decode xb_R_load 104 = .ok (.iaload, 1) := by decide +kernel
theorem xd_R_load_105 : decode xb_R_load 105 = .ok (.istore 6, 2) := by decide +kernel
theorem xd_R_load_107 : decode xb_R_load 107 = .ok (.aload_n 0, 1) := by decide +kernel
theorem xd_R_load_108 : decode xb_R_load 108 = .ok (.getfield 53, 3) := by decide +kernel
theorem xd_R_load_111 : decode xb_R_load 111 = .ok (.iload_n 3, 1) := by decide +kernel
theorem xd_R_load_112 : decode xb_R_load 112 = .ok (.iconst 1, 1) := by decide +kernel
theorem xd_R_load_113 : decode xb_R_load 113 = .ok (.isub, 1) := by decide +kernel
theorem xd_R_load_114 : decode xb_R_load 114 = .ok (.iaload, 1) := by decide +kernel
theorem xd_R_load_115 : decode xb_R_load 115 = .ok (.istore 7, 2) := by decide +kernel
theorem xd_R_load_117 : decode xb_R_load 117 = .ok (.iload 7, 2) := by decide +kernel
theorem xd_R_load_119 : decode xb_R_load 119 = .ok (.aload_n 0, 1) := by decide +kernel
theorem xd_R_load_120 : decode xb_R_load 120 = .ok (.getfield 34, 3) := by decide +kernel
theorem xd_R_load_123 : decode xb_R_load 123 = .ok (.iload 6, 2) := by decide +kernel
theorem xd_R_load_125 : decode xb_R_load 125 = .ok (.iaload, 1) := by decide +kernel
theorem xd_R_load_126 : decode xb_R_load 126 = .ok (.if_icmp .ge 104, 3) := by decide +kernel
theorem xd_R_load_129 : decode xb_R_load 129 = .ok (.aload_n 0, 1) := by decide +kernel
theorem xd_R_load_130 : decode xb_R_load 130 = .ok (.getfield 37, 3) := by decide +kernel
theorem xd_R_load_133 : decode xb_R_load 133 = .ok (.iconst 5, 1) := by decide +kernel
theorem xd_R_load_134 : decode xb_R_load 134 = .ok (.iload 6, 2) := by decide +kernel
theorem xd_R_load_136 : decode xb_R_load 136 = .ok (.imul, 1) := by decide +kernel
theorem xd_R_load_137 : decode xb_R_load 137 = .ok (.iload 7, 2) := by decide +kernel
theorem xd_R_load_139 : decode xb_R_load 139 = .ok (.iadd, 1) := by decide +kernel
theorem xd_R_load_140 : decode xb_R_load 140 = .ok (.iaload, 1) := by decide +kernel
theorem xd_R_load_141 : decode xb_R_load 141 = .ok (.istore 8, 2) := by decide +kernel
theorem xd_R_load_143 : decode xb_R_load 143 = .ok (.aload_n 0, 1) := by decide +kernel
theorem xd_R_load_144 : decode xb_R_load 144 = .ok (.getfield 7, 3) := by decide +kernel
theorem xd_R_load_147 : decode xb_R_load 147 = .ok (.bipush 6, 2) := by decide +kernel
theorem xd_R_load_149 : decode xb_R_load 149 = .ok (.iload 8, 2) := by decide +kernel
theorem xd_R_load_151 : decode xb_R_load 151 = .ok (.iadd, 1) := by decide +kernel
theorem xd_R_load_152 : decode xb_R_load 152 = .ok (.iaload, 1) := by decide +kernel
theorem xd_R_load_153 : decode xb_R_load 153 = .ok (.ifCond .ne 33, 3) := by decide +kernel
theorem xd_R_load_156 : decode xb_R_load 156 = .ok (.aload_n 0, 1) := by decide +kernel
theorem xd_R_load_157 : decode xb_R_load 157 = .ok (.iload 8, 2) := by decide +kernel
theorem xd_R_load_159 : decode xb_R_load 159 = .ok (.iload_n 3, 1) := by decide +kernel
theorem xd_R_load_160 : decode xb_R_load 160 = .ok (.invokevirtual 117, 3) := by decide +kernel
theorem xd_R_load_163 : decode xb_R_load 163 = .ok (.istore 4, 2) := by decide +kernel
theorem xd_R_load_165 : decode xb_R_load 165 = .ok (.aload_n 0, 1) := by decide +kernel
theorem xd_R_load_166 : decode xb_R_load 166 = .ok (.getfield 50, 3) := by decide +kernel
theorem xd_R_load_169 : decode xb_R_load 169 = .ok (.iload_n 3, 1) := by decide +kernel
theorem xd_R_load_170 : decode xb_R_load 170 = .ok (.iload 8, 2) := by decide +kernel
theorem xd_R_load_172 : decode xb_R_load 172 = .ok (.iastore, 1) := by decide +kernel
theorem xd_R_load_173 : decode xb_R_load 173 = .ok (.aload_n 0, 1) := by decide +kernel
theorem xd_R_load_174 : decode xb_R_load 174 = .ok (.getfield 53, 3) := by decide +kernel
theorem xd_R_load_177 : decode xb_R_load 177 = .ok (.iload_n 3, 1) := by decide +kernel
theorem xd_R_load_178 : decode xb_R_load 178 = .ok (.iconst 0, 1) := by decide +kernel
theorem xd_R_load_179 : decode xb_R_load 179 = .ok (.iastore, 1) := by decide +kernel
theorem xd_R_load_180 : decode xb_R_load 180 = .ok (.iinc 3 1, 3) := by decide +kernel
theorem xd_R_load_183 : decode xb_R_load 183 = .ok (.goto 44, 3) := by decide +kernel
theorem xd_R_load_186 : decode xb_R_load 186 = .ok (.aload_n 0, 1) := by decide +kernel
theorem xd_R_load_187 : decode xb_R_load 187 = .ok (.getfield 7, 3) := by decide +kernel
theorem xd_R_load_190 : decode xb_R_load 190 = .ok (.bipush 6, 2) := by decide +kernel
theorem xd_R_load_192 : decode xb_R_load 192 = .ok (.iload 8, 2) := by decide +kernel
theorem xd_R_load_194 : decode xb_R_load 194 = .ok (.iadd, 1) := by decide +kernel
theorem xd_R_load_195 : decode xb_R_load 195 = .ok (.iaload, 1) := by decide +kernel
theorem xd_R_load_196 : decode xb_R_load 196 = .ok (.aload_n 0, 1) := by decide +kernel
theorem xd_R_load_197 : decode xb_R_load 197 = .ok (.getfield 40, 3) := by decide +kernel
theorem xd_R_load_200 : decode xb_R_load 200 = .ok (.iconst 5, 1) := by decide +kernel
theorem xd_R_load_201 : decode xb_R_load 201 = .ok (.iload 6, 2) := by decide +kernel
theorem xd_R_load_203 : decode xb_R_load 203 = .ok (.imul, 1) := by decide +kernel
theorem xd_R_load_204 : decode xb_R_load 204 = .ok (.iload 7, 2) := by decide +kernel
theorem xd_R_load_206 : decode xb_R_load 206 = .ok (.iadd, 1) := by decide +kernel
theorem xd_R_load_207 : decode xb_R_load 207 = .ok (.iaload, 1) := by decide +kernel
theorem xd_R_load_208 : decode xb_R_load 208 = .ok (.if_icmp .eq 7, 3) := by decide +kernel
theorem xd_R_load_211 : decode xb_R_load 211 = .ok (.bipush (-5), 2) := by decide +kernel
theorem xd_R_load_213 : decode xb_R_load 213 = .ok (.istore 4, 2) := by decide +kernel
theorem xd_R_load_215 : decode xb_R_load 215 = .ok (.aload_n 0, 1) := by decide +kernel
theorem xd_R_load_216 : decode xb_R_load 216 = .ok (.getfield 53, 3) := by decide +kernel
theorem xd_R_load_219 : decode xb_R_load 219 = .ok (.iload_n 3, 1) := by decide +kernel
theorem xd_R_load_220 : decode xb_R_load 220 = .ok (.iconst 1, 1) := by decide +kernel
theorem xd_R_load_221 : decode xb_R_load 221 = .ok (.isub, 1) := by decide +kernel
theorem xd_R_load_222 : decode xb_R_load 222 = .ok (.dup2, 1) := by decide +kernel
theorem xd_R_load_223 : decode xb_R_load 223 = .ok (.iaload, 1) := by decide +kernel
theorem xd_R_load_224 : decode xb_R_load 224 = .ok (.iconst 1, 1) := by decide +kernel
theorem xd_R_load_225 : decode xb_R_load 225 = .ok (.iadd, 1) := by decide +kernel
theorem xd_R_load_226 : decode xb_R_load 226 = .ok (.iastore, 1) := by decide +kernel
theorem xd_R_load_227 : decode xb_R_load 227 = .ok (.goto 88, 3) := by decide +kernel
theorem xd_R_load_230 : decode xb_R_load 230 = .ok (.aload_n 0, 1) := by decide +kernel
theorem xd_R_load_231 : decode xb_R_load 231 = .ok (.iload 6, 2) := by decide +kernel
theorem xd_R_load_233 : decode xb_R_load 233 = .ok (.invokevirtual 113, 3) := by decide +kernel
theorem xd_R_load_236 : decode xb_R_load 236 = .ok (.aload_n 0, 1) := by decide +kernel
theorem xd_R_load_237 : decode xb_R_load 237 = .ok (.invokevirtual 120, 3) := by decide +kernel
theorem xd_R_load_240 : decode xb_R_load 240 = .ok (.iadd, 1) := by decide +kernel
theorem xd_R_load_241 : decode xb_R_load 241 = .ok (.bipush 50, 2) := by decide +kernel
theorem xd_R_load_243 : decode xb_R_load 243 = .ok (.if_icmp .le 10, 3) := by decide +kernel
theorem xd_R_load_246 : decode xb_R_load 246 = .ok (.bipush (-2), 2) := by decide +kernel
theorem xd_R_load_248 : decode xb_R_load 248 = .ok (.istore 4, 2) := by decide +kernel
theorem xd_R_load_250 : decode xb_R_load 250 = .ok (.goto 65, 3) := by decide +kernel
theorem xd_R_load_253 : decode xb_R_load 253 = .ok (.aload_n 0, 1) := by decide +kernel
theorem xd_R_load_254 : decode xb_R_load 254 = .ok (.iload 6, 2) := by decide +kernel
theorem xd_R_load_256 : decode xb_R_load 256 = .ok (.bipush 6, 2) := by decide +kernel
theorem xd_R_load_258 : decode xb_R_load 258 = .ok (.iload 6, 2) := by decide +kernel
theorem xd_R_load_260 : decode xb_R_load 260 = .ok (.iadd, 1) := by decide +kernel
theorem xd_R_load_261 : decode xb_R_load 261 = .ok (.invokevirtual 109, 3) := by decide +kernel
theorem xd_R_load_264 : decode xb_R_load 264 = .ok (.aload_n 0, 1) := by decide +kernel
theorem xd_R_load_265 : decode xb_R_load 265 = .ok (.getfield 7, 3) := by decide +kernel
theorem xd_R_load_268 : decode xb_R_load 268 = .ok (.bipush 6, 2) := by decide +kernel
theorem xd_R_load_270 : decode xb_R_load 270 = .ok (.iload 6, 2) := by decide +kernel
theorem xd_R_load_272 : decode xb_R_load 272 = .ok (.iadd, 1) := by decide +kernel
theorem xd_R_load_273 : decode xb_R_load 273 = .ok (.aload_n 0, 1) := by decide +kernel
theorem xd_R_load_274 : decode xb_R_load 274 = .ok (.getfield 7, 3) := by decide +kernel
theorem xd_R_load_277 : decode xb_R_load 277 = .ok (.iload 6, 2) := by decide +kernel
theorem xd_R_load_279 : decode xb_R_load 279 = .ok (.iaload, 1) := by decide +kernel
theorem xd_R_load_280 : decode xb_R_load 280 = .ok (.iastore, 1) := by decide +kernel
theorem xd_R_load_281 : decode xb_R_load 281 = .ok (.iconst 0, 1) := by decide +kernel
theorem xd_R_load_282 : decode xb_R_load 282 = .ok (.istore 8, 2) := by decide +kernel
theorem xd_R_load_284 : decode xb_R_load 284 = .ok (.iload 8, 2) := by decide +kernel
theorem xd_R_load_286 : decode xb_R_load 286 = .ok (.iconst 3, 1) := by decide +kernel
theorem xd_R_load_287 : decode xb_R_load 287 = .ok (.if_icmp .ge 22, 3) := by decide +kernel
theorem xd_R_load_290 : decode xb_R_load 290 = .ok (.aload_n 0, 1) := by decide +kernel
theorem xd_R_load_291 : decode xb_R_load 291 = .ok (.getfield 43, 3) := by decide +kernel
theorem xd_R_load_294 : decode xb_R_load 294 = .ok (.iconst 3, 1) := by decide +kernel
theorem xd_R_load_295 : decode xb_R_load 295 = .ok (.iload 6, 2) := by decide +kernel
theorem xd_R_load_297 : decode xb_R_load 297 = .ok (.imul, 1) := by decide +kernel
theorem xd_R_load_298 : decode xb_R_load 298 = .ok (.iload 8, 2) := by decide +kernel
theorem xd_R_load_300 : decode xb_R_load 300 = .ok (.iadd, 1) := by decide +kernel
theorem xd_R_load_301 : decode xb_R_load 301 = .ok (.iconst 0, 1) := by decide +kernel
theorem xd_R_load_302 : decode xb_R_load 302 = .ok (.iastore, 1) := by decide +kernel
theorem xd_R_load_303 : decode xb_R_load 303 = .ok (.iinc 8 1, 3) := by decide +kernel
theorem xd_R_load_306 : decode xb_R_load 306 = .ok (.goto (-22), 3) := by decide +kernel
theorem xd_R_load_309 : decode xb_R_load 309 = .ok (.iinc 5 1, 3) := by decide +kernel
theorem xd_R_load_312 : decode xb_R_load 312 = .ok (.iinc 3 (-1), 3) := by decide +kernel
theorem xd_R_load_315 : decode xb_R_load 315 = .ok (.goto (-227), 3) := by decide +kernel
theorem xd_R_load_318 : decode xb_R_load 318 = .ok (.iload 4, 2) := by decide +kernel
theorem xd_R_load_320 : decode xb_R_load 320 = .ok (.ifCond .ne 6, 3) := by decide +kernel
theorem xd_R_load_323 : decode xb_R_load 323 = .ok (.iload 5, 2) := by decide +kernel
theorem xd_R_load_325 : decode xb_R_load 325 = .ok (.ireturn, 1) := by decide +kernel
theorem xd_R_load_326 : decode xb_R_load 326 = .ok (.iconst 0, 1) := by decide +kernel
theorem xd_R_load_327 : decode xb_R_load 327 = .ok (.istore 6, 2) := by decide +kernel
theorem xd_R_load_329 : decode xb_R_load 329 = .ok (.iload 6, 2) := by decide +kernel
theorem xd_R_load_331 : decode xb_R_load 331 = .ok (.bipush 6, 2) := by decide +kernel
theorem xd_R_load_333 : decode xb_R_load 333 = .ok (.if_icmp .ge 29, 3) := by decide +kernel
theorem xd_R_load_336 : decode xb_R_load 336 = .ok (.iload_n 2, 1) := by decide +kernel
theorem xd_R_load_337 : decode xb_R_load 337 = .ok (.iload 6, 2) := by decide +kernel
theorem xd_R_load_339 : decode xb_R_load 339 = .ok (.ishr, 1) := by decide +kernel
theorem xd_R_load_340 : decode xb_R_load 340 = .ok (.iconst 1, 1) := by decide +kernel
theorem xd_R_load_341 : decode xb_R_load 341 = .ok (.iand, 1) := by decide +kernel
theorem xd_R_load_342 : decode xb_R_load 342 = .ok (.ifCond .ne 14, 3) := by decide +kernel
theorem xd_R_load_345 : decode xb_R_load 345 = .ok (.aload_n 0, 1) := by decide +kernel
theorem xd_R_load_346 : decode xb_R_load 346 = .ok (.getfield 7, 3) := by decide +kernel
theorem xd_R_load_349 : decode xb_R_load 349 = .ok (.bipush 6, 2) := by decide +kernel
theorem xd_R_load_351 : decode xb_R_load 351 = .ok (.iload 6, 2) := by decide +kernel
theorem xd_R_load_353 : decode xb_R_load 353 = .ok (.iadd, 1) := by decide +kernel
theorem xd_R_load_354 : decode xb_R_load 354 = .ok (.iconst 0, 1) := by decide +kernel
theorem xd_R_load_355 : decode xb_R_load 355 = .ok (.iastore, 1) := by decide +kernel
theorem xd_R_load_356 : decode xb_R_load 356 = .ok (.iinc 6 1, 3) := by decide +kernel
theorem xd_R_load_359 : decode xb_R_load 359 = .ok (.goto (-30), 3) := by decide +kernel
theorem xd_R_load_362 : decode xb_R_load 362 = .ok (.iload 4, 2) := by decide +kernel
theorem xd_R_load_364 : decode xb_R_load 364 = .ok (.ireturn, 1) := by decide +kernel
theorem xd_R_unload_0 : decode xb_R_unload 0 = .ok (.iload_n 1, 1) := by decide +kernel
theorem xd_R_unload_1 : decode xb_R_unload 1 = .ok (.iconst 0, 1) := by decide +kernel
theorem xd_R_unload_2 : decode xb_R_unload 2 = .ok (.iconst 5, 1) := by decide +kernel
theorem xd_R_unload_3 : decode xb_R_unload 3 = .ok (.invokestatic 83, 3) := by decide +kernel
theorem xd_R_unload_6 : decode xb_R_unload 6 = .ok (.ifCond .eq 15, 3) := by decide +kernel
theorem xd_R_unload_9 : decode xb_R_unload 9 = .ok (.aload_n 0, 1) := by decide +kernel
theorem xd_R_unload_10 : decode xb_R_unload 10 = .ok (.getfield 7, 3) := by decide +kernel
theorem xd_R_unload_13 : decode xb_R_unload 13 = .ok (.bipush 6, 2) := by decide +kernel
theorem xd_R_unload_15 : decode xb_R_unload 15 = .ok (.iload_n 1, 1) := by decide +kernel
theorem xd_R_unload_16 : decode xb_R_unload 16 = .ok (.iadd, 1) := by decide +kernel
theorem xd_R_unload_17 : decode xb_R_unload 17 = .ok (.iaload, 1) := by decide +kernel
theorem xd_R_unload_18 : decode xb_R_unload 18 = .ok (.ifCond .ne 5, 3) := by decide +kernel
theorem xd_R_unload_21 : decode xb_R_unload 21 = .ok (.iconst (-1), 1) := by decide +kernel
theorem xd_R_unload_22 : decode xb_R_unload 22 = .ok (.ireturn, 1) := by decide +kernel
theorem xd_R_unload_23 : decode xb_R_unload 23 = .ok (.bipush 6, 2) := by decide +kernel
theorem xd_R_unload_25 : decode xb_R_unload 25 = .ok (.istore_n 2, 1) := by decide +kernel
theorem xd_R_unload_26 : decode xb_R_unload 26 = .ok (.iload_n 2, 1) := by decide +kernel
theorem xd_R_unload_27 : decode xb_R_unload 27 = .ok (.bipush 12, 2) := by decide +kernel
theorem xd_R_unload_29 : decode xb_R_unload 29 = .ok (.if_icmp .ge 53, 3) := by decide +kernel
theorem xd_R_unload_32 : decode xb_R_unload 32 = .ok (.iconst 0, 1) := by decide +kernel
theorem xd_R_unload_33 : decode xb_R_unload 33 = .ok (.istore_n 3, 1) := by decide +kernel
theorem xd_R_unload_34 : decode xb_R_unload 34 = .ok (.iload_n 3, 1) := by decide +kernel
theorem xd_R_unload_35 : decode xb_R_unload 35 = .ok (.aload_n 0, 1) := by decide +kernel
theorem xd_R_unload_36 : decode xb_R_unload 36 = .ok (.getfield 34, 3) := by decide +kernel
theorem xd_R_unload_39 : decode xb_R_unload 39 = .ok (.iload_n 2, 1) := by decide +kernel
theorem xd_R_unload_40 : decode xb_R_unload 40 = .ok (.iaload, 1) := by decide +kernel
theorem xd_R_unload_41 : decode xb_R_unload 41 = .ok (.if_icmp .ge 35, 3) := by decide +kernel
theorem xd_R_unload_44 : decode xb_R_unload 44 = .ok (.aload_n 0, 1) := by decide +kernel
theorem xd_R_unload_45 : decode xb_R_unload 45 = .ok (.getfield 7, 3) := by decide +kernel
theorem xd_R_unload_48 : decode xb_R_unload 48 = .ok (.iload_n 2, 1) := by decide +kernel
theorem xd_R_unload_49 : decode xb_R_unload 49 = .ok (.iaload, 1) := by decide +kernel
theorem xd_R_unload_50 : decode xb_R_unload 50 = .ok (.ifCond .le 20, 3) := by decide +kernel
theorem xd_R_unload_53 : decode xb_R_unload 53 = .ok (.aload_n 0, 1) := by decide +kernel
theorem xd_R_unload_54 : decode xb_R_unload 54 = .ok (.getfield 37, 3) := by decide +kernel
theorem xd_R_unload_57 : decode xb_R_unload 57 = .ok (.iconst 5, 1) := by decide +kernel
theorem xd_R_unload_58 : decode xb_R_unload 58 = .ok (.iload_n 2, 1) := by decide +kernel
theorem xd_R_unload_59 : decode xb_R_unload 59 = .ok (.imul, 1) := by decide +kernel
theorem xd_R_unload_60 : decode xb_R_unload 60 = .ok (.iload_n 3, 1) := by decide +kernel
theorem xd_R_unload_61 : decode xb_R_unload 61 = .ok (.iadd, 1) := by decide +kernel
theorem xd_R_unload_62 : decode xb_R_unload 62 = .ok (.iaload, 1) := by decide +kernel
theorem xd_R_unload_63 : decode xb_R_unload 63 = .ok (.iload_n 1, 1) := by decide +kernel
theorem xd_R_unload_64 : decode xb_R_unload 64 = .ok (.if_icmp .ne 6, 3) := by decide +kernel
theorem xd_R_unload_67 : decode xb_R_unload 67 = .ok (.bipush (-7), 2) := by decide +kernel
theorem xd_R_unload_69 : decode xb_R_unload 69 = .ok (.ireturn, 1) := by decide +kernel
theorem xd_R_unload_70 : decode xb_R_unload 70 = .ok (.iinc 3 1, 3) := by decide +kernel
theorem xd_R_unload_73 : decode xb_R_unload 73 = .ok (.goto (-39), 3) := by decide +kernel
theorem xd_R_unload_76 : decode xb_R_unload 76 = .ok (.iinc 2 1, 3) := by decide +kernel
theorem xd_R_unload_79 : decode xb_R_unload 79 = .ok (.goto (-53), 3) := by decide +kernel
theorem xd_R_unload_82 : decode xb_R_unload 82 = .ok (.aload_n 0, 1) := by decide +kernel
theorem xd_R_unload_83 : decode xb_R_unload 83 = .ok (.getfield 7, 3) := by decide +kernel
theorem xd_R_unload_86 : decode xb_R_unload 86 = .ok (.bipush 6, 2) := by decide +kernel
theorem xd_R_unload_88 : decode xb_R_unload 88 = .ok (.iload_n 1, 1) := by decide +kernel
theorem xd_R_unload_89 : decode xb_R_unload 89 = .ok (.iadd, 1) := by decide +kernel
theorem xd_R_unload_90 : decode xb_R_unload 90 = .ok (.iconst 0, 1) := by decide +kernel
theorem xd_R_unload_91 : decode xb_R_unload 91 = .ok (.iastore, 1) := by decide +kernel
theorem xd_R_unload_92 : decode xb_R_unload 92 = .ok (.iconst 0, 1) := by decide +kernel
theorem xd_R_unload_93 : decode xb_R_unload 93 = .ok (.ireturn, 1) := by decide +kernel
section
variable {l : Launch} {D : va_G} {ad : Nat → Nat} {ids : Nat → ClassId} {ps : Nat}
def xq_R_load_329 (c_15 : aw_m → Int32 → Int32 → Int32 → Option (Int32 × aw_m)) (c_88 : aw_m → Int32 → Int32 → Int32 → Int32 → Int32 → Option (Int32 × aw_m)) : Nat → aw_m → Int32 → Int32 → Int32 → Int32 → Int32 → Int32 → Option (Int32 × aw_m)
  | 0, _, _, _, _, _, _, _ => none
  | n + 1, σ, v1, v2, v3, v4, v5, v6 => (if (6 : Int32) ≤ v6 then some (v4, σ) else (if (v2 >>> (v6 &&& 31)) &&& (1 : Int32) = 0 then if aw_in ((6 : Int32) + v6) 13 = true then aw_l (aw_p σ 1 (Int32.toNatClampNeg ((6 : Int32) + v6)) (0 : Int32)) fun s_355 => xq_R_load_329 c_15 c_88 n s_355 v1 v2 v3 v4 v5 (v6 + (1 : Int32)) else none else xq_R_load_329 c_15 c_88 n σ v1 v2 v3 v4 v5 (v6 + (1 : Int32))))
def xq_R_load_284 (c_15 : aw_m → Int32 → Int32 → Int32 → Option (Int32 × aw_m)) (c_88 : aw_m → Int32 → Int32 → Int32 → Int32 → Int32 → Option (Int32 × aw_m)) : Nat → aw_m → Int32 → Int32 → Int32 → Int32 → Int32 → Int32 → Int32 → Int32 → Option (Int32 × aw_m)
  | 0, _, _, _, _, _, _, _, _, _ => none
  | n + 1, σ, v1, v2, v3, v4, v5, v6, v7, v8 => (if (3 : Int32) ≤ v8 then c_88 σ v1 v2 (v3 + (-1 : Int32)) v4 (v5 + (1 : Int32)) else if aw_in (((3 : Int32) * v6) + v8) 18 = true then aw_l (aw_p σ 12 (Int32.toNatClampNeg (((3 : Int32) * v6) + v8)) (0 : Int32)) fun s_302 => xq_R_load_284 c_15 c_88 n s_302 v1 v2 v3 v4 v5 v6 v7 (v8 + (1 : Int32)) else none)
def xq_R_load_88 (c_15 : aw_m → Int32 → Int32 → Int32 → Option (Int32 × aw_m)) : Nat → aw_m → Int32 → Int32 → Int32 → Int32 → Int32 → Option (Int32 × aw_m)
  | 0, _, _, _, _, _, _ => none
  | n + 1, σ, v1, v2, v3, v4, v5 => (if v3 ≤ 0 then (if v4 = 0 then some (v5, σ) else xq_R_load_329 c_15 (xq_R_load_88 c_15 n) 200 σ v1 v2 v3 v4 v5 (0 : Int32)) else (if v4 = 0 then if aw_in (v3 - (1 : Int32)) 8 = true then if aw_in (v3 - (1 : Int32)) 8 = true then if aw_in (σ 13 (Int32.toNatClampNeg (v3 - (1 : Int32)))) 13 = true then (if σ 9 (Int32.toNatClampNeg (σ 13 (Int32.toNatClampNeg (v3 - (1 : Int32))))) ≤ σ 14 (Int32.toNatClampNeg (v3 - (1 : Int32))) then (xm_R_cells σ (σ 13 (Int32.toNatClampNeg (v3 - (1 : Int32))))).bind fun q_233 => (xm_R_allCells σ ).bind fun q_237 => (if q_233 + q_237 ≤ (50 : Int32) then (xm_R_copy σ (σ 13 (Int32.toNatClampNeg (v3 - (1 : Int32)))) ((6 : Int32) + (σ 13 (Int32.toNatClampNeg (v3 - (1 : Int32)))))).bind fun q_261 => if aw_in (σ 13 (Int32.toNatClampNeg (v3 - (1 : Int32)))) 13 = true then if aw_in ((6 : Int32) + (σ 13 (Int32.toNatClampNeg (v3 - (1 : Int32))))) 13 = true then aw_l (aw_p q_261 1 (Int32.toNatClampNeg ((6 : Int32) + (σ 13 (Int32.toNatClampNeg (v3 - (1 : Int32)))))) (q_261 1 (Int32.toNatClampNeg (σ 13 (Int32.toNatClampNeg (v3 - (1 : Int32))))))) fun s_280 => xq_R_load_284 c_15 (xq_R_load_88 c_15 n) 200 s_280 v1 v2 v3 v4 v5 (σ 13 (Int32.toNatClampNeg (v3 - (1 : Int32)))) (σ 14 (Int32.toNatClampNeg (v3 - (1 : Int32)))) (0 : Int32) else none else none else xq_R_load_88 c_15 n σ v1 v2 v3 (-2 : Int32) v5) else if aw_in (((5 : Int32) * (σ 13 (Int32.toNatClampNeg (v3 - (1 : Int32))))) + (σ 14 (Int32.toNatClampNeg (v3 - (1 : Int32))))) 65 = true then if aw_in ((6 : Int32) + (σ 10 (Int32.toNatClampNeg (((5 : Int32) * (σ 13 (Int32.toNatClampNeg (v3 - (1 : Int32))))) + (σ 14 (Int32.toNatClampNeg (v3 - (1 : Int32)))))))) 13 = true then (if σ 1 (Int32.toNatClampNeg ((6 : Int32) + (σ 10 (Int32.toNatClampNeg (((5 : Int32) * (σ 13 (Int32.toNatClampNeg (v3 - (1 : Int32))))) + (σ 14 (Int32.toNatClampNeg (v3 - (1 : Int32))))))))) = 0 then (xm_R_begins σ (σ 10 (Int32.toNatClampNeg (((5 : Int32) * (σ 13 (Int32.toNatClampNeg (v3 - (1 : Int32))))) + (σ 14 (Int32.toNatClampNeg (v3 - (1 : Int32))))))) v3).bind fun q_160 => if aw_in v3 8 = true then aw_l (aw_p σ 13 (Int32.toNatClampNeg v3) (σ 10 (Int32.toNatClampNeg (((5 : Int32) * (σ 13 (Int32.toNatClampNeg (v3 - (1 : Int32))))) + (σ 14 (Int32.toNatClampNeg (v3 - (1 : Int32)))))))) fun s_172 => if aw_in v3 8 = true then aw_l (aw_p s_172 14 (Int32.toNatClampNeg v3) (0 : Int32)) fun s_179 => xq_R_load_88 c_15 n s_179 v1 v2 (v3 + (1 : Int32)) q_160 v5 else none else none else if aw_in ((6 : Int32) + (σ 10 (Int32.toNatClampNeg (((5 : Int32) * (σ 13 (Int32.toNatClampNeg (v3 - (1 : Int32))))) + (σ 14 (Int32.toNatClampNeg (v3 - (1 : Int32)))))))) 13 = true then if aw_in (((5 : Int32) * (σ 13 (Int32.toNatClampNeg (v3 - (1 : Int32))))) + (σ 14 (Int32.toNatClampNeg (v3 - (1 : Int32))))) 65 = true then (if σ 1 (Int32.toNatClampNeg ((6 : Int32) + (σ 10 (Int32.toNatClampNeg (((5 : Int32) * (σ 13 (Int32.toNatClampNeg (v3 - (1 : Int32))))) + (σ 14 (Int32.toNatClampNeg (v3 - (1 : Int32))))))))) = σ 11 (Int32.toNatClampNeg (((5 : Int32) * (σ 13 (Int32.toNatClampNeg (v3 - (1 : Int32))))) + (σ 14 (Int32.toNatClampNeg (v3 - (1 : Int32)))))) then if aw_in (v3 - (1 : Int32)) 8 = true then if aw_in (v3 - (1 : Int32)) 8 = true then aw_l (aw_p σ 14 (Int32.toNatClampNeg (v3 - (1 : Int32))) ((σ 14 (Int32.toNatClampNeg (v3 - (1 : Int32)))) + (1 : Int32))) fun s_226 => xq_R_load_88 c_15 n s_226 v1 v2 v3 v4 v5 else none else none else if aw_in (v3 - (1 : Int32)) 8 = true then if aw_in (v3 - (1 : Int32)) 8 = true then aw_l (aw_p σ 14 (Int32.toNatClampNeg (v3 - (1 : Int32))) ((σ 14 (Int32.toNatClampNeg (v3 - (1 : Int32)))) + (1 : Int32))) fun s_226 => xq_R_load_88 c_15 n s_226 v1 v2 v3 (-5 : Int32) v5 else none else none) else none else none) else none else none) else none else none else none else (if v4 = 0 then some (v5, σ) else xq_R_load_329 c_15 (xq_R_load_88 c_15 n) 200 σ v1 v2 v3 v4 v5 (0 : Int32))))
def xq_R_load_15  : Nat → aw_m → Int32 → Int32 → Int32 → Option (Int32 × aw_m)
  | 0, _, _, _, _ => none
  | n + 1, σ, v1, v2, v3 => (if (6 : Int32) ≤ v3 then if aw_in ((6 : Int32) + v1) 13 = true then (if σ 1 (Int32.toNatClampNeg ((6 : Int32) + v1)) ≤ 0 then (xm_R_begins σ v1 (0 : Int32)).bind fun q_64 => aw_l (aw_p σ 13 (Int32.toNatClampNeg (0 : Int32)) v1) fun s_75 => aw_l (aw_p s_75 14 (Int32.toNatClampNeg (0 : Int32)) (0 : Int32)) fun s_82 => xq_R_load_88 (xq_R_load_15 n) 200 s_82 v1 v2 (1 : Int32) q_64 (0 : Int32) else some ((0 : Int32), σ)) else none else if aw_in ((6 : Int32) + v3) 13 = true then (if σ 1 (Int32.toNatClampNeg ((6 : Int32) + v3)) ≤ 0 then xq_R_load_15 n σ v1 v2 (v3 + (1 : Int32)) else xq_R_load_15 n σ v1 (v2 ||| ((1 : Int32) <<< (v3 &&& 31))) (v3 + (1 : Int32))) else none)
def xm_R_load (σ : aw_m) (a1 : Int32) : Option (Int32 × aw_m) := (xm_R_in σ a1 (0 : Int32) (5 : Int32)).bind fun q_3 => (if q_3 = 0 then some ((-1 : Int32), σ) else xq_R_load_15 200 σ a1 (0 : Int32) (0 : Int32))
set_option maxHeartbeats 4000000 in
set_option maxRecDepth 100000 in
theorem xl_R_load_329 (c_15 : aw_m → Int32 → Int32 → Int32 → Option (Int32 × aw_m)) (c_88 : aw_m → Int32 → Int32 → Int32 → Int32 → Int32 → Option (Int32 × aw_m)) {κ : aw_K} (q : Int32 × aw_m) (C : aw_X l D (ty_z ids) (zs_T ps) (rm_D (2)) xb_R_load 9 "ModuleShelfModel" (xw_R_load :: gw_l) (some .int) (some (.int q.1)) (rw_w ad ids q.2) κ) (hc_15 : ∀ (σ : aw_m) (v1 : Int32) (v2 : Int32) (v3 : Int32) , c_15 σ v1 v2 v3 = some q → aw_J κ 0 0 (rw_w ad ids σ) [(0, .ref (ad 0)), (1, .int v1), (2, .int v2), (3, .int v3)] 15 []) (hc_88 : ∀ (σ : aw_m) (v1 : Int32) (v2 : Int32) (v3 : Int32) (v4 : Int32) (v5 : Int32) , c_88 σ v1 v2 v3 v4 v5 = some q → aw_J κ 0 0 (rw_w ad ids σ) [(0, .ref (ad 0)), (1, .int v1), (2, .int v2), (3, .int v3), (4, .int v4), (5, .int v5)] 88 []) : ∀ (n : Nat) (σ : aw_m) (v1 : Int32) (v2 : Int32) (v3 : Int32) (v4 : Int32) (v5 : Int32) (v6 : Int32) , xq_R_load_329 c_15 c_88 n σ v1 v2 v3 v4 v5 v6 = some q → aw_J κ 0 0 (rw_w ad ids σ) [(0, .ref (ad 0)), (1, .int v1), (2, .int v2), (3, .int v3), (4, .int v4), (5, .int v5), (6, .int v6)] 329 [] := by
  intro n
  induction n with
  | zero => intro σ v1 v2 v3 v4 v5 v6 hm; cases hm
  | succ n ih =>
    intro σ v1 v2 v3 v4 v5 v6 hm
    rw [xq_R_load_329] at hm
    refine aw_iload C 6 xd_R_load_329 rfl ?_
    refine aw_bipush (v := (6 : Int32)) C xd_R_load_331 (by decide) ?_
    refine aw_icmp_ge (tgt := 362) C xd_R_load_333 (by decide) (fun c_333 => ?_) (fun c_333 => ?_)
    · rw [if_pos c_333] at hm
      refine aw_iload C 4 xd_R_load_362 rfl ?_
      cases hm
      exact aw_iret C xd_R_load_364
    · rw [if_neg c_333] at hm
      refine aw_iload_n C 2 xd_R_load_336 rfl rfl ?_
      refine aw_iload C 6 xd_R_load_337 rfl ?_
      refine aw_ishr C xd_R_load_339 ?_
      refine aw_iconst (v := (1 : Int32)) C xd_R_load_340 (by decide) ?_
      refine aw_iand C xd_R_load_341 ?_
      refine aw_if_ne (tgt := 356) C xd_R_load_342 (by decide) (fun c_342 => ?_) (fun c_342 => ?_)
      · rw [if_neg c_342] at hm
        refine aw_iinc (j := 6) (v := v6 + (1 : Int32)) (L' := [(6, .int (v6 + (1 : Int32))), (0, .ref (ad 0)), (1, .int v1), (2, .int v2), (3, .int v3), (4, .int v4), (5, .int v5)]) C xd_R_load_356 rfl rfl (by decide) rfl ?_
        refine aw_goto (tgt := 329) C xd_R_load_359 (by decide) ?_
        refine aw_loc (L' := [(0, .ref (ad 0)), (1, .int v1), (2, .int v2), (3, .int v3), (4, .int v4), (5, .int v5), (6, .int (v6 + (1 : Int32)))]) C [1, 2, 3, 4, 5, 6, 0] rfl ?_
        exact ih σ v1 v2 v3 v4 v5 (v6 + (1 : Int32))  hm
      · rw [if_pos c_342] at hm
        refine aw_aload_n C 0 xd_R_load_345 rfl rfl ?_
        refine aw_get C 0 (by decide) rfl rfl (fun w h => List.mem_cons_of_mem _ (xi_R w h)) 0 (by decide) rfl (List.mem_cons_of_mem _ fl_R_7) xd_R_load_346 ?_
        refine aw_bipush (v := (6 : Int32)) C xd_R_load_349 (by decide) ?_
        refine aw_iload C 6 xd_R_load_351 rfl ?_
        refine aw_iadd C xd_R_load_353 ?_
        refine aw_iconst (v := (0 : Int32)) C xd_R_load_354 (by decide) ?_
        obtain ⟨g_355, hm⟩ := aw_grd hm
        obtain ⟨s_355, h_355, hm⟩ := aw_let hm
        refine aw_iast (σ1 := s_355) (g := upd (σ 1) (Int32.toNatClampNeg ((6 : Int32) + v6)) (0 : Int32)) C 1 (by decide) 0 rfl rfl (aw_in_ok g_355) rfl h_355 xd_R_load_355 ?_
        refine aw_iinc (j := 6) (v := v6 + (1 : Int32)) (L' := [(6, .int (v6 + (1 : Int32))), (0, .ref (ad 0)), (1, .int v1), (2, .int v2), (3, .int v3), (4, .int v4), (5, .int v5)]) C xd_R_load_356 rfl rfl (by decide) rfl ?_
        refine aw_goto (tgt := 329) C xd_R_load_359 (by decide) ?_
        refine aw_loc (L' := [(0, .ref (ad 0)), (1, .int v1), (2, .int v2), (3, .int v3), (4, .int v4), (5, .int v5), (6, .int (v6 + (1 : Int32)))]) C [1, 2, 3, 4, 5, 6, 0] rfl ?_
        exact ih s_355 v1 v2 v3 v4 v5 (v6 + (1 : Int32))  hm
set_option maxHeartbeats 4000000 in
set_option maxRecDepth 100000 in
theorem xl_R_load_284 (c_15 : aw_m → Int32 → Int32 → Int32 → Option (Int32 × aw_m)) (c_88 : aw_m → Int32 → Int32 → Int32 → Int32 → Int32 → Option (Int32 × aw_m)) {κ : aw_K} (q : Int32 × aw_m) (C : aw_X l D (ty_z ids) (zs_T ps) (rm_D (2)) xb_R_load 9 "ModuleShelfModel" (xw_R_load :: gw_l) (some .int) (some (.int q.1)) (rw_w ad ids q.2) κ) (hc_15 : ∀ (σ : aw_m) (v1 : Int32) (v2 : Int32) (v3 : Int32) , c_15 σ v1 v2 v3 = some q → aw_J κ 0 0 (rw_w ad ids σ) [(0, .ref (ad 0)), (1, .int v1), (2, .int v2), (3, .int v3)] 15 []) (hc_88 : ∀ (σ : aw_m) (v1 : Int32) (v2 : Int32) (v3 : Int32) (v4 : Int32) (v5 : Int32) , c_88 σ v1 v2 v3 v4 v5 = some q → aw_J κ 0 0 (rw_w ad ids σ) [(0, .ref (ad 0)), (1, .int v1), (2, .int v2), (3, .int v3), (4, .int v4), (5, .int v5)] 88 []) : ∀ (n : Nat) (σ : aw_m) (v1 : Int32) (v2 : Int32) (v3 : Int32) (v4 : Int32) (v5 : Int32) (v6 : Int32) (v7 : Int32) (v8 : Int32) , xq_R_load_284 c_15 c_88 n σ v1 v2 v3 v4 v5 v6 v7 v8 = some q → aw_J κ 0 0 (rw_w ad ids σ) [(0, .ref (ad 0)), (1, .int v1), (2, .int v2), (3, .int v3), (4, .int v4), (5, .int v5), (6, .int v6), (7, .int v7), (8, .int v8)] 284 [] := by
  intro n
  induction n with
  | zero => intro σ v1 v2 v3 v4 v5 v6 v7 v8 hm; cases hm
  | succ n ih =>
    intro σ v1 v2 v3 v4 v5 v6 v7 v8 hm
    rw [xq_R_load_284] at hm
    refine aw_iload C 8 xd_R_load_284 rfl ?_
    refine aw_iconst (v := (3 : Int32)) C xd_R_load_286 (by decide) ?_
    refine aw_icmp_ge (tgt := 309) C xd_R_load_287 (by decide) (fun c_287 => ?_) (fun c_287 => ?_)
    · rw [if_pos c_287] at hm
      refine aw_iinc (j := 5) (v := v5 + (1 : Int32)) (L' := [(5, .int (v5 + (1 : Int32))), (0, .ref (ad 0)), (1, .int v1), (2, .int v2), (3, .int v3), (4, .int v4), (6, .int v6), (7, .int v7), (8, .int v8)]) C xd_R_load_309 rfl rfl (by decide) rfl ?_
      refine aw_iinc (j := 4) (v := v3 + (-1 : Int32)) (L' := [(3, .int (v3 + (-1 : Int32))), (5, .int (v5 + (1 : Int32))), (0, .ref (ad 0)), (1, .int v1), (2, .int v2), (4, .int v4), (6, .int v6), (7, .int v7), (8, .int v8)]) C xd_R_load_312 rfl rfl (by decide) rfl ?_
      refine aw_goto (tgt := 88) C xd_R_load_315 (by decide) ?_
      refine aw_loc (L' := [(0, .ref (ad 0)), (1, .int v1), (2, .int v2), (3, .int (v3 + (-1 : Int32))), (4, .int v4), (5, .int (v5 + (1 : Int32)))]) C [2, 3, 4, 0, 5, 1] rfl ?_
      exact hc_88 σ v1 v2 (v3 + (-1 : Int32)) v4 (v5 + (1 : Int32))  hm
    · rw [if_neg c_287] at hm
      refine aw_aload_n C 0 xd_R_load_290 rfl rfl ?_
      refine aw_get C 0 (by decide) rfl rfl (fun w h => List.mem_cons_of_mem _ (xi_R w h)) 11 (by decide) rfl (List.mem_cons_of_mem _ fl_R_43) xd_R_load_291 ?_
      refine aw_iconst (v := (3 : Int32)) C xd_R_load_294 (by decide) ?_
      refine aw_iload C 6 xd_R_load_295 rfl ?_
      refine aw_imul C xd_R_load_297 ?_
      refine aw_iload C 8 xd_R_load_298 rfl ?_
      refine aw_iadd C xd_R_load_300 ?_
      refine aw_iconst (v := (0 : Int32)) C xd_R_load_301 (by decide) ?_
      obtain ⟨g_302, hm⟩ := aw_grd hm
      obtain ⟨s_302, h_302, hm⟩ := aw_let hm
      refine aw_iast (σ1 := s_302) (g := upd (σ 12) (Int32.toNatClampNeg (((3 : Int32) * v6) + v8)) (0 : Int32)) C 12 (by decide) 0 rfl rfl (aw_in_ok g_302) rfl h_302 xd_R_load_302 ?_
      refine aw_iinc (j := 8) (v := v8 + (1 : Int32)) (L' := [(8, .int (v8 + (1 : Int32))), (0, .ref (ad 0)), (1, .int v1), (2, .int v2), (3, .int v3), (4, .int v4), (5, .int v5), (6, .int v6), (7, .int v7)]) C xd_R_load_303 rfl rfl (by decide) rfl ?_
      refine aw_goto (tgt := 284) C xd_R_load_306 (by decide) ?_
      refine aw_loc (L' := [(0, .ref (ad 0)), (1, .int v1), (2, .int v2), (3, .int v3), (4, .int v4), (5, .int v5), (6, .int v6), (7, .int v7), (8, .int (v8 + (1 : Int32)))]) C [1, 2, 3, 4, 5, 6, 7, 8, 0] rfl ?_
      exact ih s_302 v1 v2 v3 v4 v5 v6 v7 (v8 + (1 : Int32))  hm
set_option maxHeartbeats 4000000 in
set_option maxRecDepth 100000 in
theorem xl_R_load_88 (c_15 : aw_m → Int32 → Int32 → Int32 → Option (Int32 × aw_m)) {κ : aw_K} (q : Int32 × aw_m) (C : aw_X l D (ty_z ids) (zs_T ps) (rm_D (2)) xb_R_load 9 "ModuleShelfModel" (xw_R_load :: gw_l) (some .int) (some (.int q.1)) (rw_w ad ids q.2) κ) (hc_15 : ∀ (σ : aw_m) (v1 : Int32) (v2 : Int32) (v3 : Int32) , c_15 σ v1 v2 v3 = some q → aw_J κ 0 0 (rw_w ad ids σ) [(0, .ref (ad 0)), (1, .int v1), (2, .int v2), (3, .int v3)] 15 []) : ∀ (n : Nat) (σ : aw_m) (v1 : Int32) (v2 : Int32) (v3 : Int32) (v4 : Int32) (v5 : Int32) , xq_R_load_88 c_15 n σ v1 v2 v3 v4 v5 = some q → aw_J κ 0 0 (rw_w ad ids σ) [(0, .ref (ad 0)), (1, .int v1), (2, .int v2), (3, .int v3), (4, .int v4), (5, .int v5)] 88 [] := by
  intro n
  induction n with
  | zero => intro σ v1 v2 v3 v4 v5 hm; cases hm
  | succ n ih =>
    intro σ v1 v2 v3 v4 v5 hm
    rw [xq_R_load_88] at hm
    refine aw_iload_n C 3 xd_R_load_88 rfl rfl ?_
    refine aw_if_le (tgt := 318) C xd_R_load_89 (by decide) (fun c_89 => ?_) (fun c_89 => ?_)
    · rw [if_pos c_89] at hm
      refine aw_iload C 4 xd_R_load_318 rfl ?_
      refine aw_if_ne (tgt := 326) C xd_R_load_320 (by decide) (fun c_320 => ?_) (fun c_320 => ?_)
      · rw [if_neg c_320] at hm
        refine aw_iconst (v := (0 : Int32)) C xd_R_load_326 (by decide) ?_
        refine aw_istore (L' := [(6, .int (0 : Int32)), (0, .ref (ad 0)), (1, .int v1), (2, .int v2), (3, .int v3), (4, .int v4), (5, .int v5)]) C xd_R_load_327 (by decide) rfl ?_
        refine aw_loc (L' := [(0, .ref (ad 0)), (1, .int v1), (2, .int v2), (3, .int v3), (4, .int v4), (5, .int v5), (6, .int (0 : Int32))]) C [1, 2, 3, 4, 5, 6, 0] rfl ?_
        exact xl_R_load_329 c_15 (xq_R_load_88 c_15 n) _ C hc_15 ih 200 σ v1 v2 v3 v4 v5 (0 : Int32)  hm
      · rw [if_pos c_320] at hm
        refine aw_iload C 5 xd_R_load_323 rfl ?_
        cases hm
        exact aw_iret C xd_R_load_325
    · rw [if_neg c_89] at hm
      refine aw_iload C 4 xd_R_load_92 rfl ?_
      refine aw_if_ne (tgt := 318) C xd_R_load_94 (by decide) (fun c_94 => ?_) (fun c_94 => ?_)
      · rw [if_neg c_94] at hm
        refine aw_iload C 4 xd_R_load_318 rfl ?_
        refine aw_if_ne (tgt := 326) C xd_R_load_320 (by decide) (fun c_320 => ?_) (fun c_320 => ?_)
        · rw [if_neg c_320] at hm
          refine aw_iconst (v := (0 : Int32)) C xd_R_load_326 (by decide) ?_
          refine aw_istore (L' := [(6, .int (0 : Int32)), (0, .ref (ad 0)), (1, .int v1), (2, .int v2), (3, .int v3), (4, .int v4), (5, .int v5)]) C xd_R_load_327 (by decide) rfl ?_
          refine aw_loc (L' := [(0, .ref (ad 0)), (1, .int v1), (2, .int v2), (3, .int v3), (4, .int v4), (5, .int v5), (6, .int (0 : Int32))]) C [1, 2, 3, 4, 5, 6, 0] rfl ?_
          exact xl_R_load_329 c_15 (xq_R_load_88 c_15 n) _ C hc_15 ih 200 σ v1 v2 v3 v4 v5 (0 : Int32)  hm
        · rw [if_pos c_320] at hm
          refine aw_iload C 5 xd_R_load_323 rfl ?_
          cases hm
          exact aw_iret C xd_R_load_325
      · rw [if_pos c_94] at hm
        refine aw_aload_n C 0 xd_R_load_97 rfl rfl ?_
        refine aw_get C 0 (by decide) rfl rfl (fun w h => List.mem_cons_of_mem _ (xi_R w h)) 16 (by decide) rfl (List.mem_cons_of_mem _ fl_R_50) xd_R_load_98 ?_
        refine aw_iload_n C 3 xd_R_load_101 rfl rfl ?_
        refine aw_iconst (v := (1 : Int32)) C xd_R_load_102 (by decide) ?_
        refine aw_isub C xd_R_load_103 ?_
        obtain ⟨g_104, hm⟩ := aw_grd hm
        refine aw_iald C 13 (by decide) 0 rfl rfl (aw_in_ok g_104) xd_R_load_104 ?_
        refine aw_istore (L' := [(6, .int (σ 13 (Int32.toNatClampNeg (v3 - (1 : Int32))))), (0, .ref (ad 0)), (1, .int v1), (2, .int v2), (3, .int v3), (4, .int v4), (5, .int v5)]) C xd_R_load_105 (by decide) rfl ?_
        refine aw_aload_n C 1 xd_R_load_107 rfl rfl ?_
        refine aw_get C 0 (by decide) rfl rfl (fun w h => List.mem_cons_of_mem _ (xi_R w h)) 17 (by decide) rfl (List.mem_cons_of_mem _ fl_R_53) xd_R_load_108 ?_
        refine aw_iload_n C 4 xd_R_load_111 rfl rfl ?_
        refine aw_iconst (v := (1 : Int32)) C xd_R_load_112 (by decide) ?_
        refine aw_isub C xd_R_load_113 ?_
        obtain ⟨g_114, hm⟩ := aw_grd hm
        refine aw_iald C 14 (by decide) 0 rfl rfl (aw_in_ok g_114) xd_R_load_114 ?_
        refine aw_istore (L' := [(7, .int (σ 14 (Int32.toNatClampNeg (v3 - (1 : Int32))))), (6, .int (σ 13 (Int32.toNatClampNeg (v3 - (1 : Int32))))), (0, .ref (ad 0)), (1, .int v1), (2, .int v2), (3, .int v3), (4, .int v4), (5, .int v5)]) C xd_R_load_115 (by decide) rfl ?_
        refine aw_iload C 0 xd_R_load_117 rfl ?_
        refine aw_aload_n C 2 xd_R_load_119 rfl rfl ?_
        refine aw_get C 0 (by decide) rfl rfl (fun w h => List.mem_cons_of_mem _ (xi_R w h)) 8 (by decide) rfl (List.mem_cons_of_mem _ fl_R_34) xd_R_load_120 ?_
        refine aw_iload C 1 xd_R_load_123 rfl ?_
        obtain ⟨g_125, hm⟩ := aw_grd hm
        refine aw_iald C 9 (by decide) 0 rfl rfl (aw_in_ok g_125) xd_R_load_125 ?_
        refine aw_icmp_ge (tgt := 230) C xd_R_load_126 (by decide) (fun c_126 => ?_) (fun c_126 => ?_)
        · rw [if_pos c_126] at hm
          refine aw_aload_n C 2 xd_R_load_230 rfl rfl ?_
          refine aw_iload C 1 xd_R_load_231 rfl ?_
          obtain ⟨q_233, e_233, hm⟩ := aw_bnd hm
          refine aw_callVi (As := [.int (σ 13 (Int32.toNatClampNeg (v3 - (1 : Int32))))]) (rest := []) (b := ad 0) C (xc_R_cells σ (σ 13 (Int32.toNatClampNeg (v3 - (1 : Int32)))) _  e_233) rfl (gw_sub (gw_V xg_R_cells ml_R_113 im_R_cells se_R_cells wi_R)) na_R_cells (rm_lt (by decide) (by decide)) ⟨Nat.zero_le _, Nat.zero_le _⟩ 0 at_R rfl rfl (Nat.le_of_ble_eq_true rfl) xd_R_load_233 ?_
          refine aw_aload_n C 2 xd_R_load_236 rfl rfl ?_
          obtain ⟨q_237, e_237, hm⟩ := aw_bnd hm
          refine aw_callVi (As := []) (rest := [.int q_233]) (b := ad 0) C (xc_R_allCells σ  _  e_237) rfl (gw_sub (gw_V xg_R_allCells ml_R_120 im_R_allCells se_R_allCells wi_R)) na_R_allCells (rm_lt (by decide) (by decide)) ⟨Nat.zero_le _, Nat.zero_le _⟩ 0 at_R rfl rfl (Nat.le_of_ble_eq_true rfl) xd_R_load_237 ?_
          refine aw_iadd C xd_R_load_240 ?_
          refine aw_bipush (v := (50 : Int32)) C xd_R_load_241 (by decide) ?_
          refine aw_icmp_le (tgt := 253) C xd_R_load_243 (by decide) (fun c_243 => ?_) (fun c_243 => ?_)
          · rw [if_pos c_243] at hm
            refine aw_aload_n C 2 xd_R_load_253 rfl rfl ?_
            refine aw_iload C 1 xd_R_load_254 rfl ?_
            refine aw_bipush (v := (6 : Int32)) C xd_R_load_256 (by decide) ?_
            refine aw_iload C 1 xd_R_load_258 rfl ?_
            refine aw_iadd C xd_R_load_260 ?_
            obtain ⟨q_261, e_261, hm⟩ := aw_bnd hm
            refine aw_callVv (As := [.int (σ 13 (Int32.toNatClampNeg (v3 - (1 : Int32)))), .int ((6 : Int32) + (σ 13 (Int32.toNatClampNeg (v3 - (1 : Int32)))))]) (rest := []) (b := ad 0) C (xc_R_copy σ (σ 13 (Int32.toNatClampNeg (v3 - (1 : Int32)))) ((6 : Int32) + (σ 13 (Int32.toNatClampNeg (v3 - (1 : Int32))))) _  e_261) rfl (gw_sub (gw_V xg_R_copy ml_R_109 im_R_copy se_R_copy wi_R)) na_R_copy (rm_lt (by decide) (by decide)) ⟨Nat.zero_le _, Nat.zero_le _⟩ 0 at_R rfl rfl (Nat.le_of_ble_eq_true rfl) xd_R_load_261 ?_
            refine aw_aload_n C 2 xd_R_load_264 rfl rfl ?_
            refine aw_get C 0 (by decide) rfl rfl (fun w h => List.mem_cons_of_mem _ (xi_R w h)) 0 (by decide) rfl (List.mem_cons_of_mem _ fl_R_7) xd_R_load_265 ?_
            refine aw_bipush (v := (6 : Int32)) C xd_R_load_268 (by decide) ?_
            refine aw_iload C 1 xd_R_load_270 rfl ?_
            refine aw_iadd C xd_R_load_272 ?_
            refine aw_aload_n C 2 xd_R_load_273 rfl rfl ?_
            refine aw_get C 0 (by decide) rfl rfl (fun w h => List.mem_cons_of_mem _ (xi_R w h)) 0 (by decide) rfl (List.mem_cons_of_mem _ fl_R_7) xd_R_load_274 ?_
            refine aw_iload C 1 xd_R_load_277 rfl ?_
            obtain ⟨g_279, hm⟩ := aw_grd hm
            refine aw_iald C 1 (by decide) 0 rfl rfl (aw_in_ok g_279) xd_R_load_279 ?_
            obtain ⟨g_280, hm⟩ := aw_grd hm
            obtain ⟨s_280, h_280, hm⟩ := aw_let hm
            refine aw_iast (σ1 := s_280) (g := upd (q_261 1) (Int32.toNatClampNeg ((6 : Int32) + (σ 13 (Int32.toNatClampNeg (v3 - (1 : Int32)))))) (q_261 1 (Int32.toNatClampNeg (σ 13 (Int32.toNatClampNeg (v3 - (1 : Int32))))))) C 1 (by decide) 0 rfl rfl (aw_in_ok g_280) rfl h_280 xd_R_load_280 ?_
            refine aw_iconst (v := (0 : Int32)) C xd_R_load_281 (by decide) ?_
            refine aw_istore (L' := [(8, .int (0 : Int32)), (7, .int (σ 14 (Int32.toNatClampNeg (v3 - (1 : Int32))))), (6, .int (σ 13 (Int32.toNatClampNeg (v3 - (1 : Int32))))), (0, .ref (ad 0)), (1, .int v1), (2, .int v2), (3, .int v3), (4, .int v4), (5, .int v5)]) C xd_R_load_282 (by decide) rfl ?_
            refine aw_loc (L' := [(0, .ref (ad 0)), (1, .int v1), (2, .int v2), (3, .int v3), (4, .int v4), (5, .int v5), (6, .int (σ 13 (Int32.toNatClampNeg (v3 - (1 : Int32))))), (7, .int (σ 14 (Int32.toNatClampNeg (v3 - (1 : Int32))))), (8, .int (0 : Int32))]) C [3, 4, 5, 6, 7, 8, 2, 1, 0] rfl ?_
            exact xl_R_load_284 c_15 (xq_R_load_88 c_15 n) _ C hc_15 ih 200 s_280 v1 v2 v3 v4 v5 (σ 13 (Int32.toNatClampNeg (v3 - (1 : Int32)))) (σ 14 (Int32.toNatClampNeg (v3 - (1 : Int32)))) (0 : Int32)  hm
          · rw [if_neg c_243] at hm
            refine aw_bipush (v := (-2 : Int32)) C xd_R_load_246 (by decide) ?_
            refine aw_istore (L' := [(4, .int (-2 : Int32)), (7, .int (σ 14 (Int32.toNatClampNeg (v3 - (1 : Int32))))), (6, .int (σ 13 (Int32.toNatClampNeg (v3 - (1 : Int32))))), (0, .ref (ad 0)), (1, .int v1), (2, .int v2), (3, .int v3), (5, .int v5)]) C xd_R_load_248 (by decide) rfl ?_
            refine aw_goto (tgt := 315) C xd_R_load_250 (by decide) ?_
            refine aw_goto (tgt := 88) C xd_R_load_315 (by decide) ?_
            refine aw_loc (L' := [(0, .ref (ad 0)), (1, .int v1), (2, .int v2), (3, .int v3), (4, .int (-2 : Int32)), (5, .int v5)]) C [3, 4, 5, 6, 0, 7] rfl ?_
            exact ih σ v1 v2 v3 (-2 : Int32) v5  hm
        · rw [if_neg c_126] at hm
          refine aw_aload_n C 2 xd_R_load_129 rfl rfl ?_
          refine aw_get C 0 (by decide) rfl rfl (fun w h => List.mem_cons_of_mem _ (xi_R w h)) 9 (by decide) rfl (List.mem_cons_of_mem _ fl_R_37) xd_R_load_130 ?_
          refine aw_iconst (v := (5 : Int32)) C xd_R_load_133 (by decide) ?_
          refine aw_iload C 1 xd_R_load_134 rfl ?_
          refine aw_imul C xd_R_load_136 ?_
          refine aw_iload C 0 xd_R_load_137 rfl ?_
          refine aw_iadd C xd_R_load_139 ?_
          obtain ⟨g_140, hm⟩ := aw_grd hm
          refine aw_iald C 10 (by decide) 0 rfl rfl (aw_in_ok g_140) xd_R_load_140 ?_
          refine aw_istore (L' := [(8, .int (σ 10 (Int32.toNatClampNeg (((5 : Int32) * (σ 13 (Int32.toNatClampNeg (v3 - (1 : Int32))))) + (σ 14 (Int32.toNatClampNeg (v3 - (1 : Int32)))))))), (7, .int (σ 14 (Int32.toNatClampNeg (v3 - (1 : Int32))))), (6, .int (σ 13 (Int32.toNatClampNeg (v3 - (1 : Int32))))), (0, .ref (ad 0)), (1, .int v1), (2, .int v2), (3, .int v3), (4, .int v4), (5, .int v5)]) C xd_R_load_141 (by decide) rfl ?_
          refine aw_aload_n C 3 xd_R_load_143 rfl rfl ?_
          refine aw_get C 0 (by decide) rfl rfl (fun w h => List.mem_cons_of_mem _ (xi_R w h)) 0 (by decide) rfl (List.mem_cons_of_mem _ fl_R_7) xd_R_load_144 ?_
          refine aw_bipush (v := (6 : Int32)) C xd_R_load_147 (by decide) ?_
          refine aw_iload C 0 xd_R_load_149 rfl ?_
          refine aw_iadd C xd_R_load_151 ?_
          obtain ⟨g_152, hm⟩ := aw_grd hm
          refine aw_iald C 1 (by decide) 0 rfl rfl (aw_in_ok g_152) xd_R_load_152 ?_
          refine aw_if_ne (tgt := 186) C xd_R_load_153 (by decide) (fun c_153 => ?_) (fun c_153 => ?_)
          · rw [if_neg c_153] at hm
            refine aw_aload_n C 3 xd_R_load_186 rfl rfl ?_
            refine aw_get C 0 (by decide) rfl rfl (fun w h => List.mem_cons_of_mem _ (xi_R w h)) 0 (by decide) rfl (List.mem_cons_of_mem _ fl_R_7) xd_R_load_187 ?_
            refine aw_bipush (v := (6 : Int32)) C xd_R_load_190 (by decide) ?_
            refine aw_iload C 0 xd_R_load_192 rfl ?_
            refine aw_iadd C xd_R_load_194 ?_
            obtain ⟨g_195, hm⟩ := aw_grd hm
            refine aw_iald C 1 (by decide) 0 rfl rfl (aw_in_ok g_195) xd_R_load_195 ?_
            refine aw_aload_n C 3 xd_R_load_196 rfl rfl ?_
            refine aw_get C 0 (by decide) rfl rfl (fun w h => List.mem_cons_of_mem _ (xi_R w h)) 10 (by decide) rfl (List.mem_cons_of_mem _ fl_R_40) xd_R_load_197 ?_
            refine aw_iconst (v := (5 : Int32)) C xd_R_load_200 (by decide) ?_
            refine aw_iload C 2 xd_R_load_201 rfl ?_
            refine aw_imul C xd_R_load_203 ?_
            refine aw_iload C 1 xd_R_load_204 rfl ?_
            refine aw_iadd C xd_R_load_206 ?_
            obtain ⟨g_207, hm⟩ := aw_grd hm
            refine aw_iald C 11 (by decide) 0 rfl rfl (aw_in_ok g_207) xd_R_load_207 ?_
            refine aw_icmp_eq (tgt := 215) C xd_R_load_208 (by decide) (fun c_208 => ?_) (fun c_208 => ?_)
            · rw [if_pos c_208] at hm
              refine aw_aload_n C 3 xd_R_load_215 rfl rfl ?_
              refine aw_get C 0 (by decide) rfl rfl (fun w h => List.mem_cons_of_mem _ (xi_R w h)) 17 (by decide) rfl (List.mem_cons_of_mem _ fl_R_53) xd_R_load_216 ?_
              refine aw_iload_n C 6 xd_R_load_219 rfl rfl ?_
              refine aw_iconst (v := (1 : Int32)) C xd_R_load_220 (by decide) ?_
              refine aw_isub C xd_R_load_221 ?_
              refine aw_dup2 C xd_R_load_222 rfl rfl ?_
              obtain ⟨g_223, hm⟩ := aw_grd hm
              refine aw_iald C 14 (by decide) 0 rfl rfl (aw_in_ok g_223) xd_R_load_223 ?_
              refine aw_iconst (v := (1 : Int32)) C xd_R_load_224 (by decide) ?_
              refine aw_iadd C xd_R_load_225 ?_
              obtain ⟨g_226, hm⟩ := aw_grd hm
              obtain ⟨s_226, h_226, hm⟩ := aw_let hm
              refine aw_iast (σ1 := s_226) (g := upd (σ 14) (Int32.toNatClampNeg (v3 - (1 : Int32))) ((σ 14 (Int32.toNatClampNeg (v3 - (1 : Int32)))) + (1 : Int32))) C 14 (by decide) 0 rfl rfl (aw_in_ok g_226) rfl h_226 xd_R_load_226 ?_
              refine aw_goto (tgt := 315) C xd_R_load_227 (by decide) ?_
              refine aw_goto (tgt := 88) C xd_R_load_315 (by decide) ?_
              refine aw_loc (L' := [(0, .ref (ad 0)), (1, .int v1), (2, .int v2), (3, .int v3), (4, .int v4), (5, .int v5)]) C [3, 4, 5, 6, 7, 8] rfl ?_
              exact ih s_226 v1 v2 v3 v4 v5  hm
            · rw [if_neg c_208] at hm
              refine aw_bipush (v := (-5 : Int32)) C xd_R_load_211 (by decide) ?_
              refine aw_istore (L' := [(4, .int (-5 : Int32)), (8, .int (σ 10 (Int32.toNatClampNeg (((5 : Int32) * (σ 13 (Int32.toNatClampNeg (v3 - (1 : Int32))))) + (σ 14 (Int32.toNatClampNeg (v3 - (1 : Int32)))))))), (7, .int (σ 14 (Int32.toNatClampNeg (v3 - (1 : Int32))))), (6, .int (σ 13 (Int32.toNatClampNeg (v3 - (1 : Int32))))), (0, .ref (ad 0)), (1, .int v1), (2, .int v2), (3, .int v3), (5, .int v5)]) C xd_R_load_213 (by decide) rfl ?_
              refine aw_aload_n C 4 xd_R_load_215 rfl rfl ?_
              refine aw_get C 0 (by decide) rfl rfl (fun w h => List.mem_cons_of_mem _ (xi_R w h)) 17 (by decide) rfl (List.mem_cons_of_mem _ fl_R_53) xd_R_load_216 ?_
              refine aw_iload_n C 7 xd_R_load_219 rfl rfl ?_
              refine aw_iconst (v := (1 : Int32)) C xd_R_load_220 (by decide) ?_
              refine aw_isub C xd_R_load_221 ?_
              refine aw_dup2 C xd_R_load_222 rfl rfl ?_
              obtain ⟨g_223, hm⟩ := aw_grd hm
              refine aw_iald C 14 (by decide) 0 rfl rfl (aw_in_ok g_223) xd_R_load_223 ?_
              refine aw_iconst (v := (1 : Int32)) C xd_R_load_224 (by decide) ?_
              refine aw_iadd C xd_R_load_225 ?_
              obtain ⟨g_226, hm⟩ := aw_grd hm
              obtain ⟨s_226, h_226, hm⟩ := aw_let hm
              refine aw_iast (σ1 := s_226) (g := upd (σ 14) (Int32.toNatClampNeg (v3 - (1 : Int32))) ((σ 14 (Int32.toNatClampNeg (v3 - (1 : Int32)))) + (1 : Int32))) C 14 (by decide) 0 rfl rfl (aw_in_ok g_226) rfl h_226 xd_R_load_226 ?_
              refine aw_goto (tgt := 315) C xd_R_load_227 (by decide) ?_
              refine aw_goto (tgt := 88) C xd_R_load_315 (by decide) ?_
              refine aw_loc (L' := [(0, .ref (ad 0)), (1, .int v1), (2, .int v2), (3, .int v3), (4, .int (-5 : Int32)), (5, .int v5)]) C [4, 5, 6, 7, 0, 8] rfl ?_
              exact ih s_226 v1 v2 v3 (-5 : Int32) v5  hm
          · rw [if_pos c_153] at hm
            refine aw_aload_n C 3 xd_R_load_156 rfl rfl ?_
            refine aw_iload C 0 xd_R_load_157 rfl ?_
            refine aw_iload_n C 6 xd_R_load_159 rfl rfl ?_
            obtain ⟨q_160, e_160, hm⟩ := aw_bnd hm
            refine aw_callVi (As := [.int (σ 10 (Int32.toNatClampNeg (((5 : Int32) * (σ 13 (Int32.toNatClampNeg (v3 - (1 : Int32))))) + (σ 14 (Int32.toNatClampNeg (v3 - (1 : Int32))))))), .int v3]) (rest := []) (b := ad 0) C (xc_R_begins σ (σ 10 (Int32.toNatClampNeg (((5 : Int32) * (σ 13 (Int32.toNatClampNeg (v3 - (1 : Int32))))) + (σ 14 (Int32.toNatClampNeg (v3 - (1 : Int32))))))) v3 _  e_160) rfl (gw_sub (gw_V xg_R_begins ml_R_117 im_R_begins se_R_begins wi_R)) na_R_begins (rm_lt (by decide) (by decide)) ⟨Nat.zero_le _, Nat.zero_le _⟩ 0 at_R rfl rfl (Nat.le_of_ble_eq_true rfl) xd_R_load_160 ?_
            refine aw_istore (L' := [(4, .int q_160), (8, .int (σ 10 (Int32.toNatClampNeg (((5 : Int32) * (σ 13 (Int32.toNatClampNeg (v3 - (1 : Int32))))) + (σ 14 (Int32.toNatClampNeg (v3 - (1 : Int32)))))))), (7, .int (σ 14 (Int32.toNatClampNeg (v3 - (1 : Int32))))), (6, .int (σ 13 (Int32.toNatClampNeg (v3 - (1 : Int32))))), (0, .ref (ad 0)), (1, .int v1), (2, .int v2), (3, .int v3), (5, .int v5)]) C xd_R_load_163 (by decide) rfl ?_
            refine aw_aload_n C 4 xd_R_load_165 rfl rfl ?_
            refine aw_get C 0 (by decide) rfl rfl (fun w h => List.mem_cons_of_mem _ (xi_R w h)) 16 (by decide) rfl (List.mem_cons_of_mem _ fl_R_50) xd_R_load_166 ?_
            refine aw_iload_n C 7 xd_R_load_169 rfl rfl ?_
            refine aw_iload C 1 xd_R_load_170 rfl ?_
            obtain ⟨g_172, hm⟩ := aw_grd hm
            obtain ⟨s_172, h_172, hm⟩ := aw_let hm
            refine aw_iast (σ1 := s_172) (g := upd (σ 13) (Int32.toNatClampNeg v3) (σ 10 (Int32.toNatClampNeg (((5 : Int32) * (σ 13 (Int32.toNatClampNeg (v3 - (1 : Int32))))) + (σ 14 (Int32.toNatClampNeg (v3 - (1 : Int32)))))))) C 13 (by decide) 0 rfl rfl (aw_in_ok g_172) rfl h_172 xd_R_load_172 ?_
            refine aw_aload_n C 4 xd_R_load_173 rfl rfl ?_
            refine aw_get C 0 (by decide) rfl rfl (fun w h => List.mem_cons_of_mem _ (xi_R w h)) 17 (by decide) rfl (List.mem_cons_of_mem _ fl_R_53) xd_R_load_174 ?_
            refine aw_iload_n C 7 xd_R_load_177 rfl rfl ?_
            refine aw_iconst (v := (0 : Int32)) C xd_R_load_178 (by decide) ?_
            obtain ⟨g_179, hm⟩ := aw_grd hm
            obtain ⟨s_179, h_179, hm⟩ := aw_let hm
            refine aw_iast (σ1 := s_179) (g := upd (s_172 14) (Int32.toNatClampNeg v3) (0 : Int32)) C 14 (by decide) 0 rfl rfl (aw_in_ok g_179) rfl h_179 xd_R_load_179 ?_
            refine aw_iinc (j := 7) (v := v3 + (1 : Int32)) (L' := [(3, .int (v3 + (1 : Int32))), (4, .int q_160), (8, .int (σ 10 (Int32.toNatClampNeg (((5 : Int32) * (σ 13 (Int32.toNatClampNeg (v3 - (1 : Int32))))) + (σ 14 (Int32.toNatClampNeg (v3 - (1 : Int32)))))))), (7, .int (σ 14 (Int32.toNatClampNeg (v3 - (1 : Int32))))), (6, .int (σ 13 (Int32.toNatClampNeg (v3 - (1 : Int32))))), (0, .ref (ad 0)), (1, .int v1), (2, .int v2), (5, .int v5)]) C xd_R_load_180 rfl rfl (by decide) rfl ?_
            refine aw_goto (tgt := 227) C xd_R_load_183 (by decide) ?_
            refine aw_goto (tgt := 315) C xd_R_load_227 (by decide) ?_
            refine aw_goto (tgt := 88) C xd_R_load_315 (by decide) ?_
            refine aw_loc (L' := [(0, .ref (ad 0)), (1, .int v1), (2, .int v2), (3, .int (v3 + (1 : Int32))), (4, .int q_160), (5, .int v5)]) C [5, 6, 7, 0, 1, 8] rfl ?_
            exact ih s_179 v1 v2 (v3 + (1 : Int32)) q_160 v5  hm
set_option maxHeartbeats 4000000 in
set_option maxRecDepth 100000 in
theorem xl_R_load_15  {κ : aw_K} (q : Int32 × aw_m) (C : aw_X l D (ty_z ids) (zs_T ps) (rm_D (2)) xb_R_load 9 "ModuleShelfModel" (xw_R_load :: gw_l) (some .int) (some (.int q.1)) (rw_w ad ids q.2) κ) : ∀ (n : Nat) (σ : aw_m) (v1 : Int32) (v2 : Int32) (v3 : Int32) , xq_R_load_15 n σ v1 v2 v3 = some q → aw_J κ 0 0 (rw_w ad ids σ) [(0, .ref (ad 0)), (1, .int v1), (2, .int v2), (3, .int v3)] 15 [] := by
  intro n
  induction n with
  | zero => intro σ v1 v2 v3 hm; cases hm
  | succ n ih =>
    intro σ v1 v2 v3 hm
    rw [xq_R_load_15] at hm
    refine aw_iload_n C 3 xd_R_load_15 rfl rfl ?_
    refine aw_bipush (v := (6 : Int32)) C xd_R_load_16 (by decide) ?_
    refine aw_icmp_ge (tgt := 45) C xd_R_load_18 (by decide) (fun c_18 => ?_) (fun c_18 => ?_)
    · rw [if_pos c_18] at hm
      refine aw_aload_n C 0 xd_R_load_45 rfl rfl ?_
      refine aw_get C 0 (by decide) rfl rfl (fun w h => List.mem_cons_of_mem _ (xi_R w h)) 0 (by decide) rfl (List.mem_cons_of_mem _ fl_R_7) xd_R_load_46 ?_
      refine aw_bipush (v := (6 : Int32)) C xd_R_load_49 (by decide) ?_
      refine aw_iload_n C 1 xd_R_load_51 rfl rfl ?_
      refine aw_iadd C xd_R_load_52 ?_
      obtain ⟨g_53, hm⟩ := aw_grd hm
      refine aw_iald C 1 (by decide) 0 rfl rfl (aw_in_ok g_53) xd_R_load_53 ?_
      refine aw_if_le (tgt := 59) C xd_R_load_54 (by decide) (fun c_54 => ?_) (fun c_54 => ?_)
      · rw [if_pos c_54] at hm
        refine aw_iconst (v := (0 : Int32)) C xd_R_load_59 (by decide) ?_
        refine aw_istore_n (L' := [(3, .int (0 : Int32)), (0, .ref (ad 0)), (1, .int v1), (2, .int v2)]) C xd_R_load_60 rfl (by decide) rfl ?_
        refine aw_aload_n C 1 xd_R_load_61 rfl rfl ?_
        refine aw_iload_n C 2 xd_R_load_62 rfl rfl ?_
        refine aw_iconst (v := (0 : Int32)) C xd_R_load_63 (by decide) ?_
        obtain ⟨q_64, e_64, hm⟩ := aw_bnd hm
        refine aw_callVi (As := [.int v1, .int (0 : Int32)]) (rest := []) (b := ad 0) C (xc_R_begins σ v1 (0 : Int32) _  e_64) rfl (gw_sub (gw_V xg_R_begins ml_R_117 im_R_begins se_R_begins wi_R)) na_R_begins (rm_lt (by decide) (by decide)) ⟨Nat.zero_le _, Nat.zero_le _⟩ 0 at_R rfl rfl (Nat.le_of_ble_eq_true rfl) xd_R_load_64 ?_
        refine aw_istore (L' := [(4, .int q_64), (3, .int (0 : Int32)), (0, .ref (ad 0)), (1, .int v1), (2, .int v2)]) C xd_R_load_67 (by decide) rfl ?_
        refine aw_aload_n C 2 xd_R_load_69 rfl rfl ?_
        refine aw_get C 0 (by decide) rfl rfl (fun w h => List.mem_cons_of_mem _ (xi_R w h)) 16 (by decide) rfl (List.mem_cons_of_mem _ fl_R_50) xd_R_load_70 ?_
        refine aw_iconst (v := (0 : Int32)) C xd_R_load_73 (by decide) ?_
        refine aw_iload_n C 3 xd_R_load_74 rfl rfl ?_
        obtain ⟨s_75, h_75, hm⟩ := aw_let hm
        refine aw_iast (σ1 := s_75) (g := upd (σ 13) (Int32.toNatClampNeg (0 : Int32)) v1) C 13 (by decide) 0 rfl rfl (aw_in_ok rfl) rfl h_75 xd_R_load_75 ?_
        refine aw_aload_n C 2 xd_R_load_76 rfl rfl ?_
        refine aw_get C 0 (by decide) rfl rfl (fun w h => List.mem_cons_of_mem _ (xi_R w h)) 17 (by decide) rfl (List.mem_cons_of_mem _ fl_R_53) xd_R_load_77 ?_
        refine aw_iconst (v := (0 : Int32)) C xd_R_load_80 (by decide) ?_
        refine aw_iconst (v := (0 : Int32)) C xd_R_load_81 (by decide) ?_
        obtain ⟨s_82, h_82, hm⟩ := aw_let hm
        refine aw_iast (σ1 := s_82) (g := upd (s_75 14) (Int32.toNatClampNeg (0 : Int32)) (0 : Int32)) C 14 (by decide) 0 rfl rfl (aw_in_ok rfl) rfl h_82 xd_R_load_82 ?_
        refine aw_iconst (v := (1 : Int32)) C xd_R_load_83 (by decide) ?_
        refine aw_istore_n (L' := [(3, .int (1 : Int32)), (4, .int q_64), (0, .ref (ad 0)), (1, .int v1), (2, .int v2)]) C xd_R_load_84 rfl (by decide) rfl ?_
        refine aw_iconst (v := (0 : Int32)) C xd_R_load_85 (by decide) ?_
        refine aw_istore (L' := [(5, .int (0 : Int32)), (3, .int (1 : Int32)), (4, .int q_64), (0, .ref (ad 0)), (1, .int v1), (2, .int v2)]) C xd_R_load_86 (by decide) rfl ?_
        refine aw_loc (L' := [(0, .ref (ad 0)), (1, .int v1), (2, .int v2), (3, .int (1 : Int32)), (4, .int q_64), (5, .int (0 : Int32))]) C [3, 4, 5, 1, 2, 0] rfl ?_
        exact xl_R_load_88 (xq_R_load_15 n) _ C ih 200 s_82 v1 v2 (1 : Int32) q_64 (0 : Int32)  hm
      · rw [if_neg c_54] at hm
        refine aw_iconst (v := (0 : Int32)) C xd_R_load_57 (by decide) ?_
        cases hm
        exact aw_iret C xd_R_load_58
    · rw [if_neg c_18] at hm
      refine aw_aload_n C 0 xd_R_load_21 rfl rfl ?_
      refine aw_get C 0 (by decide) rfl rfl (fun w h => List.mem_cons_of_mem _ (xi_R w h)) 0 (by decide) rfl (List.mem_cons_of_mem _ fl_R_7) xd_R_load_22 ?_
      refine aw_bipush (v := (6 : Int32)) C xd_R_load_25 (by decide) ?_
      refine aw_iload_n C 3 xd_R_load_27 rfl rfl ?_
      refine aw_iadd C xd_R_load_28 ?_
      obtain ⟨g_29, hm⟩ := aw_grd hm
      refine aw_iald C 1 (by decide) 0 rfl rfl (aw_in_ok g_29) xd_R_load_29 ?_
      refine aw_if_le (tgt := 39) C xd_R_load_30 (by decide) (fun c_30 => ?_) (fun c_30 => ?_)
      · rw [if_pos c_30] at hm
        refine aw_iinc (j := 3) (v := v3 + (1 : Int32)) (L' := [(3, .int (v3 + (1 : Int32))), (0, .ref (ad 0)), (1, .int v1), (2, .int v2)]) C xd_R_load_39 rfl rfl (by decide) rfl ?_
        refine aw_goto (tgt := 15) C xd_R_load_42 (by decide) ?_
        refine aw_loc (L' := [(0, .ref (ad 0)), (1, .int v1), (2, .int v2), (3, .int (v3 + (1 : Int32)))]) C [1, 2, 3, 0] rfl ?_
        exact ih σ v1 v2 (v3 + (1 : Int32))  hm
      · rw [if_neg c_30] at hm
        refine aw_iload_n C 2 xd_R_load_33 rfl rfl ?_
        refine aw_iconst (v := (1 : Int32)) C xd_R_load_34 (by decide) ?_
        refine aw_iload_n C 3 xd_R_load_35 rfl rfl ?_
        refine aw_ishl C xd_R_load_36 ?_
        refine aw_ior C xd_R_load_37 ?_
        refine aw_istore_n (L' := [(2, .int (v2 ||| ((1 : Int32) <<< (v3 &&& 31)))), (0, .ref (ad 0)), (1, .int v1), (3, .int v3)]) C xd_R_load_38 rfl (by decide) rfl ?_
        refine aw_iinc (j := 3) (v := v3 + (1 : Int32)) (L' := [(3, .int (v3 + (1 : Int32))), (2, .int (v2 ||| ((1 : Int32) <<< (v3 &&& 31)))), (0, .ref (ad 0)), (1, .int v1)]) C xd_R_load_39 rfl rfl (by decide) rfl ?_
        refine aw_goto (tgt := 15) C xd_R_load_42 (by decide) ?_
        refine aw_loc (L' := [(0, .ref (ad 0)), (1, .int v1), (2, .int (v2 ||| ((1 : Int32) <<< (v3 &&& 31)))), (3, .int (v3 + (1 : Int32)))]) C [2, 3, 1, 0] rfl ?_
        exact ih σ v1 (v2 ||| ((1 : Int32) <<< (v3 &&& 31))) (v3 + (1 : Int32))  hm
set_option maxHeartbeats 4000000 in
set_option maxRecDepth 100000 in
theorem xc_R_load (σ : aw_m) (a1 : Int32) (q : Int32 × aw_m)  (hm : xm_R_load σ a1 = some q) : aw_M l D (ty_z ids) (zs_T ps) xy_R_load (xw_R_load :: gw_l) (rm_D (2)) [.ref (ad 0), .int a1] (rw_w ad ids σ) (some (.int q.1)) (rw_w ad ids q.2) := by
  refine aw_intro (cc := xb_R_load) (n := 9) (ret := (some .int)) "ModuleShelfModel" rfl (by decide) rfl (Nat.le_of_ble_eq_true rfl) ?_
  intro κ C
  unfold xm_R_load at hm
  refine aw_iload_n C 1 xd_R_load_0 rfl rfl ?_
  refine aw_iconst (v := (0 : Int32)) C xd_R_load_1 (by decide) ?_
  refine aw_iconst (v := (5 : Int32)) C xd_R_load_2 (by decide) ?_
  obtain ⟨q_3, e_3, hm⟩ := aw_bnd hm
  refine aw_callSi (As := [.int a1, .int (0 : Int32), .int (5 : Int32)]) (rest := []) C (xc_R_in σ a1 (0 : Int32) (5 : Int32) _  e_3) rfl (gw_sub (gw_S xg_R_in ml_R_83 st_R_in wi_R)) na_R_in (rm_lt (by decide) (by decide)) ⟨Nat.zero_le _, Nat.zero_le _⟩ rfl (Nat.le_of_ble_eq_true rfl) xd_R_load_3 ?_
  refine aw_if_ne (tgt := 11) C xd_R_load_6 (by decide) (fun c_6 => ?_) (fun c_6 => ?_)
  · rw [if_neg c_6] at hm
    refine aw_iconst (v := (0 : Int32)) C xd_R_load_11 (by decide) ?_
    refine aw_istore_n (L' := [(2, .int (0 : Int32)), (0, .ref (ad 0)), (1, .int a1)]) C xd_R_load_12 rfl (by decide) rfl ?_
    refine aw_iconst (v := (0 : Int32)) C xd_R_load_13 (by decide) ?_
    refine aw_istore_n (L' := [(3, .int (0 : Int32)), (2, .int (0 : Int32)), (0, .ref (ad 0)), (1, .int a1)]) C xd_R_load_14 rfl (by decide) rfl ?_
    refine aw_loc (L' := [(0, .ref (ad 0)), (1, .int a1), (2, .int (0 : Int32)), (3, .int (0 : Int32))]) C [2, 3, 1, 0] rfl ?_
    exact xl_R_load_15 _ C 200 σ a1 (0 : Int32) (0 : Int32)  hm
  · rw [if_pos c_6] at hm
    refine aw_iconst (v := (-1 : Int32)) C xd_R_load_9 (by decide) ?_
    cases hm
    exact aw_iret C xd_R_load_10
def xq_R_unload_34 (c_26 : aw_m → Int32 → Int32 → Option (Int32 × aw_m)) : Nat → aw_m → Int32 → Int32 → Int32 → Option (Int32 × aw_m)
  | 0, _, _, _, _ => none
  | n + 1, σ, v1, v2, v3 => if aw_in v2 13 = true then (if σ 9 (Int32.toNatClampNeg v2) ≤ v3 then c_26 σ v1 (v2 + (1 : Int32)) else if aw_in v2 13 = true then (if σ 1 (Int32.toNatClampNeg v2) ≤ 0 then xq_R_unload_34 c_26 n σ v1 v2 (v3 + (1 : Int32)) else if aw_in (((5 : Int32) * v2) + v3) 65 = true then (if σ 10 (Int32.toNatClampNeg (((5 : Int32) * v2) + v3)) = v1 then some ((-7 : Int32), σ) else xq_R_unload_34 c_26 n σ v1 v2 (v3 + (1 : Int32))) else none) else none) else none
def xq_R_unload_26  : Nat → aw_m → Int32 → Int32 → Option (Int32 × aw_m)
  | 0, _, _, _ => none
  | n + 1, σ, v1, v2 => (if (12 : Int32) ≤ v2 then if aw_in ((6 : Int32) + v1) 13 = true then aw_l (aw_p σ 1 (Int32.toNatClampNeg ((6 : Int32) + v1)) (0 : Int32)) fun s_91 => some ((0 : Int32), s_91) else none else xq_R_unload_34 (xq_R_unload_26 n) 64 σ v1 v2 (0 : Int32))
def xm_R_unload (σ : aw_m) (a1 : Int32) : Option (Int32 × aw_m) := (xm_R_in σ a1 (0 : Int32) (5 : Int32)).bind fun q_3 => (if q_3 = 0 then some ((-1 : Int32), σ) else if aw_in ((6 : Int32) + a1) 13 = true then (if σ 1 (Int32.toNatClampNeg ((6 : Int32) + a1)) = 0 then some ((-1 : Int32), σ) else xq_R_unload_26 64 σ a1 (6 : Int32)) else none)
set_option maxHeartbeats 4000000 in
set_option maxRecDepth 100000 in
theorem xl_R_unload_34 (c_26 : aw_m → Int32 → Int32 → Option (Int32 × aw_m)) {κ : aw_K} (q : Int32 × aw_m) (C : aw_X l D (ty_z ids) (zs_T ps) (rm_D (1)) xb_R_unload 4 "ModuleShelfModel" (xw_R_unload :: gw_l) (some .int) (some (.int q.1)) (rw_w ad ids q.2) κ) (hc_26 : ∀ (σ : aw_m) (v1 : Int32) (v2 : Int32) , c_26 σ v1 v2 = some q → aw_J κ 0 0 (rw_w ad ids σ) [(0, .ref (ad 0)), (1, .int v1), (2, .int v2)] 26 []) : ∀ (n : Nat) (σ : aw_m) (v1 : Int32) (v2 : Int32) (v3 : Int32) , xq_R_unload_34 c_26 n σ v1 v2 v3 = some q → aw_J κ 0 0 (rw_w ad ids σ) [(0, .ref (ad 0)), (1, .int v1), (2, .int v2), (3, .int v3)] 34 [] := by
  intro n
  induction n with
  | zero => intro σ v1 v2 v3 hm; cases hm
  | succ n ih =>
    intro σ v1 v2 v3 hm
    rw [xq_R_unload_34] at hm
    refine aw_iload_n C 3 xd_R_unload_34 rfl rfl ?_
    refine aw_aload_n C 0 xd_R_unload_35 rfl rfl ?_
    refine aw_get C 0 (by decide) rfl rfl (fun w h => List.mem_cons_of_mem _ (xi_R w h)) 8 (by decide) rfl (List.mem_cons_of_mem _ fl_R_34) xd_R_unload_36 ?_
    refine aw_iload_n C 2 xd_R_unload_39 rfl rfl ?_
    obtain ⟨g_40, hm⟩ := aw_grd hm
    refine aw_iald C 9 (by decide) 0 rfl rfl (aw_in_ok g_40) xd_R_unload_40 ?_
    refine aw_icmp_ge (tgt := 76) C xd_R_unload_41 (by decide) (fun c_41 => ?_) (fun c_41 => ?_)
    · rw [if_pos c_41] at hm
      refine aw_iinc (j := 2) (v := v2 + (1 : Int32)) (L' := [(2, .int (v2 + (1 : Int32))), (0, .ref (ad 0)), (1, .int v1), (3, .int v3)]) C xd_R_unload_76 rfl rfl (by decide) rfl ?_
      refine aw_goto (tgt := 26) C xd_R_unload_79 (by decide) ?_
      refine aw_loc (L' := [(0, .ref (ad 0)), (1, .int v1), (2, .int (v2 + (1 : Int32)))]) C [1, 2, 0] rfl ?_
      exact hc_26 σ v1 (v2 + (1 : Int32))  hm
    · rw [if_neg c_41] at hm
      refine aw_aload_n C 0 xd_R_unload_44 rfl rfl ?_
      refine aw_get C 0 (by decide) rfl rfl (fun w h => List.mem_cons_of_mem _ (xi_R w h)) 0 (by decide) rfl (List.mem_cons_of_mem _ fl_R_7) xd_R_unload_45 ?_
      refine aw_iload_n C 2 xd_R_unload_48 rfl rfl ?_
      obtain ⟨g_49, hm⟩ := aw_grd hm
      refine aw_iald C 1 (by decide) 0 rfl rfl (aw_in_ok g_49) xd_R_unload_49 ?_
      refine aw_if_le (tgt := 70) C xd_R_unload_50 (by decide) (fun c_50 => ?_) (fun c_50 => ?_)
      · rw [if_pos c_50] at hm
        refine aw_iinc (j := 3) (v := v3 + (1 : Int32)) (L' := [(3, .int (v3 + (1 : Int32))), (0, .ref (ad 0)), (1, .int v1), (2, .int v2)]) C xd_R_unload_70 rfl rfl (by decide) rfl ?_
        refine aw_goto (tgt := 34) C xd_R_unload_73 (by decide) ?_
        refine aw_loc (L' := [(0, .ref (ad 0)), (1, .int v1), (2, .int v2), (3, .int (v3 + (1 : Int32)))]) C [1, 2, 3, 0] rfl ?_
        exact ih σ v1 v2 (v3 + (1 : Int32))  hm
      · rw [if_neg c_50] at hm
        refine aw_aload_n C 0 xd_R_unload_53 rfl rfl ?_
        refine aw_get C 0 (by decide) rfl rfl (fun w h => List.mem_cons_of_mem _ (xi_R w h)) 9 (by decide) rfl (List.mem_cons_of_mem _ fl_R_37) xd_R_unload_54 ?_
        refine aw_iconst (v := (5 : Int32)) C xd_R_unload_57 (by decide) ?_
        refine aw_iload_n C 2 xd_R_unload_58 rfl rfl ?_
        refine aw_imul C xd_R_unload_59 ?_
        refine aw_iload_n C 3 xd_R_unload_60 rfl rfl ?_
        refine aw_iadd C xd_R_unload_61 ?_
        obtain ⟨g_62, hm⟩ := aw_grd hm
        refine aw_iald C 10 (by decide) 0 rfl rfl (aw_in_ok g_62) xd_R_unload_62 ?_
        refine aw_iload_n C 1 xd_R_unload_63 rfl rfl ?_
        refine aw_icmp_ne (tgt := 70) C xd_R_unload_64 (by decide) (fun c_64 => ?_) (fun c_64 => ?_)
        · rw [if_neg c_64] at hm
          refine aw_iinc (j := 3) (v := v3 + (1 : Int32)) (L' := [(3, .int (v3 + (1 : Int32))), (0, .ref (ad 0)), (1, .int v1), (2, .int v2)]) C xd_R_unload_70 rfl rfl (by decide) rfl ?_
          refine aw_goto (tgt := 34) C xd_R_unload_73 (by decide) ?_
          refine aw_loc (L' := [(0, .ref (ad 0)), (1, .int v1), (2, .int v2), (3, .int (v3 + (1 : Int32)))]) C [1, 2, 3, 0] rfl ?_
          exact ih σ v1 v2 (v3 + (1 : Int32))  hm
        · rw [if_pos c_64] at hm
          refine aw_bipush (v := (-7 : Int32)) C xd_R_unload_67 (by decide) ?_
          cases hm
          exact aw_iret C xd_R_unload_69
set_option maxHeartbeats 4000000 in
set_option maxRecDepth 100000 in
theorem xl_R_unload_26  {κ : aw_K} (q : Int32 × aw_m) (C : aw_X l D (ty_z ids) (zs_T ps) (rm_D (1)) xb_R_unload 4 "ModuleShelfModel" (xw_R_unload :: gw_l) (some .int) (some (.int q.1)) (rw_w ad ids q.2) κ) : ∀ (n : Nat) (σ : aw_m) (v1 : Int32) (v2 : Int32) , xq_R_unload_26 n σ v1 v2 = some q → aw_J κ 0 0 (rw_w ad ids σ) [(0, .ref (ad 0)), (1, .int v1), (2, .int v2)] 26 [] := by
  intro n
  induction n with
  | zero => intro σ v1 v2 hm; cases hm
  | succ n ih =>
    intro σ v1 v2 hm
    rw [xq_R_unload_26] at hm
    refine aw_iload_n C 2 xd_R_unload_26 rfl rfl ?_
    refine aw_bipush (v := (12 : Int32)) C xd_R_unload_27 (by decide) ?_
    refine aw_icmp_ge (tgt := 82) C xd_R_unload_29 (by decide) (fun c_29 => ?_) (fun c_29 => ?_)
    · rw [if_pos c_29] at hm
      refine aw_aload_n C 0 xd_R_unload_82 rfl rfl ?_
      refine aw_get C 0 (by decide) rfl rfl (fun w h => List.mem_cons_of_mem _ (xi_R w h)) 0 (by decide) rfl (List.mem_cons_of_mem _ fl_R_7) xd_R_unload_83 ?_
      refine aw_bipush (v := (6 : Int32)) C xd_R_unload_86 (by decide) ?_
      refine aw_iload_n C 1 xd_R_unload_88 rfl rfl ?_
      refine aw_iadd C xd_R_unload_89 ?_
      refine aw_iconst (v := (0 : Int32)) C xd_R_unload_90 (by decide) ?_
      obtain ⟨g_91, hm⟩ := aw_grd hm
      obtain ⟨s_91, h_91, hm⟩ := aw_let hm
      refine aw_iast (σ1 := s_91) (g := upd (σ 1) (Int32.toNatClampNeg ((6 : Int32) + v1)) (0 : Int32)) C 1 (by decide) 0 rfl rfl (aw_in_ok g_91) rfl h_91 xd_R_unload_91 ?_
      refine aw_iconst (v := (0 : Int32)) C xd_R_unload_92 (by decide) ?_
      cases hm
      exact aw_iret C xd_R_unload_93
    · rw [if_neg c_29] at hm
      refine aw_iconst (v := (0 : Int32)) C xd_R_unload_32 (by decide) ?_
      refine aw_istore_n (L' := [(3, .int (0 : Int32)), (0, .ref (ad 0)), (1, .int v1), (2, .int v2)]) C xd_R_unload_33 rfl (by decide) rfl ?_
      refine aw_loc (L' := [(0, .ref (ad 0)), (1, .int v1), (2, .int v2), (3, .int (0 : Int32))]) C [1, 2, 3, 0] rfl ?_
      exact xl_R_unload_34 (xq_R_unload_26 n) _ C ih 64 σ v1 v2 (0 : Int32)  hm
set_option maxHeartbeats 4000000 in
set_option maxRecDepth 100000 in
theorem xc_R_unload (σ : aw_m) (a1 : Int32) (q : Int32 × aw_m)  (hm : xm_R_unload σ a1 = some q) : aw_M l D (ty_z ids) (zs_T ps) xy_R_unload (xw_R_unload :: gw_l) (rm_D (1)) [.ref (ad 0), .int a1] (rw_w ad ids σ) (some (.int q.1)) (rw_w ad ids q.2) := by
  refine aw_intro (cc := xb_R_unload) (n := 4) (ret := (some .int)) "ModuleShelfModel" rfl (by decide) rfl (Nat.le_of_ble_eq_true rfl) ?_
  intro κ C
  unfold xm_R_unload at hm
  refine aw_iload_n C 1 xd_R_unload_0 rfl rfl ?_
  refine aw_iconst (v := (0 : Int32)) C xd_R_unload_1 (by decide) ?_
  refine aw_iconst (v := (5 : Int32)) C xd_R_unload_2 (by decide) ?_
  obtain ⟨q_3, e_3, hm⟩ := aw_bnd hm
  refine aw_callSi (As := [.int a1, .int (0 : Int32), .int (5 : Int32)]) (rest := []) C (xc_R_in σ a1 (0 : Int32) (5 : Int32) _  e_3) rfl (gw_sub (gw_S xg_R_in ml_R_83 st_R_in wi_R)) na_R_in (rm_lt (by decide) (by decide)) ⟨Nat.zero_le _, Nat.zero_le _⟩ rfl (Nat.le_of_ble_eq_true rfl) xd_R_unload_3 ?_
  refine aw_if_eq (tgt := 21) C xd_R_unload_6 (by decide) (fun c_6 => ?_) (fun c_6 => ?_)
  · rw [if_pos c_6] at hm
    refine aw_iconst (v := (-1 : Int32)) C xd_R_unload_21 (by decide) ?_
    cases hm
    exact aw_iret C xd_R_unload_22
  · rw [if_neg c_6] at hm
    refine aw_aload_n C 0 xd_R_unload_9 rfl rfl ?_
    refine aw_get C 0 (by decide) rfl rfl (fun w h => List.mem_cons_of_mem _ (xi_R w h)) 0 (by decide) rfl (List.mem_cons_of_mem _ fl_R_7) xd_R_unload_10 ?_
    refine aw_bipush (v := (6 : Int32)) C xd_R_unload_13 (by decide) ?_
    refine aw_iload_n C 1 xd_R_unload_15 rfl rfl ?_
    refine aw_iadd C xd_R_unload_16 ?_
    obtain ⟨g_17, hm⟩ := aw_grd hm
    refine aw_iald C 1 (by decide) 0 rfl rfl (aw_in_ok g_17) xd_R_unload_17 ?_
    refine aw_if_ne (tgt := 23) C xd_R_unload_18 (by decide) (fun c_18 => ?_) (fun c_18 => ?_)
    · rw [if_neg c_18] at hm
      refine aw_bipush (v := (6 : Int32)) C xd_R_unload_23 (by decide) ?_
      refine aw_istore_n (L' := [(2, .int (6 : Int32)), (0, .ref (ad 0)), (1, .int a1)]) C xd_R_unload_25 rfl (by decide) rfl ?_
      refine aw_loc (L' := [(0, .ref (ad 0)), (1, .int a1), (2, .int (6 : Int32))]) C [1, 2, 0] rfl ?_
      exact xl_R_unload_26 _ C 64 σ a1 (6 : Int32)  hm
    · rw [if_pos c_18] at hm
      refine aw_iconst (v := (-1 : Int32)) C xd_R_unload_21 (by decide) ?_
      cases hm
      exact aw_iret C xd_R_unload_22
end
