theorem dX12_work_0 : decode cX12_work 0 = .ok (.sipush 680, 3) := by decide +kernel
theorem dX12_work_3 : decode cX12_work 3 = .ok (.aload_n 0, 1) := by decide +kernel
theorem dX12_work_4 : decode cX12_work 4 = .ok (.getfield 7, 3) := by decide +kernel
theorem dX12_work_7 : decode cX12_work 7 = .ok (.iconst 1, 1) := by decide +kernel
theorem dX12_work_8 : decode cX12_work 8 = .ok (.iaload, 1) := by decide +kernel
theorem dX12_work_9 : decode cX12_work 9 = .ok (.imul, 1) := by decide +kernel
theorem dX12_work_10 : decode cX12_work 10 = .ok (.iconst 1, 1) := by decide +kernel
theorem dX12_work_11 : decode cX12_work 11 = .ok (.iadd, 1) := by decide +kernel
theorem dX12_work_12 : decode cX12_work 12 = .ok (.iconst 3, 1) := by decide +kernel
theorem dX12_work_13 : decode cX12_work 13 = .ok (.iload_n 1, 1) := by decide +kernel
theorem dX12_work_14 : decode cX12_work 14 = .ok (.imul, 1) := by decide +kernel
theorem dX12_work_15 : decode cX12_work 15 = .ok (.iadd, 1) := by decide +kernel
theorem dX12_work_16 : decode cX12_work 16 = .ok (.istore_n 2, 1) := by decide +kernel
theorem dX12_work_17 : decode cX12_work 17 = .ok (.sipush 680, 3) := by decide +kernel
theorem dX12_work_20 : decode cX12_work 20 = .ok (.aload_n 0, 1) := by decide +kernel
theorem dX12_work_21 : decode cX12_work 21 = .ok (.getfield 7, 3) := by decide +kernel
theorem dX12_work_24 : decode cX12_work 24 = .ok (.iconst 1, 1) := by decide +kernel
theorem dX12_work_25 : decode cX12_work 25 = .ok (.iaload, 1) := by decide +kernel
theorem dX12_work_26 : decode cX12_work 26 = .ok (.imul, 1) := by decide +kernel
theorem dX12_work_27 : decode cX12_work 27 = .ok (.bipush 75, 2) := by decide +kernel
theorem dX12_work_29 : decode cX12_work 29 = .ok (.iadd, 1) := by decide +kernel
theorem dX12_work_30 : decode cX12_work 30 = .ok (.istore_n 3, 1) := by decide +kernel
theorem dX12_work_31 : decode cX12_work 31 = .ok (.iconst 0, 1) := by decide +kernel
theorem dX12_work_32 : decode cX12_work 32 = .ok (.istore 4, 2) := by decide +kernel
theorem dX12_work_34 : decode cX12_work 34 = .ok (.iconst 0, 1) := by decide +kernel
theorem dX12_work_35 : decode cX12_work 35 = .ok (.istore 5, 2) := by decide +kernel
theorem dX12_work_37 : decode cX12_work 37 = .ok (.aload_n 0, 1) := by decide +kernel
theorem dX12_work_38 : decode cX12_work 38 = .ok (.getfield 16, 3) := by decide +kernel
theorem dX12_work_41 : decode cX12_work 41 = .ok (.iload_n 2, 1) := by decide +kernel
theorem dX12_work_42 : decode cX12_work 42 = .ok (.iconst 1, 1) := by decide +kernel
theorem dX12_work_43 : decode cX12_work 43 = .ok (.iadd, 1) := by decide +kernel
theorem dX12_work_44 : decode cX12_work 44 = .ok (.iaload, 1) := by decide +kernel
theorem dX12_work_45 : decode cX12_work 45 = .ok (.istore 6, 2) := by decide +kernel
theorem dX12_work_47 : decode cX12_work 47 = .ok (.iload 6, 2) := by decide +kernel
theorem dX12_work_49 : decode cX12_work 49 = .ok (.aload_n 0, 1) := by decide +kernel
theorem dX12_work_50 : decode cX12_work 50 = .ok (.getfield 16, 3) := by decide +kernel
theorem dX12_work_53 : decode cX12_work 53 = .ok (.iload_n 2, 1) := by decide +kernel
theorem dX12_work_54 : decode cX12_work 54 = .ok (.iconst 2, 1) := by decide +kernel
theorem dX12_work_55 : decode cX12_work 55 = .ok (.iadd, 1) := by decide +kernel
theorem dX12_work_56 : decode cX12_work 56 = .ok (.iaload, 1) := by decide +kernel
theorem dX12_work_57 : decode cX12_work 57 = .ok (.if_icmp .ge 302, 3) := by decide +kernel
theorem dX12_work_60 : decode cX12_work 60 = .ok (.aload_n 0, 1) := by decide +kernel
theorem dX12_work_61 : decode cX12_work 61 = .ok (.getfield 16, 3) := by decide +kernel
theorem dX12_work_64 : decode cX12_work 64 = .ok (.iload_n 3, 1) := by decide +kernel
theorem dX12_work_65 : decode cX12_work 65 = .ok (.iconst 2, 1) := by decide +kernel
theorem dX12_work_66 : decode cX12_work 66 = .ok (.iload 6, 2) := by decide +kernel
theorem dX12_work_68 : decode cX12_work 68 = .ok (.imul, 1) := by decide +kernel
theorem dX12_work_69 : decode cX12_work 69 = .ok (.iadd, 1) := by decide +kernel
theorem dX12_work_70 : decode cX12_work 70 = .ok (.iaload, 1) := by decide +kernel
theorem dX12_work_71 : decode cX12_work 71 = .ok (.istore 7, 2) := by decide +kernel
theorem dX12_work_73 : decode cX12_work 73 = .ok (.aload_n 0, 1) := by decide +kernel
theorem dX12_work_74 : decode cX12_work 74 = .ok (.getfield 16, 3) := by decide +kernel
theorem dX12_work_77 : decode cX12_work 77 = .ok (.iload_n 3, 1) := by decide +kernel
theorem dX12_work_78 : decode cX12_work 78 = .ok (.iconst 2, 1) := by decide +kernel
theorem dX12_work_79 : decode cX12_work 79 = .ok (.iload 6, 2) := by decide +kernel
theorem dX12_work_81 : decode cX12_work 81 = .ok (.imul, 1) := by decide +kernel
theorem dX12_work_82 : decode cX12_work 82 = .ok (.iadd, 1) := by decide +kernel
theorem dX12_work_83 : decode cX12_work 83 = .ok (.iconst 1, 1) := by decide +kernel
theorem dX12_work_84 : decode cX12_work 84 = .ok (.iadd, 1) := by decide +kernel
theorem dX12_work_85 : decode cX12_work 85 = .ok (.iaload, 1) := by decide +kernel
theorem dX12_work_86 : decode cX12_work 86 = .ok (.istore 8, 2) := by decide +kernel
theorem dX12_work_88 : decode cX12_work 88 = .ok (.iload 7, 2) := by decide +kernel
theorem dX12_work_90 : decode cX12_work 90 = .ok (.iconst 1, 1) := by decide +kernel
theorem dX12_work_91 : decode cX12_work 91 = .ok (.if_icmp .gt 35, 3) := by decide +kernel
theorem dX12_work_94 : decode cX12_work 94 = .ok (.aload_n 0, 1) := by decide +kernel
theorem dX12_work_95 : decode cX12_work 95 = .ok (.getfield 35, 3) := by decide +kernel
theorem dX12_work_98 : decode cX12_work 98 = .ok (.iload 4, 2) := by decide +kernel
theorem dX12_work_100 : decode cX12_work 100 = .ok (.iload 7, 2) := by decide +kernel
theorem dX12_work_102 : decode cX12_work 102 = .ok (.ifCond .ne 9, 3) := by decide +kernel
theorem dX12_work_105 : decode cX12_work 105 = .ok (.iload 8, 2) := by decide +kernel
theorem dX12_work_107 : decode cX12_work 107 = .ok (.i2l, 1) := by decide +kernel
theorem dX12_work_108 : decode cX12_work 108 = .ok (.goto 11, 3) := by decide +kernel
theorem dX12_work_111 : decode cX12_work 111 = .ok (.aload_n 0, 1) := by decide +kernel
theorem dX12_work_112 : decode cX12_work 112 = .ok (.getfield 32, 3) := by decide +kernel
theorem dX12_work_115 : decode cX12_work 115 = .ok (.iload 8, 2) := by decide +kernel
theorem dX12_work_117 : decode cX12_work 117 = .ok (.iaload, 1) := by decide +kernel
theorem dX12_work_118 : decode cX12_work 118 = .ok (.i2l, 1) := by decide +kernel
theorem dX12_work_119 : decode cX12_work 119 = .ok (.lastore, 1) := by decide +kernel
theorem dX12_work_120 : decode cX12_work 120 = .ok (.iinc 4 1, 3) := by decide +kernel
theorem dX12_work_123 : decode cX12_work 123 = .ok (.goto 230, 3) := by decide +kernel
theorem dX12_work_126 : decode cX12_work 126 = .ok (.iload 7, 2) := by decide +kernel
theorem dX12_work_128 : decode cX12_work 128 = .ok (.iconst 2, 1) := by decide +kernel
theorem dX12_work_129 : decode cX12_work 129 = .ok (.if_icmp .ne 25, 3) := by decide +kernel
theorem dX12_work_132 : decode cX12_work 132 = .ok (.aload_n 0, 1) := by decide +kernel
theorem dX12_work_133 : decode cX12_work 133 = .ok (.getfield 35, 3) := by decide +kernel
theorem dX12_work_136 : decode cX12_work 136 = .ok (.iload 4, 2) := by decide +kernel
theorem dX12_work_138 : decode cX12_work 138 = .ok (.iconst 1, 1) := by decide +kernel
theorem dX12_work_139 : decode cX12_work 139 = .ok (.isub, 1) := by decide +kernel
theorem dX12_work_140 : decode cX12_work 140 = .ok (.aload_n 0, 1) := by decide +kernel
theorem dX12_work_141 : decode cX12_work 141 = .ok (.getfield 35, 3) := by decide +kernel
theorem dX12_work_144 : decode cX12_work 144 = .ok (.iload 4, 2) := by decide +kernel
theorem dX12_work_146 : decode cX12_work 146 = .ok (.iconst 1, 1) := by decide +kernel
theorem dX12_work_147 : decode cX12_work 147 = .ok (.isub, 1) := by decide +kernel
theorem dX12_work_148 : decode cX12_work 148 = .ok (.laload, 1) := by decide +kernel
theorem dX12_work_149 : decode cX12_work 149 = .ok (.lneg, 1) := by decide +kernel
theorem dX12_work_150 : decode cX12_work 150 = .ok (.lastore, 1) := by decide +kernel
theorem dX12_work_151 : decode cX12_work 151 = .ok (.goto 202, 3) := by decide +kernel
theorem dX12_work_154 : decode cX12_work 154 = .ok (.iload 7, 2) := by decide +kernel
theorem dX12_work_156 : decode cX12_work 156 = .ok (.bipush 10, 2) := by decide +kernel
theorem dX12_work_158 : decode cX12_work 158 = .ok (.if_icmp .ge 39, 3) := by decide +kernel
theorem dX12_work_161 : decode cX12_work 161 = .ok (.iinc 4 (-1), 3) := by decide +kernel
theorem dX12_work_164 : decode cX12_work 164 = .ok (.aload_n 0, 1) := by decide +kernel
theorem dX12_work_165 : decode cX12_work 165 = .ok (.getfield 35, 3) := by decide +kernel
theorem dX12_work_168 : decode cX12_work 168 = .ok (.iload 4, 2) := by decide +kernel
theorem dX12_work_170 : decode cX12_work 170 = .ok (.iconst 1, 1) := by decide +kernel
theorem dX12_work_171 : decode cX12_work 171 = .ok (.isub, 1) := by decide +kernel
theorem dX12_work_172 : decode cX12_work 172 = .ok (.iload 7, 2) := by decide +kernel
theorem dX12_work_174 : decode cX12_work 174 = .ok (.aload_n 0, 1) := by decide +kernel
theorem dX12_work_175 : decode cX12_work 175 = .ok (.getfield 35, 3) := by decide +kernel
theorem dX12_work_178 : decode cX12_work 178 = .ok (.iload 4, 2) := by decide +kernel
theorem dX12_work_180 : decode cX12_work 180 = .ok (.iconst 1, 1) := by decide +kernel
theorem dX12_work_181 : decode cX12_work 181 = .ok (.isub, 1) := by decide +kernel
theorem dX12_work_182 : decode cX12_work 182 = .ok (.laload, 1) := by decide +kernel
theorem dX12_work_183 : decode cX12_work 183 = .ok (.aload_n 0, 1) := by decide +kernel
theorem dX12_work_184 : decode cX12_work 184 = .ok (.getfield 35, 3) := by decide +kernel
theorem dX12_work_187 : decode cX12_work 187 = .ok (.iload 4, 2) := by decide +kernel
theorem dX12_work_189 : decode cX12_work 189 = .ok (.laload, 1) := by decide +kernel
theorem dX12_work_190 : decode cX12_work 190 = .ok (.invokestatic 263, 3) := by decide +kernel
theorem dX12_work_193 : decode cX12_work 193 = .ok (.lastore, 1) := by decide +kernel
theorem dX12_work_194 : decode cX12_work 194 = .ok (.goto 159, 3) := by decide +kernel
theorem dX12_work_197 : decode cX12_work 197 = .ok (.iload 7, 2) := by decide +kernel
theorem dX12_work_199 : decode cX12_work 199 = .ok (.bipush 20, 2) := by decide +kernel
theorem dX12_work_201 : decode cX12_work 201 = .ok (.if_icmp .ge 40, 3) := by decide +kernel
theorem dX12_work_204 : decode cX12_work 204 = .ok (.iinc 4 (-2), 3) := by decide +kernel
theorem dX12_work_207 : decode cX12_work 207 = .ok (.aload_n 0, 1) := by decide +kernel
theorem dX12_work_208 : decode cX12_work 208 = .ok (.getfield 39, 3) := by decide +kernel
theorem dX12_work_211 : decode cX12_work 211 = .ok (.iload 5, 2) := by decide +kernel
theorem dX12_work_213 : decode cX12_work 213 = .ok (.iload 7, 2) := by decide +kernel
theorem dX12_work_215 : decode cX12_work 215 = .ok (.aload_n 0, 1) := by decide +kernel
theorem dX12_work_216 : decode cX12_work 216 = .ok (.getfield 35, 3) := by decide +kernel
theorem dX12_work_219 : decode cX12_work 219 = .ok (.iload 4, 2) := by decide +kernel
theorem dX12_work_221 : decode cX12_work 221 = .ok (.laload, 1) := by decide +kernel
theorem dX12_work_222 : decode cX12_work 222 = .ok (.aload_n 0, 1) := by decide +kernel
theorem dX12_work_223 : decode cX12_work 223 = .ok (.getfield 35, 3) := by decide +kernel
theorem dX12_work_226 : decode cX12_work 226 = .ok (.iload 4, 2) := by decide +kernel
theorem dX12_work_228 : decode cX12_work 228 = .ok (.iconst 1, 1) := by decide +kernel
theorem dX12_work_229 : decode cX12_work 229 = .ok (.iadd, 1) := by decide +kernel
theorem dX12_work_230 : decode cX12_work 230 = .ok (.laload, 1) := by decide +kernel
theorem dX12_work_231 : decode cX12_work 231 = .ok (.invokestatic 267, 3) := by decide +kernel
theorem dX12_work_234 : decode cX12_work 234 = .ok (.bastore, 1) := by decide +kernel
theorem dX12_work_235 : decode cX12_work 235 = .ok (.iinc 5 1, 3) := by decide +kernel
theorem dX12_work_238 : decode cX12_work 238 = .ok (.goto 115, 3) := by decide +kernel
theorem dX12_work_241 : decode cX12_work 241 = .ok (.iload 7, 2) := by decide +kernel
theorem dX12_work_243 : decode cX12_work 243 = .ok (.bipush 20, 2) := by decide +kernel
theorem dX12_work_245 : decode cX12_work 245 = .ok (.if_icmp .ne 32, 3) := by decide +kernel
theorem dX12_work_248 : decode cX12_work 248 = .ok (.aload_n 0, 1) := by decide +kernel
theorem dX12_work_249 : decode cX12_work 249 = .ok (.getfield 39, 3) := by decide +kernel
theorem dX12_work_252 : decode cX12_work 252 = .ok (.iload 5, 2) := by decide +kernel
theorem dX12_work_254 : decode cX12_work 254 = .ok (.iconst 1, 1) := by decide +kernel
theorem dX12_work_255 : decode cX12_work 255 = .ok (.isub, 1) := by decide +kernel
theorem dX12_work_256 : decode cX12_work 256 = .ok (.aload_n 0, 1) := by decide +kernel
theorem dX12_work_257 : decode cX12_work 257 = .ok (.getfield 39, 3) := by decide +kernel
theorem dX12_work_260 : decode cX12_work 260 = .ok (.iload 5, 2) := by decide +kernel
theorem dX12_work_262 : decode cX12_work 262 = .ok (.iconst 1, 1) := by decide +kernel
theorem dX12_work_263 : decode cX12_work 263 = .ok (.isub, 1) := by decide +kernel
theorem dX12_work_264 : decode cX12_work 264 = .ok (.baload, 1) := by decide +kernel
theorem dX12_work_265 : decode cX12_work 265 = .ok (.ifCond .ne 7, 3) := by decide +kernel
theorem dX12_work_268 : decode cX12_work 268 = .ok (.iconst 1, 1) := by decide +kernel
theorem dX12_work_269 : decode cX12_work 269 = .ok (.goto 4, 3) := by decide +kernel
theorem dX12_work_272 : decode cX12_work 272 = .ok (.iconst 0, 1) := by decide +kernel
theorem dX12_work_273 : decode cX12_work 273 = .ok (.bastore, 1) := by decide +kernel
theorem dX12_work_274 : decode cX12_work 274 = .ok (.goto 79, 3) := by decide +kernel
theorem dX12_work_277 : decode cX12_work 277 = .ok (.iinc 5 (-1), 3) := by decide +kernel
theorem dX12_work_280 : decode cX12_work 280 = .ok (.aload_n 0, 1) := by decide +kernel
theorem dX12_work_281 : decode cX12_work 281 = .ok (.getfield 39, 3) := by decide +kernel
theorem dX12_work_284 : decode cX12_work 284 = .ok (.iload 5, 2) := by decide +kernel
theorem dX12_work_286 : decode cX12_work 286 = .ok (.iconst 1, 1) := by decide +kernel
theorem dX12_work_287 : decode cX12_work 287 = .ok (.isub, 1) := by decide +kernel
theorem dX12_work_288 : decode cX12_work 288 = .ok (.iload 7, 2) := by decide +kernel
theorem dX12_work_290 : decode cX12_work 290 = .ok (.bipush 21, 2) := by decide +kernel
theorem dX12_work_292 : decode cX12_work 292 = .ok (.if_icmp .ne 33, 3) := by decide +kernel
theorem dX12_work_295 : decode cX12_work 295 = .ok (.aload_n 0, 1) := by decide +kernel
theorem dX12_work_296 : decode cX12_work 296 = .ok (.getfield 39, 3) := by decide +kernel
theorem dX12_work_299 : decode cX12_work 299 = .ok (.iload 5, 2) := by decide +kernel
theorem dX12_work_301 : decode cX12_work 301 = .ok (.iconst 1, 1) := by decide +kernel
theorem dX12_work_302 : decode cX12_work 302 = .ok (.isub, 1) := by decide +kernel
theorem dX12_work_303 : decode cX12_work 303 = .ok (.baload, 1) := by decide +kernel
theorem dX12_work_304 : decode cX12_work 304 = .ok (.ifCond .eq 17, 3) := by decide +kernel
theorem dX12_work_307 : decode cX12_work 307 = .ok (.aload_n 0, 1) := by decide +kernel
theorem dX12_work_308 : decode cX12_work 308 = .ok (.getfield 39, 3) := by decide +kernel
theorem dX12_work_311 : decode cX12_work 311 = .ok (.iload 5, 2) := by decide +kernel
theorem dX12_work_313 : decode cX12_work 313 = .ok (.baload, 1) := by decide +kernel
theorem dX12_work_314 : decode cX12_work 314 = .ok (.ifCond .eq 7, 3) := by decide +kernel
theorem dX12_work_317 : decode cX12_work 317 = .ok (.iconst 1, 1) := by decide +kernel
theorem dX12_work_318 : decode cX12_work 318 = .ok (.goto 34, 3) := by decide +kernel
theorem dX12_work_321 : decode cX12_work 321 = .ok (.iconst 0, 1) := by decide +kernel
theorem dX12_work_322 : decode cX12_work 322 = .ok (.goto 30, 3) := by decide +kernel
theorem dX12_work_325 : decode cX12_work 325 = .ok (.aload_n 0, 1) := by decide +kernel
theorem dX12_work_326 : decode cX12_work 326 = .ok (.getfield 39, 3) := by decide +kernel
theorem dX12_work_329 : decode cX12_work 329 = .ok (.iload 5, 2) := by decide +kernel
theorem dX12_work_331 : decode cX12_work 331 = .ok (.iconst 1, 1) := by decide +kernel
theorem dX12_work_332 : decode cX12_work 332 = .ok (.isub, 1) := by decide +kernel
theorem dX12_work_333 : decode cX12_work 333 = .ok (.baload, 1) := by decide +kernel
theorem dX12_work_334 : decode cX12_work 334 = .ok (.ifCond .ne 13, 3) := by decide +kernel
theorem dX12_work_337 : decode cX12_work 337 = .ok (.aload_n 0, 1) := by decide +kernel
theorem dX12_work_338 : decode cX12_work 338 = .ok (.getfield 39, 3) := by decide +kernel
theorem dX12_work_341 : decode cX12_work 341 = .ok (.iload 5, 2) := by decide +kernel
theorem dX12_work_343 : decode cX12_work 343 = .ok (.baload, 1) := by decide +kernel
theorem dX12_work_344 : decode cX12_work 344 = .ok (.ifCond .eq 7, 3) := by decide +kernel
theorem dX12_work_347 : decode cX12_work 347 = .ok (.iconst 1, 1) := by decide +kernel
theorem dX12_work_348 : decode cX12_work 348 = .ok (.goto 4, 3) := by decide +kernel
theorem dX12_work_351 : decode cX12_work 351 = .ok (.iconst 0, 1) := by decide +kernel
theorem dX12_work_352 : decode cX12_work 352 = .ok (.bastore, 1) := by decide +kernel
theorem dX12_work_353 : decode cX12_work 353 = .ok (.iinc 6 1, 3) := by decide +kernel
theorem dX12_work_356 : decode cX12_work 356 = .ok (.goto (-309), 3) := by decide +kernel
theorem dX12_work_359 : decode cX12_work 359 = .ok (.return_, 1) := by decide +kernel
theorem dX12_clauseOf_0 : decode cX12_clauseOf 0 = .ok (.iconst 0, 1) := by decide +kernel
theorem dX12_clauseOf_1 : decode cX12_clauseOf 1 = .ok (.istore_n 2, 1) := by decide +kernel
theorem dX12_clauseOf_2 : decode cX12_clauseOf 2 = .ok (.aload_n 0, 1) := by decide +kernel
theorem dX12_clauseOf_3 : decode cX12_clauseOf 3 = .ok (.getfield 7, 3) := by decide +kernel
theorem dX12_clauseOf_6 : decode cX12_clauseOf 6 = .ok (.iconst 1, 1) := by decide +kernel
theorem dX12_clauseOf_7 : decode cX12_clauseOf 7 = .ok (.iaload, 1) := by decide +kernel
theorem dX12_clauseOf_8 : decode cX12_clauseOf 8 = .ok (.ifCond .lt 55, 3) := by decide +kernel
theorem dX12_clauseOf_11 : decode cX12_clauseOf 11 = .ok (.iload_n 2, 1) := by decide +kernel
theorem dX12_clauseOf_12 : decode cX12_clauseOf 12 = .ok (.aload_n 0, 1) := by decide +kernel
theorem dX12_clauseOf_13 : decode cX12_clauseOf 13 = .ok (.getfield 16, 3) := by decide +kernel
theorem dX12_clauseOf_16 : decode cX12_clauseOf 16 = .ok (.sipush 680, 3) := by decide +kernel
theorem dX12_clauseOf_19 : decode cX12_clauseOf 19 = .ok (.aload_n 0, 1) := by decide +kernel
theorem dX12_clauseOf_20 : decode cX12_clauseOf 20 = .ok (.getfield 7, 3) := by decide +kernel
theorem dX12_clauseOf_23 : decode cX12_clauseOf 23 = .ok (.iconst 1, 1) := by decide +kernel
theorem dX12_clauseOf_24 : decode cX12_clauseOf 24 = .ok (.iaload, 1) := by decide +kernel
theorem dX12_clauseOf_25 : decode cX12_clauseOf 25 = .ok (.imul, 1) := by decide +kernel
theorem dX12_clauseOf_26 : decode cX12_clauseOf 26 = .ok (.iaload, 1) := by decide +kernel
theorem dX12_clauseOf_27 : decode cX12_clauseOf 27 = .ok (.if_icmp .ge 36, 3) := by decide +kernel
theorem dX12_clauseOf_30 : decode cX12_clauseOf 30 = .ok (.aload_n 0, 1) := by decide +kernel
theorem dX12_clauseOf_31 : decode cX12_clauseOf 31 = .ok (.getfield 16, 3) := by decide +kernel
theorem dX12_clauseOf_34 : decode cX12_clauseOf 34 = .ok (.sipush 680, 3) := by decide +kernel
theorem dX12_clauseOf_37 : decode cX12_clauseOf 37 = .ok (.aload_n 0, 1) := by decide +kernel
theorem dX12_clauseOf_38 : decode cX12_clauseOf 38 = .ok (.getfield 7, 3) := by decide +kernel
theorem dX12_clauseOf_41 : decode cX12_clauseOf 41 = .ok (.iconst 1, 1) := by decide +kernel
theorem dX12_clauseOf_42 : decode cX12_clauseOf 42 = .ok (.iaload, 1) := by decide +kernel
theorem dX12_clauseOf_43 : decode cX12_clauseOf 43 = .ok (.imul, 1) := by decide +kernel
theorem dX12_clauseOf_44 : decode cX12_clauseOf 44 = .ok (.iconst 1, 1) := by decide +kernel
theorem dX12_clauseOf_45 : decode cX12_clauseOf 45 = .ok (.iadd, 1) := by decide +kernel
theorem dX12_clauseOf_46 : decode cX12_clauseOf 46 = .ok (.iconst 3, 1) := by decide +kernel
theorem dX12_clauseOf_47 : decode cX12_clauseOf 47 = .ok (.iload_n 2, 1) := by decide +kernel
theorem dX12_clauseOf_48 : decode cX12_clauseOf 48 = .ok (.imul, 1) := by decide +kernel
theorem dX12_clauseOf_49 : decode cX12_clauseOf 49 = .ok (.iadd, 1) := by decide +kernel
theorem dX12_clauseOf_50 : decode cX12_clauseOf 50 = .ok (.iaload, 1) := by decide +kernel
theorem dX12_clauseOf_51 : decode cX12_clauseOf 51 = .ok (.iload_n 1, 1) := by decide +kernel
theorem dX12_clauseOf_52 : decode cX12_clauseOf 52 = .ok (.if_icmp .ne 5, 3) := by decide +kernel
theorem dX12_clauseOf_55 : decode cX12_clauseOf 55 = .ok (.iload_n 2, 1) := by decide +kernel
theorem dX12_clauseOf_56 : decode cX12_clauseOf 56 = .ok (.ireturn, 1) := by decide +kernel
theorem dX12_clauseOf_57 : decode cX12_clauseOf 57 = .ok (.iinc 2 1, 3) := by decide +kernel
theorem dX12_clauseOf_60 : decode cX12_clauseOf 60 = .ok (.goto (-58), 3) := by decide +kernel
theorem dX12_clauseOf_63 : decode cX12_clauseOf 63 = .ok (.iconst (-1), 1) := by decide +kernel
theorem dX12_clauseOf_64 : decode cX12_clauseOf 64 = .ok (.ireturn, 1) := by decide +kernel
theorem dX12_rule_0 : decode cX12_rule 0 = .ok (.aload_n 0, 1) := by decide +kernel
theorem dX12_rule_1 : decode cX12_rule 1 = .ok (.aload_n 0, 1) := by decide +kernel
theorem dX12_rule_2 : decode cX12_rule 2 = .ok (.iconst 0, 1) := by decide +kernel
theorem dX12_rule_3 : decode cX12_rule 3 = .ok (.invokevirtual 271, 3) := by decide +kernel
theorem dX12_rule_6 : decode cX12_rule 6 = .ok (.putfield 274, 3) := by decide +kernel
theorem dX12_rule_9 : decode cX12_rule 9 = .ok (.aload_n 0, 1) := by decide +kernel
theorem dX12_rule_10 : decode cX12_rule 10 = .ok (.aload_n 0, 1) := by decide +kernel
theorem dX12_rule_11 : decode cX12_rule 11 = .ok (.iconst 1, 1) := by decide +kernel
theorem dX12_rule_12 : decode cX12_rule 12 = .ok (.invokevirtual 271, 3) := by decide +kernel
theorem dX12_rule_15 : decode cX12_rule 15 = .ok (.putfield 277, 3) := by decide +kernel
theorem dX12_rule_18 : decode cX12_rule 18 = .ok (.iconst 0, 1) := by decide +kernel
theorem dX12_rule_19 : decode cX12_rule 19 = .ok (.istore_n 1, 1) := by decide +kernel
theorem dX12_rule_20 : decode cX12_rule 20 = .ok (.iload_n 1, 1) := by decide +kernel
theorem dX12_rule_21 : decode cX12_rule 21 = .ok (.sipush 14400, 3) := by decide +kernel
theorem dX12_rule_24 : decode cX12_rule 24 = .ok (.if_icmp .ge 16, 3) := by decide +kernel
theorem dX12_rule_27 : decode cX12_rule 27 = .ok (.aload_n 0, 1) := by decide +kernel
theorem dX12_rule_28 : decode cX12_rule 28 = .ok (.getfield 43, 3) := by decide +kernel
theorem dX12_rule_31 : decode cX12_rule 31 = .ok (.iload_n 1, 1) := by decide +kernel
theorem dX12_rule_32 : decode cX12_rule 32 = .ok (.iconst (-1), 1) := by decide +kernel
theorem dX12_rule_33 : decode cX12_rule 33 = .ok (.iastore, 1) := by decide +kernel
theorem dX12_rule_34 : decode cX12_rule 34 = .ok (.iinc 1 1, 3) := by decide +kernel
theorem dX12_rule_37 : decode cX12_rule 37 = .ok (.goto (-17), 3) := by decide +kernel
theorem dX12_rule_40 : decode cX12_rule 40 = .ok (.return_, 1) := by decide +kernel
theorem dX12_name_0 : decode cX12_name 0 = .ok (.aload_n 0, 1) := by decide +kernel
theorem dX12_name_1 : decode cX12_name 1 = .ok (.getfield 32, 3) := by decide +kernel
theorem dX12_name_4 : decode cX12_name 4 = .ok (.iconst 0, 1) := by decide +kernel
theorem dX12_name_5 : decode cX12_name 5 = .ok (.iload 4, 2) := by decide +kernel
theorem dX12_name_7 : decode cX12_name 7 = .ok (.iastore, 1) := by decide +kernel
theorem dX12_name_8 : decode cX12_name 8 = .ok (.aload_n 0, 1) := by decide +kernel
theorem dX12_name_9 : decode cX12_name 9 = .ok (.getfield 32, 3) := by decide +kernel
theorem dX12_name_12 : decode cX12_name 12 = .ok (.iconst 1, 1) := by decide +kernel
theorem dX12_name_13 : decode cX12_name 13 = .ok (.aload_n 0, 1) := by decide +kernel
theorem dX12_name_14 : decode cX12_name 14 = .ok (.iload_n 2, 1) := by decide +kernel
theorem dX12_name_15 : decode cX12_name 15 = .ok (.iload 4, 2) := by decide +kernel
theorem dX12_name_17 : decode cX12_name 17 = .ok (.invokevirtual 95, 3) := by decide +kernel
theorem dX12_name_20 : decode cX12_name 20 = .ok (.iastore, 1) := by decide +kernel
theorem dX12_name_21 : decode cX12_name 21 = .ok (.aload_n 0, 1) := by decide +kernel
theorem dX12_name_22 : decode cX12_name 22 = .ok (.getfield 32, 3) := by decide +kernel
theorem dX12_name_25 : decode cX12_name 25 = .ok (.iconst 2, 1) := by decide +kernel
theorem dX12_name_26 : decode cX12_name 26 = .ok (.iload 5, 2) := by decide +kernel
theorem dX12_name_28 : decode cX12_name 28 = .ok (.iastore, 1) := by decide +kernel
theorem dX12_name_29 : decode cX12_name 29 = .ok (.aload_n 0, 1) := by decide +kernel
theorem dX12_name_30 : decode cX12_name 30 = .ok (.getfield 32, 3) := by decide +kernel
theorem dX12_name_33 : decode cX12_name 33 = .ok (.iconst 3, 1) := by decide +kernel
theorem dX12_name_34 : decode cX12_name 34 = .ok (.iload_n 1, 1) := by decide +kernel
theorem dX12_name_35 : decode cX12_name 35 = .ok (.iastore, 1) := by decide +kernel
theorem dX12_name_36 : decode cX12_name 36 = .ok (.aload_n 0, 1) := by decide +kernel
theorem dX12_name_37 : decode cX12_name 37 = .ok (.getfield 32, 3) := by decide +kernel
theorem dX12_name_40 : decode cX12_name 40 = .ok (.iconst 4, 1) := by decide +kernel
theorem dX12_name_41 : decode cX12_name 41 = .ok (.iload_n 3, 1) := by decide +kernel
theorem dX12_name_42 : decode cX12_name 42 = .ok (.iastore, 1) := by decide +kernel
theorem dX12_name_43 : decode cX12_name 43 = .ok (.aload_n 0, 1) := by decide +kernel
theorem dX12_name_44 : decode cX12_name 44 = .ok (.getfield 32, 3) := by decide +kernel
theorem dX12_name_47 : decode cX12_name 47 = .ok (.iconst 5, 1) := by decide +kernel
theorem dX12_name_48 : decode cX12_name 48 = .ok (.iload_n 3, 1) := by decide +kernel
theorem dX12_name_49 : decode cX12_name 49 = .ok (.ifCond .ge 7, 3) := by decide +kernel
theorem dX12_name_52 : decode cX12_name 52 = .ok (.iconst 0, 1) := by decide +kernel
theorem dX12_name_53 : decode cX12_name 53 = .ok (.goto 20, 3) := by decide +kernel
theorem dX12_name_56 : decode cX12_name 56 = .ok (.iload 4, 2) := by decide +kernel
theorem dX12_name_58 : decode cX12_name 58 = .ok (.iload_n 3, 1) := by decide +kernel
theorem dX12_name_59 : decode cX12_name 59 = .ok (.if_icmp .le 10, 3) := by decide +kernel
theorem dX12_name_62 : decode cX12_name 62 = .ok (.iload 4, 2) := by decide +kernel
theorem dX12_name_64 : decode cX12_name 64 = .ok (.iload_n 3, 1) := by decide +kernel
theorem dX12_name_65 : decode cX12_name 65 = .ok (.isub, 1) := by decide +kernel
theorem dX12_name_66 : decode cX12_name 66 = .ok (.goto 7, 3) := by decide +kernel
theorem dX12_name_69 : decode cX12_name 69 = .ok (.iload_n 3, 1) := by decide +kernel
theorem dX12_name_70 : decode cX12_name 70 = .ok (.iload 4, 2) := by decide +kernel
theorem dX12_name_72 : decode cX12_name 72 = .ok (.isub, 1) := by decide +kernel
theorem dX12_name_73 : decode cX12_name 73 = .ok (.iastore, 1) := by decide +kernel
theorem dX12_name_74 : decode cX12_name 74 = .ok (.return_, 1) := by decide +kernel
theorem dX12_changeBy_0 : decode cX12_changeBy 0 = .ok (.aload_n 0, 1) := by decide +kernel
theorem dX12_changeBy_1 : decode cX12_changeBy 1 = .ok (.iload_n 2, 1) := by decide +kernel
theorem dX12_changeBy_2 : decode cX12_changeBy 2 = .ok (.iload 4, 2) := by decide +kernel
theorem dX12_changeBy_4 : decode cX12_changeBy 4 = .ok (.invokevirtual 95, 3) := by decide +kernel
theorem dX12_changeBy_7 : decode cX12_changeBy 7 = .ok (.iload 5, 2) := by decide +kernel
theorem dX12_changeBy_9 : decode cX12_changeBy 9 = .ok (.if_icmp .ne 5, 3) := by decide +kernel
theorem dX12_changeBy_12 : decode cX12_changeBy 12 = .ok (.iconst 0, 1) := by decide +kernel
theorem dX12_changeBy_13 : decode cX12_changeBy 13 = .ok (.ireturn, 1) := by decide +kernel
theorem dX12_changeBy_14 : decode cX12_changeBy 14 = .ok (.iload_n 1, 1) := by decide +kernel
theorem dX12_changeBy_15 : decode cX12_changeBy 15 = .ok (.bipush 9, 2) := by decide +kernel
theorem dX12_changeBy_17 : decode cX12_changeBy 17 = .ok (.imul, 1) := by decide +kernel
theorem dX12_changeBy_18 : decode cX12_changeBy 18 = .ok (.iload_n 3, 1) := by decide +kernel
theorem dX12_changeBy_19 : decode cX12_changeBy 19 = .ok (.iadd, 1) := by decide +kernel
theorem dX12_changeBy_20 : decode cX12_changeBy 20 = .ok (.iconst 1, 1) := by decide +kernel
theorem dX12_changeBy_21 : decode cX12_changeBy 21 = .ok (.iadd, 1) := by decide +kernel
theorem dX12_changeBy_22 : decode cX12_changeBy 22 = .ok (.bipush 8, 2) := by decide +kernel
theorem dX12_changeBy_24 : decode cX12_changeBy 24 = .ok (.imul, 1) := by decide +kernel
theorem dX12_changeBy_25 : decode cX12_changeBy 25 = .ok (.iload 4, 2) := by decide +kernel
theorem dX12_changeBy_27 : decode cX12_changeBy 27 = .ok (.iadd, 1) := by decide +kernel
theorem dX12_changeBy_28 : decode cX12_changeBy 28 = .ok (.bipush 25, 2) := by decide +kernel
theorem dX12_changeBy_30 : decode cX12_changeBy 30 = .ok (.imul, 1) := by decide +kernel
theorem dX12_changeBy_31 : decode cX12_changeBy 31 = .ok (.iconst 5, 1) := by decide +kernel
theorem dX12_changeBy_32 : decode cX12_changeBy 32 = .ok (.aload_n 0, 1) := by decide +kernel
theorem dX12_changeBy_33 : decode cX12_changeBy 33 = .ok (.iload_n 2, 1) := by decide +kernel
theorem dX12_changeBy_34 : decode cX12_changeBy 34 = .ok (.iload 4, 2) := by decide +kernel
theorem dX12_changeBy_36 : decode cX12_changeBy 36 = .ok (.invokevirtual 95, 3) := by decide +kernel
theorem dX12_changeBy_39 : decode cX12_changeBy 39 = .ok (.imul, 1) := by decide +kernel
theorem dX12_changeBy_40 : decode cX12_changeBy 40 = .ok (.iadd, 1) := by decide +kernel
theorem dX12_changeBy_41 : decode cX12_changeBy 41 = .ok (.iload 5, 2) := by decide +kernel
theorem dX12_changeBy_43 : decode cX12_changeBy 43 = .ok (.iadd, 1) := by decide +kernel
theorem dX12_changeBy_44 : decode cX12_changeBy 44 = .ok (.istore 6, 2) := by decide +kernel
theorem dX12_changeBy_46 : decode cX12_changeBy 46 = .ok (.aload_n 0, 1) := by decide +kernel
theorem dX12_changeBy_47 : decode cX12_changeBy 47 = .ok (.getfield 43, 3) := by decide +kernel
theorem dX12_changeBy_50 : decode cX12_changeBy 50 = .ok (.iload 6, 2) := by decide +kernel
theorem dX12_changeBy_52 : decode cX12_changeBy 52 = .ok (.iaload, 1) := by decide +kernel
theorem dX12_changeBy_53 : decode cX12_changeBy 53 = .ok (.ifCond .lt 11, 3) := by decide +kernel
theorem dX12_changeBy_56 : decode cX12_changeBy 56 = .ok (.aload_n 0, 1) := by decide +kernel
theorem dX12_changeBy_57 : decode cX12_changeBy 57 = .ok (.getfield 43, 3) := by decide +kernel
theorem dX12_changeBy_60 : decode cX12_changeBy 60 = .ok (.iload 6, 2) := by decide +kernel
theorem dX12_changeBy_62 : decode cX12_changeBy 62 = .ok (.iaload, 1) := by decide +kernel
theorem dX12_changeBy_63 : decode cX12_changeBy 63 = .ok (.ireturn, 1) := by decide +kernel
theorem dX12_changeBy_64 : decode cX12_changeBy 64 = .ok (.aload_n 0, 1) := by decide +kernel
theorem dX12_changeBy_65 : decode cX12_changeBy 65 = .ok (.iload_n 1, 1) := by decide +kernel
theorem dX12_changeBy_66 : decode cX12_changeBy 66 = .ok (.iload_n 2, 1) := by decide +kernel
theorem dX12_changeBy_67 : decode cX12_changeBy 67 = .ok (.iload_n 3, 1) := by decide +kernel
theorem dX12_changeBy_68 : decode cX12_changeBy 68 = .ok (.iload 4, 2) := by decide +kernel
theorem dX12_changeBy_70 : decode cX12_changeBy 70 = .ok (.iload 5, 2) := by decide +kernel
theorem dX12_changeBy_72 : decode cX12_changeBy 72 = .ok (.invokevirtual 280, 3) := by decide +kernel
theorem dX12_changeBy_75 : decode cX12_changeBy 75 = .ok (.iconst 1, 1) := by decide +kernel
theorem dX12_changeBy_76 : decode cX12_changeBy 76 = .ok (.istore 7, 2) := by decide +kernel
theorem dX12_changeBy_78 : decode cX12_changeBy 78 = .ok (.aload_n 0, 1) := by decide +kernel
theorem dX12_changeBy_79 : decode cX12_changeBy 79 = .ok (.getfield 274, 3) := by decide +kernel
theorem dX12_changeBy_82 : decode cX12_changeBy 82 = .ok (.ifCond .lt 19, 3) := by decide +kernel
theorem dX12_changeBy_85 : decode cX12_changeBy 85 = .ok (.aload_n 0, 1) := by decide +kernel
theorem dX12_changeBy_86 : decode cX12_changeBy 86 = .ok (.aload_n 0, 1) := by decide +kernel
theorem dX12_changeBy_87 : decode cX12_changeBy 87 = .ok (.getfield 274, 3) := by decide +kernel
theorem dX12_changeBy_90 : decode cX12_changeBy 90 = .ok (.invokevirtual 284, 3) := by decide +kernel
theorem dX12_changeBy_93 : decode cX12_changeBy 93 = .ok (.aload_n 0, 1) := by decide +kernel
theorem dX12_changeBy_94 : decode cX12_changeBy 94 = .ok (.getfield 39, 3) := by decide +kernel
theorem dX12_changeBy_97 : decode cX12_changeBy 97 = .ok (.iconst 0, 1) := by decide +kernel
theorem dX12_changeBy_98 : decode cX12_changeBy 98 = .ok (.baload, 1) := by decide +kernel
theorem dX12_changeBy_99 : decode cX12_changeBy 99 = .ok (.istore 7, 2) := by decide +kernel
theorem dX12_changeBy_101 : decode cX12_changeBy 101 = .ok (.aload_n 0, 1) := by decide +kernel
theorem dX12_changeBy_102 : decode cX12_changeBy 102 = .ok (.getfield 43, 3) := by decide +kernel
theorem dX12_changeBy_105 : decode cX12_changeBy 105 = .ok (.iload 6, 2) := by decide +kernel
theorem dX12_changeBy_107 : decode cX12_changeBy 107 = .ok (.iload 7, 2) := by decide +kernel
theorem dX12_changeBy_109 : decode cX12_changeBy 109 = .ok (.ifCond .eq 10, 3) := by decide +kernel
theorem dX12_changeBy_112 : decode cX12_changeBy 112 = .ok (.aload_n 0, 1) := by decide +kernel
theorem dX12_changeBy_113 : decode cX12_changeBy 113 = .ok (.invokevirtual 287, 3) := by decide +kernel
theorem dX12_changeBy_116 : decode cX12_changeBy 116 = .ok (.goto 4, 3) := by decide +kernel
theorem dX12_changeBy_119 : decode cX12_changeBy 119 = .ok (.iconst 0, 1) := by decide +kernel
theorem dX12_changeBy_120 : decode cX12_changeBy 120 = .ok (.iastore, 1) := by decide +kernel
theorem dX12_changeBy_121 : decode cX12_changeBy 121 = .ok (.aload_n 0, 1) := by decide +kernel
theorem dX12_changeBy_122 : decode cX12_changeBy 122 = .ok (.getfield 43, 3) := by decide +kernel
theorem dX12_changeBy_125 : decode cX12_changeBy 125 = .ok (.iload 6, 2) := by decide +kernel
theorem dX12_changeBy_127 : decode cX12_changeBy 127 = .ok (.iaload, 1) := by decide +kernel
theorem dX12_changeBy_128 : decode cX12_changeBy 128 = .ok (.ireturn, 1) := by decide +kernel
theorem dX12_may_0 : decode cX12_may 0 = .ok (.aload_n 0, 1) := by decide +kernel
theorem dX12_may_1 : decode cX12_may 1 = .ok (.iload_n 1, 1) := by decide +kernel
theorem dX12_may_2 : decode cX12_may 2 = .ok (.iload_n 2, 1) := by decide +kernel
theorem dX12_may_3 : decode cX12_may 3 = .ok (.iload_n 3, 1) := by decide +kernel
theorem dX12_may_4 : decode cX12_may 4 = .ok (.iload 4, 2) := by decide +kernel
theorem dX12_may_6 : decode cX12_may 6 = .ok (.iload 5, 2) := by decide +kernel
theorem dX12_may_8 : decode cX12_may 8 = .ok (.invokevirtual 290, 3) := by decide +kernel
theorem dX12_may_11 : decode cX12_may 11 = .ok (.ifCond .le 7, 3) := by decide +kernel
theorem dX12_may_14 : decode cX12_may 14 = .ok (.iconst 1, 1) := by decide +kernel
theorem dX12_may_15 : decode cX12_may 15 = .ok (.goto 4, 3) := by decide +kernel
theorem dX12_may_18 : decode cX12_may 18 = .ok (.iconst 0, 1) := by decide +kernel
theorem dX12_may_19 : decode cX12_may 19 = .ok (.ireturn, 1) := by decide +kernel
theorem dX12_weightNow_0 : decode cX12_weightNow 0 = .ok (.aload_n 0, 1) := by decide +kernel
theorem dX12_weightNow_1 : decode cX12_weightNow 1 = .ok (.getfield 277, 3) := by decide +kernel
theorem dX12_weightNow_4 : decode cX12_weightNow 4 = .ok (.ifCond .ge 5, 3) := by decide +kernel
theorem dX12_weightNow_7 : decode cX12_weightNow 7 = .ok (.iconst 1, 1) := by decide +kernel
theorem dX12_weightNow_8 : decode cX12_weightNow 8 = .ok (.ireturn, 1) := by decide +kernel
theorem dX12_weightNow_9 : decode cX12_weightNow 9 = .ok (.aload_n 0, 1) := by decide +kernel
theorem dX12_weightNow_10 : decode cX12_weightNow 10 = .ok (.aload_n 0, 1) := by decide +kernel
theorem dX12_weightNow_11 : decode cX12_weightNow 11 = .ok (.getfield 277, 3) := by decide +kernel
theorem dX12_weightNow_14 : decode cX12_weightNow 14 = .ok (.invokevirtual 284, 3) := by decide +kernel
theorem dX12_weightNow_17 : decode cX12_weightNow 17 = .ok (.aload_n 0, 1) := by decide +kernel
theorem dX12_weightNow_18 : decode cX12_weightNow 18 = .ok (.getfield 35, 3) := by decide +kernel
theorem dX12_weightNow_21 : decode cX12_weightNow 21 = .ok (.iconst 0, 1) := by decide +kernel
theorem dX12_weightNow_22 : decode cX12_weightNow 22 = .ok (.laload, 1) := by decide +kernel
theorem dX12_weightNow_23 : decode cX12_weightNow 23 = .ok (.iconst 1, 1) := by decide +kernel
theorem dX12_weightNow_24 : decode cX12_weightNow 24 = .ok (.bipush 9, 2) := by decide +kernel
theorem dX12_weightNow_26 : decode cX12_weightNow 26 = .ok (.invokestatic 294, 3) := by decide +kernel
theorem dX12_weightNow_29 : decode cX12_weightNow 29 = .ok (.ireturn, 1) := by decide +kernel
theorem dX12_begin_0 : decode cX12_begin 0 = .ok (.iconst 0, 1) := by decide +kernel
theorem dX12_begin_1 : decode cX12_begin 1 = .ok (.istore_n 2, 1) := by decide +kernel
theorem dX12_begin_2 : decode cX12_begin 2 = .ok (.iload_n 2, 1) := by decide +kernel
theorem dX12_begin_3 : decode cX12_begin 3 = .ok (.sipush 2304, 3) := by decide +kernel
theorem dX12_begin_6 : decode cX12_begin 6 = .ok (.if_icmp .ge 16, 3) := by decide +kernel
theorem dX12_begin_9 : decode cX12_begin 9 = .ok (.aload_n 0, 1) := by decide +kernel
theorem dX12_begin_10 : decode cX12_begin 10 = .ok (.getfield 46, 3) := by decide +kernel
theorem dX12_begin_13 : decode cX12_begin 13 = .ok (.iload_n 2, 1) := by decide +kernel
theorem dX12_begin_14 : decode cX12_begin 14 = .ok (.lconst 0, 1) := by decide +kernel
theorem dX12_begin_15 : decode cX12_begin 15 = .ok (.lastore, 1) := by decide +kernel
theorem dX12_begin_16 : decode cX12_begin 16 = .ok (.iinc 2 1, 3) := by decide +kernel
theorem dX12_begin_19 : decode cX12_begin 19 = .ok (.goto (-17), 3) := by decide +kernel
theorem dX12_begin_22 : decode cX12_begin 22 = .ok (.aload_n 0, 1) := by decide +kernel
theorem dX12_begin_23 : decode cX12_begin 23 = .ok (.getfield 46, 3) := by decide +kernel
theorem dX12_begin_26 : decode cX12_begin 26 = .ok (.bipush 9, 2) := by decide +kernel
theorem dX12_begin_28 : decode cX12_begin 28 = .ok (.iload_n 1, 1) := by decide +kernel
theorem dX12_begin_29 : decode cX12_begin 29 = .ok (.imul, 1) := by decide +kernel
theorem dX12_begin_30 : decode cX12_begin 30 = .ok (.lconst 1, 1) := by decide +kernel
theorem dX12_begin_31 : decode cX12_begin 31 = .ok (.lastore, 1) := by decide +kernel
theorem dX12_begin_32 : decode cX12_begin 32 = .ok (.return_, 1) := by decide +kernel
theorem dX12_goOn_0 : decode cX12_goOn 0 = .ok (.iconst 0, 1) := by decide +kernel
theorem dX12_goOn_1 : decode cX12_goOn 1 = .ok (.istore_n 2, 1) := by decide +kernel
theorem dX12_goOn_2 : decode cX12_goOn 2 = .ok (.iload_n 2, 1) := by decide +kernel
theorem dX12_goOn_3 : decode cX12_goOn 3 = .ok (.sipush 2304, 3) := by decide +kernel
theorem dX12_goOn_6 : decode cX12_goOn 6 = .ok (.if_icmp .ge 16, 3) := by decide +kernel
theorem dX12_goOn_9 : decode cX12_goOn 9 = .ok (.aload_n 0, 1) := by decide +kernel
theorem dX12_goOn_10 : decode cX12_goOn 10 = .ok (.getfield 49, 3) := by decide +kernel
theorem dX12_goOn_13 : decode cX12_goOn 13 = .ok (.iload_n 2, 1) := by decide +kernel
theorem dX12_goOn_14 : decode cX12_goOn 14 = .ok (.lconst 0, 1) := by decide +kernel
theorem dX12_goOn_15 : decode cX12_goOn 15 = .ok (.lastore, 1) := by decide +kernel
theorem dX12_goOn_16 : decode cX12_goOn 16 = .ok (.iinc 2 1, 3) := by decide +kernel
theorem dX12_goOn_19 : decode cX12_goOn 19 = .ok (.goto (-17), 3) := by decide +kernel
theorem dX12_goOn_22 : decode cX12_goOn 22 = .ok (.iconst 0, 1) := by decide +kernel
theorem dX12_goOn_23 : decode cX12_goOn 23 = .ok (.istore_n 2, 1) := by decide +kernel
theorem dX12_goOn_24 : decode cX12_goOn 24 = .ok (.iload_n 2, 1) := by decide +kernel
theorem dX12_goOn_25 : decode cX12_goOn 25 = .ok (.aload_n 0, 1) := by decide +kernel
theorem dX12_goOn_26 : decode cX12_goOn 26 = .ok (.getfield 84, 3) := by decide +kernel
theorem dX12_goOn_29 : decode cX12_goOn 29 = .ok (.if_icmp .ge 48, 3) := by decide +kernel
theorem dX12_goOn_32 : decode cX12_goOn 32 = .ok (.iconst 0, 1) := by decide +kernel
theorem dX12_goOn_33 : decode cX12_goOn 33 = .ok (.istore_n 3, 1) := by decide +kernel
theorem dX12_goOn_34 : decode cX12_goOn 34 = .ok (.iload_n 3, 1) := by decide +kernel
theorem dX12_goOn_35 : decode cX12_goOn 35 = .ok (.aload_n 0, 1) := by decide +kernel
theorem dX12_goOn_36 : decode cX12_goOn 36 = .ok (.getfield 81, 3) := by decide +kernel
theorem dX12_goOn_39 : decode cX12_goOn 39 = .ok (.if_icmp .gt 32, 3) := by decide +kernel
theorem dX12_goOn_42 : decode cX12_goOn 42 = .ok (.aload_n 0, 1) := by decide +kernel
theorem dX12_goOn_43 : decode cX12_goOn 43 = .ok (.getfield 46, 3) := by decide +kernel
theorem dX12_goOn_46 : decode cX12_goOn 46 = .ok (.bipush 9, 2) := by decide +kernel
theorem dX12_goOn_48 : decode cX12_goOn 48 = .ok (.iload_n 2, 1) := by decide +kernel
theorem dX12_goOn_49 : decode cX12_goOn 49 = .ok (.imul, 1) := by decide +kernel
theorem dX12_goOn_50 : decode cX12_goOn 50 = .ok (.iload_n 3, 1) := by decide +kernel
theorem dX12_goOn_51 : decode cX12_goOn 51 = .ok (.iadd, 1) := by decide +kernel
theorem dX12_goOn_52 : decode cX12_goOn 52 = .ok (.laload, 1) := by decide +kernel
theorem dX12_goOn_53 : decode cX12_goOn 53 = .ok (.lconst 0, 1) := by decide +kernel
theorem dX12_goOn_54 : decode cX12_goOn 54 = .ok (.lcmp, 1) := by decide +kernel
theorem dX12_goOn_55 : decode cX12_goOn 55 = .ok (.ifCond .le 10, 3) := by decide +kernel
theorem dX12_goOn_58 : decode cX12_goOn 58 = .ok (.aload_n 0, 1) := by decide +kernel
theorem dX12_goOn_59 : decode cX12_goOn 59 = .ok (.iload_n 1, 1) := by decide +kernel
theorem dX12_goOn_60 : decode cX12_goOn 60 = .ok (.iload_n 2, 1) := by decide +kernel
theorem dX12_goOn_61 : decode cX12_goOn 61 = .ok (.iload_n 3, 1) := by decide +kernel
theorem dX12_goOn_62 : decode cX12_goOn 62 = .ok (.invokevirtual 298, 3) := by decide +kernel
theorem dX12_goOn_65 : decode cX12_goOn 65 = .ok (.iinc 3 1, 3) := by decide +kernel
theorem dX12_goOn_68 : decode cX12_goOn 68 = .ok (.goto (-34), 3) := by decide +kernel
theorem dX12_goOn_71 : decode cX12_goOn 71 = .ok (.iinc 2 1, 3) := by decide +kernel
theorem dX12_goOn_74 : decode cX12_goOn 74 = .ok (.goto (-50), 3) := by decide +kernel
theorem dX12_goOn_77 : decode cX12_goOn 77 = .ok (.iconst 0, 1) := by decide +kernel
theorem dX12_goOn_78 : decode cX12_goOn 78 = .ok (.istore_n 2, 1) := by decide +kernel
theorem dX12_goOn_79 : decode cX12_goOn 79 = .ok (.iload_n 2, 1) := by decide +kernel
theorem dX12_goOn_80 : decode cX12_goOn 80 = .ok (.sipush 2304, 3) := by decide +kernel
theorem dX12_goOn_83 : decode cX12_goOn 83 = .ok (.if_icmp .ge 21, 3) := by decide +kernel
theorem dX12_goOn_86 : decode cX12_goOn 86 = .ok (.aload_n 0, 1) := by decide +kernel
theorem dX12_goOn_87 : decode cX12_goOn 87 = .ok (.getfield 46, 3) := by decide +kernel
theorem dX12_goOn_90 : decode cX12_goOn 90 = .ok (.iload_n 2, 1) := by decide +kernel
theorem dX12_goOn_91 : decode cX12_goOn 91 = .ok (.aload_n 0, 1) := by decide +kernel
theorem dX12_goOn_92 : decode cX12_goOn 92 = .ok (.getfield 49, 3) := by decide +kernel
theorem dX12_goOn_95 : decode cX12_goOn 95 = .ok (.iload_n 2, 1) := by decide +kernel
theorem dX12_goOn_96 : decode cX12_goOn 96 = .ok (.laload, 1) := by decide +kernel
theorem dX12_goOn_97 : decode cX12_goOn 97 = .ok (.lastore, 1) := by decide +kernel
theorem dX12_goOn_98 : decode cX12_goOn 98 = .ok (.iinc 2 1, 3) := by decide +kernel
theorem dX12_goOn_101 : decode cX12_goOn 101 = .ok (.goto (-22), 3) := by decide +kernel
theorem dX12_goOn_104 : decode cX12_goOn 104 = .ok (.return_, 1) := by decide +kernel
theorem dX12_spread_0 : decode cX12_spread 0 = .ok (.iconst 0, 1) := by decide +kernel
theorem dX12_spread_1 : decode cX12_spread 1 = .ok (.istore 4, 2) := by decide +kernel
theorem dX12_spread_3 : decode cX12_spread 3 = .ok (.iload 4, 2) := by decide +kernel
theorem dX12_spread_5 : decode cX12_spread 5 = .ok (.aload_n 0, 1) := by decide +kernel
theorem dX12_spread_6 : decode cX12_spread 6 = .ok (.getfield 81, 3) := by decide +kernel
theorem dX12_spread_9 : decode cX12_spread 9 = .ok (.if_icmp .ge 87, 3) := by decide +kernel
theorem dX12_spread_12 : decode cX12_spread 12 = .ok (.iconst 0, 1) := by decide +kernel
theorem dX12_spread_13 : decode cX12_spread 13 = .ok (.istore 5, 2) := by decide +kernel
theorem dX12_spread_15 : decode cX12_spread 15 = .ok (.iload 5, 2) := by decide +kernel
theorem dX12_spread_17 : decode cX12_spread 17 = .ok (.aload_n 0, 1) := by decide +kernel
theorem dX12_spread_18 : decode cX12_spread 18 = .ok (.getfield 74, 3) := by decide +kernel
theorem dX12_spread_21 : decode cX12_spread 21 = .ok (.if_icmp .ge 69, 3) := by decide +kernel
theorem dX12_spread_24 : decode cX12_spread 24 = .ok (.aload_n 0, 1) := by decide +kernel
theorem dX12_spread_25 : decode cX12_spread 25 = .ok (.iload_n 1, 1) := by decide +kernel
theorem dX12_spread_26 : decode cX12_spread 26 = .ok (.iload_n 2, 1) := by decide +kernel
theorem dX12_spread_27 : decode cX12_spread 27 = .ok (.iload_n 3, 1) := by decide +kernel
theorem dX12_spread_28 : decode cX12_spread 28 = .ok (.iconst 1, 1) := by decide +kernel
theorem dX12_spread_29 : decode cX12_spread 29 = .ok (.isub, 1) := by decide +kernel
theorem dX12_spread_30 : decode cX12_spread 30 = .ok (.iload 4, 2) := by decide +kernel
theorem dX12_spread_32 : decode cX12_spread 32 = .ok (.iload 5, 2) := by decide +kernel
theorem dX12_spread_34 : decode cX12_spread 34 = .ok (.invokevirtual 290, 3) := by decide +kernel
theorem dX12_spread_37 : decode cX12_spread 37 = .ok (.istore 6, 2) := by decide +kernel
theorem dX12_spread_39 : decode cX12_spread 39 = .ok (.iload 6, 2) := by decide +kernel
theorem dX12_spread_41 : decode cX12_spread 41 = .ok (.ifCond .le 43, 3) := by decide +kernel
theorem dX12_spread_44 : decode cX12_spread 44 = .ok (.aload_n 0, 1) := by decide +kernel
theorem dX12_spread_45 : decode cX12_spread 45 = .ok (.getfield 49, 3) := by decide +kernel
theorem dX12_spread_48 : decode cX12_spread 48 = .ok (.bipush 9, 2) := by decide +kernel
theorem dX12_spread_50 : decode cX12_spread 50 = .ok (.aload_n 0, 1) := by decide +kernel
theorem dX12_spread_51 : decode cX12_spread 51 = .ok (.iload_n 2, 1) := by decide +kernel
theorem dX12_spread_52 : decode cX12_spread 52 = .ok (.iload 4, 2) := by decide +kernel
theorem dX12_spread_54 : decode cX12_spread 54 = .ok (.iload 5, 2) := by decide +kernel
theorem dX12_spread_56 : decode cX12_spread 56 = .ok (.invokevirtual 302, 3) := by decide +kernel
theorem dX12_spread_59 : decode cX12_spread 59 = .ok (.imul, 1) := by decide +kernel
theorem dX12_spread_60 : decode cX12_spread 60 = .ok (.iload 4, 2) := by decide +kernel
theorem dX12_spread_62 : decode cX12_spread 62 = .ok (.iadd, 1) := by decide +kernel
theorem dX12_spread_63 : decode cX12_spread 63 = .ok (.iconst 1, 1) := by decide +kernel
theorem dX12_spread_64 : decode cX12_spread 64 = .ok (.iadd, 1) := by decide +kernel
theorem dX12_spread_65 : decode cX12_spread 65 = .ok (.dup2, 1) := by decide +kernel
theorem dX12_spread_66 : decode cX12_spread 66 = .ok (.laload, 1) := by decide +kernel
theorem dX12_spread_67 : decode cX12_spread 67 = .ok (.aload_n 0, 1) := by decide +kernel
theorem dX12_spread_68 : decode cX12_spread 68 = .ok (.getfield 46, 3) := by decide +kernel
theorem dX12_spread_71 : decode cX12_spread 71 = .ok (.bipush 9, 2) := by decide +kernel
theorem dX12_spread_73 : decode cX12_spread 73 = .ok (.iload_n 2, 1) := by decide +kernel
theorem dX12_spread_74 : decode cX12_spread 74 = .ok (.imul, 1) := by decide +kernel
theorem dX12_spread_75 : decode cX12_spread 75 = .ok (.iload_n 3, 1) := by decide +kernel
theorem dX12_spread_76 : decode cX12_spread 76 = .ok (.iadd, 1) := by decide +kernel
theorem dX12_spread_77 : decode cX12_spread 77 = .ok (.laload, 1) := by decide +kernel
theorem dX12_spread_78 : decode cX12_spread 78 = .ok (.iload 6, 2) := by decide +kernel
theorem dX12_spread_80 : decode cX12_spread 80 = .ok (.i2l, 1) := by decide +kernel
theorem dX12_spread_81 : decode cX12_spread 81 = .ok (.lmul, 1) := by decide +kernel
theorem dX12_spread_82 : decode cX12_spread 82 = .ok (.ladd, 1) := by decide +kernel
theorem dX12_spread_83 : decode cX12_spread 83 = .ok (.lastore, 1) := by decide +kernel
theorem dX12_spread_84 : decode cX12_spread 84 = .ok (.iinc 5 1, 3) := by decide +kernel
theorem dX12_spread_87 : decode cX12_spread 87 = .ok (.goto (-72), 3) := by decide +kernel
theorem dX12_spread_90 : decode cX12_spread 90 = .ok (.iinc 4 1, 3) := by decide +kernel
theorem dX12_spread_93 : decode cX12_spread 93 = .ok (.goto (-90), 3) := by decide +kernel
theorem dX12_spread_96 : decode cX12_spread 96 = .ok (.return_, 1) := by decide +kernel
theorem dX12_waysTo_0 : decode cX12_waysTo 0 = .ok (.lconst 0, 1) := by decide +kernel
theorem dX12_waysTo_1 : decode cX12_waysTo 1 = .ok (.lstore_n 2, 1) := by decide +kernel
theorem dX12_waysTo_2 : decode cX12_waysTo 2 = .ok (.iconst 0, 1) := by decide +kernel
theorem dX12_waysTo_3 : decode cX12_waysTo 3 = .ok (.istore 4, 2) := by decide +kernel
theorem dX12_waysTo_5 : decode cX12_waysTo 5 = .ok (.iload 4, 2) := by decide +kernel
theorem dX12_waysTo_7 : decode cX12_waysTo 7 = .ok (.aload_n 0, 1) := by decide +kernel
theorem dX12_waysTo_8 : decode cX12_waysTo 8 = .ok (.getfield 81, 3) := by decide +kernel
theorem dX12_waysTo_11 : decode cX12_waysTo 11 = .ok (.if_icmp .gt 24, 3) := by decide +kernel
theorem dX12_waysTo_14 : decode cX12_waysTo 14 = .ok (.lload_n 2, 1) := by decide +kernel
theorem dX12_waysTo_15 : decode cX12_waysTo 15 = .ok (.aload_n 0, 1) := by decide +kernel
theorem dX12_waysTo_16 : decode cX12_waysTo 16 = .ok (.getfield 46, 3) := by decide +kernel
theorem dX12_waysTo_19 : decode cX12_waysTo 19 = .ok (.bipush 9, 2) := by decide +kernel
theorem dX12_waysTo_21 : decode cX12_waysTo 21 = .ok (.iload_n 1, 1) := by decide +kernel
theorem dX12_waysTo_22 : decode cX12_waysTo 22 = .ok (.imul, 1) := by decide +kernel
theorem dX12_waysTo_23 : decode cX12_waysTo 23 = .ok (.iload 4, 2) := by decide +kernel
theorem dX12_waysTo_25 : decode cX12_waysTo 25 = .ok (.iadd, 1) := by decide +kernel
theorem dX12_waysTo_26 : decode cX12_waysTo 26 = .ok (.laload, 1) := by decide +kernel
theorem dX12_waysTo_27 : decode cX12_waysTo 27 = .ok (.ladd, 1) := by decide +kernel
theorem dX12_waysTo_28 : decode cX12_waysTo 28 = .ok (.lstore_n 2, 1) := by decide +kernel
theorem dX12_waysTo_29 : decode cX12_waysTo 29 = .ok (.iinc 4 1, 3) := by decide +kernel
theorem dX12_waysTo_32 : decode cX12_waysTo 32 = .ok (.goto (-27), 3) := by decide +kernel
theorem dX12_waysTo_35 : decode cX12_waysTo 35 = .ok (.lload_n 2, 1) := by decide +kernel
theorem dX12_waysTo_36 : decode cX12_waysTo 36 = .ok (.lreturn, 1) := by decide +kernel
theorem dX12_waysOf_0 : decode cX12_waysOf 0 = .ok (.aload_n 0, 1) := by decide +kernel
theorem dX12_waysOf_1 : decode cX12_waysOf 1 = .ok (.iload_n 1, 1) := by decide +kernel
theorem dX12_waysOf_2 : decode cX12_waysOf 2 = .ok (.invokevirtual 305, 3) := by decide +kernel
theorem dX12_waysOf_5 : decode cX12_waysOf 5 = .ok (.iconst 0, 1) := by decide +kernel
theorem dX12_waysOf_6 : decode cX12_waysOf 6 = .ok (.istore 4, 2) := by decide +kernel
theorem dX12_waysOf_8 : decode cX12_waysOf 8 = .ok (.iload 4, 2) := by decide +kernel
theorem dX12_waysOf_10 : decode cX12_waysOf 10 = .ok (.iload_n 3, 1) := by decide +kernel
theorem dX12_waysOf_11 : decode cX12_waysOf 11 = .ok (.if_icmp .ge 15, 3) := by decide +kernel
theorem dX12_waysOf_14 : decode cX12_waysOf 14 = .ok (.aload_n 0, 1) := by decide +kernel
theorem dX12_waysOf_15 : decode cX12_waysOf 15 = .ok (.iload 4, 2) := by decide +kernel
theorem dX12_waysOf_17 : decode cX12_waysOf 17 = .ok (.invokevirtual 308, 3) := by decide +kernel
theorem dX12_waysOf_20 : decode cX12_waysOf 20 = .ok (.iinc 4 1, 3) := by decide +kernel
theorem dX12_waysOf_23 : decode cX12_waysOf 23 = .ok (.goto (-15), 3) := by decide +kernel
theorem dX12_waysOf_26 : decode cX12_waysOf 26 = .ok (.aload_n 0, 1) := by decide +kernel
theorem dX12_waysOf_27 : decode cX12_waysOf 27 = .ok (.iload_n 2, 1) := by decide +kernel
theorem dX12_waysOf_28 : decode cX12_waysOf 28 = .ok (.invokevirtual 311, 3) := by decide +kernel
theorem dX12_waysOf_31 : decode cX12_waysOf 31 = .ok (.lreturn, 1) := by decide +kernel
theorem dX12_areAsked_0 : decode cX12_areAsked 0 = .ok (.aload_n 0, 1) := by decide +kernel
theorem dX12_areAsked_1 : decode cX12_areAsked 1 = .ok (.iload_n 1, 1) := by decide +kernel
theorem dX12_areAsked_2 : decode cX12_areAsked 2 = .ok (.invokevirtual 102, 3) := by decide +kernel
theorem dX12_areAsked_5 : decode cX12_areAsked 5 = .ok (.ifCond .eq 25, 3) := by decide +kernel
theorem dX12_areAsked_8 : decode cX12_areAsked 8 = .ok (.aload_n 0, 1) := by decide +kernel
theorem dX12_areAsked_9 : decode cX12_areAsked 9 = .ok (.iload_n 2, 1) := by decide +kernel
theorem dX12_areAsked_10 : decode cX12_areAsked 10 = .ok (.invokevirtual 102, 3) := by decide +kernel
theorem dX12_areAsked_13 : decode cX12_areAsked 13 = .ok (.ifCond .eq 17, 3) := by decide +kernel
theorem dX12_areAsked_16 : decode cX12_areAsked 16 = .ok (.iload_n 3, 1) := by decide +kernel
theorem dX12_areAsked_17 : decode cX12_areAsked 17 = .ok (.iconst 0, 1) := by decide +kernel
theorem dX12_areAsked_18 : decode cX12_areAsked 18 = .ok (.bipush 8, 2) := by decide +kernel
theorem dX12_areAsked_20 : decode cX12_areAsked 20 = .ok (.invokestatic 91, 3) := by decide +kernel
theorem dX12_areAsked_23 : decode cX12_areAsked 23 = .ok (.ifCond .eq 7, 3) := by decide +kernel
theorem dX12_areAsked_26 : decode cX12_areAsked 26 = .ok (.iconst 1, 1) := by decide +kernel
theorem dX12_areAsked_27 : decode cX12_areAsked 27 = .ok (.goto 4, 3) := by decide +kernel
theorem dX12_areAsked_30 : decode cX12_areAsked 30 = .ok (.iconst 0, 1) := by decide +kernel
theorem dX12_areAsked_31 : decode cX12_areAsked 31 = .ok (.ireturn, 1) := by decide +kernel
theorem dX12_isFree_0 : decode cX12_isFree 0 = .ok (.aload_n 0, 1) := by decide +kernel
theorem dX12_isFree_1 : decode cX12_isFree 1 = .ok (.iconst (-1), 1) := by decide +kernel
theorem dX12_isFree_2 : decode cX12_isFree 2 = .ok (.putfield 274, 3) := by decide +kernel
theorem dX12_isFree_5 : decode cX12_isFree 5 = .ok (.aload_n 0, 1) := by decide +kernel
theorem dX12_isFree_6 : decode cX12_isFree 6 = .ok (.iconst (-1), 1) := by decide +kernel
theorem dX12_isFree_7 : decode cX12_isFree 7 = .ok (.putfield 277, 3) := by decide +kernel
theorem dX12_isFree_10 : decode cX12_isFree 10 = .ok (.iconst 0, 1) := by decide +kernel
theorem dX12_isFree_11 : decode cX12_isFree 11 = .ok (.istore 4, 2) := by decide +kernel
theorem dX12_isFree_13 : decode cX12_isFree 13 = .ok (.iload 4, 2) := by decide +kernel
theorem dX12_isFree_15 : decode cX12_isFree 15 = .ok (.sipush 14400, 3) := by decide +kernel
theorem dX12_isFree_18 : decode cX12_isFree 18 = .ok (.if_icmp .ge 17, 3) := by decide +kernel
theorem dX12_isFree_21 : decode cX12_isFree 21 = .ok (.aload_n 0, 1) := by decide +kernel
theorem dX12_isFree_22 : decode cX12_isFree 22 = .ok (.getfield 43, 3) := by decide +kernel
theorem dX12_isFree_25 : decode cX12_isFree 25 = .ok (.iload 4, 2) := by decide +kernel
theorem dX12_isFree_27 : decode cX12_isFree 27 = .ok (.iconst (-1), 1) := by decide +kernel
theorem dX12_isFree_28 : decode cX12_isFree 28 = .ok (.iastore, 1) := by decide +kernel
theorem dX12_isFree_29 : decode cX12_isFree 29 = .ok (.iinc 4 1, 3) := by decide +kernel
theorem dX12_isFree_32 : decode cX12_isFree 32 = .ok (.goto (-19), 3) := by decide +kernel
theorem dX12_isFree_35 : decode cX12_isFree 35 = .ok (.aload_n 0, 1) := by decide +kernel
theorem dX12_isFree_36 : decode cX12_isFree 36 = .ok (.iload_n 1, 1) := by decide +kernel
theorem dX12_isFree_37 : decode cX12_isFree 37 = .ok (.iload_n 2, 1) := by decide +kernel
theorem dX12_isFree_38 : decode cX12_isFree 38 = .ok (.iload_n 3, 1) := by decide +kernel
theorem dX12_isFree_39 : decode cX12_isFree 39 = .ok (.invokevirtual 315, 3) := by decide +kernel
theorem dX12_isFree_42 : decode cX12_isFree 42 = .ok (.lconst 0, 1) := by decide +kernel
theorem dX12_isFree_43 : decode cX12_isFree 43 = .ok (.lcmp, 1) := by decide +kernel
theorem dX12_isFree_44 : decode cX12_isFree 44 = .ok (.ifCond .le 7, 3) := by decide +kernel
theorem dX12_isFree_47 : decode cX12_isFree 47 = .ok (.iconst 1, 1) := by decide +kernel
theorem dX12_isFree_48 : decode cX12_isFree 48 = .ok (.goto 4, 3) := by decide +kernel
theorem dX12_isFree_51 : decode cX12_isFree 51 = .ok (.iconst 0, 1) := by decide +kernel
theorem dX12_isFree_52 : decode cX12_isFree 52 = .ok (.ireturn, 1) := by decide +kernel
theorem dX12_bars_0 : decode cX12_bars 0 = .ok (.aload_n 0, 1) := by decide +kernel
theorem dX12_bars_1 : decode cX12_bars 1 = .ok (.iload_n 1, 1) := by decide +kernel
theorem dX12_bars_2 : decode cX12_bars 2 = .ok (.iload_n 2, 1) := by decide +kernel
theorem dX12_bars_3 : decode cX12_bars 3 = .ok (.iload_n 3, 1) := by decide +kernel
theorem dX12_bars_4 : decode cX12_bars 4 = .ok (.invokevirtual 318, 3) := by decide +kernel
theorem dX12_bars_7 : decode cX12_bars 7 = .ok (.ifCond .ne 5, 3) := by decide +kernel
theorem dX12_bars_10 : decode cX12_bars 10 = .ok (.iconst (-1), 1) := by decide +kernel
theorem dX12_bars_11 : decode cX12_bars 11 = .ok (.ireturn, 1) := by decide +kernel
theorem dX12_bars_12 : decode cX12_bars 12 = .ok (.aload_n 0, 1) := by decide +kernel
theorem dX12_bars_13 : decode cX12_bars 13 = .ok (.invokevirtual 321, 3) := by decide +kernel
theorem dX12_bars_16 : decode cX12_bars 16 = .ok (.aload_n 0, 1) := by decide +kernel
theorem dX12_bars_17 : decode cX12_bars 17 = .ok (.iload_n 1, 1) := by decide +kernel
theorem dX12_bars_18 : decode cX12_bars 18 = .ok (.iload_n 2, 1) := by decide +kernel
theorem dX12_bars_19 : decode cX12_bars 19 = .ok (.iload_n 3, 1) := by decide +kernel
theorem dX12_bars_20 : decode cX12_bars 20 = .ok (.invokevirtual 315, 3) := by decide +kernel
theorem dX12_bars_23 : decode cX12_bars 23 = .ok (.lconst 0, 1) := by decide +kernel
theorem dX12_bars_24 : decode cX12_bars 24 = .ok (.lcmp, 1) := by decide +kernel
theorem dX12_bars_25 : decode cX12_bars 25 = .ok (.ifCond .le 5, 3) := by decide +kernel
theorem dX12_bars_28 : decode cX12_bars 28 = .ok (.iconst 0, 1) := by decide +kernel
theorem dX12_bars_29 : decode cX12_bars 29 = .ok (.ireturn, 1) := by decide +kernel
theorem dX12_bars_30 : decode cX12_bars 30 = .ok (.aload_n 0, 1) := by decide +kernel
theorem dX12_bars_31 : decode cX12_bars 31 = .ok (.iload_n 1, 1) := by decide +kernel
theorem dX12_bars_32 : decode cX12_bars 32 = .ok (.iload_n 2, 1) := by decide +kernel
theorem dX12_bars_33 : decode cX12_bars 33 = .ok (.iload_n 3, 1) := by decide +kernel
theorem dX12_bars_34 : decode cX12_bars 34 = .ok (.invokevirtual 324, 3) := by decide +kernel
theorem dX12_bars_37 : decode cX12_bars 37 = .ok (.ifCond .eq 7, 3) := by decide +kernel
theorem dX12_bars_40 : decode cX12_bars 40 = .ok (.iconst 2, 1) := by decide +kernel
theorem dX12_bars_41 : decode cX12_bars 41 = .ok (.goto 4, 3) := by decide +kernel
theorem dX12_bars_44 : decode cX12_bars 44 = .ok (.iconst 1, 1) := by decide +kernel
theorem dX12_bars_45 : decode cX12_bars 45 = .ok (.ireturn, 1) := by decide +kernel
theorem dX12_ways_0 : decode cX12_ways 0 = .ok (.aload_n 0, 1) := by decide +kernel
theorem dX12_ways_1 : decode cX12_ways 1 = .ok (.iload_n 1, 1) := by decide +kernel
theorem dX12_ways_2 : decode cX12_ways 2 = .ok (.iload_n 2, 1) := by decide +kernel
theorem dX12_ways_3 : decode cX12_ways 3 = .ok (.iload_n 3, 1) := by decide +kernel
theorem dX12_ways_4 : decode cX12_ways 4 = .ok (.invokevirtual 318, 3) := by decide +kernel
theorem dX12_ways_7 : decode cX12_ways 7 = .ok (.ifCond .ne 7, 3) := by decide +kernel
theorem dX12_ways_10 : decode cX12_ways 10 = .ok (.ldc2_w 327, 3) := by decide +kernel
theorem dX12_ways_13 : decode cX12_ways 13 = .ok (.lreturn, 1) := by decide +kernel
theorem dX12_ways_14 : decode cX12_ways 14 = .ok (.aload_n 0, 1) := by decide +kernel
theorem dX12_ways_15 : decode cX12_ways 15 = .ok (.invokevirtual 321, 3) := by decide +kernel
theorem dX12_ways_18 : decode cX12_ways 18 = .ok (.aload_n 0, 1) := by decide +kernel
theorem dX12_ways_19 : decode cX12_ways 19 = .ok (.iload_n 1, 1) := by decide +kernel
theorem dX12_ways_20 : decode cX12_ways 20 = .ok (.iload_n 2, 1) := by decide +kernel
theorem dX12_ways_21 : decode cX12_ways 21 = .ok (.iload_n 3, 1) := by decide +kernel
theorem dX12_ways_22 : decode cX12_ways 22 = .ok (.invokevirtual 315, 3) := by decide +kernel
theorem dX12_ways_25 : decode cX12_ways 25 = .ok (.lreturn, 1) := by decide +kernel
theorem dX12_isLed_0 : decode cX12_isLed 0 = .ok (.iconst 0, 1) := by decide +kernel
theorem dX12_isLed_1 : decode cX12_isLed 1 = .ok (.istore 4, 2) := by decide +kernel
theorem dX12_isLed_3 : decode cX12_isLed 3 = .ok (.iload 4, 2) := by decide +kernel
theorem dX12_isLed_5 : decode cX12_isLed 5 = .ok (.aload_n 0, 1) := by decide +kernel
theorem dX12_isLed_6 : decode cX12_isLed 6 = .ok (.getfield 81, 3) := by decide +kernel
theorem dX12_isLed_9 : decode cX12_isLed 9 = .ok (.if_icmp .ge 78, 3) := by decide +kernel
theorem dX12_isLed_12 : decode cX12_isLed 12 = .ok (.iconst 0, 1) := by decide +kernel
theorem dX12_isLed_13 : decode cX12_isLed 13 = .ok (.istore 5, 2) := by decide +kernel
theorem dX12_isLed_15 : decode cX12_isLed 15 = .ok (.iload 5, 2) := by decide +kernel
theorem dX12_isLed_17 : decode cX12_isLed 17 = .ok (.aload_n 0, 1) := by decide +kernel
theorem dX12_isLed_18 : decode cX12_isLed 18 = .ok (.getfield 74, 3) := by decide +kernel
theorem dX12_isLed_21 : decode cX12_isLed 21 = .ok (.if_icmp .ge 60, 3) := by decide +kernel
theorem dX12_isLed_24 : decode cX12_isLed 24 = .ok (.aload_n 0, 1) := by decide +kernel
theorem dX12_isLed_25 : decode cX12_isLed 25 = .ok (.iload_n 1, 1) := by decide +kernel
theorem dX12_isLed_26 : decode cX12_isLed 26 = .ok (.iload_n 2, 1) := by decide +kernel
theorem dX12_isLed_27 : decode cX12_isLed 27 = .ok (.iload_n 3, 1) := by decide +kernel
theorem dX12_isLed_28 : decode cX12_isLed 28 = .ok (.iconst 1, 1) := by decide +kernel
theorem dX12_isLed_29 : decode cX12_isLed 29 = .ok (.isub, 1) := by decide +kernel
theorem dX12_isLed_30 : decode cX12_isLed 30 = .ok (.iload 4, 2) := by decide +kernel
theorem dX12_isLed_32 : decode cX12_isLed 32 = .ok (.iload 5, 2) := by decide +kernel
theorem dX12_isLed_34 : decode cX12_isLed 34 = .ok (.invokevirtual 329, 3) := by decide +kernel
theorem dX12_isLed_37 : decode cX12_isLed 37 = .ok (.ifCond .eq 38, 3) := by decide +kernel
theorem dX12_isLed_40 : decode cX12_isLed 40 = .ok (.aload_n 0, 1) := by decide +kernel
theorem dX12_isLed_41 : decode cX12_isLed 41 = .ok (.getfield 52, 3) := by decide +kernel
theorem dX12_isLed_44 : decode cX12_isLed 44 = .ok (.sipush 2304, 3) := by decide +kernel
theorem dX12_isLed_47 : decode cX12_isLed 47 = .ok (.iload_n 1, 1) := by decide +kernel
theorem dX12_isLed_48 : decode cX12_isLed 48 = .ok (.iconst 1, 1) := by decide +kernel
theorem dX12_isLed_49 : decode cX12_isLed 49 = .ok (.iadd, 1) := by decide +kernel
theorem dX12_isLed_50 : decode cX12_isLed 50 = .ok (.imul, 1) := by decide +kernel
theorem dX12_isLed_51 : decode cX12_isLed 51 = .ok (.bipush 9, 2) := by decide +kernel
theorem dX12_isLed_53 : decode cX12_isLed 53 = .ok (.aload_n 0, 1) := by decide +kernel
theorem dX12_isLed_54 : decode cX12_isLed 54 = .ok (.iload_n 2, 1) := by decide +kernel
theorem dX12_isLed_55 : decode cX12_isLed 55 = .ok (.iload 4, 2) := by decide +kernel
theorem dX12_isLed_57 : decode cX12_isLed 57 = .ok (.iload 5, 2) := by decide +kernel
theorem dX12_isLed_59 : decode cX12_isLed 59 = .ok (.invokevirtual 302, 3) := by decide +kernel
theorem dX12_isLed_62 : decode cX12_isLed 62 = .ok (.imul, 1) := by decide +kernel
theorem dX12_isLed_63 : decode cX12_isLed 63 = .ok (.iadd, 1) := by decide +kernel
theorem dX12_isLed_64 : decode cX12_isLed 64 = .ok (.iload 4, 2) := by decide +kernel
theorem dX12_isLed_66 : decode cX12_isLed 66 = .ok (.iadd, 1) := by decide +kernel
theorem dX12_isLed_67 : decode cX12_isLed 67 = .ok (.iconst 1, 1) := by decide +kernel
theorem dX12_isLed_68 : decode cX12_isLed 68 = .ok (.iadd, 1) := by decide +kernel
theorem dX12_isLed_69 : decode cX12_isLed 69 = .ok (.baload, 1) := by decide +kernel
theorem dX12_isLed_70 : decode cX12_isLed 70 = .ok (.ifCond .eq 5, 3) := by decide +kernel
theorem dX12_isLed_73 : decode cX12_isLed 73 = .ok (.iconst 1, 1) := by decide +kernel
theorem dX12_isLed_74 : decode cX12_isLed 74 = .ok (.ireturn, 1) := by decide +kernel
theorem dX12_isLed_75 : decode cX12_isLed 75 = .ok (.iinc 5 1, 3) := by decide +kernel
theorem dX12_isLed_78 : decode cX12_isLed 78 = .ok (.goto (-63), 3) := by decide +kernel
theorem dX12_isLed_81 : decode cX12_isLed 81 = .ok (.iinc 4 1, 3) := by decide +kernel
theorem dX12_isLed_84 : decode cX12_isLed 84 = .ok (.goto (-81), 3) := by decide +kernel
theorem dX12_isLed_87 : decode cX12_isLed 87 = .ok (.iconst 0, 1) := by decide +kernel
theorem dX12_isLed_88 : decode cX12_isLed 88 = .ok (.ireturn, 1) := by decide +kernel
theorem dX12_findCan_0 : decode cX12_findCan 0 = .ok (.iconst 0, 1) := by decide +kernel
theorem dX12_findCan_1 : decode cX12_findCan 1 = .ok (.istore_n 3, 1) := by decide +kernel
theorem dX12_findCan_2 : decode cX12_findCan 2 = .ok (.iload_n 3, 1) := by decide +kernel
theorem dX12_findCan_3 : decode cX12_findCan 3 = .ok (.sipush 2304, 3) := by decide +kernel
theorem dX12_findCan_6 : decode cX12_findCan 6 = .ok (.if_icmp .ge 34, 3) := by decide +kernel
theorem dX12_findCan_9 : decode cX12_findCan 9 = .ok (.aload_n 0, 1) := by decide +kernel
theorem dX12_findCan_10 : decode cX12_findCan 10 = .ok (.getfield 52, 3) := by decide +kernel
theorem dX12_findCan_13 : decode cX12_findCan 13 = .ok (.sipush 2304, 3) := by decide +kernel
theorem dX12_findCan_16 : decode cX12_findCan 16 = .ok (.iload_n 2, 1) := by decide +kernel
theorem dX12_findCan_17 : decode cX12_findCan 17 = .ok (.imul, 1) := by decide +kernel
theorem dX12_findCan_18 : decode cX12_findCan 18 = .ok (.iload_n 3, 1) := by decide +kernel
theorem dX12_findCan_19 : decode cX12_findCan 19 = .ok (.iadd, 1) := by decide +kernel
theorem dX12_findCan_20 : decode cX12_findCan 20 = .ok (.iload_n 3, 1) := by decide +kernel
theorem dX12_findCan_21 : decode cX12_findCan 21 = .ok (.bipush 9, 2) := by decide +kernel
theorem dX12_findCan_23 : decode cX12_findCan 23 = .ok (.idiv, 1) := by decide +kernel
theorem dX12_findCan_24 : decode cX12_findCan 24 = .ok (.iload_n 1, 1) := by decide +kernel
theorem dX12_findCan_25 : decode cX12_findCan 25 = .ok (.if_icmp .ne 7, 3) := by decide +kernel
theorem dX12_findCan_28 : decode cX12_findCan 28 = .ok (.iconst 1, 1) := by decide +kernel
theorem dX12_findCan_29 : decode cX12_findCan 29 = .ok (.goto 4, 3) := by decide +kernel
theorem dX12_findCan_32 : decode cX12_findCan 32 = .ok (.iconst 0, 1) := by decide +kernel
theorem dX12_findCan_33 : decode cX12_findCan 33 = .ok (.bastore, 1) := by decide +kernel
theorem dX12_findCan_34 : decode cX12_findCan 34 = .ok (.iinc 3 1, 3) := by decide +kernel
theorem dX12_findCan_37 : decode cX12_findCan 37 = .ok (.goto (-35), 3) := by decide +kernel
theorem dX12_findCan_40 : decode cX12_findCan 40 = .ok (.iload_n 2, 1) := by decide +kernel
theorem dX12_findCan_41 : decode cX12_findCan 41 = .ok (.iconst 1, 1) := by decide +kernel
theorem dX12_findCan_42 : decode cX12_findCan 42 = .ok (.isub, 1) := by decide +kernel
theorem dX12_findCan_43 : decode cX12_findCan 43 = .ok (.istore_n 3, 1) := by decide +kernel
theorem dX12_findCan_44 : decode cX12_findCan 44 = .ok (.iload_n 3, 1) := by decide +kernel
theorem dX12_findCan_45 : decode cX12_findCan 45 = .ok (.ifCond .lt 73, 3) := by decide +kernel
theorem dX12_findCan_48 : decode cX12_findCan 48 = .ok (.iconst 0, 1) := by decide +kernel
theorem dX12_findCan_49 : decode cX12_findCan 49 = .ok (.istore 4, 2) := by decide +kernel
theorem dX12_findCan_51 : decode cX12_findCan 51 = .ok (.iload 4, 2) := by decide +kernel
theorem dX12_findCan_53 : decode cX12_findCan 53 = .ok (.aload_n 0, 1) := by decide +kernel
theorem dX12_findCan_54 : decode cX12_findCan 54 = .ok (.getfield 84, 3) := by decide +kernel
theorem dX12_findCan_57 : decode cX12_findCan 57 = .ok (.if_icmp .ge 55, 3) := by decide +kernel
theorem dX12_findCan_60 : decode cX12_findCan 60 = .ok (.iconst 0, 1) := by decide +kernel
theorem dX12_findCan_61 : decode cX12_findCan 61 = .ok (.istore 5, 2) := by decide +kernel
theorem dX12_findCan_63 : decode cX12_findCan 63 = .ok (.iload 5, 2) := by decide +kernel
theorem dX12_findCan_65 : decode cX12_findCan 65 = .ok (.aload_n 0, 1) := by decide +kernel
theorem dX12_findCan_66 : decode cX12_findCan 66 = .ok (.getfield 81, 3) := by decide +kernel
theorem dX12_findCan_69 : decode cX12_findCan 69 = .ok (.if_icmp .gt 37, 3) := by decide +kernel
theorem dX12_findCan_72 : decode cX12_findCan 72 = .ok (.aload_n 0, 1) := by decide +kernel
theorem dX12_findCan_73 : decode cX12_findCan 73 = .ok (.getfield 52, 3) := by decide +kernel
theorem dX12_findCan_76 : decode cX12_findCan 76 = .ok (.sipush 2304, 3) := by decide +kernel
theorem dX12_findCan_79 : decode cX12_findCan 79 = .ok (.iload_n 3, 1) := by decide +kernel
theorem dX12_findCan_80 : decode cX12_findCan 80 = .ok (.imul, 1) := by decide +kernel
theorem dX12_findCan_81 : decode cX12_findCan 81 = .ok (.bipush 9, 2) := by decide +kernel
theorem dX12_findCan_83 : decode cX12_findCan 83 = .ok (.iload 4, 2) := by decide +kernel
theorem dX12_findCan_85 : decode cX12_findCan 85 = .ok (.imul, 1) := by decide +kernel
theorem dX12_findCan_86 : decode cX12_findCan 86 = .ok (.iadd, 1) := by decide +kernel
theorem dX12_findCan_87 : decode cX12_findCan 87 = .ok (.iload 5, 2) := by decide +kernel
theorem dX12_findCan_89 : decode cX12_findCan 89 = .ok (.iadd, 1) := by decide +kernel
theorem dX12_findCan_90 : decode cX12_findCan 90 = .ok (.aload_n 0, 1) := by decide +kernel
theorem dX12_findCan_91 : decode cX12_findCan 91 = .ok (.iload_n 3, 1) := by decide +kernel
theorem dX12_findCan_92 : decode cX12_findCan 92 = .ok (.iload 4, 2) := by decide +kernel
theorem dX12_findCan_94 : decode cX12_findCan 94 = .ok (.iload 5, 2) := by decide +kernel
theorem dX12_findCan_96 : decode cX12_findCan 96 = .ok (.invokevirtual 333, 3) := by decide +kernel
theorem dX12_findCan_99 : decode cX12_findCan 99 = .ok (.bastore, 1) := by decide +kernel
theorem dX12_findCan_100 : decode cX12_findCan 100 = .ok (.iinc 5 1, 3) := by decide +kernel
theorem dX12_findCan_103 : decode cX12_findCan 103 = .ok (.goto (-40), 3) := by decide +kernel
theorem dX12_findCan_106 : decode cX12_findCan 106 = .ok (.iinc 4 1, 3) := by decide +kernel
theorem dX12_findCan_109 : decode cX12_findCan 109 = .ok (.goto (-58), 3) := by decide +kernel
theorem dX12_findCan_112 : decode cX12_findCan 112 = .ok (.iinc 3 (-1), 3) := by decide +kernel
theorem dX12_findCan_115 : decode cX12_findCan 115 = .ok (.goto (-71), 3) := by decide +kernel
theorem dX12_findCan_118 : decode cX12_findCan 118 = .ok (.return_, 1) := by decide +kernel
theorem dX12_row_0 : decode cX12_row 0 = .ok (.aload_n 0, 1) := by decide +kernel
theorem dX12_row_1 : decode cX12_row 1 = .ok (.iload_n 1, 1) := by decide +kernel
theorem dX12_row_2 : decode cX12_row 2 = .ok (.iload_n 2, 1) := by decide +kernel
theorem dX12_row_3 : decode cX12_row 3 = .ok (.iload_n 3, 1) := by decide +kernel
theorem dX12_row_4 : decode cX12_row 4 = .ok (.invokevirtual 318, 3) := by decide +kernel
theorem dX12_row_7 : decode cX12_row 7 = .ok (.ifCond .eq 15, 3) := by decide +kernel
theorem dX12_row_10 : decode cX12_row 10 = .ok (.iload 4, 2) := by decide +kernel
theorem dX12_row_12 : decode cX12_row 12 = .ok (.iconst 0, 1) := by decide +kernel
theorem dX12_row_13 : decode cX12_row 13 = .ok (.iload_n 3, 1) := by decide +kernel
theorem dX12_row_14 : decode cX12_row 14 = .ok (.iconst 1, 1) := by decide +kernel
theorem dX12_row_15 : decode cX12_row 15 = .ok (.isub, 1) := by decide +kernel
theorem dX12_row_16 : decode cX12_row 16 = .ok (.invokestatic 91, 3) := by decide +kernel
theorem dX12_row_19 : decode cX12_row 19 = .ok (.ifCond .ne 5, 3) := by decide +kernel
theorem dX12_row_22 : decode cX12_row 22 = .ok (.iconst (-1), 1) := by decide +kernel
theorem dX12_row_23 : decode cX12_row 23 = .ok (.ireturn, 1) := by decide +kernel
theorem dX12_row_24 : decode cX12_row 24 = .ok (.aload_n 0, 1) := by decide +kernel
theorem dX12_row_25 : decode cX12_row 25 = .ok (.invokevirtual 321, 3) := by decide +kernel
theorem dX12_row_28 : decode cX12_row 28 = .ok (.aload_n 0, 1) := by decide +kernel
theorem dX12_row_29 : decode cX12_row 29 = .ok (.iload_n 2, 1) := by decide +kernel
theorem dX12_row_30 : decode cX12_row 30 = .ok (.iload_n 3, 1) := by decide +kernel
theorem dX12_row_31 : decode cX12_row 31 = .ok (.invokevirtual 336, 3) := by decide +kernel
theorem dX12_row_34 : decode cX12_row 34 = .ok (.aload_n 0, 1) := by decide +kernel
theorem dX12_row_35 : decode cX12_row 35 = .ok (.getfield 52, 3) := by decide +kernel
theorem dX12_row_38 : decode cX12_row 38 = .ok (.bipush 9, 2) := by decide +kernel
theorem dX12_row_40 : decode cX12_row 40 = .ok (.iload_n 1, 1) := by decide +kernel
theorem dX12_row_41 : decode cX12_row 41 = .ok (.imul, 1) := by decide +kernel
theorem dX12_row_42 : decode cX12_row 42 = .ok (.baload, 1) := by decide +kernel
theorem dX12_row_43 : decode cX12_row 43 = .ok (.ifCond .ne 5, 3) := by decide +kernel
theorem dX12_row_46 : decode cX12_row 46 = .ok (.iconst (-1), 1) := by decide +kernel
theorem dX12_row_47 : decode cX12_row 47 = .ok (.ireturn, 1) := by decide +kernel
theorem dX12_row_48 : decode cX12_row 48 = .ok (.iload_n 1, 1) := by decide +kernel
theorem dX12_row_49 : decode cX12_row 49 = .ok (.istore 5, 2) := by decide +kernel
theorem dX12_row_51 : decode cX12_row 51 = .ok (.iconst 0, 1) := by decide +kernel
theorem dX12_row_52 : decode cX12_row 52 = .ok (.istore 6, 2) := by decide +kernel
theorem dX12_row_54 : decode cX12_row 54 = .ok (.iconst (-1), 1) := by decide +kernel
theorem dX12_row_55 : decode cX12_row 55 = .ok (.istore 7, 2) := by decide +kernel
theorem dX12_row_57 : decode cX12_row 57 = .ok (.iconst 0, 1) := by decide +kernel
theorem dX12_row_58 : decode cX12_row 58 = .ok (.istore 8, 2) := by decide +kernel
theorem dX12_row_60 : decode cX12_row 60 = .ok (.iload 8, 2) := by decide +kernel
theorem dX12_row_62 : decode cX12_row 62 = .ok (.iload 4, 2) := by decide +kernel
theorem dX12_row_64 : decode cX12_row 64 = .ok (.if_icmp .gt 48, 3) := by decide +kernel
theorem dX12_row_67 : decode cX12_row 67 = .ok (.aload_n 0, 1) := by decide +kernel
theorem dX12_row_68 : decode cX12_row 68 = .ok (.iload 8, 2) := by decide +kernel
theorem dX12_row_70 : decode cX12_row 70 = .ok (.iload 5, 2) := by decide +kernel
theorem dX12_row_72 : decode cX12_row 72 = .ok (.iload 6, 2) := by decide +kernel
theorem dX12_row_74 : decode cX12_row 74 = .ok (.invokevirtual 339, 3) := by decide +kernel
theorem dX12_row_77 : decode cX12_row 77 = .ok (.istore 7, 2) := by decide +kernel
theorem dX12_row_79 : decode cX12_row 79 = .ok (.aload_n 0, 1) := by decide +kernel
theorem dX12_row_80 : decode cX12_row 80 = .ok (.iload 5, 2) := by decide +kernel
theorem dX12_row_82 : decode cX12_row 82 = .ok (.iload 7, 2) := by decide +kernel
theorem dX12_row_84 : decode cX12_row 84 = .ok (.bipush 10, 2) := by decide +kernel
theorem dX12_row_86 : decode cX12_row 86 = .ok (.idiv, 1) := by decide +kernel
theorem dX12_row_87 : decode cX12_row 87 = .ok (.iload 7, 2) := by decide +kernel
theorem dX12_row_89 : decode cX12_row 89 = .ok (.bipush 10, 2) := by decide +kernel
theorem dX12_row_91 : decode cX12_row 91 = .ok (.irem, 1) := by decide +kernel
theorem dX12_row_92 : decode cX12_row 92 = .ok (.invokevirtual 302, 3) := by decide +kernel
theorem dX12_row_95 : decode cX12_row 95 = .ok (.istore 5, 2) := by decide +kernel
theorem dX12_row_97 : decode cX12_row 97 = .ok (.iload 7, 2) := by decide +kernel
theorem dX12_row_99 : decode cX12_row 99 = .ok (.bipush 10, 2) := by decide +kernel
theorem dX12_row_101 : decode cX12_row 101 = .ok (.idiv, 1) := by decide +kernel
theorem dX12_row_102 : decode cX12_row 102 = .ok (.iconst 1, 1) := by decide +kernel
theorem dX12_row_103 : decode cX12_row 103 = .ok (.iadd, 1) := by decide +kernel
theorem dX12_row_104 : decode cX12_row 104 = .ok (.istore 6, 2) := by decide +kernel
theorem dX12_row_106 : decode cX12_row 106 = .ok (.iinc 8 1, 3) := by decide +kernel
theorem dX12_row_109 : decode cX12_row 109 = .ok (.goto (-49), 3) := by decide +kernel
theorem dX12_row_112 : decode cX12_row 112 = .ok (.iload 7, 2) := by decide +kernel
theorem dX12_row_114 : decode cX12_row 114 = .ok (.ireturn, 1) := by decide +kernel
theorem dX12_firstOf_0 : decode cX12_firstOf 0 = .ok (.iconst 0, 1) := by decide +kernel
theorem dX12_firstOf_1 : decode cX12_firstOf 1 = .ok (.istore 4, 2) := by decide +kernel
theorem dX12_firstOf_3 : decode cX12_firstOf 3 = .ok (.iload 4, 2) := by decide +kernel
theorem dX12_firstOf_5 : decode cX12_firstOf 5 = .ok (.aload_n 0, 1) := by decide +kernel
theorem dX12_firstOf_6 : decode cX12_firstOf 6 = .ok (.getfield 81, 3) := by decide +kernel
theorem dX12_firstOf_9 : decode cX12_firstOf 9 = .ok (.if_icmp .ge 85, 3) := by decide +kernel
theorem dX12_firstOf_12 : decode cX12_firstOf 12 = .ok (.iconst 0, 1) := by decide +kernel
theorem dX12_firstOf_13 : decode cX12_firstOf 13 = .ok (.istore 5, 2) := by decide +kernel
theorem dX12_firstOf_15 : decode cX12_firstOf 15 = .ok (.iload 5, 2) := by decide +kernel
theorem dX12_firstOf_17 : decode cX12_firstOf 17 = .ok (.aload_n 0, 1) := by decide +kernel
theorem dX12_firstOf_18 : decode cX12_firstOf 18 = .ok (.getfield 74, 3) := by decide +kernel
theorem dX12_firstOf_21 : decode cX12_firstOf 21 = .ok (.if_icmp .ge 67, 3) := by decide +kernel
theorem dX12_firstOf_24 : decode cX12_firstOf 24 = .ok (.aload_n 0, 1) := by decide +kernel
theorem dX12_firstOf_25 : decode cX12_firstOf 25 = .ok (.iload_n 1, 1) := by decide +kernel
theorem dX12_firstOf_26 : decode cX12_firstOf 26 = .ok (.iload_n 2, 1) := by decide +kernel
theorem dX12_firstOf_27 : decode cX12_firstOf 27 = .ok (.iload_n 3, 1) := by decide +kernel
theorem dX12_firstOf_28 : decode cX12_firstOf 28 = .ok (.iconst 1, 1) := by decide +kernel
theorem dX12_firstOf_29 : decode cX12_firstOf 29 = .ok (.isub, 1) := by decide +kernel
theorem dX12_firstOf_30 : decode cX12_firstOf 30 = .ok (.iload 4, 2) := by decide +kernel
theorem dX12_firstOf_32 : decode cX12_firstOf 32 = .ok (.iload 5, 2) := by decide +kernel
theorem dX12_firstOf_34 : decode cX12_firstOf 34 = .ok (.invokevirtual 329, 3) := by decide +kernel
theorem dX12_firstOf_37 : decode cX12_firstOf 37 = .ok (.ifCond .eq 45, 3) := by decide +kernel
theorem dX12_firstOf_40 : decode cX12_firstOf 40 = .ok (.aload_n 0, 1) := by decide +kernel
theorem dX12_firstOf_41 : decode cX12_firstOf 41 = .ok (.getfield 52, 3) := by decide +kernel
theorem dX12_firstOf_44 : decode cX12_firstOf 44 = .ok (.sipush 2304, 3) := by decide +kernel
theorem dX12_firstOf_47 : decode cX12_firstOf 47 = .ok (.iload_n 1, 1) := by decide +kernel
theorem dX12_firstOf_48 : decode cX12_firstOf 48 = .ok (.iconst 1, 1) := by decide +kernel
theorem dX12_firstOf_49 : decode cX12_firstOf 49 = .ok (.iadd, 1) := by decide +kernel
theorem dX12_firstOf_50 : decode cX12_firstOf 50 = .ok (.imul, 1) := by decide +kernel
theorem dX12_firstOf_51 : decode cX12_firstOf 51 = .ok (.bipush 9, 2) := by decide +kernel
theorem dX12_firstOf_53 : decode cX12_firstOf 53 = .ok (.aload_n 0, 1) := by decide +kernel
theorem dX12_firstOf_54 : decode cX12_firstOf 54 = .ok (.iload_n 2, 1) := by decide +kernel
theorem dX12_firstOf_55 : decode cX12_firstOf 55 = .ok (.iload 4, 2) := by decide +kernel
theorem dX12_firstOf_57 : decode cX12_firstOf 57 = .ok (.iload 5, 2) := by decide +kernel
theorem dX12_firstOf_59 : decode cX12_firstOf 59 = .ok (.invokevirtual 302, 3) := by decide +kernel
theorem dX12_firstOf_62 : decode cX12_firstOf 62 = .ok (.imul, 1) := by decide +kernel
theorem dX12_firstOf_63 : decode cX12_firstOf 63 = .ok (.iadd, 1) := by decide +kernel
theorem dX12_firstOf_64 : decode cX12_firstOf 64 = .ok (.iload 4, 2) := by decide +kernel
theorem dX12_firstOf_66 : decode cX12_firstOf 66 = .ok (.iadd, 1) := by decide +kernel
theorem dX12_firstOf_67 : decode cX12_firstOf 67 = .ok (.iconst 1, 1) := by decide +kernel
theorem dX12_firstOf_68 : decode cX12_firstOf 68 = .ok (.iadd, 1) := by decide +kernel
theorem dX12_firstOf_69 : decode cX12_firstOf 69 = .ok (.baload, 1) := by decide +kernel
theorem dX12_firstOf_70 : decode cX12_firstOf 70 = .ok (.ifCond .eq 12, 3) := by decide +kernel
theorem dX12_firstOf_73 : decode cX12_firstOf 73 = .ok (.bipush 10, 2) := by decide +kernel
theorem dX12_firstOf_75 : decode cX12_firstOf 75 = .ok (.iload 4, 2) := by decide +kernel
theorem dX12_firstOf_77 : decode cX12_firstOf 77 = .ok (.imul, 1) := by decide +kernel
theorem dX12_firstOf_78 : decode cX12_firstOf 78 = .ok (.iload 5, 2) := by decide +kernel
theorem dX12_firstOf_80 : decode cX12_firstOf 80 = .ok (.iadd, 1) := by decide +kernel
theorem dX12_firstOf_81 : decode cX12_firstOf 81 = .ok (.ireturn, 1) := by decide +kernel
theorem dX12_firstOf_82 : decode cX12_firstOf 82 = .ok (.iinc 5 1, 3) := by decide +kernel
theorem dX12_firstOf_85 : decode cX12_firstOf 85 = .ok (.goto (-70), 3) := by decide +kernel
theorem dX12_firstOf_88 : decode cX12_firstOf 88 = .ok (.iinc 4 1, 3) := by decide +kernel
theorem dX12_firstOf_91 : decode cX12_firstOf 91 = .ok (.goto (-88), 3) := by decide +kernel
theorem dX12_firstOf_94 : decode cX12_firstOf 94 = .ok (.iconst (-1), 1) := by decide +kernel
theorem dX12_firstOf_95 : decode cX12_firstOf 95 = .ok (.ireturn, 1) := by decide +kernel
theorem dX12_heard_0 : decode cX12_heard 0 = .ok (.aload_n 0, 1) := by decide +kernel
theorem dX12_heard_1 : decode cX12_heard 1 = .ok (.iload_n 1, 1) := by decide +kernel
theorem dX12_heard_2 : decode cX12_heard 2 = .ok (.invokevirtual 102, 3) := by decide +kernel
theorem dX12_heard_5 : decode cX12_heard 5 = .ok (.ifCond .eq 18, 3) := by decide +kernel
theorem dX12_heard_8 : decode cX12_heard 8 = .ok (.iload_n 2, 1) := by decide +kernel
theorem dX12_heard_9 : decode cX12_heard 9 = .ok (.iconst 0, 1) := by decide +kernel
theorem dX12_heard_10 : decode cX12_heard 10 = .ok (.bipush 8, 2) := by decide +kernel
theorem dX12_heard_12 : decode cX12_heard 12 = .ok (.invokestatic 91, 3) := by decide +kernel
theorem dX12_heard_15 : decode cX12_heard 15 = .ok (.ifCond .eq 8, 3) := by decide +kernel
theorem dX12_heard_18 : decode cX12_heard 18 = .ok (.iload_n 3, 1) := by decide +kernel
theorem dX12_heard_19 : decode cX12_heard 19 = .ok (.iconst (-1), 1) := by decide +kernel
theorem dX12_heard_20 : decode cX12_heard 20 = .ok (.if_icmp .ge 5, 3) := by decide +kernel
theorem dX12_heard_23 : decode cX12_heard 23 = .ok (.iconst (-1), 1) := by decide +kernel
theorem dX12_heard_24 : decode cX12_heard 24 = .ok (.ireturn, 1) := by decide +kernel
theorem dX12_heard_25 : decode cX12_heard 25 = .ok (.aload_n 0, 1) := by decide +kernel
theorem dX12_heard_26 : decode cX12_heard 26 = .ok (.invokevirtual 321, 3) := by decide +kernel
theorem dX12_heard_29 : decode cX12_heard 29 = .ok (.aload_n 0, 1) := by decide +kernel
theorem dX12_heard_30 : decode cX12_heard 30 = .ok (.iload_n 1, 1) := by decide +kernel
theorem dX12_heard_31 : decode cX12_heard 31 = .ok (.iconst 0, 1) := by decide +kernel
theorem dX12_heard_32 : decode cX12_heard 32 = .ok (.iload_n 2, 1) := by decide +kernel
theorem dX12_heard_33 : decode cX12_heard 33 = .ok (.invokevirtual 315, 3) := by decide +kernel
theorem dX12_heard_36 : decode cX12_heard 36 = .ok (.lstore 4, 2) := by decide +kernel
theorem dX12_heard_38 : decode cX12_heard 38 = .ok (.iconst 0, 1) := by decide +kernel
theorem dX12_heard_39 : decode cX12_heard 39 = .ok (.istore 6, 2) := by decide +kernel
theorem dX12_heard_41 : decode cX12_heard 41 = .ok (.iconst 0, 1) := by decide +kernel
theorem dX12_heard_42 : decode cX12_heard 42 = .ok (.istore 7, 2) := by decide +kernel
theorem dX12_heard_44 : decode cX12_heard 44 = .ok (.iload 7, 2) := by decide +kernel
theorem dX12_heard_46 : decode cX12_heard 46 = .ok (.aload_n 0, 1) := by decide +kernel
theorem dX12_heard_47 : decode cX12_heard 47 = .ok (.getfield 84, 3) := by decide +kernel
theorem dX12_heard_50 : decode cX12_heard 50 = .ok (.if_icmp .ge 35, 3) := by decide +kernel
theorem dX12_heard_53 : decode cX12_heard 53 = .ok (.aload_n 0, 1) := by decide +kernel
theorem dX12_heard_54 : decode cX12_heard 54 = .ok (.iload 7, 2) := by decide +kernel
theorem dX12_heard_56 : decode cX12_heard 56 = .ok (.invokevirtual 311, 3) := by decide +kernel
theorem dX12_heard_59 : decode cX12_heard 59 = .ok (.lconst 0, 1) := by decide +kernel
theorem dX12_heard_60 : decode cX12_heard 60 = .ok (.lcmp, 1) := by decide +kernel
theorem dX12_heard_61 : decode cX12_heard 61 = .ok (.ifCond .ne 6, 3) := by decide +kernel
theorem dX12_heard_64 : decode cX12_heard 64 = .ok (.goto 15, 3) := by decide +kernel
theorem dX12_heard_67 : decode cX12_heard 67 = .ok (.iload 6, 2) := by decide +kernel
theorem dX12_heard_69 : decode cX12_heard 69 = .ok (.iload_n 3, 1) := by decide +kernel
theorem dX12_heard_70 : decode cX12_heard 70 = .ok (.if_icmp .ne 6, 3) := by decide +kernel
theorem dX12_heard_73 : decode cX12_heard 73 = .ok (.iload 7, 2) := by decide +kernel
theorem dX12_heard_75 : decode cX12_heard 75 = .ok (.ireturn, 1) := by decide +kernel
theorem dX12_heard_76 : decode cX12_heard 76 = .ok (.iinc 6 1, 3) := by decide +kernel
theorem dX12_heard_79 : decode cX12_heard 79 = .ok (.iinc 7 1, 3) := by decide +kernel
theorem dX12_heard_82 : decode cX12_heard 82 = .ok (.goto (-38), 3) := by decide +kernel
theorem dX12_heard_85 : decode cX12_heard 85 = .ok (.iload_n 3, 1) := by decide +kernel
theorem dX12_heard_86 : decode cX12_heard 86 = .ok (.iconst (-1), 1) := by decide +kernel
theorem dX12_heard_87 : decode cX12_heard 87 = .ok (.if_icmp .ne 8, 3) := by decide +kernel
theorem dX12_heard_90 : decode cX12_heard 90 = .ok (.iload 6, 2) := by decide +kernel
theorem dX12_heard_92 : decode cX12_heard 92 = .ok (.goto 4, 3) := by decide +kernel
theorem dX12_heard_95 : decode cX12_heard 95 = .ok (.iconst (-1), 1) := by decide +kernel
theorem dX12_heard_96 : decode cX12_heard 96 = .ok (.ireturn, 1) := by decide +kernel
theorem dX12_common_0 : decode cX12_common 0 = .ok (.lload_n 0, 1) := by decide +kernel
theorem dX12_common_1 : decode cX12_common 1 = .ok (.lstore 4, 2) := by decide +kernel
theorem dX12_common_3 : decode cX12_common 3 = .ok (.lload_n 2, 1) := by decide +kernel
theorem dX12_common_4 : decode cX12_common 4 = .ok (.lstore 6, 2) := by decide +kernel
theorem dX12_common_6 : decode cX12_common 6 = .ok (.lload 6, 2) := by decide +kernel
theorem dX12_common_8 : decode cX12_common 8 = .ok (.lconst 0, 1) := by decide +kernel
theorem dX12_common_9 : decode cX12_common 9 = .ok (.lcmp, 1) := by decide +kernel
theorem dX12_common_10 : decode cX12_common 10 = .ok (.ifCond .eq 21, 3) := by decide +kernel
theorem dX12_common_13 : decode cX12_common 13 = .ok (.lload 4, 2) := by decide +kernel
theorem dX12_common_15 : decode cX12_common 15 = .ok (.lload 6, 2) := by decide +kernel
theorem dX12_common_17 : decode cX12_common 17 = .ok (.lrem, 1) := by decide +kernel
theorem dX12_common_18 : decode cX12_common 18 = .ok (.lstore 8, 2) := by decide +kernel
theorem dX12_common_20 : decode cX12_common 20 = .ok (.lload 6, 2) := by decide +kernel
theorem dX12_common_22 : decode cX12_common 22 = .ok (.lstore 4, 2) := by decide +kernel
theorem dX12_common_24 : decode cX12_common 24 = .ok (.lload 8, 2) := by decide +kernel
theorem dX12_common_26 : decode cX12_common 26 = .ok (.lstore 6, 2) := by decide +kernel
theorem dX12_common_28 : decode cX12_common 28 = .ok (.goto (-22), 3) := by decide +kernel
theorem dX12_common_31 : decode cX12_common 31 = .ok (.lload 4, 2) := by decide +kernel
theorem dX12_common_33 : decode cX12_common 33 = .ok (.lreturn, 1) := by decide +kernel
theorem dX12_odds_0 : decode cX12_odds 0 = .ok (.aload_n 0, 1) := by decide +kernel
theorem dX12_odds_1 : decode cX12_odds 1 = .ok (.iload_n 1, 1) := by decide +kernel
theorem dX12_odds_2 : decode cX12_odds 2 = .ok (.invokevirtual 102, 3) := by decide +kernel
theorem dX12_odds_5 : decode cX12_odds 5 = .ok (.ifCond .eq 39, 3) := by decide +kernel
theorem dX12_odds_8 : decode cX12_odds 8 = .ok (.iload_n 2, 1) := by decide +kernel
theorem dX12_odds_9 : decode cX12_odds 9 = .ok (.iconst 0, 1) := by decide +kernel
theorem dX12_odds_10 : decode cX12_odds 10 = .ok (.bipush 8, 2) := by decide +kernel
theorem dX12_odds_12 : decode cX12_odds 12 = .ok (.invokestatic 91, 3) := by decide +kernel
theorem dX12_odds_15 : decode cX12_odds 15 = .ok (.ifCond .eq 29, 3) := by decide +kernel
theorem dX12_odds_18 : decode cX12_odds 18 = .ok (.iload_n 3, 1) := by decide +kernel
theorem dX12_odds_19 : decode cX12_odds 19 = .ok (.iconst 0, 1) := by decide +kernel
theorem dX12_odds_20 : decode cX12_odds 20 = .ok (.aload_n 0, 1) := by decide +kernel
theorem dX12_odds_21 : decode cX12_odds 21 = .ok (.getfield 7, 3) := by decide +kernel
theorem dX12_odds_24 : decode cX12_odds 24 = .ok (.iconst 2, 1) := by decide +kernel
theorem dX12_odds_25 : decode cX12_odds 25 = .ok (.iaload, 1) := by decide +kernel
theorem dX12_odds_26 : decode cX12_odds 26 = .ok (.iconst 1, 1) := by decide +kernel
theorem dX12_odds_27 : decode cX12_odds 27 = .ok (.isub, 1) := by decide +kernel
theorem dX12_odds_28 : decode cX12_odds 28 = .ok (.invokestatic 91, 3) := by decide +kernel
theorem dX12_odds_31 : decode cX12_odds 31 = .ok (.ifCond .eq 13, 3) := by decide +kernel
theorem dX12_odds_34 : decode cX12_odds 34 = .ok (.iload 4, 2) := by decide +kernel
theorem dX12_odds_36 : decode cX12_odds 36 = .ok (.iconst 0, 1) := by decide +kernel
theorem dX12_odds_37 : decode cX12_odds 37 = .ok (.iconst 1, 1) := by decide +kernel
theorem dX12_odds_38 : decode cX12_odds 38 = .ok (.invokestatic 91, 3) := by decide +kernel
theorem dX12_odds_41 : decode cX12_odds 41 = .ok (.ifCond .ne 7, 3) := by decide +kernel
theorem dX12_odds_44 : decode cX12_odds 44 = .ok (.ldc2_w 327, 3) := by decide +kernel
theorem dX12_odds_47 : decode cX12_odds 47 = .ok (.lreturn, 1) := by decide +kernel
theorem dX12_odds_48 : decode cX12_odds 48 = .ok (.aload_n 0, 1) := by decide +kernel
theorem dX12_odds_49 : decode cX12_odds 49 = .ok (.invokevirtual 321, 3) := by decide +kernel
theorem dX12_odds_52 : decode cX12_odds 52 = .ok (.lconst 0, 1) := by decide +kernel
theorem dX12_odds_53 : decode cX12_odds 53 = .ok (.lstore 5, 2) := by decide +kernel
theorem dX12_odds_55 : decode cX12_odds 55 = .ok (.lconst 0, 1) := by decide +kernel
theorem dX12_odds_56 : decode cX12_odds 56 = .ok (.lstore 7, 2) := by decide +kernel
theorem dX12_odds_58 : decode cX12_odds 58 = .ok (.iconst 0, 1) := by decide +kernel
theorem dX12_odds_59 : decode cX12_odds 59 = .ok (.istore 9, 2) := by decide +kernel
theorem dX12_odds_61 : decode cX12_odds 61 = .ok (.iload 9, 2) := by decide +kernel
theorem dX12_odds_63 : decode cX12_odds 63 = .ok (.aload_n 0, 1) := by decide +kernel
theorem dX12_odds_64 : decode cX12_odds 64 = .ok (.getfield 7, 3) := by decide +kernel
theorem dX12_odds_67 : decode cX12_odds 67 = .ok (.iconst 2, 1) := by decide +kernel
theorem dX12_odds_68 : decode cX12_odds 68 = .ok (.iaload, 1) := by decide +kernel
theorem dX12_odds_69 : decode cX12_odds 69 = .ok (.if_icmp .ge 61, 3) := by decide +kernel
theorem dX12_odds_72 : decode cX12_odds 72 = .ok (.aload_n 0, 1) := by decide +kernel
theorem dX12_odds_73 : decode cX12_odds 73 = .ok (.getfield 7, 3) := by decide +kernel
theorem dX12_odds_76 : decode cX12_odds 76 = .ok (.bipush 10, 2) := by decide +kernel
theorem dX12_odds_78 : decode cX12_odds 78 = .ok (.iconst 2, 1) := by decide +kernel
theorem dX12_odds_79 : decode cX12_odds 79 = .ok (.iload 9, 2) := by decide +kernel
theorem dX12_odds_81 : decode cX12_odds 81 = .ok (.imul, 1) := by decide +kernel
theorem dX12_odds_82 : decode cX12_odds 82 = .ok (.iadd, 1) := by decide +kernel
theorem dX12_odds_83 : decode cX12_odds 83 = .ok (.iconst 1, 1) := by decide +kernel
theorem dX12_odds_84 : decode cX12_odds 84 = .ok (.iadd, 1) := by decide +kernel
theorem dX12_odds_85 : decode cX12_odds 85 = .ok (.iaload, 1) := by decide +kernel
theorem dX12_odds_86 : decode cX12_odds 86 = .ok (.i2l, 1) := by decide +kernel
theorem dX12_odds_87 : decode cX12_odds 87 = .ok (.aload_n 0, 1) := by decide +kernel
theorem dX12_odds_88 : decode cX12_odds 88 = .ok (.aload_n 0, 1) := by decide +kernel
theorem dX12_odds_89 : decode cX12_odds 89 = .ok (.iload 9, 2) := by decide +kernel
theorem dX12_odds_91 : decode cX12_odds 91 = .ok (.invokevirtual 98, 3) := by decide +kernel
theorem dX12_odds_94 : decode cX12_odds 94 = .ok (.iload_n 1, 1) := by decide +kernel
theorem dX12_odds_95 : decode cX12_odds 95 = .ok (.iload_n 2, 1) := by decide +kernel
theorem dX12_odds_96 : decode cX12_odds 96 = .ok (.invokevirtual 315, 3) := by decide +kernel
theorem dX12_odds_99 : decode cX12_odds 99 = .ok (.lmul, 1) := by decide +kernel
theorem dX12_odds_100 : decode cX12_odds 100 = .ok (.lstore 10, 2) := by decide +kernel
theorem dX12_odds_102 : decode cX12_odds 102 = .ok (.lload 5, 2) := by decide +kernel
theorem dX12_odds_104 : decode cX12_odds 104 = .ok (.lload 10, 2) := by decide +kernel
theorem dX12_odds_106 : decode cX12_odds 106 = .ok (.ladd, 1) := by decide +kernel
theorem dX12_odds_107 : decode cX12_odds 107 = .ok (.lstore 5, 2) := by decide +kernel
theorem dX12_odds_109 : decode cX12_odds 109 = .ok (.iload 9, 2) := by decide +kernel
theorem dX12_odds_111 : decode cX12_odds 111 = .ok (.iload_n 3, 1) := by decide +kernel
theorem dX12_odds_112 : decode cX12_odds 112 = .ok (.if_icmp .ne 8, 3) := by decide +kernel
theorem dX12_odds_115 : decode cX12_odds 115 = .ok (.lload 10, 2) := by decide +kernel
theorem dX12_odds_117 : decode cX12_odds 117 = .ok (.goto 5, 3) := by decide +kernel
theorem dX12_odds_120 : decode cX12_odds 120 = .ok (.lload 7, 2) := by decide +kernel
theorem dX12_odds_122 : decode cX12_odds 122 = .ok (.lstore 7, 2) := by decide +kernel
theorem dX12_odds_124 : decode cX12_odds 124 = .ok (.iinc 9 1, 3) := by decide +kernel
theorem dX12_odds_127 : decode cX12_odds 127 = .ok (.goto (-66), 3) := by decide +kernel
theorem dX12_odds_130 : decode cX12_odds 130 = .ok (.lload 5, 2) := by decide +kernel
theorem dX12_odds_132 : decode cX12_odds 132 = .ok (.lconst 0, 1) := by decide +kernel
theorem dX12_odds_133 : decode cX12_odds 133 = .ok (.lcmp, 1) := by decide +kernel
theorem dX12_odds_134 : decode cX12_odds 134 = .ok (.ifCond .ne 7, 3) := by decide +kernel
theorem dX12_odds_137 : decode cX12_odds 137 = .ok (.ldc2_w 327, 3) := by decide +kernel
theorem dX12_odds_140 : decode cX12_odds 140 = .ok (.lreturn, 1) := by decide +kernel
theorem dX12_odds_141 : decode cX12_odds 141 = .ok (.iload 4, 2) := by decide +kernel
theorem dX12_odds_143 : decode cX12_odds 143 = .ok (.ifCond .ne 8, 3) := by decide +kernel
theorem dX12_odds_146 : decode cX12_odds 146 = .ok (.lload 7, 2) := by decide +kernel
theorem dX12_odds_148 : decode cX12_odds 148 = .ok (.goto 5, 3) := by decide +kernel
theorem dX12_odds_151 : decode cX12_odds 151 = .ok (.lload 5, 2) := by decide +kernel
theorem dX12_odds_153 : decode cX12_odds 153 = .ok (.lload 7, 2) := by decide +kernel
theorem dX12_odds_155 : decode cX12_odds 155 = .ok (.lload 5, 2) := by decide +kernel
theorem dX12_odds_157 : decode cX12_odds 157 = .ok (.invokestatic 342, 3) := by decide +kernel
theorem dX12_odds_160 : decode cX12_odds 160 = .ok (.ldiv, 1) := by decide +kernel
theorem dX12_odds_161 : decode cX12_odds 161 = .ok (.lreturn, 1) := by decide +kernel
theorem dX12_roads_0 : decode cX12_roads 0 = .ok (.iconst 0, 1) := by decide +kernel
theorem dX12_roads_1 : decode cX12_roads 1 = .ok (.istore_n 1, 1) := by decide +kernel
theorem dX12_roads_2 : decode cX12_roads 2 = .ok (.iconst 0, 1) := by decide +kernel
theorem dX12_roads_3 : decode cX12_roads 3 = .ok (.istore_n 2, 1) := by decide +kernel
theorem dX12_roads_4 : decode cX12_roads 4 = .ok (.aload_n 0, 1) := by decide +kernel
theorem dX12_roads_5 : decode cX12_roads 5 = .ok (.getfield 7, 3) := by decide +kernel
theorem dX12_roads_8 : decode cX12_roads 8 = .ok (.iconst 1, 1) := by decide +kernel
theorem dX12_roads_9 : decode cX12_roads 9 = .ok (.iaload, 1) := by decide +kernel
theorem dX12_roads_10 : decode cX12_roads 10 = .ok (.ifCond .lt 61, 3) := by decide +kernel
theorem dX12_roads_13 : decode cX12_roads 13 = .ok (.iload_n 2, 1) := by decide +kernel
theorem dX12_roads_14 : decode cX12_roads 14 = .ok (.aload_n 0, 1) := by decide +kernel
theorem dX12_roads_15 : decode cX12_roads 15 = .ok (.getfield 16, 3) := by decide +kernel
theorem dX12_roads_18 : decode cX12_roads 18 = .ok (.sipush 680, 3) := by decide +kernel
theorem dX12_roads_21 : decode cX12_roads 21 = .ok (.aload_n 0, 1) := by decide +kernel
theorem dX12_roads_22 : decode cX12_roads 22 = .ok (.getfield 7, 3) := by decide +kernel
theorem dX12_roads_25 : decode cX12_roads 25 = .ok (.iconst 1, 1) := by decide +kernel
theorem dX12_roads_26 : decode cX12_roads 26 = .ok (.iaload, 1) := by decide +kernel
theorem dX12_roads_27 : decode cX12_roads 27 = .ok (.imul, 1) := by decide +kernel
theorem dX12_roads_28 : decode cX12_roads 28 = .ok (.iaload, 1) := by decide +kernel
theorem dX12_roads_29 : decode cX12_roads 29 = .ok (.if_icmp .ge 42, 3) := by decide +kernel
theorem dX12_roads_32 : decode cX12_roads 32 = .ok (.iload_n 1, 1) := by decide +kernel
theorem dX12_roads_33 : decode cX12_roads 33 = .ok (.aload_n 0, 1) := by decide +kernel
theorem dX12_roads_34 : decode cX12_roads 34 = .ok (.getfield 16, 3) := by decide +kernel
theorem dX12_roads_37 : decode cX12_roads 37 = .ok (.sipush 680, 3) := by decide +kernel
theorem dX12_roads_40 : decode cX12_roads 40 = .ok (.aload_n 0, 1) := by decide +kernel
theorem dX12_roads_41 : decode cX12_roads 41 = .ok (.getfield 7, 3) := by decide +kernel
theorem dX12_roads_44 : decode cX12_roads 44 = .ok (.iconst 1, 1) := by decide +kernel
theorem dX12_roads_45 : decode cX12_roads 45 = .ok (.iaload, 1) := by decide +kernel
theorem dX12_roads_46 : decode cX12_roads 46 = .ok (.imul, 1) := by decide +kernel
theorem dX12_roads_47 : decode cX12_roads 47 = .ok (.iconst 1, 1) := by decide +kernel
theorem dX12_roads_48 : decode cX12_roads 48 = .ok (.iadd, 1) := by decide +kernel
theorem dX12_roads_49 : decode cX12_roads 49 = .ok (.iconst 3, 1) := by decide +kernel
theorem dX12_roads_50 : decode cX12_roads 50 = .ok (.iload_n 2, 1) := by decide +kernel
theorem dX12_roads_51 : decode cX12_roads 51 = .ok (.imul, 1) := by decide +kernel
theorem dX12_roads_52 : decode cX12_roads 52 = .ok (.iadd, 1) := by decide +kernel
theorem dX12_roads_53 : decode cX12_roads 53 = .ok (.iaload, 1) := by decide +kernel
theorem dX12_roads_54 : decode cX12_roads 54 = .ok (.iconst 3, 1) := by decide +kernel
theorem dX12_roads_55 : decode cX12_roads 55 = .ok (.if_icmp .ne 7, 3) := by decide +kernel
theorem dX12_roads_58 : decode cX12_roads 58 = .ok (.iconst 1, 1) := by decide +kernel
theorem dX12_roads_59 : decode cX12_roads 59 = .ok (.goto 4, 3) := by decide +kernel
theorem dX12_roads_62 : decode cX12_roads 62 = .ok (.iconst 0, 1) := by decide +kernel
theorem dX12_roads_63 : decode cX12_roads 63 = .ok (.iadd, 1) := by decide +kernel
theorem dX12_roads_64 : decode cX12_roads 64 = .ok (.istore_n 1, 1) := by decide +kernel
theorem dX12_roads_65 : decode cX12_roads 65 = .ok (.iinc 2 1, 3) := by decide +kernel
theorem dX12_roads_68 : decode cX12_roads 68 = .ok (.goto (-64), 3) := by decide +kernel
theorem dX12_roads_71 : decode cX12_roads 71 = .ok (.iload_n 1, 1) := by decide +kernel
theorem dX12_roads_72 : decode cX12_roads 72 = .ok (.ireturn, 1) := by decide +kernel
theorem dX12_roadAt_0 : decode cX12_roadAt 0 = .ok (.iconst (-1), 1) := by decide +kernel
theorem dX12_roadAt_1 : decode cX12_roadAt 1 = .ok (.istore_n 2, 1) := by decide +kernel
theorem dX12_roadAt_2 : decode cX12_roadAt 2 = .ok (.sipush 680, 3) := by decide +kernel
theorem dX12_roadAt_5 : decode cX12_roadAt 5 = .ok (.aload_n 0, 1) := by decide +kernel
theorem dX12_roadAt_6 : decode cX12_roadAt 6 = .ok (.getfield 7, 3) := by decide +kernel
theorem dX12_roadAt_9 : decode cX12_roadAt 9 = .ok (.iconst 1, 1) := by decide +kernel
theorem dX12_roadAt_10 : decode cX12_roadAt 10 = .ok (.iaload, 1) := by decide +kernel
theorem dX12_roadAt_11 : decode cX12_roadAt 11 = .ok (.imul, 1) := by decide +kernel
theorem dX12_roadAt_12 : decode cX12_roadAt 12 = .ok (.iconst 1, 1) := by decide +kernel
theorem dX12_roadAt_13 : decode cX12_roadAt 13 = .ok (.iadd, 1) := by decide +kernel
theorem dX12_roadAt_14 : decode cX12_roadAt 14 = .ok (.istore_n 3, 1) := by decide +kernel
theorem dX12_roadAt_15 : decode cX12_roadAt 15 = .ok (.iload_n 2, 1) := by decide +kernel
theorem dX12_roadAt_16 : decode cX12_roadAt 16 = .ok (.aload_n 0, 1) := by decide +kernel
theorem dX12_roadAt_17 : decode cX12_roadAt 17 = .ok (.getfield 16, 3) := by decide +kernel
theorem dX12_roadAt_20 : decode cX12_roadAt 20 = .ok (.iload_n 3, 1) := by decide +kernel
theorem dX12_roadAt_21 : decode cX12_roadAt 21 = .ok (.iaload, 1) := by decide +kernel
theorem dX12_roadAt_22 : decode cX12_roadAt 22 = .ok (.iconst 3, 1) := by decide +kernel
theorem dX12_roadAt_23 : decode cX12_roadAt 23 = .ok (.if_icmp .ne 7, 3) := by decide +kernel
theorem dX12_roadAt_26 : decode cX12_roadAt 26 = .ok (.iconst 1, 1) := by decide +kernel
theorem dX12_roadAt_27 : decode cX12_roadAt 27 = .ok (.goto 4, 3) := by decide +kernel
theorem dX12_roadAt_30 : decode cX12_roadAt 30 = .ok (.iconst 0, 1) := by decide +kernel
theorem dX12_roadAt_31 : decode cX12_roadAt 31 = .ok (.iadd, 1) := by decide +kernel
theorem dX12_roadAt_32 : decode cX12_roadAt 32 = .ok (.istore_n 2, 1) := by decide +kernel
theorem dX12_roadAt_33 : decode cX12_roadAt 33 = .ok (.iload_n 2, 1) := by decide +kernel
theorem dX12_roadAt_34 : decode cX12_roadAt 34 = .ok (.iload_n 1, 1) := by decide +kernel
theorem dX12_roadAt_35 : decode cX12_roadAt 35 = .ok (.if_icmp .ne 5, 3) := by decide +kernel
theorem dX12_roadAt_38 : decode cX12_roadAt 38 = .ok (.iload_n 3, 1) := by decide +kernel
theorem dX12_roadAt_39 : decode cX12_roadAt 39 = .ok (.ireturn, 1) := by decide +kernel
theorem dX12_roadAt_40 : decode cX12_roadAt 40 = .ok (.iinc 3 3, 3) := by decide +kernel
theorem dX12_roadAt_43 : decode cX12_roadAt 43 = .ok (.goto (-28), 3) := by decide +kernel
theorem dX12_comesBy_0 : decode cX12_comesBy 0 = .ok (.aload_n 0, 1) := by decide +kernel
theorem dX12_comesBy_1 : decode cX12_comesBy 1 = .ok (.iload_n 3, 1) := by decide +kernel
theorem dX12_comesBy_2 : decode cX12_comesBy 2 = .ok (.invokevirtual 346, 3) := by decide +kernel
theorem dX12_comesBy_5 : decode cX12_comesBy 5 = .ok (.istore 4, 2) := by decide +kernel
theorem dX12_comesBy_7 : decode cX12_comesBy 7 = .ok (.aload_n 0, 1) := by decide +kernel
theorem dX12_comesBy_8 : decode cX12_comesBy 8 = .ok (.iload_n 1, 1) := by decide +kernel
theorem dX12_comesBy_9 : decode cX12_comesBy 9 = .ok (.invokevirtual 305, 3) := by decide +kernel
theorem dX12_comesBy_12 : decode cX12_comesBy 12 = .ok (.iconst 0, 1) := by decide +kernel
theorem dX12_comesBy_13 : decode cX12_comesBy 13 = .ok (.istore 5, 2) := by decide +kernel
theorem dX12_comesBy_15 : decode cX12_comesBy 15 = .ok (.iload 5, 2) := by decide +kernel
theorem dX12_comesBy_17 : decode cX12_comesBy 17 = .ok (.aload_n 0, 1) := by decide +kernel
theorem dX12_comesBy_18 : decode cX12_comesBy 18 = .ok (.getfield 16, 3) := by decide +kernel
theorem dX12_comesBy_21 : decode cX12_comesBy 21 = .ok (.iload 4, 2) := by decide +kernel
theorem dX12_comesBy_23 : decode cX12_comesBy 23 = .ok (.iconst 2, 1) := by decide +kernel
theorem dX12_comesBy_24 : decode cX12_comesBy 24 = .ok (.iadd, 1) := by decide +kernel
theorem dX12_comesBy_25 : decode cX12_comesBy 25 = .ok (.iaload, 1) := by decide +kernel
theorem dX12_comesBy_26 : decode cX12_comesBy 26 = .ok (.if_icmp .gt 55, 3) := by decide +kernel
theorem dX12_comesBy_29 : decode cX12_comesBy 29 = .ok (.iload 5, 2) := by decide +kernel
theorem dX12_comesBy_31 : decode cX12_comesBy 31 = .ok (.aload_n 0, 1) := by decide +kernel
theorem dX12_comesBy_32 : decode cX12_comesBy 32 = .ok (.getfield 16, 3) := by decide +kernel
theorem dX12_comesBy_35 : decode cX12_comesBy 35 = .ok (.iload 4, 2) := by decide +kernel
theorem dX12_comesBy_37 : decode cX12_comesBy 37 = .ok (.iconst 1, 1) := by decide +kernel
theorem dX12_comesBy_38 : decode cX12_comesBy 38 = .ok (.iadd, 1) := by decide +kernel
theorem dX12_comesBy_39 : decode cX12_comesBy 39 = .ok (.iaload, 1) := by decide +kernel
theorem dX12_comesBy_40 : decode cX12_comesBy 40 = .ok (.if_icmp .lt 15, 3) := by decide +kernel
theorem dX12_comesBy_43 : decode cX12_comesBy 43 = .ok (.aload_n 0, 1) := by decide +kernel
theorem dX12_comesBy_44 : decode cX12_comesBy 44 = .ok (.iload_n 2, 1) := by decide +kernel
theorem dX12_comesBy_45 : decode cX12_comesBy 45 = .ok (.invokevirtual 311, 3) := by decide +kernel
theorem dX12_comesBy_48 : decode cX12_comesBy 48 = .ok (.lconst 0, 1) := by decide +kernel
theorem dX12_comesBy_49 : decode cX12_comesBy 49 = .ok (.lcmp, 1) := by decide +kernel
theorem dX12_comesBy_50 : decode cX12_comesBy 50 = .ok (.ifCond .le 5, 3) := by decide +kernel
theorem dX12_comesBy_53 : decode cX12_comesBy 53 = .ok (.iconst 1, 1) := by decide +kernel
theorem dX12_comesBy_54 : decode cX12_comesBy 54 = .ok (.ireturn, 1) := by decide +kernel
theorem dX12_comesBy_55 : decode cX12_comesBy 55 = .ok (.iload 5, 2) := by decide +kernel
theorem dX12_comesBy_57 : decode cX12_comesBy 57 = .ok (.aload_n 0, 1) := by decide +kernel
theorem dX12_comesBy_58 : decode cX12_comesBy 58 = .ok (.getfield 16, 3) := by decide +kernel
theorem dX12_comesBy_61 : decode cX12_comesBy 61 = .ok (.iload 4, 2) := by decide +kernel
theorem dX12_comesBy_63 : decode cX12_comesBy 63 = .ok (.iconst 2, 1) := by decide +kernel
theorem dX12_comesBy_64 : decode cX12_comesBy 64 = .ok (.iadd, 1) := by decide +kernel
theorem dX12_comesBy_65 : decode cX12_comesBy 65 = .ok (.iaload, 1) := by decide +kernel
theorem dX12_comesBy_66 : decode cX12_comesBy 66 = .ok (.if_icmp .ge 9, 3) := by decide +kernel
theorem dX12_comesBy_69 : decode cX12_comesBy 69 = .ok (.aload_n 0, 1) := by decide +kernel
theorem dX12_comesBy_70 : decode cX12_comesBy 70 = .ok (.iload 5, 2) := by decide +kernel
theorem dX12_comesBy_72 : decode cX12_comesBy 72 = .ok (.invokevirtual 308, 3) := by decide +kernel
theorem dX12_comesBy_75 : decode cX12_comesBy 75 = .ok (.iinc 5 1, 3) := by decide +kernel
theorem dX12_comesBy_78 : decode cX12_comesBy 78 = .ok (.goto (-63), 3) := by decide +kernel
theorem dX12_comesBy_81 : decode cX12_comesBy 81 = .ok (.iconst 0, 1) := by decide +kernel
theorem dX12_comesBy_82 : decode cX12_comesBy 82 = .ok (.ireturn, 1) := by decide +kernel
theorem dX12_road_0 : decode cX12_road 0 = .ok (.aload_n 0, 1) := by decide +kernel
theorem dX12_road_1 : decode cX12_road 1 = .ok (.iload_n 1, 1) := by decide +kernel
theorem dX12_road_2 : decode cX12_road 2 = .ok (.invokevirtual 102, 3) := by decide +kernel
theorem dX12_road_5 : decode cX12_road 5 = .ok (.ifCond .eq 25, 3) := by decide +kernel
theorem dX12_road_8 : decode cX12_road 8 = .ok (.aload_n 0, 1) := by decide +kernel
theorem dX12_road_9 : decode cX12_road 9 = .ok (.iload_n 2, 1) := by decide +kernel
theorem dX12_road_10 : decode cX12_road 10 = .ok (.invokevirtual 102, 3) := by decide +kernel
theorem dX12_road_13 : decode cX12_road 13 = .ok (.ifCond .eq 17, 3) := by decide +kernel
theorem dX12_road_16 : decode cX12_road 16 = .ok (.iload_n 3, 1) := by decide +kernel
theorem dX12_road_17 : decode cX12_road 17 = .ok (.iconst 0, 1) := by decide +kernel
theorem dX12_road_18 : decode cX12_road 18 = .ok (.aload_n 0, 1) := by decide +kernel
theorem dX12_road_19 : decode cX12_road 19 = .ok (.invokevirtual 349, 3) := by decide +kernel
theorem dX12_road_22 : decode cX12_road 22 = .ok (.iconst 1, 1) := by decide +kernel
theorem dX12_road_23 : decode cX12_road 23 = .ok (.isub, 1) := by decide +kernel
theorem dX12_road_24 : decode cX12_road 24 = .ok (.invokestatic 91, 3) := by decide +kernel
theorem dX12_road_27 : decode cX12_road 27 = .ok (.ifCond .ne 5, 3) := by decide +kernel
theorem dX12_road_30 : decode cX12_road 30 = .ok (.iconst 0, 1) := by decide +kernel
theorem dX12_road_31 : decode cX12_road 31 = .ok (.ireturn, 1) := by decide +kernel
theorem dX12_road_32 : decode cX12_road 32 = .ok (.aload_n 0, 1) := by decide +kernel
theorem dX12_road_33 : decode cX12_road 33 = .ok (.invokevirtual 321, 3) := by decide +kernel
theorem dX12_road_36 : decode cX12_road 36 = .ok (.aload_n 0, 1) := by decide +kernel
theorem dX12_road_37 : decode cX12_road 37 = .ok (.iload_n 1, 1) := by decide +kernel
theorem dX12_road_38 : decode cX12_road 38 = .ok (.iload_n 2, 1) := by decide +kernel
theorem dX12_road_39 : decode cX12_road 39 = .ok (.iload_n 3, 1) := by decide +kernel
theorem dX12_road_40 : decode cX12_road 40 = .ok (.invokevirtual 352, 3) := by decide +kernel
theorem dX12_road_43 : decode cX12_road 43 = .ok (.ireturn, 1) := by decide +kernel
theorem dX12_fits_0 : decode cX12_fits 0 = .ok (.aload_n 0, 1) := by decide +kernel
theorem dX12_fits_1 : decode cX12_fits 1 = .ok (.iload_n 1, 1) := by decide +kernel
theorem dX12_fits_2 : decode cX12_fits 2 = .ok (.invokevirtual 102, 3) := by decide +kernel
theorem dX12_fits_5 : decode cX12_fits 5 = .ok (.ifCond .eq 46, 3) := by decide +kernel
theorem dX12_fits_8 : decode cX12_fits 8 = .ok (.aload_n 0, 1) := by decide +kernel
theorem dX12_fits_9 : decode cX12_fits 9 = .ok (.iload_n 3, 1) := by decide +kernel
theorem dX12_fits_10 : decode cX12_fits 10 = .ok (.invokevirtual 102, 3) := by decide +kernel
theorem dX12_fits_13 : decode cX12_fits 13 = .ok (.ifCond .eq 38, 3) := by decide +kernel
theorem dX12_fits_16 : decode cX12_fits 16 = .ok (.iload_n 2, 1) := by decide +kernel
theorem dX12_fits_17 : decode cX12_fits 17 = .ok (.iconst 0, 1) := by decide +kernel
theorem dX12_fits_18 : decode cX12_fits 18 = .ok (.aload_n 0, 1) := by decide +kernel
theorem dX12_fits_19 : decode cX12_fits 19 = .ok (.invokevirtual 349, 3) := by decide +kernel
theorem dX12_fits_22 : decode cX12_fits 22 = .ok (.iconst 1, 1) := by decide +kernel
theorem dX12_fits_23 : decode cX12_fits 23 = .ok (.isub, 1) := by decide +kernel
theorem dX12_fits_24 : decode cX12_fits 24 = .ok (.invokestatic 91, 3) := by decide +kernel
theorem dX12_fits_27 : decode cX12_fits 27 = .ok (.ifCond .eq 24, 3) := by decide +kernel
theorem dX12_fits_30 : decode cX12_fits 30 = .ok (.iload 4, 2) := by decide +kernel
theorem dX12_fits_32 : decode cX12_fits 32 = .ok (.iconst 0, 1) := by decide +kernel
theorem dX12_fits_33 : decode cX12_fits 33 = .ok (.aload_n 0, 1) := by decide +kernel
theorem dX12_fits_34 : decode cX12_fits 34 = .ok (.invokevirtual 349, 3) := by decide +kernel
theorem dX12_fits_37 : decode cX12_fits 37 = .ok (.iconst 1, 1) := by decide +kernel
theorem dX12_fits_38 : decode cX12_fits 38 = .ok (.isub, 1) := by decide +kernel
theorem dX12_fits_39 : decode cX12_fits 39 = .ok (.invokestatic 91, 3) := by decide +kernel
theorem dX12_fits_42 : decode cX12_fits 42 = .ok (.ifCond .eq 9, 3) := by decide +kernel
theorem dX12_fits_45 : decode cX12_fits 45 = .ok (.iload 5, 2) := by decide +kernel
theorem dX12_fits_47 : decode cX12_fits 47 = .ok (.iconst (-1), 1) := by decide +kernel
theorem dX12_fits_48 : decode cX12_fits 48 = .ok (.if_icmp .ge 5, 3) := by decide +kernel
theorem dX12_fits_51 : decode cX12_fits 51 = .ok (.iconst (-1), 1) := by decide +kernel
theorem dX12_fits_52 : decode cX12_fits 52 = .ok (.ireturn, 1) := by decide +kernel
theorem dX12_fits_53 : decode cX12_fits 53 = .ok (.aload_n 0, 1) := by decide +kernel
theorem dX12_fits_54 : decode cX12_fits 54 = .ok (.invokevirtual 321, 3) := by decide +kernel
theorem dX12_fits_57 : decode cX12_fits 57 = .ok (.iconst 0, 1) := by decide +kernel
theorem dX12_fits_58 : decode cX12_fits 58 = .ok (.istore 6, 2) := by decide +kernel
theorem dX12_fits_60 : decode cX12_fits 60 = .ok (.iconst 0, 1) := by decide +kernel
theorem dX12_fits_61 : decode cX12_fits 61 = .ok (.istore 7, 2) := by decide +kernel
theorem dX12_fits_63 : decode cX12_fits 63 = .ok (.iload 7, 2) := by decide +kernel
theorem dX12_fits_65 : decode cX12_fits 65 = .ok (.aload_n 0, 1) := by decide +kernel
theorem dX12_fits_66 : decode cX12_fits 66 = .ok (.getfield 7, 3) := by decide +kernel
theorem dX12_fits_69 : decode cX12_fits 69 = .ok (.iconst 2, 1) := by decide +kernel
theorem dX12_fits_70 : decode cX12_fits 70 = .ok (.iaload, 1) := by decide +kernel
theorem dX12_fits_71 : decode cX12_fits 71 = .ok (.if_icmp .ge 60, 3) := by decide +kernel
theorem dX12_fits_74 : decode cX12_fits 74 = .ok (.aload_n 0, 1) := by decide +kernel
theorem dX12_fits_75 : decode cX12_fits 75 = .ok (.aload_n 0, 1) := by decide +kernel
theorem dX12_fits_76 : decode cX12_fits 76 = .ok (.iload 7, 2) := by decide +kernel
theorem dX12_fits_78 : decode cX12_fits 78 = .ok (.invokevirtual 98, 3) := by decide +kernel
theorem dX12_fits_81 : decode cX12_fits 81 = .ok (.iload_n 1, 1) := by decide +kernel
theorem dX12_fits_82 : decode cX12_fits 82 = .ok (.iload_n 2, 1) := by decide +kernel
theorem dX12_fits_83 : decode cX12_fits 83 = .ok (.invokevirtual 352, 3) := by decide +kernel
theorem dX12_fits_86 : decode cX12_fits 86 = .ok (.ifCond .eq 39, 3) := by decide +kernel
theorem dX12_fits_89 : decode cX12_fits 89 = .ok (.aload_n 0, 1) := by decide +kernel
theorem dX12_fits_90 : decode cX12_fits 90 = .ok (.aload_n 0, 1) := by decide +kernel
theorem dX12_fits_91 : decode cX12_fits 91 = .ok (.iload 7, 2) := by decide +kernel
theorem dX12_fits_93 : decode cX12_fits 93 = .ok (.invokevirtual 98, 3) := by decide +kernel
theorem dX12_fits_96 : decode cX12_fits 96 = .ok (.iload_n 3, 1) := by decide +kernel
theorem dX12_fits_97 : decode cX12_fits 97 = .ok (.iload 4, 2) := by decide +kernel
theorem dX12_fits_99 : decode cX12_fits 99 = .ok (.invokevirtual 352, 3) := by decide +kernel
theorem dX12_fits_102 : decode cX12_fits 102 = .ok (.ifCond .ne 6, 3) := by decide +kernel
theorem dX12_fits_105 : decode cX12_fits 105 = .ok (.goto 20, 3) := by decide +kernel
theorem dX12_fits_108 : decode cX12_fits 108 = .ok (.iload 6, 2) := by decide +kernel
theorem dX12_fits_110 : decode cX12_fits 110 = .ok (.iload 5, 2) := by decide +kernel
theorem dX12_fits_112 : decode cX12_fits 112 = .ok (.if_icmp .ne 10, 3) := by decide +kernel
theorem dX12_fits_115 : decode cX12_fits 115 = .ok (.aload_n 0, 1) := by decide +kernel
theorem dX12_fits_116 : decode cX12_fits 116 = .ok (.iload 7, 2) := by decide +kernel
theorem dX12_fits_118 : decode cX12_fits 118 = .ok (.invokevirtual 98, 3) := by decide +kernel
theorem dX12_fits_121 : decode cX12_fits 121 = .ok (.ireturn, 1) := by decide +kernel
theorem dX12_fits_122 : decode cX12_fits 122 = .ok (.iinc 6 1, 3) := by decide +kernel
theorem dX12_fits_125 : decode cX12_fits 125 = .ok (.iinc 7 1, 3) := by decide +kernel
theorem dX12_fits_128 : decode cX12_fits 128 = .ok (.goto (-65), 3) := by decide +kernel
theorem dX12_fits_131 : decode cX12_fits 131 = .ok (.iload 5, 2) := by decide +kernel
theorem dX12_fits_133 : decode cX12_fits 133 = .ok (.iconst (-1), 1) := by decide +kernel
theorem dX12_fits_134 : decode cX12_fits 134 = .ok (.if_icmp .ne 8, 3) := by decide +kernel
theorem dX12_fits_137 : decode cX12_fits 137 = .ok (.iload 6, 2) := by decide +kernel
theorem dX12_fits_139 : decode cX12_fits 139 = .ok (.goto 4, 3) := by decide +kernel
theorem dX12_fits_142 : decode cX12_fits 142 = .ok (.iconst (-1), 1) := by decide +kernel
theorem dX12_fits_143 : decode cX12_fits 143 = .ok (.ireturn, 1) := by decide +kernel
theorem dX12_findBook_0 : decode cX12_findBook 0 = .ok (.iconst 0, 1) := by decide +kernel
theorem dX12_findBook_1 : decode cX12_findBook 1 = .ok (.istore_n 1, 1) := by decide +kernel
theorem dX12_findBook_2 : decode cX12_findBook 2 = .ok (.iload_n 1, 1) := by decide +kernel
theorem dX12_findBook_3 : decode cX12_findBook 3 = .ok (.aload_n 0, 1) := by decide +kernel
theorem dX12_findBook_4 : decode cX12_findBook 4 = .ok (.getfield 84, 3) := by decide +kernel
theorem dX12_findBook_7 : decode cX12_findBook 7 = .ok (.if_icmp .ge 28, 3) := by decide +kernel
theorem dX12_findBook_10 : decode cX12_findBook 10 = .ok (.aload_n 0, 1) := by decide +kernel
theorem dX12_findBook_11 : decode cX12_findBook 11 = .ok (.getfield 55, 3) := by decide +kernel
theorem dX12_findBook_14 : decode cX12_findBook 14 = .ok (.iload_n 1, 1) := by decide +kernel
theorem dX12_findBook_15 : decode cX12_findBook 15 = .ok (.aload_n 0, 1) := by decide +kernel
theorem dX12_findBook_16 : decode cX12_findBook 16 = .ok (.iload_n 1, 1) := by decide +kernel
theorem dX12_findBook_17 : decode cX12_findBook 17 = .ok (.invokevirtual 106, 3) := by decide +kernel
theorem dX12_findBook_20 : decode cX12_findBook 20 = .ok (.ifCond .lt 7, 3) := by decide +kernel
theorem dX12_findBook_23 : decode cX12_findBook 23 = .ok (.iconst 1, 1) := by decide +kernel
theorem dX12_findBook_24 : decode cX12_findBook 24 = .ok (.goto 4, 3) := by decide +kernel
theorem dX12_findBook_27 : decode cX12_findBook 27 = .ok (.iconst 0, 1) := by decide +kernel
theorem dX12_findBook_28 : decode cX12_findBook 28 = .ok (.bastore, 1) := by decide +kernel
theorem dX12_findBook_29 : decode cX12_findBook 29 = .ok (.iinc 1 1, 3) := by decide +kernel
theorem dX12_findBook_32 : decode cX12_findBook 32 = .ok (.goto (-30), 3) := by decide +kernel
theorem dX12_findBook_35 : decode cX12_findBook 35 = .ok (.return_, 1) := by decide +kernel
theorem dX12_areOne_0 : decode cX12_areOne 0 = .ok (.aload_n 0, 1) := by decide +kernel
theorem dX12_areOne_1 : decode cX12_areOne 1 = .ok (.getfield 74, 3) := by decide +kernel
theorem dX12_areOne_4 : decode cX12_areOne 4 = .ok (.aload_n 0, 1) := by decide +kernel
theorem dX12_areOne_5 : decode cX12_areOne 5 = .ok (.getfield 81, 3) := by decide +kernel
theorem dX12_areOne_8 : decode cX12_areOne 8 = .ok (.iload_n 3, 1) := by decide +kernel
theorem dX12_areOne_9 : decode cX12_areOne 9 = .ok (.isub, 1) := by decide +kernel
theorem dX12_areOne_10 : decode cX12_areOne 10 = .ok (.invokestatic 77, 3) := by decide +kernel
theorem dX12_areOne_13 : decode cX12_areOne 13 = .ok (.istore 4, 2) := by decide +kernel
theorem dX12_areOne_15 : decode cX12_areOne 15 = .ok (.iconst 0, 1) := by decide +kernel
theorem dX12_areOne_16 : decode cX12_areOne 16 = .ok (.istore 5, 2) := by decide +kernel
theorem dX12_areOne_18 : decode cX12_areOne 18 = .ok (.iload 5, 2) := by decide +kernel
theorem dX12_areOne_20 : decode cX12_areOne 20 = .ok (.iload 4, 2) := by decide +kernel
theorem dX12_areOne_22 : decode cX12_areOne 22 = .ok (.if_icmp .ge 44, 3) := by decide +kernel
theorem dX12_areOne_25 : decode cX12_areOne 25 = .ok (.aload_n 0, 1) := by decide +kernel
theorem dX12_areOne_26 : decode cX12_areOne 26 = .ok (.getfield 55, 3) := by decide +kernel
theorem dX12_areOne_29 : decode cX12_areOne 29 = .ok (.iload_n 1, 1) := by decide +kernel
theorem dX12_areOne_30 : decode cX12_areOne 30 = .ok (.iload 4, 2) := by decide +kernel
theorem dX12_areOne_32 : decode cX12_areOne 32 = .ok (.idiv, 1) := by decide +kernel
theorem dX12_areOne_33 : decode cX12_areOne 33 = .ok (.iload 4, 2) := by decide +kernel
theorem dX12_areOne_35 : decode cX12_areOne 35 = .ok (.imul, 1) := by decide +kernel
theorem dX12_areOne_36 : decode cX12_areOne 36 = .ok (.iload 5, 2) := by decide +kernel
theorem dX12_areOne_38 : decode cX12_areOne 38 = .ok (.iadd, 1) := by decide +kernel
theorem dX12_areOne_39 : decode cX12_areOne 39 = .ok (.baload, 1) := by decide +kernel
theorem dX12_areOne_40 : decode cX12_areOne 40 = .ok (.aload_n 0, 1) := by decide +kernel
theorem dX12_areOne_41 : decode cX12_areOne 41 = .ok (.getfield 55, 3) := by decide +kernel
theorem dX12_areOne_44 : decode cX12_areOne 44 = .ok (.iload_n 2, 1) := by decide +kernel
theorem dX12_areOne_45 : decode cX12_areOne 45 = .ok (.iload 4, 2) := by decide +kernel
theorem dX12_areOne_47 : decode cX12_areOne 47 = .ok (.idiv, 1) := by decide +kernel
theorem dX12_areOne_48 : decode cX12_areOne 48 = .ok (.iload 4, 2) := by decide +kernel
theorem dX12_areOne_50 : decode cX12_areOne 50 = .ok (.imul, 1) := by decide +kernel
theorem dX12_areOne_51 : decode cX12_areOne 51 = .ok (.iload 5, 2) := by decide +kernel
theorem dX12_areOne_53 : decode cX12_areOne 53 = .ok (.iadd, 1) := by decide +kernel
theorem dX12_areOne_54 : decode cX12_areOne 54 = .ok (.baload, 1) := by decide +kernel
theorem dX12_areOne_55 : decode cX12_areOne 55 = .ok (.if_icmp .eq 5, 3) := by decide +kernel
theorem dX12_areOne_58 : decode cX12_areOne 58 = .ok (.iconst 0, 1) := by decide +kernel
theorem dX12_areOne_59 : decode cX12_areOne 59 = .ok (.ireturn, 1) := by decide +kernel
theorem dX12_areOne_60 : decode cX12_areOne 60 = .ok (.iinc 5 1, 3) := by decide +kernel
theorem dX12_areOne_63 : decode cX12_areOne 63 = .ok (.goto (-45), 3) := by decide +kernel
theorem dX12_areOne_66 : decode cX12_areOne 66 = .ok (.iconst 1, 1) := by decide +kernel
theorem dX12_areOne_67 : decode cX12_areOne 67 = .ok (.ireturn, 1) := by decide +kernel
theorem dX12_isFirst_0 : decode cX12_isFirst 0 = .ok (.iconst 0, 1) := by decide +kernel
theorem dX12_isFirst_1 : decode cX12_isFirst 1 = .ok (.istore_n 3, 1) := by decide +kernel
theorem dX12_isFirst_2 : decode cX12_isFirst 2 = .ok (.iload_n 3, 1) := by decide +kernel
theorem dX12_isFirst_3 : decode cX12_isFirst 3 = .ok (.iload_n 1, 1) := by decide +kernel
theorem dX12_isFirst_4 : decode cX12_isFirst 4 = .ok (.if_icmp .ge 29, 3) := by decide +kernel
theorem dX12_isFirst_7 : decode cX12_isFirst 7 = .ok (.aload_n 0, 1) := by decide +kernel
theorem dX12_isFirst_8 : decode cX12_isFirst 8 = .ok (.aload_n 0, 1) := by decide +kernel
theorem dX12_isFirst_9 : decode cX12_isFirst 9 = .ok (.iload_n 1, 1) := by decide +kernel
theorem dX12_isFirst_10 : decode cX12_isFirst 10 = .ok (.invokevirtual 98, 3) := by decide +kernel
theorem dX12_isFirst_13 : decode cX12_isFirst 13 = .ok (.aload_n 0, 1) := by decide +kernel
theorem dX12_isFirst_14 : decode cX12_isFirst 14 = .ok (.iload_n 3, 1) := by decide +kernel
theorem dX12_isFirst_15 : decode cX12_isFirst 15 = .ok (.invokevirtual 98, 3) := by decide +kernel
theorem dX12_isFirst_18 : decode cX12_isFirst 18 = .ok (.iload_n 2, 1) := by decide +kernel
theorem dX12_isFirst_19 : decode cX12_isFirst 19 = .ok (.invokevirtual 355, 3) := by decide +kernel
theorem dX12_isFirst_22 : decode cX12_isFirst 22 = .ok (.ifCond .eq 5, 3) := by decide +kernel
theorem dX12_isFirst_25 : decode cX12_isFirst 25 = .ok (.iconst 0, 1) := by decide +kernel
theorem dX12_isFirst_26 : decode cX12_isFirst 26 = .ok (.ireturn, 1) := by decide +kernel
theorem dX12_isFirst_27 : decode cX12_isFirst 27 = .ok (.iinc 3 1, 3) := by decide +kernel
theorem dX12_isFirst_30 : decode cX12_isFirst 30 = .ok (.goto (-28), 3) := by decide +kernel
theorem dX12_isFirst_33 : decode cX12_isFirst 33 = .ok (.iconst 1, 1) := by decide +kernel
theorem dX12_isFirst_34 : decode cX12_isFirst 34 = .ok (.ireturn, 1) := by decide +kernel
theorem dX12_arcsOf_0 : decode cX12_arcsOf 0 = .ok (.aload_n 0, 1) := by decide +kernel
theorem dX12_arcsOf_1 : decode cX12_arcsOf 1 = .ok (.getfield 74, 3) := by decide +kernel
theorem dX12_arcsOf_4 : decode cX12_arcsOf 4 = .ok (.aload_n 0, 1) := by decide +kernel
theorem dX12_arcsOf_5 : decode cX12_arcsOf 5 = .ok (.getfield 81, 3) := by decide +kernel
theorem dX12_arcsOf_8 : decode cX12_arcsOf 8 = .ok (.iload_n 2, 1) := by decide +kernel
theorem dX12_arcsOf_9 : decode cX12_arcsOf 9 = .ok (.isub, 1) := by decide +kernel
theorem dX12_arcsOf_10 : decode cX12_arcsOf 10 = .ok (.invokestatic 77, 3) := by decide +kernel
theorem dX12_arcsOf_13 : decode cX12_arcsOf 13 = .ok (.istore_n 3, 1) := by decide +kernel
theorem dX12_arcsOf_14 : decode cX12_arcsOf 14 = .ok (.iconst 0, 1) := by decide +kernel
theorem dX12_arcsOf_15 : decode cX12_arcsOf 15 = .ok (.istore 4, 2) := by decide +kernel
theorem dX12_arcsOf_17 : decode cX12_arcsOf 17 = .ok (.iconst 0, 1) := by decide +kernel
theorem dX12_arcsOf_18 : decode cX12_arcsOf 18 = .ok (.istore 5, 2) := by decide +kernel
theorem dX12_arcsOf_20 : decode cX12_arcsOf 20 = .ok (.iload 5, 2) := by decide +kernel
theorem dX12_arcsOf_22 : decode cX12_arcsOf 22 = .ok (.aload_n 0, 1) := by decide +kernel
theorem dX12_arcsOf_23 : decode cX12_arcsOf 23 = .ok (.getfield 74, 3) := by decide +kernel
theorem dX12_arcsOf_26 : decode cX12_arcsOf 26 = .ok (.if_icmp .ge 84, 3) := by decide +kernel
theorem dX12_arcsOf_29 : decode cX12_arcsOf 29 = .ok (.iconst 0, 1) := by decide +kernel
theorem dX12_arcsOf_30 : decode cX12_arcsOf 30 = .ok (.istore 6, 2) := by decide +kernel
theorem dX12_arcsOf_32 : decode cX12_arcsOf 32 = .ok (.iconst 0, 1) := by decide +kernel
theorem dX12_arcsOf_33 : decode cX12_arcsOf 33 = .ok (.istore 7, 2) := by decide +kernel
theorem dX12_arcsOf_35 : decode cX12_arcsOf 35 = .ok (.iload 7, 2) := by decide +kernel
theorem dX12_arcsOf_37 : decode cX12_arcsOf 37 = .ok (.iload_n 3, 1) := by decide +kernel
theorem dX12_arcsOf_38 : decode cX12_arcsOf 38 = .ok (.if_icmp .ge 51, 3) := by decide +kernel
theorem dX12_arcsOf_41 : decode cX12_arcsOf 41 = .ok (.iload 6, 2) := by decide +kernel
theorem dX12_arcsOf_43 : decode cX12_arcsOf 43 = .ok (.ifCond .ne 33, 3) := by decide +kernel
theorem dX12_arcsOf_46 : decode cX12_arcsOf 46 = .ok (.iload 7, 2) := by decide +kernel
theorem dX12_arcsOf_48 : decode cX12_arcsOf 48 = .ok (.iload_n 3, 1) := by decide +kernel
theorem dX12_arcsOf_49 : decode cX12_arcsOf 49 = .ok (.aload_n 0, 1) := by decide +kernel
theorem dX12_arcsOf_50 : decode cX12_arcsOf 50 = .ok (.getfield 74, 3) := by decide +kernel
theorem dX12_arcsOf_53 : decode cX12_arcsOf 53 = .ok (.idiv, 1) := by decide +kernel
theorem dX12_arcsOf_54 : decode cX12_arcsOf 54 = .ok (.idiv, 1) := by decide +kernel
theorem dX12_arcsOf_55 : decode cX12_arcsOf 55 = .ok (.iload 5, 2) := by decide +kernel
theorem dX12_arcsOf_57 : decode cX12_arcsOf 57 = .ok (.if_icmp .ne 23, 3) := by decide +kernel
theorem dX12_arcsOf_60 : decode cX12_arcsOf 60 = .ok (.aload_n 0, 1) := by decide +kernel
theorem dX12_arcsOf_61 : decode cX12_arcsOf 61 = .ok (.getfield 55, 3) := by decide +kernel
theorem dX12_arcsOf_64 : decode cX12_arcsOf 64 = .ok (.iload_n 1, 1) := by decide +kernel
theorem dX12_arcsOf_65 : decode cX12_arcsOf 65 = .ok (.iload_n 3, 1) := by decide +kernel
theorem dX12_arcsOf_66 : decode cX12_arcsOf 66 = .ok (.idiv, 1) := by decide +kernel
theorem dX12_arcsOf_67 : decode cX12_arcsOf 67 = .ok (.iload_n 3, 1) := by decide +kernel
theorem dX12_arcsOf_68 : decode cX12_arcsOf 68 = .ok (.imul, 1) := by decide +kernel
theorem dX12_arcsOf_69 : decode cX12_arcsOf 69 = .ok (.iload 7, 2) := by decide +kernel
theorem dX12_arcsOf_71 : decode cX12_arcsOf 71 = .ok (.iadd, 1) := by decide +kernel
theorem dX12_arcsOf_72 : decode cX12_arcsOf 72 = .ok (.baload, 1) := by decide +kernel
theorem dX12_arcsOf_73 : decode cX12_arcsOf 73 = .ok (.ifCond .eq 7, 3) := by decide +kernel
theorem dX12_arcsOf_76 : decode cX12_arcsOf 76 = .ok (.iconst 1, 1) := by decide +kernel
theorem dX12_arcsOf_77 : decode cX12_arcsOf 77 = .ok (.goto 4, 3) := by decide +kernel
theorem dX12_arcsOf_80 : decode cX12_arcsOf 80 = .ok (.iconst 0, 1) := by decide +kernel
theorem dX12_arcsOf_81 : decode cX12_arcsOf 81 = .ok (.istore 6, 2) := by decide +kernel
theorem dX12_arcsOf_83 : decode cX12_arcsOf 83 = .ok (.iinc 7 1, 3) := by decide +kernel
theorem dX12_arcsOf_86 : decode cX12_arcsOf 86 = .ok (.goto (-51), 3) := by decide +kernel
theorem dX12_arcsOf_89 : decode cX12_arcsOf 89 = .ok (.iload 4, 2) := by decide +kernel
theorem dX12_arcsOf_91 : decode cX12_arcsOf 91 = .ok (.iload 6, 2) := by decide +kernel
theorem dX12_arcsOf_93 : decode cX12_arcsOf 93 = .ok (.ifCond .eq 7, 3) := by decide +kernel
theorem dX12_arcsOf_96 : decode cX12_arcsOf 96 = .ok (.iconst 1, 1) := by decide +kernel
theorem dX12_arcsOf_97 : decode cX12_arcsOf 97 = .ok (.goto 4, 3) := by decide +kernel
theorem dX12_arcsOf_100 : decode cX12_arcsOf 100 = .ok (.iconst 0, 1) := by decide +kernel
theorem dX12_arcsOf_101 : decode cX12_arcsOf 101 = .ok (.iadd, 1) := by decide +kernel
theorem dX12_arcsOf_102 : decode cX12_arcsOf 102 = .ok (.istore 4, 2) := by decide +kernel
theorem dX12_arcsOf_104 : decode cX12_arcsOf 104 = .ok (.iinc 5 1, 3) := by decide +kernel
theorem dX12_arcsOf_107 : decode cX12_arcsOf 107 = .ok (.goto (-87), 3) := by decide +kernel
theorem dX12_arcsOf_110 : decode cX12_arcsOf 110 = .ok (.iload 4, 2) := by decide +kernel
theorem dX12_arcsOf_112 : decode cX12_arcsOf 112 = .ok (.ireturn, 1) := by decide +kernel
theorem dX12_tree_0 : decode cX12_tree 0 = .ok (.iload_n 1, 1) := by decide +kernel
theorem dX12_tree_1 : decode cX12_tree 1 = .ok (.iconst 0, 1) := by decide +kernel
theorem dX12_tree_2 : decode cX12_tree 2 = .ok (.iconst 1, 1) := by decide +kernel
theorem dX12_tree_3 : decode cX12_tree 3 = .ok (.invokestatic 91, 3) := by decide +kernel
theorem dX12_tree_6 : decode cX12_tree 6 = .ok (.ifCond .ne 5, 3) := by decide +kernel
theorem dX12_tree_9 : decode cX12_tree 9 = .ok (.iconst (-1), 1) := by decide +kernel
theorem dX12_tree_10 : decode cX12_tree 10 = .ok (.ireturn, 1) := by decide +kernel
theorem dX12_tree_11 : decode cX12_tree 11 = .ok (.aload_n 0, 1) := by decide +kernel
theorem dX12_tree_12 : decode cX12_tree 12 = .ok (.invokevirtual 358, 3) := by decide +kernel
theorem dX12_tree_15 : decode cX12_tree 15 = .ok (.iconst 0, 1) := by decide +kernel
theorem dX12_tree_16 : decode cX12_tree 16 = .ok (.istore_n 2, 1) := by decide +kernel
theorem dX12_tree_17 : decode cX12_tree 17 = .ok (.iconst 0, 1) := by decide +kernel
theorem dX12_tree_18 : decode cX12_tree 18 = .ok (.istore_n 3, 1) := by decide +kernel
theorem dX12_tree_19 : decode cX12_tree 19 = .ok (.iconst 0, 1) := by decide +kernel
theorem dX12_tree_20 : decode cX12_tree 20 = .ok (.istore 4, 2) := by decide +kernel
theorem dX12_tree_22 : decode cX12_tree 22 = .ok (.iload 4, 2) := by decide +kernel
theorem dX12_tree_24 : decode cX12_tree 24 = .ok (.aload_n 0, 1) := by decide +kernel
theorem dX12_tree_25 : decode cX12_tree 25 = .ok (.getfield 81, 3) := by decide +kernel
theorem dX12_tree_28 : decode cX12_tree 28 = .ok (.if_icmp .gt 74, 3) := by decide +kernel
theorem dX12_tree_31 : decode cX12_tree 31 = .ok (.iconst 0, 1) := by decide +kernel
theorem dX12_tree_32 : decode cX12_tree 32 = .ok (.istore 5, 2) := by decide +kernel
theorem dX12_tree_34 : decode cX12_tree 34 = .ok (.iload 5, 2) := by decide +kernel
theorem dX12_tree_36 : decode cX12_tree 36 = .ok (.aload_n 0, 1) := by decide +kernel
theorem dX12_tree_37 : decode cX12_tree 37 = .ok (.getfield 7, 3) := by decide +kernel
theorem dX12_tree_40 : decode cX12_tree 40 = .ok (.iconst 2, 1) := by decide +kernel
theorem dX12_tree_41 : decode cX12_tree 41 = .ok (.iaload, 1) := by decide +kernel
theorem dX12_tree_42 : decode cX12_tree 42 = .ok (.if_icmp .ge 54, 3) := by decide +kernel
theorem dX12_tree_45 : decode cX12_tree 45 = .ok (.aload_n 0, 1) := by decide +kernel
theorem dX12_tree_46 : decode cX12_tree 46 = .ok (.iload 5, 2) := by decide +kernel
theorem dX12_tree_48 : decode cX12_tree 48 = .ok (.iload 4, 2) := by decide +kernel
theorem dX12_tree_50 : decode cX12_tree 50 = .ok (.invokevirtual 361, 3) := by decide +kernel
theorem dX12_tree_53 : decode cX12_tree 53 = .ok (.ifCond .ne 6, 3) := by decide +kernel
theorem dX12_tree_56 : decode cX12_tree 56 = .ok (.goto 34, 3) := by decide +kernel
theorem dX12_tree_59 : decode cX12_tree 59 = .ok (.iinc 2 1, 3) := by decide +kernel
theorem dX12_tree_62 : decode cX12_tree 62 = .ok (.iload_n 3, 1) := by decide +kernel
theorem dX12_tree_63 : decode cX12_tree 63 = .ok (.iload 4, 2) := by decide +kernel
theorem dX12_tree_65 : decode cX12_tree 65 = .ok (.aload_n 0, 1) := by decide +kernel
theorem dX12_tree_66 : decode cX12_tree 66 = .ok (.getfield 81, 3) := by decide +kernel
theorem dX12_tree_69 : decode cX12_tree 69 = .ok (.if_icmp .ge 18, 3) := by decide +kernel
theorem dX12_tree_72 : decode cX12_tree 72 = .ok (.aload_n 0, 1) := by decide +kernel
theorem dX12_tree_73 : decode cX12_tree 73 = .ok (.aload_n 0, 1) := by decide +kernel
theorem dX12_tree_74 : decode cX12_tree 74 = .ok (.iload 5, 2) := by decide +kernel
theorem dX12_tree_76 : decode cX12_tree 76 = .ok (.invokevirtual 98, 3) := by decide +kernel
theorem dX12_tree_79 : decode cX12_tree 79 = .ok (.iload 4, 2) := by decide +kernel
theorem dX12_tree_81 : decode cX12_tree 81 = .ok (.invokevirtual 365, 3) := by decide +kernel
theorem dX12_tree_84 : decode cX12_tree 84 = .ok (.goto 4, 3) := by decide +kernel
theorem dX12_tree_87 : decode cX12_tree 87 = .ok (.iconst 0, 1) := by decide +kernel
theorem dX12_tree_88 : decode cX12_tree 88 = .ok (.iadd, 1) := by decide +kernel
theorem dX12_tree_89 : decode cX12_tree 89 = .ok (.istore_n 3, 1) := by decide +kernel
theorem dX12_tree_90 : decode cX12_tree 90 = .ok (.iinc 5 1, 3) := by decide +kernel
theorem dX12_tree_93 : decode cX12_tree 93 = .ok (.goto (-59), 3) := by decide +kernel
theorem dX12_tree_96 : decode cX12_tree 96 = .ok (.iinc 4 1, 3) := by decide +kernel
theorem dX12_tree_99 : decode cX12_tree 99 = .ok (.goto (-77), 3) := by decide +kernel
theorem dX12_tree_102 : decode cX12_tree 102 = .ok (.iload_n 1, 1) := by decide +kernel
theorem dX12_tree_103 : decode cX12_tree 103 = .ok (.ifCond .ne 7, 3) := by decide +kernel
theorem dX12_tree_106 : decode cX12_tree 106 = .ok (.iload_n 2, 1) := by decide +kernel
theorem dX12_tree_107 : decode cX12_tree 107 = .ok (.goto 4, 3) := by decide +kernel
theorem dX12_tree_110 : decode cX12_tree 110 = .ok (.iload_n 3, 1) := by decide +kernel
theorem dX12_tree_111 : decode cX12_tree 111 = .ok (.ireturn, 1) := by decide +kernel
theorem dX12_shares_0 : decode cX12_shares 0 = .ok (.iload_n 1, 1) := by decide +kernel
theorem dX12_shares_1 : decode cX12_shares 1 = .ok (.iconst 0, 1) := by decide +kernel
theorem dX12_shares_2 : decode cX12_shares 2 = .ok (.aload_n 0, 1) := by decide +kernel
theorem dX12_shares_3 : decode cX12_shares 3 = .ok (.getfield 7, 3) := by decide +kernel
theorem dX12_shares_6 : decode cX12_shares 6 = .ok (.iconst 2, 1) := by decide +kernel
theorem dX12_shares_7 : decode cX12_shares 7 = .ok (.iaload, 1) := by decide +kernel
theorem dX12_shares_8 : decode cX12_shares 8 = .ok (.iconst 1, 1) := by decide +kernel
theorem dX12_shares_9 : decode cX12_shares 9 = .ok (.isub, 1) := by decide +kernel
theorem dX12_shares_10 : decode cX12_shares 10 = .ok (.invokestatic 91, 3) := by decide +kernel
theorem dX12_shares_13 : decode cX12_shares 13 = .ok (.ifCond .eq 31, 3) := by decide +kernel
theorem dX12_shares_16 : decode cX12_shares 16 = .ok (.iload_n 2, 1) := by decide +kernel
theorem dX12_shares_17 : decode cX12_shares 17 = .ok (.iconst 0, 1) := by decide +kernel
theorem dX12_shares_18 : decode cX12_shares 18 = .ok (.aload_n 0, 1) := by decide +kernel
theorem dX12_shares_19 : decode cX12_shares 19 = .ok (.getfield 7, 3) := by decide +kernel
theorem dX12_shares_22 : decode cX12_shares 22 = .ok (.iconst 2, 1) := by decide +kernel
theorem dX12_shares_23 : decode cX12_shares 23 = .ok (.iaload, 1) := by decide +kernel
theorem dX12_shares_24 : decode cX12_shares 24 = .ok (.iconst 1, 1) := by decide +kernel
theorem dX12_shares_25 : decode cX12_shares 25 = .ok (.isub, 1) := by decide +kernel
theorem dX12_shares_26 : decode cX12_shares 26 = .ok (.invokestatic 91, 3) := by decide +kernel
theorem dX12_shares_29 : decode cX12_shares 29 = .ok (.ifCond .eq 15, 3) := by decide +kernel
theorem dX12_shares_32 : decode cX12_shares 32 = .ok (.iload_n 3, 1) := by decide +kernel
theorem dX12_shares_33 : decode cX12_shares 33 = .ok (.iconst 0, 1) := by decide +kernel
theorem dX12_shares_34 : decode cX12_shares 34 = .ok (.aload_n 0, 1) := by decide +kernel
theorem dX12_shares_35 : decode cX12_shares 35 = .ok (.getfield 81, 3) := by decide +kernel
theorem dX12_shares_38 : decode cX12_shares 38 = .ok (.invokestatic 91, 3) := by decide +kernel
theorem dX12_shares_41 : decode cX12_shares 41 = .ok (.ifCond .ne 5, 3) := by decide +kernel
theorem dX12_shares_44 : decode cX12_shares 44 = .ok (.iconst 0, 1) := by decide +kernel
theorem dX12_shares_45 : decode cX12_shares 45 = .ok (.ireturn, 1) := by decide +kernel
theorem dX12_shares_46 : decode cX12_shares 46 = .ok (.aload_n 0, 1) := by decide +kernel
theorem dX12_shares_47 : decode cX12_shares 47 = .ok (.invokevirtual 358, 3) := by decide +kernel
theorem dX12_shares_50 : decode cX12_shares 50 = .ok (.aload_n 0, 1) := by decide +kernel
theorem dX12_shares_51 : decode cX12_shares 51 = .ok (.aload_n 0, 1) := by decide +kernel
theorem dX12_shares_52 : decode cX12_shares 52 = .ok (.iload_n 1, 1) := by decide +kernel
theorem dX12_shares_53 : decode cX12_shares 53 = .ok (.invokevirtual 98, 3) := by decide +kernel
theorem dX12_shares_56 : decode cX12_shares 56 = .ok (.aload_n 0, 1) := by decide +kernel
theorem dX12_shares_57 : decode cX12_shares 57 = .ok (.iload_n 2, 1) := by decide +kernel
theorem dX12_shares_58 : decode cX12_shares 58 = .ok (.invokevirtual 98, 3) := by decide +kernel
theorem dX12_shares_61 : decode cX12_shares 61 = .ok (.iload_n 3, 1) := by decide +kernel
theorem dX12_shares_62 : decode cX12_shares 62 = .ok (.invokevirtual 355, 3) := by decide +kernel
theorem dX12_shares_65 : decode cX12_shares 65 = .ok (.ireturn, 1) := by decide +kernel
theorem dX12_unlike_0 : decode cX12_unlike 0 = .ok (.iconst 0, 1) := by decide +kernel
theorem dX12_unlike_1 : decode cX12_unlike 1 = .ok (.istore_n 3, 1) := by decide +kernel
theorem dX12_unlike_2 : decode cX12_unlike 2 = .ok (.iconst 0, 1) := by decide +kernel
theorem dX12_unlike_3 : decode cX12_unlike 3 = .ok (.istore 4, 2) := by decide +kernel
theorem dX12_unlike_5 : decode cX12_unlike 5 = .ok (.iload 4, 2) := by decide +kernel
theorem dX12_unlike_7 : decode cX12_unlike 7 = .ok (.aload_n 0, 1) := by decide +kernel
theorem dX12_unlike_8 : decode cX12_unlike 8 = .ok (.getfield 81, 3) := by decide +kernel
theorem dX12_unlike_11 : decode cX12_unlike 11 = .ok (.if_icmp .ge 34, 3) := by decide +kernel
theorem dX12_unlike_14 : decode cX12_unlike 14 = .ok (.iload_n 3, 1) := by decide +kernel
theorem dX12_unlike_15 : decode cX12_unlike 15 = .ok (.aload_n 0, 1) := by decide +kernel
theorem dX12_unlike_16 : decode cX12_unlike 16 = .ok (.iload_n 1, 1) := by decide +kernel
theorem dX12_unlike_17 : decode cX12_unlike 17 = .ok (.iload 4, 2) := by decide +kernel
theorem dX12_unlike_19 : decode cX12_unlike 19 = .ok (.invokevirtual 95, 3) := by decide +kernel
theorem dX12_unlike_22 : decode cX12_unlike 22 = .ok (.aload_n 0, 1) := by decide +kernel
theorem dX12_unlike_23 : decode cX12_unlike 23 = .ok (.iload_n 2, 1) := by decide +kernel
theorem dX12_unlike_24 : decode cX12_unlike 24 = .ok (.iload 4, 2) := by decide +kernel
theorem dX12_unlike_26 : decode cX12_unlike 26 = .ok (.invokevirtual 95, 3) := by decide +kernel
theorem dX12_unlike_29 : decode cX12_unlike 29 = .ok (.if_icmp .eq 7, 3) := by decide +kernel
theorem dX12_unlike_32 : decode cX12_unlike 32 = .ok (.iconst 1, 1) := by decide +kernel
theorem dX12_unlike_33 : decode cX12_unlike 33 = .ok (.goto 4, 3) := by decide +kernel
theorem dX12_unlike_36 : decode cX12_unlike 36 = .ok (.iconst 0, 1) := by decide +kernel
theorem dX12_unlike_37 : decode cX12_unlike 37 = .ok (.iadd, 1) := by decide +kernel
theorem dX12_unlike_38 : decode cX12_unlike 38 = .ok (.istore_n 3, 1) := by decide +kernel
theorem dX12_unlike_39 : decode cX12_unlike 39 = .ok (.iinc 4 1, 3) := by decide +kernel
theorem dX12_unlike_42 : decode cX12_unlike 42 = .ok (.goto (-37), 3) := by decide +kernel
theorem dX12_unlike_45 : decode cX12_unlike 45 = .ok (.iload_n 3, 1) := by decide +kernel
theorem dX12_unlike_46 : decode cX12_unlike 46 = .ok (.ireturn, 1) := by decide +kernel
theorem dX12_near_0 : decode cX12_near 0 = .ok (.aload_n 0, 1) := by decide +kernel
theorem dX12_near_1 : decode cX12_near 1 = .ok (.iload_n 1, 1) := by decide +kernel
theorem dX12_near_2 : decode cX12_near 2 = .ok (.invokevirtual 102, 3) := by decide +kernel
theorem dX12_near_5 : decode cX12_near 5 = .ok (.ifCond .eq 20, 3) := by decide +kernel
theorem dX12_near_8 : decode cX12_near 8 = .ok (.iload_n 2, 1) := by decide +kernel
theorem dX12_near_9 : decode cX12_near 9 = .ok (.iconst 0, 1) := by decide +kernel
theorem dX12_near_10 : decode cX12_near 10 = .ok (.aload_n 0, 1) := by decide +kernel
theorem dX12_near_11 : decode cX12_near 11 = .ok (.getfield 81, 3) := by decide +kernel
theorem dX12_near_14 : decode cX12_near 14 = .ok (.invokestatic 91, 3) := by decide +kernel
theorem dX12_near_17 : decode cX12_near 17 = .ok (.ifCond .eq 8, 3) := by decide +kernel
theorem dX12_near_20 : decode cX12_near 20 = .ok (.iload_n 3, 1) := by decide +kernel
theorem dX12_near_21 : decode cX12_near 21 = .ok (.iconst (-1), 1) := by decide +kernel
theorem dX12_near_22 : decode cX12_near 22 = .ok (.if_icmp .ge 5, 3) := by decide +kernel
theorem dX12_near_25 : decode cX12_near 25 = .ok (.iconst (-1), 1) := by decide +kernel
theorem dX12_near_26 : decode cX12_near 26 = .ok (.ireturn, 1) := by decide +kernel
theorem dX12_near_27 : decode cX12_near 27 = .ok (.iconst 0, 1) := by decide +kernel
theorem dX12_near_28 : decode cX12_near 28 = .ok (.istore 4, 2) := by decide +kernel
theorem dX12_near_30 : decode cX12_near 30 = .ok (.iconst 0, 1) := by decide +kernel
theorem dX12_near_31 : decode cX12_near 31 = .ok (.istore 5, 2) := by decide +kernel
theorem dX12_near_33 : decode cX12_near 33 = .ok (.iload 5, 2) := by decide +kernel
theorem dX12_near_35 : decode cX12_near 35 = .ok (.aload_n 0, 1) := by decide +kernel
theorem dX12_near_36 : decode cX12_near 36 = .ok (.getfield 7, 3) := by decide +kernel
theorem dX12_near_39 : decode cX12_near 39 = .ok (.iconst 2, 1) := by decide +kernel
theorem dX12_near_40 : decode cX12_near 40 = .ok (.iaload, 1) := by decide +kernel
theorem dX12_near_41 : decode cX12_near 41 = .ok (.if_icmp .ge 43, 3) := by decide +kernel
theorem dX12_near_44 : decode cX12_near 44 = .ok (.aload_n 0, 1) := by decide +kernel
theorem dX12_near_45 : decode cX12_near 45 = .ok (.iload_n 1, 1) := by decide +kernel
theorem dX12_near_46 : decode cX12_near 46 = .ok (.aload_n 0, 1) := by decide +kernel
theorem dX12_near_47 : decode cX12_near 47 = .ok (.iload 5, 2) := by decide +kernel
theorem dX12_near_49 : decode cX12_near 49 = .ok (.invokevirtual 98, 3) := by decide +kernel
theorem dX12_near_52 : decode cX12_near 52 = .ok (.invokevirtual 368, 3) := by decide +kernel
theorem dX12_near_55 : decode cX12_near 55 = .ok (.iload_n 2, 1) := by decide +kernel
theorem dX12_near_56 : decode cX12_near 56 = .ok (.if_icmp .le 6, 3) := by decide +kernel
theorem dX12_near_59 : decode cX12_near 59 = .ok (.goto 19, 3) := by decide +kernel
theorem dX12_near_62 : decode cX12_near 62 = .ok (.iload 4, 2) := by decide +kernel
theorem dX12_near_64 : decode cX12_near 64 = .ok (.iload_n 3, 1) := by decide +kernel
theorem dX12_near_65 : decode cX12_near 65 = .ok (.if_icmp .ne 10, 3) := by decide +kernel
theorem dX12_near_68 : decode cX12_near 68 = .ok (.aload_n 0, 1) := by decide +kernel
theorem dX12_near_69 : decode cX12_near 69 = .ok (.iload 5, 2) := by decide +kernel
theorem dX12_near_71 : decode cX12_near 71 = .ok (.invokevirtual 98, 3) := by decide +kernel
theorem dX12_near_74 : decode cX12_near 74 = .ok (.ireturn, 1) := by decide +kernel
theorem dX12_near_75 : decode cX12_near 75 = .ok (.iinc 4 1, 3) := by decide +kernel
theorem dX12_near_78 : decode cX12_near 78 = .ok (.iinc 5 1, 3) := by decide +kernel
theorem dX12_near_81 : decode cX12_near 81 = .ok (.goto (-48), 3) := by decide +kernel
theorem dX12_near_84 : decode cX12_near 84 = .ok (.iload_n 3, 1) := by decide +kernel
theorem dX12_near_85 : decode cX12_near 85 = .ok (.iconst (-1), 1) := by decide +kernel
theorem dX12_near_86 : decode cX12_near 86 = .ok (.if_icmp .ne 8, 3) := by decide +kernel
theorem dX12_near_89 : decode cX12_near 89 = .ok (.iload 4, 2) := by decide +kernel
theorem dX12_near_91 : decode cX12_near 91 = .ok (.goto 4, 3) := by decide +kernel
theorem dX12_near_94 : decode cX12_near 94 = .ok (.iconst (-1), 1) := by decide +kernel
theorem dX12_near_95 : decode cX12_near 95 = .ok (.ireturn, 1) := by decide +kernel
theorem dX12_apart_0 : decode cX12_apart 0 = .ok (.iload_n 1, 1) := by decide +kernel
theorem dX12_apart_1 : decode cX12_apart 1 = .ok (.iconst 0, 1) := by decide +kernel
theorem dX12_apart_2 : decode cX12_apart 2 = .ok (.bipush 8, 2) := by decide +kernel
theorem dX12_apart_4 : decode cX12_apart 4 = .ok (.invokestatic 91, 3) := by decide +kernel
theorem dX12_apart_7 : decode cX12_apart 7 = .ok (.ifCond .eq 14, 3) := by decide +kernel
theorem dX12_apart_10 : decode cX12_apart 10 = .ok (.aload_n 0, 1) := by decide +kernel
theorem dX12_apart_11 : decode cX12_apart 11 = .ok (.getfield 7, 3) := by decide +kernel
theorem dX12_apart_14 : decode cX12_apart 14 = .ok (.iconst 2, 1) := by decide +kernel
theorem dX12_apart_15 : decode cX12_apart 15 = .ok (.iaload, 1) := by decide +kernel
theorem dX12_apart_16 : decode cX12_apart 16 = .ok (.bipush 16, 2) := by decide +kernel
theorem dX12_apart_18 : decode cX12_apart 18 = .ok (.if_icmp .le 5, 3) := by decide +kernel
theorem dX12_apart_21 : decode cX12_apart 21 = .ok (.iconst (-1), 1) := by decide +kernel
theorem dX12_apart_22 : decode cX12_apart 22 = .ok (.ireturn, 1) := by decide +kernel
theorem dX12_apart_23 : decode cX12_apart 23 = .ok (.aload_n 0, 1) := by decide +kernel
theorem dX12_apart_24 : decode cX12_apart 24 = .ok (.invokevirtual 321, 3) := by decide +kernel
theorem dX12_apart_27 : decode cX12_apart 27 = .ok (.iconst 0, 1) := by decide +kernel
theorem dX12_apart_28 : decode cX12_apart 28 = .ok (.istore_n 2, 1) := by decide +kernel
theorem dX12_apart_29 : decode cX12_apart 29 = .ok (.iload_n 2, 1) := by decide +kernel
theorem dX12_apart_30 : decode cX12_apart 30 = .ok (.aload_n 0, 1) := by decide +kernel
theorem dX12_apart_31 : decode cX12_apart 31 = .ok (.getfield 84, 3) := by decide +kernel
theorem dX12_apart_34 : decode cX12_apart 34 = .ok (.if_icmp .ge 16, 3) := by decide +kernel
theorem dX12_apart_37 : decode cX12_apart 37 = .ok (.aload_n 0, 1) := by decide +kernel
theorem dX12_apart_38 : decode cX12_apart 38 = .ok (.getfield 58, 3) := by decide +kernel
theorem dX12_apart_41 : decode cX12_apart 41 = .ok (.iload_n 2, 1) := by decide +kernel
theorem dX12_apart_42 : decode cX12_apart 42 = .ok (.iconst 0, 1) := by decide +kernel
theorem dX12_apart_43 : decode cX12_apart 43 = .ok (.iastore, 1) := by decide +kernel
theorem dX12_apart_44 : decode cX12_apart 44 = .ok (.iinc 2 1, 3) := by decide +kernel
theorem dX12_apart_47 : decode cX12_apart 47 = .ok (.goto (-18), 3) := by decide +kernel
theorem dX12_apart_50 : decode cX12_apart 50 = .ok (.iconst 0, 1) := by decide +kernel
theorem dX12_apart_51 : decode cX12_apart 51 = .ok (.istore_n 2, 1) := by decide +kernel
theorem dX12_apart_52 : decode cX12_apart 52 = .ok (.iload_n 2, 1) := by decide +kernel
theorem dX12_apart_53 : decode cX12_apart 53 = .ok (.aload_n 0, 1) := by decide +kernel
theorem dX12_apart_54 : decode cX12_apart 54 = .ok (.getfield 7, 3) := by decide +kernel
theorem dX12_apart_57 : decode cX12_apart 57 = .ok (.iconst 2, 1) := by decide +kernel
theorem dX12_apart_58 : decode cX12_apart 58 = .ok (.iaload, 1) := by decide +kernel
theorem dX12_apart_59 : decode cX12_apart 59 = .ok (.if_icmp .ge 74, 3) := by decide +kernel
theorem dX12_apart_62 : decode cX12_apart 62 = .ok (.aload_n 0, 1) := by decide +kernel
theorem dX12_apart_63 : decode cX12_apart 63 = .ok (.getfield 61, 3) := by decide +kernel
theorem dX12_apart_66 : decode cX12_apart 66 = .ok (.iload_n 2, 1) := by decide +kernel
theorem dX12_apart_67 : decode cX12_apart 67 = .ok (.iconst 0, 1) := by decide +kernel
theorem dX12_apart_68 : decode cX12_apart 68 = .ok (.iastore, 1) := by decide +kernel
theorem dX12_apart_69 : decode cX12_apart 69 = .ok (.aload_n 0, 1) := by decide +kernel
theorem dX12_apart_70 : decode cX12_apart 70 = .ok (.aload_n 0, 1) := by decide +kernel
theorem dX12_apart_71 : decode cX12_apart 71 = .ok (.iload_n 2, 1) := by decide +kernel
theorem dX12_apart_72 : decode cX12_apart 72 = .ok (.invokevirtual 98, 3) := by decide +kernel
theorem dX12_apart_75 : decode cX12_apart 75 = .ok (.iconst 0, 1) := by decide +kernel
theorem dX12_apart_76 : decode cX12_apart 76 = .ok (.iload_n 1, 1) := by decide +kernel
theorem dX12_apart_77 : decode cX12_apart 77 = .ok (.invokevirtual 315, 3) := by decide +kernel
theorem dX12_apart_80 : decode cX12_apart 80 = .ok (.lstore_n 3, 1) := by decide +kernel
theorem dX12_apart_81 : decode cX12_apart 81 = .ok (.iconst 0, 1) := by decide +kernel
theorem dX12_apart_82 : decode cX12_apart 82 = .ok (.istore 5, 2) := by decide +kernel
theorem dX12_apart_84 : decode cX12_apart 84 = .ok (.iload 5, 2) := by decide +kernel
theorem dX12_apart_86 : decode cX12_apart 86 = .ok (.aload_n 0, 1) := by decide +kernel
theorem dX12_apart_87 : decode cX12_apart 87 = .ok (.getfield 84, 3) := by decide +kernel
theorem dX12_apart_90 : decode cX12_apart 90 = .ok (.if_icmp .ge 37, 3) := by decide +kernel
theorem dX12_apart_93 : decode cX12_apart 93 = .ok (.aload_n 0, 1) := by decide +kernel
theorem dX12_apart_94 : decode cX12_apart 94 = .ok (.getfield 58, 3) := by decide +kernel
theorem dX12_apart_97 : decode cX12_apart 97 = .ok (.iload 5, 2) := by decide +kernel
theorem dX12_apart_99 : decode cX12_apart 99 = .ok (.dup2, 1) := by decide +kernel
theorem dX12_apart_100 : decode cX12_apart 100 = .ok (.iaload, 1) := by decide +kernel
theorem dX12_apart_101 : decode cX12_apart 101 = .ok (.aload_n 0, 1) := by decide +kernel
theorem dX12_apart_102 : decode cX12_apart 102 = .ok (.iload 5, 2) := by decide +kernel
theorem dX12_apart_104 : decode cX12_apart 104 = .ok (.invokevirtual 311, 3) := by decide +kernel
theorem dX12_apart_107 : decode cX12_apart 107 = .ok (.lconst 0, 1) := by decide +kernel
theorem dX12_apart_108 : decode cX12_apart 108 = .ok (.lcmp, 1) := by decide +kernel
theorem dX12_apart_109 : decode cX12_apart 109 = .ok (.ifCond .le 9, 3) := by decide +kernel
theorem dX12_apart_112 : decode cX12_apart 112 = .ok (.iconst 1, 1) := by decide +kernel
theorem dX12_apart_113 : decode cX12_apart 113 = .ok (.iload_n 2, 1) := by decide +kernel
theorem dX12_apart_114 : decode cX12_apart 114 = .ok (.ishl, 1) := by decide +kernel
theorem dX12_apart_115 : decode cX12_apart 115 = .ok (.goto 4, 3) := by decide +kernel
theorem dX12_apart_118 : decode cX12_apart 118 = .ok (.iconst 0, 1) := by decide +kernel
theorem dX12_apart_119 : decode cX12_apart 119 = .ok (.ior, 1) := by decide +kernel
theorem dX12_apart_120 : decode cX12_apart 120 = .ok (.iastore, 1) := by decide +kernel
theorem dX12_apart_121 : decode cX12_apart 121 = .ok (.iinc 5 1, 3) := by decide +kernel
theorem dX12_apart_124 : decode cX12_apart 124 = .ok (.goto (-40), 3) := by decide +kernel
theorem dX12_apart_127 : decode cX12_apart 127 = .ok (.iinc 2 1, 3) := by decide +kernel
theorem dX12_apart_130 : decode cX12_apart 130 = .ok (.goto (-78), 3) := by decide +kernel
theorem dX12_apart_133 : decode cX12_apart 133 = .ok (.iconst 0, 1) := by decide +kernel
theorem dX12_apart_134 : decode cX12_apart 134 = .ok (.istore_n 2, 1) := by decide +kernel
theorem dX12_apart_135 : decode cX12_apart 135 = .ok (.iload_n 2, 1) := by decide +kernel
theorem dX12_apart_136 : decode cX12_apart 136 = .ok (.aload_n 0, 1) := by decide +kernel
theorem dX12_apart_137 : decode cX12_apart 137 = .ok (.getfield 84, 3) := by decide +kernel
theorem dX12_apart_140 : decode cX12_apart 140 = .ok (.if_icmp .ge 66, 3) := by decide +kernel
theorem dX12_apart_143 : decode cX12_apart 143 = .ok (.iconst 0, 1) := by decide +kernel
theorem dX12_apart_144 : decode cX12_apart 144 = .ok (.istore_n 3, 1) := by decide +kernel
theorem dX12_apart_145 : decode cX12_apart 145 = .ok (.iload_n 3, 1) := by decide +kernel
theorem dX12_apart_146 : decode cX12_apart 146 = .ok (.aload_n 0, 1) := by decide +kernel
theorem dX12_apart_147 : decode cX12_apart 147 = .ok (.getfield 7, 3) := by decide +kernel
theorem dX12_apart_150 : decode cX12_apart 150 = .ok (.iconst 2, 1) := by decide +kernel
theorem dX12_apart_151 : decode cX12_apart 151 = .ok (.iaload, 1) := by decide +kernel
theorem dX12_apart_152 : decode cX12_apart 152 = .ok (.if_icmp .ge 48, 3) := by decide +kernel
theorem dX12_apart_155 : decode cX12_apart 155 = .ok (.aload_n 0, 1) := by decide +kernel
theorem dX12_apart_156 : decode cX12_apart 156 = .ok (.getfield 61, 3) := by decide +kernel
theorem dX12_apart_159 : decode cX12_apart 159 = .ok (.iload_n 3, 1) := by decide +kernel
theorem dX12_apart_160 : decode cX12_apart 160 = .ok (.dup2, 1) := by decide +kernel
theorem dX12_apart_161 : decode cX12_apart 161 = .ok (.iaload, 1) := by decide +kernel
theorem dX12_apart_162 : decode cX12_apart 162 = .ok (.aload_n 0, 1) := by decide +kernel
theorem dX12_apart_163 : decode cX12_apart 163 = .ok (.getfield 58, 3) := by decide +kernel
theorem dX12_apart_166 : decode cX12_apart 166 = .ok (.iload_n 2, 1) := by decide +kernel
theorem dX12_apart_167 : decode cX12_apart 167 = .ok (.iaload, 1) := by decide +kernel
theorem dX12_apart_168 : decode cX12_apart 168 = .ok (.iload_n 3, 1) := by decide +kernel
theorem dX12_apart_169 : decode cX12_apart 169 = .ok (.ishr, 1) := by decide +kernel
theorem dX12_apart_170 : decode cX12_apart 170 = .ok (.iconst 1, 1) := by decide +kernel
theorem dX12_apart_171 : decode cX12_apart 171 = .ok (.iand, 1) := by decide +kernel
theorem dX12_apart_172 : decode cX12_apart 172 = .ok (.iconst 1, 1) := by decide +kernel
theorem dX12_apart_173 : decode cX12_apart 173 = .ok (.if_icmp .ne 18, 3) := by decide +kernel
theorem dX12_apart_176 : decode cX12_apart 176 = .ok (.aload_n 0, 1) := by decide +kernel
theorem dX12_apart_177 : decode cX12_apart 177 = .ok (.getfield 58, 3) := by decide +kernel
theorem dX12_apart_180 : decode cX12_apart 180 = .ok (.iload_n 2, 1) := by decide +kernel
theorem dX12_apart_181 : decode cX12_apart 181 = .ok (.iaload, 1) := by decide +kernel
theorem dX12_apart_182 : decode cX12_apart 182 = .ok (.iconst 1, 1) := by decide +kernel
theorem dX12_apart_183 : decode cX12_apart 183 = .ok (.iload_n 3, 1) := by decide +kernel
theorem dX12_apart_184 : decode cX12_apart 184 = .ok (.ishl, 1) := by decide +kernel
theorem dX12_apart_185 : decode cX12_apart 185 = .ok (.iconst (-1), 1) := by decide +kernel
theorem dX12_apart_186 : decode cX12_apart 186 = .ok (.ixor, 1) := by decide +kernel
theorem dX12_apart_187 : decode cX12_apart 187 = .ok (.iand, 1) := by decide +kernel
theorem dX12_apart_188 : decode cX12_apart 188 = .ok (.goto 4, 3) := by decide +kernel
theorem dX12_apart_191 : decode cX12_apart 191 = .ok (.iconst 0, 1) := by decide +kernel
theorem dX12_apart_192 : decode cX12_apart 192 = .ok (.ior, 1) := by decide +kernel
theorem dX12_apart_193 : decode cX12_apart 193 = .ok (.iastore, 1) := by decide +kernel
theorem dX12_apart_194 : decode cX12_apart 194 = .ok (.iinc 3 1, 3) := by decide +kernel
theorem dX12_apart_197 : decode cX12_apart 197 = .ok (.goto (-52), 3) := by decide +kernel
theorem dX12_apart_200 : decode cX12_apart 200 = .ok (.iinc 2 1, 3) := by decide +kernel
theorem dX12_apart_203 : decode cX12_apart 203 = .ok (.goto (-68), 3) := by decide +kernel
theorem dX12_apart_206 : decode cX12_apart 206 = .ok (.aload_n 0, 1) := by decide +kernel
theorem dX12_apart_207 : decode cX12_apart 207 = .ok (.getfield 65, 3) := by decide +kernel
theorem dX12_apart_210 : decode cX12_apart 210 = .ok (.iconst 0, 1) := by decide +kernel
theorem dX12_apart_211 : decode cX12_apart 211 = .ok (.iconst 1, 1) := by decide +kernel
theorem dX12_apart_212 : decode cX12_apart 212 = .ok (.bastore, 1) := by decide +kernel
theorem dX12_apart_213 : decode cX12_apart 213 = .ok (.iconst 0, 1) := by decide +kernel
theorem dX12_apart_214 : decode cX12_apart 214 = .ok (.istore_n 2, 1) := by decide +kernel
theorem dX12_apart_215 : decode cX12_apart 215 = .ok (.iconst 0, 1) := by decide +kernel
theorem dX12_apart_216 : decode cX12_apart 216 = .ok (.istore_n 3, 1) := by decide +kernel
theorem dX12_apart_217 : decode cX12_apart 217 = .ok (.iconst 1, 1) := by decide +kernel
theorem dX12_apart_218 : decode cX12_apart 218 = .ok (.istore 4, 2) := by decide +kernel
theorem dX12_apart_220 : decode cX12_apart 220 = .ok (.iload 4, 2) := by decide +kernel
theorem dX12_apart_222 : decode cX12_apart 222 = .ok (.iconst 1, 1) := by decide +kernel
theorem dX12_apart_223 : decode cX12_apart 223 = .ok (.aload_n 0, 1) := by decide +kernel
theorem dX12_apart_224 : decode cX12_apart 224 = .ok (.getfield 7, 3) := by decide +kernel
theorem dX12_apart_227 : decode cX12_apart 227 = .ok (.iconst 2, 1) := by decide +kernel
theorem dX12_apart_228 : decode cX12_apart 228 = .ok (.iaload, 1) := by decide +kernel
theorem dX12_apart_229 : decode cX12_apart 229 = .ok (.ishl, 1) := by decide +kernel
theorem dX12_apart_230 : decode cX12_apart 230 = .ok (.if_icmp .ge 126, 3) := by decide +kernel
theorem dX12_apart_233 : decode cX12_apart 233 = .ok (.iconst 0, 1) := by decide +kernel
theorem dX12_apart_234 : decode cX12_apart 234 = .ok (.istore 5, 2) := by decide +kernel
theorem dX12_apart_236 : decode cX12_apart 236 = .ok (.iconst 0, 1) := by decide +kernel
theorem dX12_apart_237 : decode cX12_apart 237 = .ok (.istore 6, 2) := by decide +kernel
theorem dX12_apart_239 : decode cX12_apart 239 = .ok (.iconst 0, 1) := by decide +kernel
theorem dX12_apart_240 : decode cX12_apart 240 = .ok (.istore 7, 2) := by decide +kernel
theorem dX12_apart_242 : decode cX12_apart 242 = .ok (.iload 7, 2) := by decide +kernel
theorem dX12_apart_244 : decode cX12_apart 244 = .ok (.aload_n 0, 1) := by decide +kernel
theorem dX12_apart_245 : decode cX12_apart 245 = .ok (.getfield 7, 3) := by decide +kernel
theorem dX12_apart_248 : decode cX12_apart 248 = .ok (.iconst 2, 1) := by decide +kernel
theorem dX12_apart_249 : decode cX12_apart 249 = .ok (.iaload, 1) := by decide +kernel
theorem dX12_apart_250 : decode cX12_apart 250 = .ok (.if_icmp .ge 29, 3) := by decide +kernel
theorem dX12_apart_253 : decode cX12_apart 253 = .ok (.iload 4, 2) := by decide +kernel
theorem dX12_apart_255 : decode cX12_apart 255 = .ok (.iload 7, 2) := by decide +kernel
theorem dX12_apart_257 : decode cX12_apart 257 = .ok (.ishr, 1) := by decide +kernel
theorem dX12_apart_258 : decode cX12_apart 258 = .ok (.iconst 1, 1) := by decide +kernel
theorem dX12_apart_259 : decode cX12_apart 259 = .ok (.iand, 1) := by decide +kernel
theorem dX12_apart_260 : decode cX12_apart 260 = .ok (.ifCond .ne 6, 3) := by decide +kernel
theorem dX12_apart_263 : decode cX12_apart 263 = .ok (.goto 10, 3) := by decide +kernel
theorem dX12_apart_266 : decode cX12_apart 266 = .ok (.iload 7, 2) := by decide +kernel
theorem dX12_apart_268 : decode cX12_apart 268 = .ok (.istore 5, 2) := by decide +kernel
theorem dX12_apart_270 : decode cX12_apart 270 = .ok (.iinc 6 1, 3) := by decide +kernel
theorem dX12_apart_273 : decode cX12_apart 273 = .ok (.iinc 7 1, 3) := by decide +kernel
theorem dX12_apart_276 : decode cX12_apart 276 = .ok (.goto (-34), 3) := by decide +kernel
theorem dX12_apart_279 : decode cX12_apart 279 = .ok (.iload 4, 2) := by decide +kernel
theorem dX12_apart_281 : decode cX12_apart 281 = .ok (.iconst 1, 1) := by decide +kernel
theorem dX12_apart_282 : decode cX12_apart 282 = .ok (.iload 5, 2) := by decide +kernel
theorem dX12_apart_284 : decode cX12_apart 284 = .ok (.ishl, 1) := by decide +kernel
theorem dX12_apart_285 : decode cX12_apart 285 = .ok (.iconst (-1), 1) := by decide +kernel
theorem dX12_apart_286 : decode cX12_apart 286 = .ok (.ixor, 1) := by decide +kernel
theorem dX12_apart_287 : decode cX12_apart 287 = .ok (.iand, 1) := by decide +kernel
theorem dX12_apart_288 : decode cX12_apart 288 = .ok (.istore 7, 2) := by decide +kernel
theorem dX12_apart_290 : decode cX12_apart 290 = .ok (.aload_n 0, 1) := by decide +kernel
theorem dX12_apart_291 : decode cX12_apart 291 = .ok (.getfield 65, 3) := by decide +kernel
theorem dX12_apart_294 : decode cX12_apart 294 = .ok (.iload 4, 2) := by decide +kernel
theorem dX12_apart_296 : decode cX12_apart 296 = .ok (.aload_n 0, 1) := by decide +kernel
theorem dX12_apart_297 : decode cX12_apart 297 = .ok (.getfield 65, 3) := by decide +kernel
theorem dX12_apart_300 : decode cX12_apart 300 = .ok (.iload 7, 2) := by decide +kernel
theorem dX12_apart_302 : decode cX12_apart 302 = .ok (.baload, 1) := by decide +kernel
theorem dX12_apart_303 : decode cX12_apart 303 = .ok (.ifCond .eq 20, 3) := by decide +kernel
theorem dX12_apart_306 : decode cX12_apart 306 = .ok (.aload_n 0, 1) := by decide +kernel
theorem dX12_apart_307 : decode cX12_apart 307 = .ok (.getfield 61, 3) := by decide +kernel
theorem dX12_apart_310 : decode cX12_apart 310 = .ok (.iload 5, 2) := by decide +kernel
theorem dX12_apart_312 : decode cX12_apart 312 = .ok (.iaload, 1) := by decide +kernel
theorem dX12_apart_313 : decode cX12_apart 313 = .ok (.iload 7, 2) := by decide +kernel
theorem dX12_apart_315 : decode cX12_apart 315 = .ok (.iand, 1) := by decide +kernel
theorem dX12_apart_316 : decode cX12_apart 316 = .ok (.ifCond .ne 7, 3) := by decide +kernel
theorem dX12_apart_319 : decode cX12_apart 319 = .ok (.iconst 1, 1) := by decide +kernel
theorem dX12_apart_320 : decode cX12_apart 320 = .ok (.goto 4, 3) := by decide +kernel
theorem dX12_apart_323 : decode cX12_apart 323 = .ok (.iconst 0, 1) := by decide +kernel
theorem dX12_apart_324 : decode cX12_apart 324 = .ok (.bastore, 1) := by decide +kernel
theorem dX12_apart_325 : decode cX12_apart 325 = .ok (.aload_n 0, 1) := by decide +kernel
theorem dX12_apart_326 : decode cX12_apart 326 = .ok (.getfield 65, 3) := by decide +kernel
theorem dX12_apart_329 : decode cX12_apart 329 = .ok (.iload 4, 2) := by decide +kernel
theorem dX12_apart_331 : decode cX12_apart 331 = .ok (.baload, 1) := by decide +kernel
theorem dX12_apart_332 : decode cX12_apart 332 = .ok (.ifCond .eq 18, 3) := by decide +kernel
theorem dX12_apart_335 : decode cX12_apart 335 = .ok (.iload 6, 2) := by decide +kernel
theorem dX12_apart_337 : decode cX12_apart 337 = .ok (.iload_n 3, 1) := by decide +kernel
theorem dX12_apart_338 : decode cX12_apart 338 = .ok (.if_icmp .gt 6, 3) := by decide +kernel
theorem dX12_apart_341 : decode cX12_apart 341 = .ok (.goto 9, 3) := by decide +kernel
theorem dX12_apart_344 : decode cX12_apart 344 = .ok (.iload 4, 2) := by decide +kernel
theorem dX12_apart_346 : decode cX12_apart 346 = .ok (.istore_n 2, 1) := by decide +kernel
theorem dX12_apart_347 : decode cX12_apart 347 = .ok (.iload 6, 2) := by decide +kernel
theorem dX12_apart_349 : decode cX12_apart 349 = .ok (.istore_n 3, 1) := by decide +kernel
theorem dX12_apart_350 : decode cX12_apart 350 = .ok (.iinc 4 1, 3) := by decide +kernel
theorem dX12_apart_353 : decode cX12_apart 353 = .ok (.goto (-133), 3) := by decide +kernel
theorem dX12_apart_356 : decode cX12_apart 356 = .ok (.iload_n 2, 1) := by decide +kernel
theorem dX12_apart_357 : decode cX12_apart 357 = .ok (.ireturn, 1) := by decide +kernel
theorem dX12_log_0 : decode cX12_log 0 = .ok (.iload_n 1, 1) := by decide +kernel
theorem dX12_log_1 : decode cX12_log 1 = .ok (.iconst 0, 1) := by decide +kernel
theorem dX12_log_2 : decode cX12_log 2 = .ok (.bipush 8, 2) := by decide +kernel
theorem dX12_log_4 : decode cX12_log 4 = .ok (.invokestatic 91, 3) := by decide +kernel
theorem dX12_log_7 : decode cX12_log 7 = .ok (.ifCond .ne 5, 3) := by decide +kernel
theorem dX12_log_10 : decode cX12_log 10 = .ok (.iconst 0, 1) := by decide +kernel
theorem dX12_log_11 : decode cX12_log 11 = .ok (.ireturn, 1) := by decide +kernel
theorem dX12_log_12 : decode cX12_log 12 = .ok (.aload_n 0, 1) := by decide +kernel
theorem dX12_log_13 : decode cX12_log 13 = .ok (.getfield 7, 3) := by decide +kernel
theorem dX12_log_16 : decode cX12_log 16 = .ok (.iconst 3, 1) := by decide +kernel
theorem dX12_log_17 : decode cX12_log 17 = .ok (.iload_n 1, 1) := by decide +kernel
theorem dX12_log_18 : decode cX12_log 18 = .ok (.iastore, 1) := by decide +kernel
theorem dX12_log_19 : decode cX12_log 19 = .ok (.aload_n 0, 1) := by decide +kernel
theorem dX12_log_20 : decode cX12_log 20 = .ok (.getfield 7, 3) := by decide +kernel
theorem dX12_log_23 : decode cX12_log 23 = .ok (.iconst 4, 1) := by decide +kernel
theorem dX12_log_24 : decode cX12_log 24 = .ok (.iconst 0, 1) := by decide +kernel
theorem dX12_log_25 : decode cX12_log 25 = .ok (.iastore, 1) := by decide +kernel
theorem dX12_log_26 : decode cX12_log 26 = .ok (.iconst 1, 1) := by decide +kernel
theorem dX12_log_27 : decode cX12_log 27 = .ok (.ireturn, 1) := by decide +kernel
theorem dX12_said_0 : decode cX12_said 0 = .ok (.iload_n 1, 1) := by decide +kernel
theorem dX12_said_1 : decode cX12_said 1 = .ok (.iconst 0, 1) := by decide +kernel
theorem dX12_said_2 : decode cX12_said 2 = .ok (.aload_n 0, 1) := by decide +kernel
theorem dX12_said_3 : decode cX12_said 3 = .ok (.getfield 7, 3) := by decide +kernel
theorem dX12_said_6 : decode cX12_said 6 = .ok (.iconst 3, 1) := by decide +kernel
theorem dX12_said_7 : decode cX12_said 7 = .ok (.iaload, 1) := by decide +kernel
theorem dX12_said_8 : decode cX12_said 8 = .ok (.invokestatic 91, 3) := by decide +kernel
theorem dX12_said_11 : decode cX12_said 11 = .ok (.ifCond .eq 37, 3) := by decide +kernel
theorem dX12_said_14 : decode cX12_said 14 = .ok (.iload_n 2, 1) := by decide +kernel
theorem dX12_said_15 : decode cX12_said 15 = .ok (.iconst (-1), 1) := by decide +kernel
theorem dX12_said_16 : decode cX12_said 16 = .ok (.if_icmp .eq 11, 3) := by decide +kernel
theorem dX12_said_19 : decode cX12_said 19 = .ok (.aload_n 0, 1) := by decide +kernel
theorem dX12_said_20 : decode cX12_said 20 = .ok (.iload_n 2, 1) := by decide +kernel
theorem dX12_said_21 : decode cX12_said 21 = .ok (.invokevirtual 102, 3) := by decide +kernel
theorem dX12_said_24 : decode cX12_said 24 = .ok (.ifCond .eq 24, 3) := by decide +kernel
theorem dX12_said_27 : decode cX12_said 27 = .ok (.iload_n 3, 1) := by decide +kernel
theorem dX12_said_28 : decode cX12_said 28 = .ok (.iconst 0, 1) := by decide +kernel
theorem dX12_said_29 : decode cX12_said 29 = .ok (.bipush 99, 2) := by decide +kernel
theorem dX12_said_31 : decode cX12_said 31 = .ok (.invokestatic 91, 3) := by decide +kernel
theorem dX12_said_34 : decode cX12_said 34 = .ok (.ifCond .eq 14, 3) := by decide +kernel
theorem dX12_said_37 : decode cX12_said 37 = .ok (.aload_n 0, 1) := by decide +kernel
theorem dX12_said_38 : decode cX12_said 38 = .ok (.getfield 7, 3) := by decide +kernel
theorem dX12_said_41 : decode cX12_said 41 = .ok (.iconst 4, 1) := by decide +kernel
theorem dX12_said_42 : decode cX12_said 42 = .ok (.iaload, 1) := by decide +kernel
theorem dX12_said_43 : decode cX12_said 43 = .ok (.bipush 40, 2) := by decide +kernel
theorem dX12_said_45 : decode cX12_said 45 = .ok (.if_icmp .ne 5, 3) := by decide +kernel
theorem dX12_said_48 : decode cX12_said 48 = .ok (.iconst (-1), 1) := by decide +kernel
theorem dX12_said_49 : decode cX12_said 49 = .ok (.ireturn, 1) := by decide +kernel
theorem dX12_said_50 : decode cX12_said 50 = .ok (.bipush 90, 2) := by decide +kernel
theorem dX12_said_52 : decode cX12_said 52 = .ok (.iconst 3, 1) := by decide +kernel
theorem dX12_said_53 : decode cX12_said 53 = .ok (.aload_n 0, 1) := by decide +kernel
theorem dX12_said_54 : decode cX12_said 54 = .ok (.getfield 7, 3) := by decide +kernel
theorem dX12_said_57 : decode cX12_said 57 = .ok (.iconst 4, 1) := by decide +kernel
theorem dX12_said_58 : decode cX12_said 58 = .ok (.iaload, 1) := by decide +kernel
theorem dX12_said_59 : decode cX12_said 59 = .ok (.imul, 1) := by decide +kernel
theorem dX12_said_60 : decode cX12_said 60 = .ok (.iadd, 1) := by decide +kernel
theorem dX12_said_61 : decode cX12_said 61 = .ok (.istore 4, 2) := by decide +kernel
theorem dX12_said_63 : decode cX12_said 63 = .ok (.aload_n 0, 1) := by decide +kernel
theorem dX12_said_64 : decode cX12_said 64 = .ok (.getfield 7, 3) := by decide +kernel
theorem dX12_said_67 : decode cX12_said 67 = .ok (.iload 4, 2) := by decide +kernel
theorem dX12_said_69 : decode cX12_said 69 = .ok (.iload_n 1, 1) := by decide +kernel
theorem dX12_said_70 : decode cX12_said 70 = .ok (.iastore, 1) := by decide +kernel
theorem dX12_said_71 : decode cX12_said 71 = .ok (.aload_n 0, 1) := by decide +kernel
theorem dX12_said_72 : decode cX12_said 72 = .ok (.getfield 7, 3) := by decide +kernel
theorem dX12_said_75 : decode cX12_said 75 = .ok (.iload 4, 2) := by decide +kernel
theorem dX12_said_77 : decode cX12_said 77 = .ok (.iconst 1, 1) := by decide +kernel
theorem dX12_said_78 : decode cX12_said 78 = .ok (.iadd, 1) := by decide +kernel
theorem dX12_said_79 : decode cX12_said 79 = .ok (.iload_n 2, 1) := by decide +kernel
theorem dX12_said_80 : decode cX12_said 80 = .ok (.iastore, 1) := by decide +kernel
theorem dX12_said_81 : decode cX12_said 81 = .ok (.aload_n 0, 1) := by decide +kernel
theorem dX12_said_82 : decode cX12_said 82 = .ok (.getfield 7, 3) := by decide +kernel
theorem dX12_said_85 : decode cX12_said 85 = .ok (.iload 4, 2) := by decide +kernel
theorem dX12_said_87 : decode cX12_said 87 = .ok (.iconst 2, 1) := by decide +kernel
theorem dX12_said_88 : decode cX12_said 88 = .ok (.iadd, 1) := by decide +kernel
theorem dX12_said_89 : decode cX12_said 89 = .ok (.iload_n 3, 1) := by decide +kernel
theorem dX12_said_90 : decode cX12_said 90 = .ok (.iastore, 1) := by decide +kernel
theorem dX12_said_91 : decode cX12_said 91 = .ok (.aload_n 0, 1) := by decide +kernel
theorem dX12_said_92 : decode cX12_said 92 = .ok (.getfield 7, 3) := by decide +kernel
theorem dX12_said_95 : decode cX12_said 95 = .ok (.iconst 4, 1) := by decide +kernel
theorem dX12_said_96 : decode cX12_said 96 = .ok (.dup2, 1) := by decide +kernel
theorem dX12_said_97 : decode cX12_said 97 = .ok (.iaload, 1) := by decide +kernel
theorem dX12_said_98 : decode cX12_said 98 = .ok (.iconst 1, 1) := by decide +kernel
theorem dX12_said_99 : decode cX12_said 99 = .ok (.iadd, 1) := by decide +kernel
theorem dX12_said_100 : decode cX12_said 100 = .ok (.iastore, 1) := by decide +kernel
theorem dX12_said_101 : decode cX12_said 101 = .ok (.aload_n 0, 1) := by decide +kernel
theorem dX12_said_102 : decode cX12_said 102 = .ok (.getfield 7, 3) := by decide +kernel
theorem dX12_said_105 : decode cX12_said 105 = .ok (.iconst 4, 1) := by decide +kernel
theorem dX12_said_106 : decode cX12_said 106 = .ok (.iaload, 1) := by decide +kernel
theorem dX12_said_107 : decode cX12_said 107 = .ok (.ireturn, 1) := by decide +kernel
theorem dX12_asOf_0 : decode cX12_asOf 0 = .ok (.iconst (-1), 1) := by decide +kernel
theorem dX12_asOf_1 : decode cX12_asOf 1 = .ok (.istore_n 3, 1) := by decide +kernel
theorem dX12_asOf_2 : decode cX12_asOf 2 = .ok (.iconst 0, 1) := by decide +kernel
theorem dX12_asOf_3 : decode cX12_asOf 3 = .ok (.istore 4, 2) := by decide +kernel
theorem dX12_asOf_5 : decode cX12_asOf 5 = .ok (.iload 4, 2) := by decide +kernel
theorem dX12_asOf_7 : decode cX12_asOf 7 = .ok (.aload_n 0, 1) := by decide +kernel
theorem dX12_asOf_8 : decode cX12_asOf 8 = .ok (.getfield 7, 3) := by decide +kernel
theorem dX12_asOf_11 : decode cX12_asOf 11 = .ok (.iconst 4, 1) := by decide +kernel
theorem dX12_asOf_12 : decode cX12_asOf 12 = .ok (.iaload, 1) := by decide +kernel
theorem dX12_asOf_13 : decode cX12_asOf 13 = .ok (.if_icmp .ge 58, 3) := by decide +kernel
theorem dX12_asOf_16 : decode cX12_asOf 16 = .ok (.aload_n 0, 1) := by decide +kernel
theorem dX12_asOf_17 : decode cX12_asOf 17 = .ok (.getfield 7, 3) := by decide +kernel
theorem dX12_asOf_20 : decode cX12_asOf 20 = .ok (.bipush 90, 2) := by decide +kernel
theorem dX12_asOf_22 : decode cX12_asOf 22 = .ok (.iconst 3, 1) := by decide +kernel
theorem dX12_asOf_23 : decode cX12_asOf 23 = .ok (.iload 4, 2) := by decide +kernel
theorem dX12_asOf_25 : decode cX12_asOf 25 = .ok (.imul, 1) := by decide +kernel
theorem dX12_asOf_26 : decode cX12_asOf 26 = .ok (.iadd, 1) := by decide +kernel
theorem dX12_asOf_27 : decode cX12_asOf 27 = .ok (.iaload, 1) := by decide +kernel
theorem dX12_asOf_28 : decode cX12_asOf 28 = .ok (.iload_n 1, 1) := by decide +kernel
theorem dX12_asOf_29 : decode cX12_asOf 29 = .ok (.if_icmp .ne 36, 3) := by decide +kernel
theorem dX12_asOf_32 : decode cX12_asOf 32 = .ok (.aload_n 0, 1) := by decide +kernel
theorem dX12_asOf_33 : decode cX12_asOf 33 = .ok (.getfield 7, 3) := by decide +kernel
theorem dX12_asOf_36 : decode cX12_asOf 36 = .ok (.bipush 90, 2) := by decide +kernel
theorem dX12_asOf_38 : decode cX12_asOf 38 = .ok (.iconst 3, 1) := by decide +kernel
theorem dX12_asOf_39 : decode cX12_asOf 39 = .ok (.iload 4, 2) := by decide +kernel
theorem dX12_asOf_41 : decode cX12_asOf 41 = .ok (.imul, 1) := by decide +kernel
theorem dX12_asOf_42 : decode cX12_asOf 42 = .ok (.iadd, 1) := by decide +kernel
theorem dX12_asOf_43 : decode cX12_asOf 43 = .ok (.iconst 2, 1) := by decide +kernel
theorem dX12_asOf_44 : decode cX12_asOf 44 = .ok (.iadd, 1) := by decide +kernel
theorem dX12_asOf_45 : decode cX12_asOf 45 = .ok (.iaload, 1) := by decide +kernel
theorem dX12_asOf_46 : decode cX12_asOf 46 = .ok (.iload_n 2, 1) := by decide +kernel
theorem dX12_asOf_47 : decode cX12_asOf 47 = .ok (.if_icmp .gt 18, 3) := by decide +kernel
theorem dX12_asOf_50 : decode cX12_asOf 50 = .ok (.aload_n 0, 1) := by decide +kernel
theorem dX12_asOf_51 : decode cX12_asOf 51 = .ok (.getfield 7, 3) := by decide +kernel
theorem dX12_asOf_54 : decode cX12_asOf 54 = .ok (.bipush 90, 2) := by decide +kernel
theorem dX12_asOf_56 : decode cX12_asOf 56 = .ok (.iconst 3, 1) := by decide +kernel
theorem dX12_asOf_57 : decode cX12_asOf 57 = .ok (.iload 4, 2) := by decide +kernel
theorem dX12_asOf_59 : decode cX12_asOf 59 = .ok (.imul, 1) := by decide +kernel
theorem dX12_asOf_60 : decode cX12_asOf 60 = .ok (.iadd, 1) := by decide +kernel
theorem dX12_asOf_61 : decode cX12_asOf 61 = .ok (.iconst 1, 1) := by decide +kernel
theorem dX12_asOf_62 : decode cX12_asOf 62 = .ok (.iadd, 1) := by decide +kernel
theorem dX12_asOf_63 : decode cX12_asOf 63 = .ok (.iaload, 1) := by decide +kernel
theorem dX12_asOf_64 : decode cX12_asOf 64 = .ok (.istore_n 3, 1) := by decide +kernel
theorem dX12_asOf_65 : decode cX12_asOf 65 = .ok (.iinc 4 1, 3) := by decide +kernel
theorem dX12_asOf_68 : decode cX12_asOf 68 = .ok (.goto (-63), 3) := by decide +kernel
theorem dX12_asOf_71 : decode cX12_asOf 71 = .ok (.iload_n 3, 1) := by decide +kernel
theorem dX12_asOf_72 : decode cX12_asOf 72 = .ok (.ireturn, 1) := by decide +kernel
theorem dX12_lead_0 : decode cX12_lead 0 = .ok (.aload_n 0, 1) := by decide +kernel
theorem dX12_lead_1 : decode cX12_lead 1 = .ok (.getfield 68, 3) := by decide +kernel
theorem dX12_lead_4 : decode cX12_lead 4 = .ok (.bipush 9, 2) := by decide +kernel
theorem dX12_lead_6 : decode cX12_lead 6 = .ok (.iload_n 2, 1) := by decide +kernel
theorem dX12_lead_7 : decode cX12_lead 7 = .ok (.imul, 1) := by decide +kernel
theorem dX12_lead_8 : decode cX12_lead 8 = .ok (.iload_n 3, 1) := by decide +kernel
theorem dX12_lead_9 : decode cX12_lead 9 = .ok (.iadd, 1) := by decide +kernel
theorem dX12_lead_10 : decode cX12_lead 10 = .ok (.iaload, 1) := by decide +kernel
theorem dX12_lead_11 : decode cX12_lead 11 = .ok (.istore 4, 2) := by decide +kernel
theorem dX12_lead_13 : decode cX12_lead 13 = .ok (.iconst 0, 1) := by decide +kernel
theorem dX12_lead_14 : decode cX12_lead 14 = .ok (.istore 5, 2) := by decide +kernel
theorem dX12_lead_16 : decode cX12_lead 16 = .ok (.iload 5, 2) := by decide +kernel
theorem dX12_lead_18 : decode cX12_lead 18 = .ok (.aload_n 0, 1) := by decide +kernel
theorem dX12_lead_19 : decode cX12_lead 19 = .ok (.getfield 81, 3) := by decide +kernel
theorem dX12_lead_22 : decode cX12_lead 22 = .ok (.if_icmp .ge 86, 3) := by decide +kernel
theorem dX12_lead_25 : decode cX12_lead 25 = .ok (.iconst 0, 1) := by decide +kernel
theorem dX12_lead_26 : decode cX12_lead 26 = .ok (.istore 6, 2) := by decide +kernel
theorem dX12_lead_28 : decode cX12_lead 28 = .ok (.iload 6, 2) := by decide +kernel
theorem dX12_lead_30 : decode cX12_lead 30 = .ok (.aload_n 0, 1) := by decide +kernel
theorem dX12_lead_31 : decode cX12_lead 31 = .ok (.getfield 74, 3) := by decide +kernel
theorem dX12_lead_34 : decode cX12_lead 34 = .ok (.if_icmp .ge 68, 3) := by decide +kernel
theorem dX12_lead_37 : decode cX12_lead 37 = .ok (.aload_n 0, 1) := by decide +kernel
theorem dX12_lead_38 : decode cX12_lead 38 = .ok (.iload_n 1, 1) := by decide +kernel
theorem dX12_lead_39 : decode cX12_lead 39 = .ok (.iload_n 2, 1) := by decide +kernel
theorem dX12_lead_40 : decode cX12_lead 40 = .ok (.iload_n 3, 1) := by decide +kernel
theorem dX12_lead_41 : decode cX12_lead 41 = .ok (.iconst 1, 1) := by decide +kernel
theorem dX12_lead_42 : decode cX12_lead 42 = .ok (.isub, 1) := by decide +kernel
theorem dX12_lead_43 : decode cX12_lead 43 = .ok (.iload 5, 2) := by decide +kernel
theorem dX12_lead_45 : decode cX12_lead 45 = .ok (.iload 6, 2) := by decide +kernel
theorem dX12_lead_47 : decode cX12_lead 47 = .ok (.invokevirtual 329, 3) := by decide +kernel
theorem dX12_lead_50 : decode cX12_lead 50 = .ok (.ifCond .ne 6, 3) := by decide +kernel
theorem dX12_lead_53 : decode cX12_lead 53 = .ok (.goto 43, 3) := by decide +kernel
theorem dX12_lead_56 : decode cX12_lead 56 = .ok (.bipush 9, 2) := by decide +kernel
theorem dX12_lead_58 : decode cX12_lead 58 = .ok (.aload_n 0, 1) := by decide +kernel
theorem dX12_lead_59 : decode cX12_lead 59 = .ok (.iload_n 2, 1) := by decide +kernel
theorem dX12_lead_60 : decode cX12_lead 60 = .ok (.iload 5, 2) := by decide +kernel
theorem dX12_lead_62 : decode cX12_lead 62 = .ok (.iload 6, 2) := by decide +kernel
theorem dX12_lead_64 : decode cX12_lead 64 = .ok (.invokevirtual 302, 3) := by decide +kernel
theorem dX12_lead_67 : decode cX12_lead 67 = .ok (.imul, 1) := by decide +kernel
theorem dX12_lead_68 : decode cX12_lead 68 = .ok (.iload 5, 2) := by decide +kernel
theorem dX12_lead_70 : decode cX12_lead 70 = .ok (.iadd, 1) := by decide +kernel
theorem dX12_lead_71 : decode cX12_lead 71 = .ok (.iconst 1, 1) := by decide +kernel
theorem dX12_lead_72 : decode cX12_lead 72 = .ok (.iadd, 1) := by decide +kernel
theorem dX12_lead_73 : decode cX12_lead 73 = .ok (.istore 7, 2) := by decide +kernel
theorem dX12_lead_75 : decode cX12_lead 75 = .ok (.iload 4, 2) := by decide +kernel
theorem dX12_lead_77 : decode cX12_lead 77 = .ok (.aload_n 0, 1) := by decide +kernel
theorem dX12_lead_78 : decode cX12_lead 78 = .ok (.getfield 71, 3) := by decide +kernel
theorem dX12_lead_81 : decode cX12_lead 81 = .ok (.iload 7, 2) := by decide +kernel
theorem dX12_lead_83 : decode cX12_lead 83 = .ok (.iaload, 1) := by decide +kernel
theorem dX12_lead_84 : decode cX12_lead 84 = .ok (.if_icmp .ge 12, 3) := by decide +kernel
theorem dX12_lead_87 : decode cX12_lead 87 = .ok (.aload_n 0, 1) := by decide +kernel
theorem dX12_lead_88 : decode cX12_lead 88 = .ok (.getfield 71, 3) := by decide +kernel
theorem dX12_lead_91 : decode cX12_lead 91 = .ok (.iload 7, 2) := by decide +kernel
theorem dX12_lead_93 : decode cX12_lead 93 = .ok (.iload 4, 2) := by decide +kernel
theorem dX12_lead_95 : decode cX12_lead 95 = .ok (.iastore, 1) := by decide +kernel
theorem dX12_lead_96 : decode cX12_lead 96 = .ok (.iinc 6 1, 3) := by decide +kernel
theorem dX12_lead_99 : decode cX12_lead 99 = .ok (.goto (-71), 3) := by decide +kernel
theorem dX12_lead_102 : decode cX12_lead 102 = .ok (.iinc 5 1, 3) := by decide +kernel
theorem dX12_lead_105 : decode cX12_lead 105 = .ok (.goto (-89), 3) := by decide +kernel
theorem dX12_lead_108 : decode cX12_lead 108 = .ok (.return_, 1) := by decide +kernel
theorem dX12_keep_0 : decode cX12_keep 0 = .ok (.iconst 0, 1) := by decide +kernel
theorem dX12_keep_1 : decode cX12_keep 1 = .ok (.istore_n 2, 1) := by decide +kernel
theorem dX12_keep_2 : decode cX12_keep 2 = .ok (.iload_n 2, 1) := by decide +kernel
theorem dX12_keep_3 : decode cX12_keep 3 = .ok (.sipush 2304, 3) := by decide +kernel
theorem dX12_keep_6 : decode cX12_keep 6 = .ok (.if_icmp .ge 41, 3) := by decide +kernel
theorem dX12_keep_9 : decode cX12_keep 9 = .ok (.iload_n 2, 1) := by decide +kernel
theorem dX12_keep_10 : decode cX12_keep 10 = .ok (.bipush 9, 2) := by decide +kernel
theorem dX12_keep_12 : decode cX12_keep 12 = .ok (.idiv, 1) := by decide +kernel
theorem dX12_keep_13 : decode cX12_keep 13 = .ok (.aload_n 0, 1) := by decide +kernel
theorem dX12_keep_14 : decode cX12_keep 14 = .ok (.getfield 84, 3) := by decide +kernel
theorem dX12_keep_17 : decode cX12_keep 17 = .ok (.if_icmp .ge 15, 3) := by decide +kernel
theorem dX12_keep_20 : decode cX12_keep 20 = .ok (.iload_n 1, 1) := by decide +kernel
theorem dX12_keep_21 : decode cX12_keep 21 = .ok (.ifCond .lt 20, 3) := by decide +kernel
theorem dX12_keep_24 : decode cX12_keep 24 = .ok (.iload_n 2, 1) := by decide +kernel
theorem dX12_keep_25 : decode cX12_keep 25 = .ok (.bipush 9, 2) := by decide +kernel
theorem dX12_keep_27 : decode cX12_keep 27 = .ok (.idiv, 1) := by decide +kernel
theorem dX12_keep_28 : decode cX12_keep 28 = .ok (.iload_n 1, 1) := by decide +kernel
theorem dX12_keep_29 : decode cX12_keep 29 = .ok (.if_icmp .eq 12, 3) := by decide +kernel
theorem dX12_keep_32 : decode cX12_keep 32 = .ok (.aload_n 0, 1) := by decide +kernel
theorem dX12_keep_33 : decode cX12_keep 33 = .ok (.getfield 68, 3) := by decide +kernel
theorem dX12_keep_36 : decode cX12_keep 36 = .ok (.iload_n 2, 1) := by decide +kernel
theorem dX12_keep_37 : decode cX12_keep 37 = .ok (.ldc_w 371, 3) := by decide +kernel
theorem dX12_keep_40 : decode cX12_keep 40 = .ok (.iastore, 1) := by decide +kernel
theorem dX12_keep_41 : decode cX12_keep 41 = .ok (.iinc 2 1, 3) := by decide +kernel
theorem dX12_keep_44 : decode cX12_keep 44 = .ok (.goto (-42), 3) := by decide +kernel
theorem dX12_keep_47 : decode cX12_keep 47 = .ok (.return_, 1) := by decide +kernel
theorem dX12_least_0 : decode cX12_least 0 = .ok (.ldc_w 371, 3) := by decide +kernel
theorem dX12_least_3 : decode cX12_least 3 = .ok (.istore_n 1, 1) := by decide +kernel
theorem dX12_least_4 : decode cX12_least 4 = .ok (.iconst 0, 1) := by decide +kernel
theorem dX12_least_5 : decode cX12_least 5 = .ok (.istore_n 2, 1) := by decide +kernel
theorem dX12_least_6 : decode cX12_least 6 = .ok (.iload_n 2, 1) := by decide +kernel
theorem dX12_least_7 : decode cX12_least 7 = .ok (.sipush 2304, 3) := by decide +kernel
theorem dX12_least_10 : decode cX12_least 10 = .ok (.if_icmp .ge 26, 3) := by decide +kernel
theorem dX12_least_13 : decode cX12_least 13 = .ok (.aload_n 0, 1) := by decide +kernel
theorem dX12_least_14 : decode cX12_least 14 = .ok (.getfield 68, 3) := by decide +kernel
theorem dX12_least_17 : decode cX12_least 17 = .ok (.iload_n 2, 1) := by decide +kernel
theorem dX12_least_18 : decode cX12_least 18 = .ok (.iaload, 1) := by decide +kernel
theorem dX12_least_19 : decode cX12_least 19 = .ok (.iload_n 1, 1) := by decide +kernel
theorem dX12_least_20 : decode cX12_least 20 = .ok (.if_icmp .ge 10, 3) := by decide +kernel
theorem dX12_least_23 : decode cX12_least 23 = .ok (.aload_n 0, 1) := by decide +kernel
theorem dX12_least_24 : decode cX12_least 24 = .ok (.getfield 68, 3) := by decide +kernel
theorem dX12_least_27 : decode cX12_least 27 = .ok (.iload_n 2, 1) := by decide +kernel
theorem dX12_least_28 : decode cX12_least 28 = .ok (.iaload, 1) := by decide +kernel
theorem dX12_least_29 : decode cX12_least 29 = .ok (.istore_n 1, 1) := by decide +kernel
theorem dX12_least_30 : decode cX12_least 30 = .ok (.iinc 2 1, 3) := by decide +kernel
theorem dX12_least_33 : decode cX12_least 33 = .ok (.goto (-27), 3) := by decide +kernel
theorem dX12_least_36 : decode cX12_least 36 = .ok (.iload_n 1, 1) := by decide +kernel
theorem dX12_least_37 : decode cX12_least 37 = .ok (.ireturn, 1) := by decide +kernel
theorem dX12_broke_0 : decode cX12_broke 0 = .ok (.iload_n 1, 1) := by decide +kernel
theorem dX12_broke_1 : decode cX12_broke 1 = .ok (.iconst 0, 1) := by decide +kernel
theorem dX12_broke_2 : decode cX12_broke 2 = .ok (.bipush 99, 2) := by decide +kernel
theorem dX12_broke_4 : decode cX12_broke 4 = .ok (.invokestatic 91, 3) := by decide +kernel
theorem dX12_broke_7 : decode cX12_broke 7 = .ok (.ifCond .eq 12, 3) := by decide +kernel
theorem dX12_broke_10 : decode cX12_broke 10 = .ok (.iload_n 2, 1) := by decide +kernel
theorem dX12_broke_11 : decode cX12_broke 11 = .ok (.iconst 0, 1) := by decide +kernel
theorem dX12_broke_12 : decode cX12_broke 12 = .ok (.iconst 1, 1) := by decide +kernel
theorem dX12_broke_13 : decode cX12_broke 13 = .ok (.invokestatic 91, 3) := by decide +kernel
theorem dX12_broke_16 : decode cX12_broke 16 = .ok (.ifCond .ne 5, 3) := by decide +kernel
theorem dX12_broke_19 : decode cX12_broke 19 = .ok (.iconst (-1), 1) := by decide +kernel
theorem dX12_broke_20 : decode cX12_broke 20 = .ok (.ireturn, 1) := by decide +kernel
theorem dX12_broke_21 : decode cX12_broke 21 = .ok (.aload_n 0, 1) := by decide +kernel
theorem dX12_broke_22 : decode cX12_broke 22 = .ok (.invokevirtual 321, 3) := by decide +kernel
theorem dX12_broke_25 : decode cX12_broke 25 = .ok (.iconst 0, 1) := by decide +kernel
theorem dX12_broke_26 : decode cX12_broke 26 = .ok (.istore_n 3, 1) := by decide +kernel
theorem dX12_broke_27 : decode cX12_broke 27 = .ok (.iload_n 3, 1) := by decide +kernel
theorem dX12_broke_28 : decode cX12_broke 28 = .ok (.sipush 2304, 3) := by decide +kernel
theorem dX12_broke_31 : decode cX12_broke 31 = .ok (.if_icmp .ge 29, 3) := by decide +kernel
theorem dX12_broke_34 : decode cX12_broke 34 = .ok (.aload_n 0, 1) := by decide +kernel
theorem dX12_broke_35 : decode cX12_broke 35 = .ok (.getfield 68, 3) := by decide +kernel
theorem dX12_broke_38 : decode cX12_broke 38 = .ok (.iload_n 3, 1) := by decide +kernel
theorem dX12_broke_39 : decode cX12_broke 39 = .ok (.iload_n 3, 1) := by decide +kernel
theorem dX12_broke_40 : decode cX12_broke 40 = .ok (.bipush 9, 2) := by decide +kernel
theorem dX12_broke_42 : decode cX12_broke 42 = .ok (.irem, 1) := by decide +kernel
theorem dX12_broke_43 : decode cX12_broke 43 = .ok (.ifCond .ne 7, 3) := by decide +kernel
theorem dX12_broke_46 : decode cX12_broke 46 = .ok (.iconst 0, 1) := by decide +kernel
theorem dX12_broke_47 : decode cX12_broke 47 = .ok (.goto 6, 3) := by decide +kernel
theorem dX12_broke_50 : decode cX12_broke 50 = .ok (.ldc_w 371, 3) := by decide +kernel
theorem dX12_broke_53 : decode cX12_broke 53 = .ok (.iastore, 1) := by decide +kernel
theorem dX12_broke_54 : decode cX12_broke 54 = .ok (.iinc 3 1, 3) := by decide +kernel
theorem dX12_broke_57 : decode cX12_broke 57 = .ok (.goto (-30), 3) := by decide +kernel
theorem dX12_broke_60 : decode cX12_broke 60 = .ok (.aload_n 0, 1) := by decide +kernel
theorem dX12_broke_61 : decode cX12_broke 61 = .ok (.aload_n 0, 1) := by decide +kernel
theorem dX12_broke_62 : decode cX12_broke 62 = .ok (.iconst 0, 1) := by decide +kernel
theorem dX12_broke_63 : decode cX12_broke 63 = .ok (.iload_n 1, 1) := by decide +kernel
theorem dX12_broke_64 : decode cX12_broke 64 = .ok (.invokevirtual 372, 3) := by decide +kernel
theorem dX12_broke_67 : decode cX12_broke 67 = .ok (.invokevirtual 375, 3) := by decide +kernel
theorem dX12_broke_70 : decode cX12_broke 70 = .ok (.iconst 0, 1) := by decide +kernel
theorem dX12_broke_71 : decode cX12_broke 71 = .ok (.istore_n 3, 1) := by decide +kernel
theorem dX12_broke_72 : decode cX12_broke 72 = .ok (.iload_n 3, 1) := by decide +kernel
theorem dX12_broke_73 : decode cX12_broke 73 = .ok (.aload_n 0, 1) := by decide +kernel
theorem dX12_broke_74 : decode cX12_broke 74 = .ok (.getfield 7, 3) := by decide +kernel
theorem dX12_broke_77 : decode cX12_broke 77 = .ok (.iconst 3, 1) := by decide +kernel
theorem dX12_broke_78 : decode cX12_broke 78 = .ok (.iaload, 1) := by decide +kernel
theorem dX12_broke_79 : decode cX12_broke 79 = .ok (.if_icmp .ge 170, 3) := by decide +kernel
theorem dX12_broke_82 : decode cX12_broke 82 = .ok (.aload_n 0, 1) := by decide +kernel
theorem dX12_broke_83 : decode cX12_broke 83 = .ok (.invokevirtual 378, 3) := by decide +kernel
theorem dX12_broke_86 : decode cX12_broke 86 = .ok (.sipush 1024, 3) := by decide +kernel
theorem dX12_broke_89 : decode cX12_broke 89 = .ok (.iadd, 1) := by decide +kernel
theorem dX12_broke_90 : decode cX12_broke 90 = .ok (.iconst 1, 1) := by decide +kernel
theorem dX12_broke_91 : decode cX12_broke 91 = .ok (.iload_n 3, 1) := by decide +kernel
theorem dX12_broke_92 : decode cX12_broke 92 = .ok (.ishl, 1) := by decide +kernel
theorem dX12_broke_93 : decode cX12_broke 93 = .ok (.iadd, 1) := by decide +kernel
theorem dX12_broke_94 : decode cX12_broke 94 = .ok (.istore 4, 2) := by decide +kernel
theorem dX12_broke_96 : decode cX12_broke 96 = .ok (.iconst 0, 1) := by decide +kernel
theorem dX12_broke_97 : decode cX12_broke 97 = .ok (.istore 5, 2) := by decide +kernel
theorem dX12_broke_99 : decode cX12_broke 99 = .ok (.iload 5, 2) := by decide +kernel
theorem dX12_broke_101 : decode cX12_broke 101 = .ok (.sipush 2304, 3) := by decide +kernel
theorem dX12_broke_104 : decode cX12_broke 104 = .ok (.if_icmp .ge 32, 3) := by decide +kernel
theorem dX12_broke_107 : decode cX12_broke 107 = .ok (.aload_n 0, 1) := by decide +kernel
theorem dX12_broke_108 : decode cX12_broke 108 = .ok (.getfield 71, 3) := by decide +kernel
theorem dX12_broke_111 : decode cX12_broke 111 = .ok (.iload 5, 2) := by decide +kernel
theorem dX12_broke_113 : decode cX12_broke 113 = .ok (.iload 5, 2) := by decide +kernel
theorem dX12_broke_115 : decode cX12_broke 115 = .ok (.bipush 9, 2) := by decide +kernel
theorem dX12_broke_117 : decode cX12_broke 117 = .ok (.irem, 1) := by decide +kernel
theorem dX12_broke_118 : decode cX12_broke 118 = .ok (.ifCond .ne 8, 3) := by decide +kernel
theorem dX12_broke_121 : decode cX12_broke 121 = .ok (.iload 4, 2) := by decide +kernel
theorem dX12_broke_123 : decode cX12_broke 123 = .ok (.goto 6, 3) := by decide +kernel
theorem dX12_broke_126 : decode cX12_broke 126 = .ok (.ldc_w 371, 3) := by decide +kernel
theorem dX12_broke_129 : decode cX12_broke 129 = .ok (.iastore, 1) := by decide +kernel
theorem dX12_broke_130 : decode cX12_broke 130 = .ok (.iinc 5 1, 3) := by decide +kernel
theorem dX12_broke_133 : decode cX12_broke 133 = .ok (.goto (-34), 3) := by decide +kernel
theorem dX12_broke_136 : decode cX12_broke 136 = .ok (.iconst 0, 1) := by decide +kernel
theorem dX12_broke_137 : decode cX12_broke 137 = .ok (.istore 5, 2) := by decide +kernel
theorem dX12_broke_139 : decode cX12_broke 139 = .ok (.iload 5, 2) := by decide +kernel
theorem dX12_broke_141 : decode cX12_broke 141 = .ok (.aload_n 0, 1) := by decide +kernel
theorem dX12_broke_142 : decode cX12_broke 142 = .ok (.getfield 84, 3) := by decide +kernel
theorem dX12_broke_145 : decode cX12_broke 145 = .ok (.if_icmp .ge 55, 3) := by decide +kernel
theorem dX12_broke_148 : decode cX12_broke 148 = .ok (.iconst 0, 1) := by decide +kernel
theorem dX12_broke_149 : decode cX12_broke 149 = .ok (.istore 6, 2) := by decide +kernel
theorem dX12_broke_151 : decode cX12_broke 151 = .ok (.iload 6, 2) := by decide +kernel
theorem dX12_broke_153 : decode cX12_broke 153 = .ok (.aload_n 0, 1) := by decide +kernel
theorem dX12_broke_154 : decode cX12_broke 154 = .ok (.getfield 81, 3) := by decide +kernel
theorem dX12_broke_157 : decode cX12_broke 157 = .ok (.if_icmp .gt 37, 3) := by decide +kernel
theorem dX12_broke_160 : decode cX12_broke 160 = .ok (.aload_n 0, 1) := by decide +kernel
theorem dX12_broke_161 : decode cX12_broke 161 = .ok (.getfield 68, 3) := by decide +kernel
theorem dX12_broke_164 : decode cX12_broke 164 = .ok (.bipush 9, 2) := by decide +kernel
theorem dX12_broke_166 : decode cX12_broke 166 = .ok (.iload 5, 2) := by decide +kernel
theorem dX12_broke_168 : decode cX12_broke 168 = .ok (.imul, 1) := by decide +kernel
theorem dX12_broke_169 : decode cX12_broke 169 = .ok (.iload 6, 2) := by decide +kernel
theorem dX12_broke_171 : decode cX12_broke 171 = .ok (.iadd, 1) := by decide +kernel
theorem dX12_broke_172 : decode cX12_broke 172 = .ok (.iaload, 1) := by decide +kernel
theorem dX12_broke_173 : decode cX12_broke 173 = .ok (.ldc_w 371, 3) := by decide +kernel
theorem dX12_broke_176 : decode cX12_broke 176 = .ok (.if_icmp .ge 12, 3) := by decide +kernel
theorem dX12_broke_179 : decode cX12_broke 179 = .ok (.aload_n 0, 1) := by decide +kernel
theorem dX12_broke_180 : decode cX12_broke 180 = .ok (.iload_n 3, 1) := by decide +kernel
theorem dX12_broke_181 : decode cX12_broke 181 = .ok (.iload 5, 2) := by decide +kernel
theorem dX12_broke_183 : decode cX12_broke 183 = .ok (.iload 6, 2) := by decide +kernel
theorem dX12_broke_185 : decode cX12_broke 185 = .ok (.invokevirtual 381, 3) := by decide +kernel
theorem dX12_broke_188 : decode cX12_broke 188 = .ok (.iinc 6 1, 3) := by decide +kernel
theorem dX12_broke_191 : decode cX12_broke 191 = .ok (.goto (-40), 3) := by decide +kernel
theorem dX12_broke_194 : decode cX12_broke 194 = .ok (.iinc 5 1, 3) := by decide +kernel
theorem dX12_broke_197 : decode cX12_broke 197 = .ok (.goto (-58), 3) := by decide +kernel
theorem dX12_broke_200 : decode cX12_broke 200 = .ok (.iconst 0, 1) := by decide +kernel
theorem dX12_broke_201 : decode cX12_broke 201 = .ok (.istore 5, 2) := by decide +kernel
theorem dX12_broke_203 : decode cX12_broke 203 = .ok (.iload 5, 2) := by decide +kernel
theorem dX12_broke_205 : decode cX12_broke 205 = .ok (.sipush 2304, 3) := by decide +kernel
theorem dX12_broke_208 : decode cX12_broke 208 = .ok (.if_icmp .ge 23, 3) := by decide +kernel
theorem dX12_broke_211 : decode cX12_broke 211 = .ok (.aload_n 0, 1) := by decide +kernel
theorem dX12_broke_212 : decode cX12_broke 212 = .ok (.getfield 68, 3) := by decide +kernel
theorem dX12_broke_215 : decode cX12_broke 215 = .ok (.iload 5, 2) := by decide +kernel
theorem dX12_broke_217 : decode cX12_broke 217 = .ok (.aload_n 0, 1) := by decide +kernel
theorem dX12_broke_218 : decode cX12_broke 218 = .ok (.getfield 71, 3) := by decide +kernel
theorem dX12_broke_221 : decode cX12_broke 221 = .ok (.iload 5, 2) := by decide +kernel
theorem dX12_broke_223 : decode cX12_broke 223 = .ok (.iaload, 1) := by decide +kernel
theorem dX12_broke_224 : decode cX12_broke 224 = .ok (.iastore, 1) := by decide +kernel
theorem dX12_broke_225 : decode cX12_broke 225 = .ok (.iinc 5 1, 3) := by decide +kernel
theorem dX12_broke_228 : decode cX12_broke 228 = .ok (.goto (-25), 3) := by decide +kernel
theorem dX12_broke_231 : decode cX12_broke 231 = .ok (.aload_n 0, 1) := by decide +kernel
theorem dX12_broke_232 : decode cX12_broke 232 = .ok (.aload_n 0, 1) := by decide +kernel
theorem dX12_broke_233 : decode cX12_broke 233 = .ok (.iload_n 3, 1) := by decide +kernel
theorem dX12_broke_234 : decode cX12_broke 234 = .ok (.iconst 1, 1) := by decide +kernel
theorem dX12_broke_235 : decode cX12_broke 235 = .ok (.iadd, 1) := by decide +kernel
theorem dX12_broke_236 : decode cX12_broke 236 = .ok (.iload_n 1, 1) := by decide +kernel
theorem dX12_broke_237 : decode cX12_broke 237 = .ok (.invokevirtual 372, 3) := by decide +kernel
theorem dX12_broke_240 : decode cX12_broke 240 = .ok (.invokevirtual 375, 3) := by decide +kernel
theorem dX12_broke_243 : decode cX12_broke 243 = .ok (.iinc 3 1, 3) := by decide +kernel
theorem dX12_broke_246 : decode cX12_broke 246 = .ok (.goto (-174), 3) := by decide +kernel
theorem dX12_broke_249 : decode cX12_broke 249 = .ok (.iload_n 2, 1) := by decide +kernel
theorem dX12_broke_250 : decode cX12_broke 250 = .ok (.ifCond .ne 14, 3) := by decide +kernel
theorem dX12_broke_253 : decode cX12_broke 253 = .ok (.aload_n 0, 1) := by decide +kernel
theorem dX12_broke_254 : decode cX12_broke 254 = .ok (.invokevirtual 378, 3) := by decide +kernel
theorem dX12_broke_257 : decode cX12_broke 257 = .ok (.sipush 1024, 3) := by decide +kernel
theorem dX12_broke_260 : decode cX12_broke 260 = .ok (.idiv, 1) := by decide +kernel
theorem dX12_broke_261 : decode cX12_broke 261 = .ok (.goto 11, 3) := by decide +kernel
theorem dX12_broke_264 : decode cX12_broke 264 = .ok (.aload_n 0, 1) := by decide +kernel
theorem dX12_broke_265 : decode cX12_broke 265 = .ok (.invokevirtual 378, 3) := by decide +kernel
theorem dX12_broke_268 : decode cX12_broke 268 = .ok (.sipush 1024, 3) := by decide +kernel
theorem dX12_broke_271 : decode cX12_broke 271 = .ok (.irem, 1) := by decide +kernel
theorem dX12_broke_272 : decode cX12_broke 272 = .ok (.ireturn, 1) := by decide +kernel
theorem dX12_draw_0 : decode cX12_draw 0 = .ok (.aload_n 0, 1) := by decide +kernel
theorem dX12_draw_1 : decode cX12_draw 1 = .ok (.getfield 384, 3) := by decide +kernel
theorem dX12_draw_4 : decode cX12_draw 4 = .ok (.iload_n 1, 1) := by decide +kernel
theorem dX12_draw_5 : decode cX12_draw 5 = .ok (.irem, 1) := by decide +kernel
theorem dX12_draw_6 : decode cX12_draw 6 = .ok (.istore_n 2, 1) := by decide +kernel
theorem dX12_draw_7 : decode cX12_draw 7 = .ok (.aload_n 0, 1) := by decide +kernel
theorem dX12_draw_8 : decode cX12_draw 8 = .ok (.aload_n 0, 1) := by decide +kernel
theorem dX12_draw_9 : decode cX12_draw 9 = .ok (.getfield 384, 3) := by decide +kernel
theorem dX12_draw_12 : decode cX12_draw 12 = .ok (.i2l, 1) := by decide +kernel
theorem dX12_draw_13 : decode cX12_draw 13 = .ok (.ldc2_w 387, 3) := by decide +kernel
theorem dX12_draw_16 : decode cX12_draw 16 = .ok (.lmul, 1) := by decide +kernel
theorem dX12_draw_17 : decode cX12_draw 17 = .ok (.ldc2_w 389, 3) := by decide +kernel
theorem dX12_draw_20 : decode cX12_draw 20 = .ok (.ladd, 1) := by decide +kernel
theorem dX12_draw_21 : decode cX12_draw 21 = .ok (.ldc2_w 391, 3) := by decide +kernel
theorem dX12_draw_24 : decode cX12_draw 24 = .ok (.lrem, 1) := by decide +kernel
theorem dX12_draw_25 : decode cX12_draw 25 = .ok (.l2i, 1) := by decide +kernel
theorem dX12_draw_26 : decode cX12_draw 26 = .ok (.putfield 384, 3) := by decide +kernel
theorem dX12_draw_29 : decode cX12_draw 29 = .ok (.iload_n 2, 1) := by decide +kernel
theorem dX12_draw_30 : decode cX12_draw 30 = .ok (.ireturn, 1) := by decide +kernel
theorem dX12_manyFrom_0 : decode cX12_manyFrom 0 = .ok (.iconst 0, 1) := by decide +kernel
theorem dX12_manyFrom_1 : decode cX12_manyFrom 1 = .ok (.istore 4, 2) := by decide +kernel
theorem dX12_manyFrom_3 : decode cX12_manyFrom 3 = .ok (.iconst 0, 1) := by decide +kernel
theorem dX12_manyFrom_4 : decode cX12_manyFrom 4 = .ok (.istore 5, 2) := by decide +kernel
theorem dX12_manyFrom_6 : decode cX12_manyFrom 6 = .ok (.iload 5, 2) := by decide +kernel
theorem dX12_manyFrom_8 : decode cX12_manyFrom 8 = .ok (.aload_n 0, 1) := by decide +kernel
theorem dX12_manyFrom_9 : decode cX12_manyFrom 9 = .ok (.getfield 81, 3) := by decide +kernel
theorem dX12_manyFrom_12 : decode cX12_manyFrom 12 = .ok (.if_icmp .ge 53, 3) := by decide +kernel
theorem dX12_manyFrom_15 : decode cX12_manyFrom 15 = .ok (.iconst 0, 1) := by decide +kernel
theorem dX12_manyFrom_16 : decode cX12_manyFrom 16 = .ok (.istore 6, 2) := by decide +kernel
theorem dX12_manyFrom_18 : decode cX12_manyFrom 18 = .ok (.iload 6, 2) := by decide +kernel
theorem dX12_manyFrom_20 : decode cX12_manyFrom 20 = .ok (.aload_n 0, 1) := by decide +kernel
theorem dX12_manyFrom_21 : decode cX12_manyFrom 21 = .ok (.getfield 74, 3) := by decide +kernel
theorem dX12_manyFrom_24 : decode cX12_manyFrom 24 = .ok (.if_icmp .ge 35, 3) := by decide +kernel
theorem dX12_manyFrom_27 : decode cX12_manyFrom 27 = .ok (.iload 4, 2) := by decide +kernel
theorem dX12_manyFrom_29 : decode cX12_manyFrom 29 = .ok (.aload_n 0, 1) := by decide +kernel
theorem dX12_manyFrom_30 : decode cX12_manyFrom 30 = .ok (.iload_n 1, 1) := by decide +kernel
theorem dX12_manyFrom_31 : decode cX12_manyFrom 31 = .ok (.iload_n 2, 1) := by decide +kernel
theorem dX12_manyFrom_32 : decode cX12_manyFrom 32 = .ok (.iload_n 3, 1) := by decide +kernel
theorem dX12_manyFrom_33 : decode cX12_manyFrom 33 = .ok (.iconst 1, 1) := by decide +kernel
theorem dX12_manyFrom_34 : decode cX12_manyFrom 34 = .ok (.isub, 1) := by decide +kernel
theorem dX12_manyFrom_35 : decode cX12_manyFrom 35 = .ok (.iload 5, 2) := by decide +kernel
theorem dX12_manyFrom_37 : decode cX12_manyFrom 37 = .ok (.iload 6, 2) := by decide +kernel
theorem dX12_manyFrom_39 : decode cX12_manyFrom 39 = .ok (.invokevirtual 329, 3) := by decide +kernel
theorem dX12_manyFrom_42 : decode cX12_manyFrom 42 = .ok (.ifCond .eq 7, 3) := by decide +kernel
theorem dX12_manyFrom_45 : decode cX12_manyFrom 45 = .ok (.iconst 1, 1) := by decide +kernel
theorem dX12_manyFrom_46 : decode cX12_manyFrom 46 = .ok (.goto 4, 3) := by decide +kernel
theorem dX12_manyFrom_49 : decode cX12_manyFrom 49 = .ok (.iconst 0, 1) := by decide +kernel
theorem dX12_manyFrom_50 : decode cX12_manyFrom 50 = .ok (.iadd, 1) := by decide +kernel
theorem dX12_manyFrom_51 : decode cX12_manyFrom 51 = .ok (.istore 4, 2) := by decide +kernel
theorem dX12_manyFrom_53 : decode cX12_manyFrom 53 = .ok (.iinc 6 1, 3) := by decide +kernel
theorem dX12_manyFrom_56 : decode cX12_manyFrom 56 = .ok (.goto (-38), 3) := by decide +kernel
theorem dX12_manyFrom_59 : decode cX12_manyFrom 59 = .ok (.iinc 5 1, 3) := by decide +kernel
theorem dX12_manyFrom_62 : decode cX12_manyFrom 62 = .ok (.goto (-56), 3) := by decide +kernel
theorem dX12_manyFrom_65 : decode cX12_manyFrom 65 = .ok (.iload 4, 2) := by decide +kernel
theorem dX12_manyFrom_67 : decode cX12_manyFrom 67 = .ok (.ireturn, 1) := by decide +kernel
theorem dX12_changeOf_0 : decode cX12_changeOf 0 = .ok (.iconst 0, 1) := by decide +kernel
theorem dX12_changeOf_1 : decode cX12_changeOf 1 = .ok (.istore 5, 2) := by decide +kernel
theorem dX12_changeOf_3 : decode cX12_changeOf 3 = .ok (.iconst 0, 1) := by decide +kernel
theorem dX12_changeOf_4 : decode cX12_changeOf 4 = .ok (.istore 6, 2) := by decide +kernel
theorem dX12_changeOf_6 : decode cX12_changeOf 6 = .ok (.iload 6, 2) := by decide +kernel
theorem dX12_changeOf_8 : decode cX12_changeOf 8 = .ok (.aload_n 0, 1) := by decide +kernel
theorem dX12_changeOf_9 : decode cX12_changeOf 9 = .ok (.getfield 81, 3) := by decide +kernel
theorem dX12_changeOf_12 : decode cX12_changeOf 12 = .ok (.if_icmp .ge 65, 3) := by decide +kernel
theorem dX12_changeOf_15 : decode cX12_changeOf 15 = .ok (.iconst 0, 1) := by decide +kernel
theorem dX12_changeOf_16 : decode cX12_changeOf 16 = .ok (.istore 7, 2) := by decide +kernel
theorem dX12_changeOf_18 : decode cX12_changeOf 18 = .ok (.iload 7, 2) := by decide +kernel
theorem dX12_changeOf_20 : decode cX12_changeOf 20 = .ok (.aload_n 0, 1) := by decide +kernel
theorem dX12_changeOf_21 : decode cX12_changeOf 21 = .ok (.getfield 74, 3) := by decide +kernel
theorem dX12_changeOf_24 : decode cX12_changeOf 24 = .ok (.if_icmp .ge 47, 3) := by decide +kernel
theorem dX12_changeOf_27 : decode cX12_changeOf 27 = .ok (.aload_n 0, 1) := by decide +kernel
theorem dX12_changeOf_28 : decode cX12_changeOf 28 = .ok (.iload_n 1, 1) := by decide +kernel
theorem dX12_changeOf_29 : decode cX12_changeOf 29 = .ok (.iload_n 2, 1) := by decide +kernel
theorem dX12_changeOf_30 : decode cX12_changeOf 30 = .ok (.iload_n 3, 1) := by decide +kernel
theorem dX12_changeOf_31 : decode cX12_changeOf 31 = .ok (.iconst 1, 1) := by decide +kernel
theorem dX12_changeOf_32 : decode cX12_changeOf 32 = .ok (.isub, 1) := by decide +kernel
theorem dX12_changeOf_33 : decode cX12_changeOf 33 = .ok (.iload 6, 2) := by decide +kernel
theorem dX12_changeOf_35 : decode cX12_changeOf 35 = .ok (.iload 7, 2) := by decide +kernel
theorem dX12_changeOf_37 : decode cX12_changeOf 37 = .ok (.invokevirtual 329, 3) := by decide +kernel
theorem dX12_changeOf_40 : decode cX12_changeOf 40 = .ok (.ifCond .ne 6, 3) := by decide +kernel
theorem dX12_changeOf_43 : decode cX12_changeOf 43 = .ok (.goto 22, 3) := by decide +kernel
theorem dX12_changeOf_46 : decode cX12_changeOf 46 = .ok (.iload 5, 2) := by decide +kernel
theorem dX12_changeOf_48 : decode cX12_changeOf 48 = .ok (.iload 4, 2) := by decide +kernel
theorem dX12_changeOf_50 : decode cX12_changeOf 50 = .ok (.if_icmp .ne 12, 3) := by decide +kernel
theorem dX12_changeOf_53 : decode cX12_changeOf 53 = .ok (.bipush 10, 2) := by decide +kernel
theorem dX12_changeOf_55 : decode cX12_changeOf 55 = .ok (.iload 6, 2) := by decide +kernel
theorem dX12_changeOf_57 : decode cX12_changeOf 57 = .ok (.imul, 1) := by decide +kernel
theorem dX12_changeOf_58 : decode cX12_changeOf 58 = .ok (.iload 7, 2) := by decide +kernel
theorem dX12_changeOf_60 : decode cX12_changeOf 60 = .ok (.iadd, 1) := by decide +kernel
theorem dX12_changeOf_61 : decode cX12_changeOf 61 = .ok (.ireturn, 1) := by decide +kernel
theorem dX12_changeOf_62 : decode cX12_changeOf 62 = .ok (.iinc 5 1, 3) := by decide +kernel
theorem dX12_changeOf_65 : decode cX12_changeOf 65 = .ok (.iinc 7 1, 3) := by decide +kernel
theorem dX12_changeOf_68 : decode cX12_changeOf 68 = .ok (.goto (-50), 3) := by decide +kernel
theorem dX12_changeOf_71 : decode cX12_changeOf 71 = .ok (.iinc 6 1, 3) := by decide +kernel
theorem dX12_changeOf_74 : decode cX12_changeOf 74 = .ok (.goto (-68), 3) := by decide +kernel
theorem dX12_changeOf_77 : decode cX12_changeOf 77 = .ok (.iconst (-1), 1) := by decide +kernel
theorem dX12_changeOf_78 : decode cX12_changeOf 78 = .ok (.ireturn, 1) := by decide +kernel
theorem dX12_message_0 : decode cX12_message 0 = .ok (.iload_n 1, 1) := by decide +kernel
theorem dX12_message_1 : decode cX12_message 1 = .ok (.iconst 0, 1) := by decide +kernel
theorem dX12_message_2 : decode cX12_message 2 = .ok (.sipush 9999, 3) := by decide +kernel
theorem dX12_message_5 : decode cX12_message 5 = .ok (.invokestatic 91, 3) := by decide +kernel
theorem dX12_message_8 : decode cX12_message 8 = .ok (.ifCond .eq 21, 3) := by decide +kernel
theorem dX12_message_11 : decode cX12_message 11 = .ok (.aload_n 0, 1) := by decide +kernel
theorem dX12_message_12 : decode cX12_message 12 = .ok (.iload_n 2, 1) := by decide +kernel
theorem dX12_message_13 : decode cX12_message 13 = .ok (.invokevirtual 102, 3) := by decide +kernel
theorem dX12_message_16 : decode cX12_message 16 = .ok (.ifCond .eq 13, 3) := by decide +kernel
theorem dX12_message_19 : decode cX12_message 19 = .ok (.iload_n 3, 1) := by decide +kernel
theorem dX12_message_20 : decode cX12_message 20 = .ok (.iconst 1, 1) := by decide +kernel
theorem dX12_message_21 : decode cX12_message 21 = .ok (.bipush 8, 2) := by decide +kernel
theorem dX12_message_23 : decode cX12_message 23 = .ok (.invokestatic 91, 3) := by decide +kernel
theorem dX12_message_26 : decode cX12_message 26 = .ok (.ifCond .ne 5, 3) := by decide +kernel
theorem dX12_message_29 : decode cX12_message 29 = .ok (.iconst (-1), 1) := by decide +kernel
theorem dX12_message_30 : decode cX12_message 30 = .ok (.ireturn, 1) := by decide +kernel
theorem dX12_message_31 : decode cX12_message 31 = .ok (.aload_n 0, 1) := by decide +kernel
theorem dX12_message_32 : decode cX12_message 32 = .ok (.invokevirtual 321, 3) := by decide +kernel
theorem dX12_message_35 : decode cX12_message 35 = .ok (.aload_n 0, 1) := by decide +kernel
theorem dX12_message_36 : decode cX12_message 36 = .ok (.iload_n 1, 1) := by decide +kernel
theorem dX12_message_37 : decode cX12_message 37 = .ok (.bipush 19, 2) := by decide +kernel
theorem dX12_message_39 : decode cX12_message 39 = .ok (.imul, 1) := by decide +kernel
theorem dX12_message_40 : decode cX12_message 40 = .ok (.iconst 1, 1) := by decide +kernel
theorem dX12_message_41 : decode cX12_message 41 = .ok (.iadd, 1) := by decide +kernel
theorem dX12_message_42 : decode cX12_message 42 = .ok (.putfield 384, 3) := by decide +kernel
theorem dX12_message_45 : decode cX12_message 45 = .ok (.iload_n 2, 1) := by decide +kernel
theorem dX12_message_46 : decode cX12_message 46 = .ok (.istore 4, 2) := by decide +kernel
theorem dX12_message_48 : decode cX12_message 48 = .ok (.iconst 0, 1) := by decide +kernel
theorem dX12_message_49 : decode cX12_message 49 = .ok (.istore 5, 2) := by decide +kernel
theorem dX12_message_51 : decode cX12_message 51 = .ok (.iconst 0, 1) := by decide +kernel
theorem dX12_message_52 : decode cX12_message 52 = .ok (.istore 6, 2) := by decide +kernel
theorem dX12_message_54 : decode cX12_message 54 = .ok (.iload 6, 2) := by decide +kernel
theorem dX12_message_56 : decode cX12_message 56 = .ok (.iload_n 3, 1) := by decide +kernel
theorem dX12_message_57 : decode cX12_message 57 = .ok (.if_icmp .ge 74, 3) := by decide +kernel
theorem dX12_message_60 : decode cX12_message 60 = .ok (.aload_n 0, 1) := by decide +kernel
theorem dX12_message_61 : decode cX12_message 61 = .ok (.iload 6, 2) := by decide +kernel
theorem dX12_message_63 : decode cX12_message 63 = .ok (.iload 4, 2) := by decide +kernel
theorem dX12_message_65 : decode cX12_message 65 = .ok (.iload 5, 2) := by decide +kernel
theorem dX12_message_67 : decode cX12_message 67 = .ok (.invokevirtual 393, 3) := by decide +kernel
theorem dX12_message_70 : decode cX12_message 70 = .ok (.istore 7, 2) := by decide +kernel
theorem dX12_message_72 : decode cX12_message 72 = .ok (.iload 7, 2) := by decide +kernel
theorem dX12_message_74 : decode cX12_message 74 = .ok (.ifCond .ne 6, 3) := by decide +kernel
theorem dX12_message_77 : decode cX12_message 77 = .ok (.iload 4, 2) := by decide +kernel
theorem dX12_message_79 : decode cX12_message 79 = .ok (.ireturn, 1) := by decide +kernel
theorem dX12_message_80 : decode cX12_message 80 = .ok (.aload_n 0, 1) := by decide +kernel
theorem dX12_message_81 : decode cX12_message 81 = .ok (.iload 6, 2) := by decide +kernel
theorem dX12_message_83 : decode cX12_message 83 = .ok (.iload 4, 2) := by decide +kernel
theorem dX12_message_85 : decode cX12_message 85 = .ok (.iload 5, 2) := by decide +kernel
theorem dX12_message_87 : decode cX12_message 87 = .ok (.aload_n 0, 1) := by decide +kernel
theorem dX12_message_88 : decode cX12_message 88 = .ok (.iload 7, 2) := by decide +kernel
theorem dX12_message_90 : decode cX12_message 90 = .ok (.invokevirtual 396, 3) := by decide +kernel
theorem dX12_message_93 : decode cX12_message 93 = .ok (.invokevirtual 399, 3) := by decide +kernel
theorem dX12_message_96 : decode cX12_message 96 = .ok (.istore 8, 2) := by decide +kernel
theorem dX12_message_98 : decode cX12_message 98 = .ok (.aload_n 0, 1) := by decide +kernel
theorem dX12_message_99 : decode cX12_message 99 = .ok (.iload 4, 2) := by decide +kernel
theorem dX12_message_101 : decode cX12_message 101 = .ok (.iload 8, 2) := by decide +kernel
theorem dX12_message_103 : decode cX12_message 103 = .ok (.bipush 10, 2) := by decide +kernel
theorem dX12_message_105 : decode cX12_message 105 = .ok (.idiv, 1) := by decide +kernel
theorem dX12_message_106 : decode cX12_message 106 = .ok (.iload 8, 2) := by decide +kernel
theorem dX12_message_108 : decode cX12_message 108 = .ok (.bipush 10, 2) := by decide +kernel
theorem dX12_message_110 : decode cX12_message 110 = .ok (.irem, 1) := by decide +kernel
theorem dX12_message_111 : decode cX12_message 111 = .ok (.invokevirtual 302, 3) := by decide +kernel
theorem dX12_message_114 : decode cX12_message 114 = .ok (.istore 4, 2) := by decide +kernel
theorem dX12_message_116 : decode cX12_message 116 = .ok (.iload 8, 2) := by decide +kernel
theorem dX12_message_118 : decode cX12_message 118 = .ok (.bipush 10, 2) := by decide +kernel
theorem dX12_message_120 : decode cX12_message 120 = .ok (.idiv, 1) := by decide +kernel
theorem dX12_message_121 : decode cX12_message 121 = .ok (.iconst 1, 1) := by decide +kernel
theorem dX12_message_122 : decode cX12_message 122 = .ok (.iadd, 1) := by decide +kernel
theorem dX12_message_123 : decode cX12_message 123 = .ok (.istore 5, 2) := by decide +kernel
theorem dX12_message_125 : decode cX12_message 125 = .ok (.iinc 6 1, 3) := by decide +kernel
theorem dX12_message_128 : decode cX12_message 128 = .ok (.goto (-74), 3) := by decide +kernel
theorem dX12_message_131 : decode cX12_message 131 = .ok (.iload 4, 2) := by decide +kernel
theorem dX12_message_133 : decode cX12_message 133 = .ok (.ireturn, 1) := by decide +kernel
theorem dX12_image_0 : decode cX12_image 0 = .ok (.aload_n 0, 1) := by decide +kernel
theorem dX12_image_1 : decode cX12_image 1 = .ok (.getfield 7, 3) := by decide +kernel
theorem dX12_image_4 : decode cX12_image 4 = .ok (.aload_n 0, 1) := by decide +kernel
theorem dX12_image_5 : decode cX12_image 5 = .ok (.getfield 13, 3) := by decide +kernel
theorem dX12_image_8 : decode cX12_image 8 = .ok (.invokestatic 87, 3) := by decide +kernel
theorem dX12_image_11 : decode cX12_image 11 = .ok (.aload_n 0, 1) := by decide +kernel
theorem dX12_image_12 : decode cX12_image 12 = .ok (.getfield 7, 3) := by decide +kernel
theorem dX12_image_15 : decode cX12_image 15 = .ok (.iconst 2, 1) := by decide +kernel
theorem dX12_image_16 : decode cX12_image 16 = .ok (.iaload, 1) := by decide +kernel
theorem dX12_image_17 : decode cX12_image 17 = .ok (.ireturn, 1) := by decide +kernel
theorem dX12_back_0 : decode cX12_back 0 = .ok (.aload_n 0, 1) := by decide +kernel
theorem dX12_back_1 : decode cX12_back 1 = .ok (.getfield 13, 3) := by decide +kernel
theorem dX12_back_4 : decode cX12_back 4 = .ok (.aload_n 0, 1) := by decide +kernel
theorem dX12_back_5 : decode cX12_back 5 = .ok (.getfield 7, 3) := by decide +kernel
theorem dX12_back_8 : decode cX12_back 8 = .ok (.invokestatic 87, 3) := by decide +kernel
theorem dX12_back_11 : decode cX12_back 11 = .ok (.aload_n 0, 1) := by decide +kernel
theorem dX12_back_12 : decode cX12_back 12 = .ok (.getfield 7, 3) := by decide +kernel
theorem dX12_back_15 : decode cX12_back 15 = .ok (.iconst 2, 1) := by decide +kernel
theorem dX12_back_16 : decode cX12_back 16 = .ok (.iaload, 1) := by decide +kernel
theorem dX12_back_17 : decode cX12_back 17 = .ok (.ireturn, 1) := by decide +kernel
theorem dX12_about_0 : decode cX12_about 0 = .ok (.iload_n 1, 1) := by decide +kernel
theorem dX12_about_1 : decode cX12_about 1 = .ok (.bipush 10, 2) := by decide +kernel
theorem dX12_about_3 : decode cX12_about 3 = .ok (.bipush 9, 2) := by decide +kernel
theorem dX12_about_5 : decode cX12_about 5 = .ok (.aload_n 0, 1) := by decide +kernel
theorem dX12_about_6 : decode cX12_about 6 = .ok (.getfield 7, 3) := by decide +kernel
theorem dX12_about_9 : decode cX12_about 9 = .ok (.iconst 2, 1) := by decide +kernel
theorem dX12_about_10 : decode cX12_about 10 = .ok (.iaload, 1) := by decide +kernel
theorem dX12_about_11 : decode cX12_about 11 = .ok (.iadd, 1) := by decide +kernel
theorem dX12_about_12 : decode cX12_about 12 = .ok (.invokestatic 91, 3) := by decide +kernel
theorem dX12_about_15 : decode cX12_about 15 = .ok (.ifCond .eq 20, 3) := by decide +kernel
theorem dX12_about_18 : decode cX12_about 18 = .ok (.aload_n 0, 1) := by decide +kernel
theorem dX12_about_19 : decode cX12_about 19 = .ok (.getfield 7, 3) := by decide +kernel
theorem dX12_about_22 : decode cX12_about 22 = .ok (.bipush 10, 2) := by decide +kernel
theorem dX12_about_24 : decode cX12_about 24 = .ok (.iconst 2, 1) := by decide +kernel
theorem dX12_about_25 : decode cX12_about 25 = .ok (.iload_n 1, 1) := by decide +kernel
theorem dX12_about_26 : decode cX12_about 26 = .ok (.bipush 10, 2) := by decide +kernel
theorem dX12_about_28 : decode cX12_about 28 = .ok (.isub, 1) := by decide +kernel
theorem dX12_about_29 : decode cX12_about 29 = .ok (.imul, 1) := by decide +kernel
theorem dX12_about_30 : decode cX12_about 30 = .ok (.iadd, 1) := by decide +kernel
theorem dX12_about_31 : decode cX12_about 31 = .ok (.iconst 1, 1) := by decide +kernel
theorem dX12_about_32 : decode cX12_about 32 = .ok (.iadd, 1) := by decide +kernel
theorem dX12_about_33 : decode cX12_about 33 = .ok (.iaload, 1) := by decide +kernel
theorem dX12_about_34 : decode cX12_about 34 = .ok (.ireturn, 1) := by decide +kernel
theorem dX12_about_35 : decode cX12_about 35 = .ok (.iload_n 1, 1) := by decide +kernel
theorem dX12_about_36 : decode cX12_about 36 = .ok (.tableswitch 116 0 9 #[56, 61, 66, 71, 78, 85, 92, 99, 106, 111], 56) := by decide +kernel
theorem dX12_about_92 : decode cX12_about 92 = .ok (.aload_n 0, 1) := by decide +kernel
theorem dX12_about_93 : decode cX12_about 93 = .ok (.getfield 74, 3) := by decide +kernel
theorem dX12_about_96 : decode cX12_about 96 = .ok (.ireturn, 1) := by decide +kernel
theorem dX12_about_97 : decode cX12_about 97 = .ok (.aload_n 0, 1) := by decide +kernel
theorem dX12_about_98 : decode cX12_about 98 = .ok (.getfield 81, 3) := by decide +kernel
theorem dX12_about_101 : decode cX12_about 101 = .ok (.ireturn, 1) := by decide +kernel
theorem dX12_about_102 : decode cX12_about 102 = .ok (.aload_n 0, 1) := by decide +kernel
theorem dX12_about_103 : decode cX12_about 103 = .ok (.getfield 84, 3) := by decide +kernel
theorem dX12_about_106 : decode cX12_about 106 = .ok (.ireturn, 1) := by decide +kernel
theorem dX12_about_107 : decode cX12_about 107 = .ok (.aload_n 0, 1) := by decide +kernel
theorem dX12_about_108 : decode cX12_about 108 = .ok (.getfield 7, 3) := by decide +kernel
theorem dX12_about_111 : decode cX12_about 111 = .ok (.iconst 0, 1) := by decide +kernel
theorem dX12_about_112 : decode cX12_about 112 = .ok (.iaload, 1) := by decide +kernel
theorem dX12_about_113 : decode cX12_about 113 = .ok (.ireturn, 1) := by decide +kernel
theorem dX12_about_114 : decode cX12_about 114 = .ok (.aload_n 0, 1) := by decide +kernel
theorem dX12_about_115 : decode cX12_about 115 = .ok (.getfield 7, 3) := by decide +kernel
theorem dX12_about_118 : decode cX12_about 118 = .ok (.iconst 1, 1) := by decide +kernel
theorem dX12_about_119 : decode cX12_about 119 = .ok (.iaload, 1) := by decide +kernel
theorem dX12_about_120 : decode cX12_about 120 = .ok (.ireturn, 1) := by decide +kernel
theorem dX12_about_121 : decode cX12_about 121 = .ok (.aload_n 0, 1) := by decide +kernel
theorem dX12_about_122 : decode cX12_about 122 = .ok (.getfield 7, 3) := by decide +kernel
theorem dX12_about_125 : decode cX12_about 125 = .ok (.iconst 2, 1) := by decide +kernel
theorem dX12_about_126 : decode cX12_about 126 = .ok (.iaload, 1) := by decide +kernel
theorem dX12_about_127 : decode cX12_about 127 = .ok (.ireturn, 1) := by decide +kernel
theorem dX12_about_128 : decode cX12_about 128 = .ok (.aload_n 0, 1) := by decide +kernel
theorem dX12_about_129 : decode cX12_about 129 = .ok (.getfield 7, 3) := by decide +kernel
theorem dX12_about_132 : decode cX12_about 132 = .ok (.iconst 3, 1) := by decide +kernel
theorem dX12_about_133 : decode cX12_about 133 = .ok (.iaload, 1) := by decide +kernel
theorem dX12_about_134 : decode cX12_about 134 = .ok (.ireturn, 1) := by decide +kernel
theorem dX12_about_135 : decode cX12_about 135 = .ok (.aload_n 0, 1) := by decide +kernel
theorem dX12_about_136 : decode cX12_about 136 = .ok (.getfield 7, 3) := by decide +kernel
theorem dX12_about_139 : decode cX12_about 139 = .ok (.iconst 4, 1) := by decide +kernel
theorem dX12_about_140 : decode cX12_about 140 = .ok (.iaload, 1) := by decide +kernel
theorem dX12_about_141 : decode cX12_about 141 = .ok (.ireturn, 1) := by decide +kernel
theorem dX12_about_142 : decode cX12_about 142 = .ok (.aload_n 0, 1) := by decide +kernel
theorem dX12_about_143 : decode cX12_about 143 = .ok (.getfield 109, 3) := by decide +kernel
theorem dX12_about_146 : decode cX12_about 146 = .ok (.ireturn, 1) := by decide +kernel
theorem dX12_about_147 : decode cX12_about 147 = .ok (.aload_n 0, 1) := by decide +kernel
theorem dX12_about_148 : decode cX12_about 148 = .ok (.invokevirtual 349, 3) := by decide +kernel
theorem dX12_about_151 : decode cX12_about 151 = .ok (.ireturn, 1) := by decide +kernel
theorem dX12_about_152 : decode cX12_about 152 = .ok (.bipush (-2), 2) := by decide +kernel
theorem dX12_about_154 : decode cX12_about 154 = .ok (.ireturn, 1) := by decide +kernel
